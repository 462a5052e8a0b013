section XDA
theorem wb_tb (n : Nat) : (lN n).toBitVec = BitVec.ofNat 64 n := rfl
theorem wb_inj {a b : Int64} (h : a.toBitVec = b.toBitVec) : a = b := Int64.toBitVec_inj.mp h
theorem wb_c : ∀ k, k < 64 → ((nI k).toInt64 &&& 63) = lN k := by decide +kernel
theorem wb_sm : ∀ k, k < 64 → (BitVec.ofNat 64 k).smod 64 = BitVec.ofNat 64 k := by decide +kernel
theorem wb_shl (n : Nat) {k : Nat} (hk : k < 64) : lN n <<< ((nI k).toInt64 &&& 63) = lN (n * 2 ^ k) := by
  rw [wb_c k hk]
  apply wb_inj
  rw [Int64.toBitVec_shiftLeft, wb_tb, wb_tb, wb_tb, wb_sm k hk]
  apply BitVec.eq_of_toNat_eq
  rw [BitVec.shiftLeft_eq', BitVec.toNat_shiftLeft, BitVec.toNat_ofNat, BitVec.toNat_ofNat, BitVec.toNat_ofNat, Nat.mod_eq_of_lt (show k < 2 ^ 64 by omega), Nat.shiftLeft_eq, Nat.mul_mod, Nat.mod_mod, ← Nat.mul_mod]
def uN (x : Int64) : Nat := x.toUInt64.toNat
theorem uN_lt (x : Int64) : uN x < 18446744073709551616 := x.toUInt64.toNat_lt
theorem uN_inj {x y : Int64} (h : uN x = uN y) : x = y := congrArg UInt64.toInt64 (UInt64.toNat_inj.mp h)
theorem uN_add (x y : Int64) : uN (x + y) = (uN x + uN y) % 18446744073709551616 := by
  show (x.toUInt64 + y.toUInt64).toNat = _
  exact UInt64.toNat_add _ _
theorem uN_shl (x : Int64) : uN (x <<< ((1 : Int32).toInt64 &&& 63)) = (2 * uN x) % 18446744073709551616 := by
  have h : (((1 : Int32).toInt64 &&& 63).toBitVec.smod 64).toNat = 1 := by decide
  show (x.toBitVec <<< (((1 : Int32).toInt64 &&& 63).toBitVec.smod 64).toNat).toNat = _
  rw [h, BitVec.toNat_shiftLeft, Nat.shiftLeft_eq, Nat.mul_comm]
  rfl
theorem uN_int (x : Int64) : x.toInt = if 2 * uN x < 18446744073709551616 then (uN x : Int) else (uN x : Int) - 18446744073709551616 := BitVec.toInt_eq_toNat_cond _
/-! the carry-save identity -/
theorem xd_k1 : ∀ x, x < 2 → ∀ y, y < 2 → ∀ z, z < 2 → (x ^^^ y ^^^ z) + 2 * ((x &&& y) ||| (x &&& z) ||| (y &&& z)) = x + y + z := by decide +kernel
theorem xd_x2 (p q : Nat) : (p ^^^ q) % 2 = p % 2 ^^^ q % 2 := Nat.xor_mod_two_pow (n := 1)
theorem xd_a2 (p q : Nat) : (p &&& q) % 2 = p % 2 &&& q % 2 := Nat.and_mod_two_pow (n := 1)
theorem xd_o2 (p q : Nat) : (p ||| q) % 2 = p % 2 ||| q % 2 := Nat.or_mod_two_pow (n := 1)
theorem xd_csa : ∀ (n a b c : Nat), a < 2 ^ n → b < 2 ^ n → c < 2 ^ n → (a ^^^ b ^^^ c) + 2 * ((a &&& b) ||| (a &&& c) ||| (b &&& c)) = a + b + c := by
  intro n
  induction n with
  | zero =>
    intro a b c ha hb hc
    have ha : a = 0 := by omega
    have hb : b = 0 := by omega
    have hc : c = 0 := by omega
    subst ha hb hc
    rfl
  | succ n ih =>
    intro a b c ha hb hc
    rw [Nat.pow_succ] at ha hb hc
    have i := ih (a / 2) (b / 2) (c / 2) (by omega) (by omega) (by omega)
    have k := xd_k1 (a % 2) (by omega) (b % 2) (by omega) (c % 2) (by omega)
    have e1 : (a ^^^ b ^^^ c) / 2 = a / 2 ^^^ b / 2 ^^^ c / 2 := by rw [Nat.xor_div_two, Nat.xor_div_two]
    have e2 : ((a &&& b) ||| (a &&& c) ||| (b &&& c)) / 2 = (a / 2 &&& b / 2) ||| (a / 2 &&& c / 2) ||| (b / 2 &&& c / 2) := by
      rw [Nat.or_div_two, Nat.or_div_two, Nat.and_div_two, Nat.and_div_two, Nat.and_div_two]
    have f1 : (a ^^^ b ^^^ c) % 2 = a % 2 ^^^ b % 2 ^^^ c % 2 := by rw [xd_x2, xd_x2]
    have f2 : ((a &&& b) ||| (a &&& c) ||| (b &&& c)) % 2 = (a % 2 &&& b % 2) ||| (a % 2 &&& c % 2) ||| (b % 2 &&& c % 2) := by
      rw [xd_o2, xd_o2, xd_a2, xd_a2, xd_a2]
    rw [← e1, ← e2] at i
    rw [← f1, ← f2] at k
    generalize a ^^^ b ^^^ c = S at i k ⊢
    generalize (a &&& b) ||| (a &&& c) ||| (b &&& c) = M at i k ⊢
    omega
theorem xd_uxor (x y : Int64) : uN (x ^^^ y) = uN x ^^^ uN y := UInt64.toNat_xor _ _
theorem xd_uand (x y : Int64) : uN (x &&& y) = uN x &&& uN y := UInt64.toNat_and _ _
theorem xd_uor (x y : Int64) : uN (x ||| y) = uN x ||| uN y := UInt64.toNat_or _ _
theorem xd_csaL (a b c : Int64) : (a ^^^ b ^^^ c) + (((a &&& b) ||| (a &&& c) ||| (b &&& c)) <<< ((1 : Int32).toInt64 &&& 63)) = a + b + c := by
  apply uN_inj
  rw [uN_add, uN_add, uN_add, uN_shl, xd_uxor, xd_uxor, xd_uor, xd_uor, xd_uand, xd_uand, xd_uand]
  have h := xd_csa 64 (uN a) (uN b) (uN c) (uN_lt a) (uN_lt b) (uN_lt c)
  generalize uN a ^^^ uN b ^^^ uN c = S at h ⊢
  generalize (uN a &&& uN b) ||| (uN a &&& uN c) ||| (uN b &&& uN c) = M at h ⊢
  omega
/-! shifts as numbers -/
theorem xd_shl2 (x : Int64) : uN (x <<< ((2 : Int32).toInt64 &&& 63)) = (4 * uN x) % 18446744073709551616 := by
  have h : (((2 : Int32).toInt64 &&& 63).toBitVec.smod 64).toNat = 2 := by decide
  show (x.toBitVec <<< (((2 : Int32).toInt64 &&& 63).toBitVec.smod 64).toNat).toNat = _
  rw [h, BitVec.toNat_shiftLeft, Nat.shiftLeft_eq, Nat.mul_comm]
  rfl
theorem xd_shl18 (x : Int64) : uN (x <<< ((18 : Int32).toInt64 &&& 63)) = (262144 * uN x) % 18446744073709551616 := by
  have h : (((18 : Int32).toInt64 &&& 63).toBitVec.smod 64).toNat = 18 := by decide
  show (x.toBitVec <<< (((18 : Int32).toInt64 &&& 63).toBitVec.smod 64).toNat).toNat = _
  rw [h, BitVec.toNat_shiftLeft, Nat.shiftLeft_eq, Nat.mul_comm]
  rfl
theorem xd_sar30 (x : Int64) : (x >>> ((30 : Int32).toInt64 &&& 63)).toInt = x.toInt / 1073741824 := by
  have h : (((30 : Int32).toInt64 &&& 63).toBitVec.smod 64).toNat = 30 := by decide
  have e : (x >>> ((30 : Int32).toInt64 &&& 63)).toInt = x.toInt >>> 30 := by
    rw [← h]
    exact BitVec.toInt_sshiftRight ..
  rw [e, Int.shiftRight_eq_div_pow]
  rfl
theorem xd_sar18 (x : Int64) : (x >>> ((18 : Int32).toInt64 &&& 63)).toInt = x.toInt / 262144 := by
  have h : (((18 : Int32).toInt64 &&& 63).toBitVec.smod 64).toNat = 18 := by decide
  have e : (x >>> ((18 : Int32).toInt64 &&& 63)).toInt = x.toInt >>> 18 := by
    rw [← h]
    exact BitVec.toInt_sshiftRight ..
  rw [e, Int.shiftRight_eq_div_pow]
  rfl
theorem xd_u127 (x : Int64) : uN (x &&& 127) = uN x % 128 := by
  show (x.toUInt64 &&& Int64.toUInt64 127).toNat = _
  rw [UInt64.toNat_and]
  exact Nat.and_two_pow_sub_one_eq_mod _ 7
theorem xd_uof {n : Nat} (h : n < 18446744073709551616) : uN (lN n) = n := Nat.mod_eq_of_lt h
theorem xd_low (e : Int64) : (e &&& 127).toInt32 = nI (e.toInt % 128).toNat := by
  have h1 : e &&& 127 = lN (uN e % 128) := by
    apply uN_inj
    rw [xd_u127, xd_uof (by omega)]
  have h2 : uN e % 128 = (e.toInt % 128).toNat := by
    rw [uN_int]
    split <;> omega
  rw [h1, lN_i, h2]
/-! the estimate, over plain numbers -/
theorem xd_k (s c a b p : Nat) (A B P : Int) (ha : a = 4 * s % 18446744073709551616) (hb : b = 4 * c % 18446744073709551616) (hp : p = (s + c) % 18446744073709551616) (hA : A = if 2 * a < 18446744073709551616 then (a : Int) else (a : Int) - 18446744073709551616) (hB : B = if 2 * b < 18446744073709551616 then (b : Int) else (b : Int) - 18446744073709551616) (hP : P = if 2 * p < 18446744073709551616 then (p : Int) else (p : Int) - 18446744073709551616) : ∃ k : Int, A + B = 4 * P + k * 18446744073709551616 := by
  refine ⟨(A + B - 4 * P) / 18446744073709551616, ?_⟩
  split at hA <;> split at hB <;> split at hP <;> omega
theorem xd_E {A B P k t E : Int} (h : A + B = 4 * P + k * 18446744073709551616) (l : -46000000000 ≤ 4 * P) (u : 4 * P ≤ 46000000000) (ht : t = A / 1073741824 + B / 1073741824) (hE : E = if t % 128 < 64 then t % 128 else t % 128 - 128) : 1073741824 * E ≤ 4 * P ∧ 4 * P < 1073741824 * (E + 2) := by
  have h1 : ∃ w : Int, t = w + k * 17179869184 ∧ 1073741824 * w ≤ 4 * P ∧ 4 * P < 1073741824 * (w + 2) := ⟨t - k * 17179869184, by omega, by omega, by omega⟩
  obtain ⟨w, hw, w1, w2⟩ := h1
  have h2 : E = w := by
    have : -64 ≤ w := by omega
    have : w < 64 := by omega
    split at hE <;> omega
  rw [h2]
  exact ⟨w1, w2⟩
/-! the next remainder, over plain numbers -/
theorem xd_y (s c g p y : Nat) (P G Y : Int) (hs : s < 18446744073709551616) (hc : c < 18446744073709551616) (hg : g < 18446744073709551616) (hp : p = (s + c) % 18446744073709551616) (hy : y = ((4 * s % 18446744073709551616 + 4 * c % 18446744073709551616) % 18446744073709551616 + g) % 18446744073709551616) (hP : P = if 2 * p < 18446744073709551616 then (p : Int) else (p : Int) - 18446744073709551616) (hG : G = if 2 * g < 18446744073709551616 then (g : Int) else (g : Int) - 18446744073709551616) (hY : Y = if 2 * y < 18446744073709551616 then (y : Int) else (y : Int) - 18446744073709551616) (l : -1000000000000 ≤ 4 * P + G) (u : 4 * P + G ≤ 1000000000000) : Y = 4 * P + G := by
  split at hP <;> split at hG <;> split at hY <;> omega
theorem xd_g (z g : Nat) (Z G : Int) (hz : z < 18446744073709551616) (hg : g = 262144 * z % 18446744073709551616) (hZ : Z = if 2 * z < 18446744073709551616 then (z : Int) else (z : Int) - 18446744073709551616) (hG : G = if 2 * g < 18446744073709551616 then (g : Int) else (g : Int) - 18446744073709551616) (l : -1000000 ≤ Z) (u : Z ≤ 1000000) : G = 262144 * Z := by
  split at hZ <;> split at hG <;> omega
theorem xd_shlI {z : Int64} (l : -1000000 ≤ z.toInt) (u : z.toInt ≤ 1000000) : (z <<< ((18 : Int32).toInt64 &&& 63)).toInt = 262144 * z.toInt := xd_g (uN z) _ _ _ (uN_lt z) (xd_shl18 z) (uN_int z) (uN_int _) l u
theorem xd_next {S C g : Int64} {P G : Int} (hP : (S + C).toInt = P) (hG : g.toInt = G) (l : -1000000000000 ≤ 4 * P + G) (u : 4 * P + G ≤ 1000000000000) :
    (((S <<< ((2 : Int32).toInt64 &&& 63)) ^^^ (C <<< ((2 : Int32).toInt64 &&& 63)) ^^^ g) + ((((S <<< ((2 : Int32).toInt64 &&& 63)) &&& (C <<< ((2 : Int32).toInt64 &&& 63))) ||| ((S <<< ((2 : Int32).toInt64 &&& 63)) &&& g) ||| ((C <<< ((2 : Int32).toInt64 &&& 63)) &&& g)) <<< ((1 : Int32).toInt64 &&& 63))).toInt = 4 * P + G := by
  rw [xd_csaL]
  refine xd_y (uN S) (uN C) (uN g) (uN (S + C)) _ P G _ (uN_lt S) (uN_lt C) (uN_lt g) (uN_add S C) ?_ (hP.symm.trans (uN_int _)) (hG.symm.trans (uN_int _)) (uN_int _) l u
  rw [uN_add, uN_add, xd_shl2, xd_shl2]
theorem xd_lowE (m : Nat) (h : m < 128) : (if (64 : Int32) ≤ nI m then nI m - 128 else nI m).toInt = if (m : Int) < 64 then (m : Int) else (m : Int) - 128 := by
  have : ∀ m, m < 128 → (if (64 : Int32) ≤ nI m then nI m - 128 else nI m).toInt = if (m : Int) < 64 then (m : Int) else (m : Int) - 128 := by decide +kernel
  exact this m h
theorem xd_estI {S C : Int64} {P : Int} (hP : (S + C).toInt = P) (l : -46000000000 ≤ 4 * P) (u : 4 * P ≤ 46000000000) : 1073741824 * (xd_est S C).toInt ≤ 4 * P ∧ 4 * P < 1073741824 * ((xd_est S C).toInt + 2) := by
  obtain ⟨k, hk⟩ := xd_k (uN S) (uN C) _ _ _ _ _ _ (xd_shl2 S) (xd_shl2 C) (uN_add S C) (uN_int _) (uN_int _) (uN_int _)
  rw [hP] at hk
  have a1 := Int64.toInt_lt (S <<< ((2 : Int32).toInt64 &&& 63))
  have a2 := Int64.le_toInt (S <<< ((2 : Int32).toInt64 &&& 63))
  have b1 := Int64.toInt_lt (C <<< ((2 : Int32).toInt64 &&& 63))
  have b2 := Int64.le_toInt (C <<< ((2 : Int32).toInt64 &&& 63))
  have ht : (((S <<< ((2 : Int32).toInt64 &&& 63)) >>> ((30 : Int32).toInt64 &&& 63)) + ((C <<< ((2 : Int32).toInt64 &&& 63)) >>> ((30 : Int32).toInt64 &&& 63))).toInt = (S <<< ((2 : Int32).toInt64 &&& 63)).toInt / 1073741824 + (C <<< ((2 : Int32).toInt64 &&& 63)).toInt / 1073741824 := by
    rw [Int64.toInt_add, xd_sar30, xd_sar30]
    generalize (S <<< ((2 : Int32).toInt64 &&& 63)).toInt = A at a1 a2 ⊢
    generalize (C <<< ((2 : Int32).toInt64 &&& 63)).toInt = B at b1 b2 ⊢
    exact Int.bmod_eq_of_le (by omega) (by omega)
  refine xd_E hk l u ht ?_
  unfold xd_est
  rw [xd_low]
  generalize (((S <<< ((2 : Int32).toInt64 &&& 63)) >>> ((30 : Int32).toInt64 &&& 63)) + ((C <<< ((2 : Int32).toInt64 &&& 63)) >>> ((30 : Int32).toInt64 &&& 63))).toInt = t
  rw [xd_lowE (t % 128).toNat (by omega)]
  have e : (((t % 128).toNat : Nat) : Int) = t % 128 := by omega
  rw [e]
end XDA
