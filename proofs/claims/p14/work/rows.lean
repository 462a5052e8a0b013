section
section SDA
theorem sd_sl : ∀ n, n < 32 → ((nI n &&& 31).toBitVec.smod 32).toNat = n := by decide +kernel
theorem sd_shl {v p : Nat} (hp : p < 32) (h : v * 2 ^ p < 2 ^ 32) : nI v <<< (nI p &&& 31) = nI (v * 2 ^ p) := pk_shlN _ p (sd_sl p hp) h
theorem sd_norm {v : Nat} (h1 : 1 ≤ v) (h2 : v ≤ 65535) : ∃ s, s ≤ 15 ∧ 32768 ≤ v * 2 ^ s ∧ v * 2 ^ s < 65536 ∧ ∀ t, t < s → v * 2 ^ t < 32768 := by
  have h15 : 32768 ≤ v * 2 ^ 15 := by omega
  obtain ⟨s, hs, hm⟩ := pk_least (fun k => 32768 ≤ v * 2 ^ k) ⟨15, h15⟩
  have hs15 : s ≤ 15 := by
    apply Nat.le_of_not_lt
    intro h
    exact hm 15 h h15
  refine ⟨s, hs15, hs, ?_, fun t ht => Nat.lt_of_not_le (hm t ht)⟩
  cases s with
  | zero => rw [Nat.pow_zero]; omega
  | succ t =>
    have h3 : ¬ 32768 ≤ v * 2 ^ t := hm t (by omega)
    have e : v * 2 ^ (t + 1) = v * 2 ^ t * 2 := by rw [Nat.pow_succ, Nat.mul_assoc]
    rw [e]
    generalize v * 2 ^ t = w at h3 ⊢
    omega
theorem sd_row {D : Nat} (h1 : 32768 ≤ D) (h2 : D < 65536) : (nI D >>> ((12 : Int32) &&& 31)) - 8 = nI (D / 4096 - 8) := by
  rw [pk_shrN (by omega) _ 12 (by decide)]
  exact pk_sub (b := 8) (by show 8 ≤ D / 4096; omega)
/-! a history moved down by one place, from place k on, up to place e -/
def sd_sh (f : Nat → Int32) (k e : Nat) : Nat → Int32 := fun j => if k < j ∧ j ≤ e then f (j - 1) else f j
theorem sd_she (f : Nat → Int32) (e : Nat) : sd_sh f e e = f := funext fun j => if_neg (by omega)
theorem sd_sh1 {f : Nat → Int32} {k e : Nat} : sd_sh f (k + 1) e k = f k := if_neg (by omega)
theorem sd_shs {f : Nat → Int32} {k e : Nat} (h : k + 1 ≤ e) : upd (sd_sh f (k + 1) e) (k + 1) (f k) = sd_sh f k e := by
  funext j
  unfold upd sd_sh
  by_cases h1 : j = k + 1
  · rw [if_pos h1, if_pos (by omega), h1, Nat.add_sub_cancel]
  · rw [if_neg h1]
    by_cases h2 : k + 1 < j ∧ j ≤ e
    · rw [if_pos h2, if_pos (by omega)]
    · rw [if_neg h2, if_neg (by omega)]
/-- the digit that row r of the table t gives for the estimate e -/
def xd_dig (t : Nat → Int32) (r : Nat) (e : Int32) : Int32 := if t (4 * r) ≤ e then 2 else if t (4 * r + 1) ≤ e then 1 else if t (4 * r + 2) ≤ e then 0 else if t (4 * r + 3) ≤ e then -1 else -2
/-- the estimate of the two words, the next two words, the next two quotients -/
def xd_est (S C : Int64) : Int32 :=
  if 64 ≤ (((S <<< ((2 : Int32).toInt64 &&& 63)) >>> ((30 : Int32).toInt64 &&& 63)) + ((C <<< ((2 : Int32).toInt64 &&& 63)) >>> ((30 : Int32).toInt64 &&& 63)) &&& 127).toInt32
  then (((S <<< ((2 : Int32).toInt64 &&& 63)) >>> ((30 : Int32).toInt64 &&& 63)) + ((C <<< ((2 : Int32).toInt64 &&& 63)) >>> ((30 : Int32).toInt64 &&& 63)) &&& 127).toInt32 - 128
  else (((S <<< ((2 : Int32).toInt64 &&& 63)) >>> ((30 : Int32).toInt64 &&& 63)) + ((C <<< ((2 : Int32).toInt64 &&& 63)) >>> ((30 : Int32).toInt64 &&& 63)) &&& 127).toInt32
def xd_wS (S C : Int64) (d : Int32) (D : Int32) : Int64 := (S <<< ((2 : Int32).toInt64 &&& 63)) ^^^ (C <<< ((2 : Int32).toInt64 &&& 63)) ^^^ ((-d * D).toInt64 <<< ((18 : Int32).toInt64 &&& 63))
def xd_wC (S C : Int64) (d : Int32) (D : Int32) : Int64 := (((S <<< ((2 : Int32).toInt64 &&& 63)) &&& (C <<< ((2 : Int32).toInt64 &&& 63))) ||| ((S <<< ((2 : Int32).toInt64 &&& 63)) &&& ((-d * D).toInt64 <<< ((18 : Int32).toInt64 &&& 63))) ||| ((C <<< ((2 : Int32).toInt64 &&& 63)) &&& ((-d * D).toInt64 <<< ((18 : Int32).toInt64 &&& 63)))) <<< ((1 : Int32).toInt64 &&& 63)
def xd_nP (d qp qm : Int32) : Int32 := if 0 ≤ d then 4 * qp + d else 4 * qm + 4 + d
def xd_nM (d qp qm : Int32) : Int32 := if 0 < d then 4 * qp + d - 1 else 4 * qm + 3 + d
def xd_fill (tb : Nat → Int32) : Nat → Int32 := (upd (upd (upd (upd (upd (upd (upd (upd (upd (upd (upd (upd (upd (upd (upd (upd (upd (upd (upd (upd (upd (upd (upd (upd (upd (upd (upd (upd (upd (upd (upd (upd tb (4 * 0) 12) (4 * 0 + 1) 4) (4 * 0 + 2) (-4)) (4 * 0 + 3) (-13)) (4 * 1) 14) (4 * 1 + 1) 5) (4 * 1 + 2) (-5)) (4 * 1 + 3) (-15)) (4 * 2) 15) (4 * 2 + 1) 5) (4 * 2 + 2) (-5)) (4 * 2 + 3) (-16)) (4 * 3) 16) (4 * 3 + 1) 6) (4 * 3 + 2) (-6)) (4 * 3 + 3) (-17)) (4 * 4) 18) (4 * 4 + 1) 6) (4 * 4 + 2) (-6)) (4 * 4 + 3) (-19)) (4 * 5) 20) (4 * 5 + 1) 7) (4 * 5 + 2) (-7)) (4 * 5 + 3) (-20)) (4 * 6) 21) (4 * 6 + 1) 7) (4 * 6 + 2) (-7)) (4 * 6 + 3) (-22)) (4 * 7) 23) (4 * 7 + 1) 8) (4 * 7 + 2) (-8)) (4 * 7 + 3) (-24))
def xd_tab : Nat → Int32 := xd_fill (fun _ => 0)
end SDA
end
section
section XDA
theorem wb_tb (n : Nat) : (lN n).toBitVec = BitVec.ofNat 64 n := rfl
theorem wb_inj {a b : Int64} (h : a.toBitVec = b.toBitVec) : a = b := Int64.toBitVec_inj.mp h
theorem wb_c : ∀ k, k < 64 → ((nI k).toInt64 &&& 63) = lN k := by decide +kernel
theorem wb_sm : ∀ k, k < 64 → (BitVec.ofNat 64 k).smod 64 = BitVec.ofNat 64 k := by decide +kernel
theorem wb_shl (n : Nat) {k : Nat} (hk : k < 64) : lN n <<< ((nI k).toInt64 &&& 63) = lN (n * 2 ^ k) := by
  rw [wb_c k hk]
  apply wb_inj
  rw [Int64.toBitVec_shiftLeft, wb_tb, wb_tb, wb_tb, wb_sm k hk]
  apply BitVec.eq_of_toNat_eq
  rw [BitVec.shiftLeft_eq', BitVec.toNat_shiftLeft, BitVec.toNat_ofNat, BitVec.toNat_ofNat, BitVec.toNat_ofNat, Nat.mod_eq_of_lt (show k < 2 ^ 64 by omega), Nat.shiftLeft_eq, Nat.mul_mod, Nat.mod_mod, ← Nat.mul_mod]
def uN (x : Int64) : Nat := x.toUInt64.toNat
theorem uN_lt (x : Int64) : uN x < 18446744073709551616 := x.toUInt64.toNat_lt
theorem uN_inj {x y : Int64} (h : uN x = uN y) : x = y := congrArg UInt64.toInt64 (UInt64.toNat_inj.mp h)
theorem uN_add (x y : Int64) : uN (x + y) = (uN x + uN y) % 18446744073709551616 := by
  show (x.toUInt64 + y.toUInt64).toNat = _
  exact UInt64.toNat_add _ _
theorem uN_shl (x : Int64) : uN (x <<< ((1 : Int32).toInt64 &&& 63)) = (2 * uN x) % 18446744073709551616 := by
  have h : (((1 : Int32).toInt64 &&& 63).toBitVec.smod 64).toNat = 1 := by decide
  show (x.toBitVec <<< (((1 : Int32).toInt64 &&& 63).toBitVec.smod 64).toNat).toNat = _
  rw [h, BitVec.toNat_shiftLeft, Nat.shiftLeft_eq, Nat.mul_comm]
  rfl
theorem uN_int (x : Int64) : x.toInt = if 2 * uN x < 18446744073709551616 then (uN x : Int) else (uN x : Int) - 18446744073709551616 := BitVec.toInt_eq_toNat_cond _
/-! the carry-save identity -/
theorem xd_k1 : ∀ x, x < 2 → ∀ y, y < 2 → ∀ z, z < 2 → (x ^^^ y ^^^ z) + 2 * ((x &&& y) ||| (x &&& z) ||| (y &&& z)) = x + y + z := by decide +kernel
theorem xd_x2 (p q : Nat) : (p ^^^ q) % 2 = p % 2 ^^^ q % 2 := Nat.xor_mod_two_pow (n := 1)
theorem xd_a2 (p q : Nat) : (p &&& q) % 2 = p % 2 &&& q % 2 := Nat.and_mod_two_pow (n := 1)
theorem xd_o2 (p q : Nat) : (p ||| q) % 2 = p % 2 ||| q % 2 := Nat.or_mod_two_pow (n := 1)
theorem xd_csa : ∀ (n a b c : Nat), a < 2 ^ n → b < 2 ^ n → c < 2 ^ n → (a ^^^ b ^^^ c) + 2 * ((a &&& b) ||| (a &&& c) ||| (b &&& c)) = a + b + c := by
  intro n
  induction n with
  | zero =>
    intro a b c ha hb hc
    have ha : a = 0 := by omega
    have hb : b = 0 := by omega
    have hc : c = 0 := by omega
    subst ha hb hc
    rfl
  | succ n ih =>
    intro a b c ha hb hc
    rw [Nat.pow_succ] at ha hb hc
    have i := ih (a / 2) (b / 2) (c / 2) (by omega) (by omega) (by omega)
    have k := xd_k1 (a % 2) (by omega) (b % 2) (by omega) (c % 2) (by omega)
    have e1 : (a ^^^ b ^^^ c) / 2 = a / 2 ^^^ b / 2 ^^^ c / 2 := by rw [Nat.xor_div_two, Nat.xor_div_two]
    have e2 : ((a &&& b) ||| (a &&& c) ||| (b &&& c)) / 2 = (a / 2 &&& b / 2) ||| (a / 2 &&& c / 2) ||| (b / 2 &&& c / 2) := by
      rw [Nat.or_div_two, Nat.or_div_two, Nat.and_div_two, Nat.and_div_two, Nat.and_div_two]
    have f1 : (a ^^^ b ^^^ c) % 2 = a % 2 ^^^ b % 2 ^^^ c % 2 := by rw [xd_x2, xd_x2]
    have f2 : ((a &&& b) ||| (a &&& c) ||| (b &&& c)) % 2 = (a % 2 &&& b % 2) ||| (a % 2 &&& c % 2) ||| (b % 2 &&& c % 2) := by
      rw [xd_o2, xd_o2, xd_a2, xd_a2, xd_a2]
    rw [← e1, ← e2] at i
    rw [← f1, ← f2] at k
    generalize a ^^^ b ^^^ c = S at i k ⊢
    generalize (a &&& b) ||| (a &&& c) ||| (b &&& c) = M at i k ⊢
    omega
theorem xd_uxor (x y : Int64) : uN (x ^^^ y) = uN x ^^^ uN y := UInt64.toNat_xor _ _
theorem xd_uand (x y : Int64) : uN (x &&& y) = uN x &&& uN y := UInt64.toNat_and _ _
theorem xd_uor (x y : Int64) : uN (x ||| y) = uN x ||| uN y := UInt64.toNat_or _ _
theorem xd_csaL (a b c : Int64) : (a ^^^ b ^^^ c) + (((a &&& b) ||| (a &&& c) ||| (b &&& c)) <<< ((1 : Int32).toInt64 &&& 63)) = a + b + c := by
  apply uN_inj
  rw [uN_add, uN_add, uN_add, uN_shl, xd_uxor, xd_uxor, xd_uor, xd_uor, xd_uand, xd_uand, xd_uand]
  have h := xd_csa 64 (uN a) (uN b) (uN c) (uN_lt a) (uN_lt b) (uN_lt c)
  generalize uN a ^^^ uN b ^^^ uN c = S at h ⊢
  generalize (uN a &&& uN b) ||| (uN a &&& uN c) ||| (uN b &&& uN c) = M at h ⊢
  omega
/-! shifts as numbers -/
theorem xd_shl2 (x : Int64) : uN (x <<< ((2 : Int32).toInt64 &&& 63)) = (4 * uN x) % 18446744073709551616 := by
  have h : (((2 : Int32).toInt64 &&& 63).toBitVec.smod 64).toNat = 2 := by decide
  show (x.toBitVec <<< (((2 : Int32).toInt64 &&& 63).toBitVec.smod 64).toNat).toNat = _
  rw [h, BitVec.toNat_shiftLeft, Nat.shiftLeft_eq, Nat.mul_comm]
  rfl
theorem xd_shl18 (x : Int64) : uN (x <<< ((18 : Int32).toInt64 &&& 63)) = (262144 * uN x) % 18446744073709551616 := by
  have h : (((18 : Int32).toInt64 &&& 63).toBitVec.smod 64).toNat = 18 := by decide
  show (x.toBitVec <<< (((18 : Int32).toInt64 &&& 63).toBitVec.smod 64).toNat).toNat = _
  rw [h, BitVec.toNat_shiftLeft, Nat.shiftLeft_eq, Nat.mul_comm]
  rfl
theorem xd_sar30 (x : Int64) : (x >>> ((30 : Int32).toInt64 &&& 63)).toInt = x.toInt / 1073741824 := by
  have h : (((30 : Int32).toInt64 &&& 63).toBitVec.smod 64).toNat = 30 := by decide
  have e : (x >>> ((30 : Int32).toInt64 &&& 63)).toInt = x.toInt >>> 30 := by
    rw [← h]
    exact BitVec.toInt_sshiftRight ..
  rw [e, Int.shiftRight_eq_div_pow]
  rfl
theorem xd_sar18 (x : Int64) : (x >>> ((18 : Int32).toInt64 &&& 63)).toInt = x.toInt / 262144 := by
  have h : (((18 : Int32).toInt64 &&& 63).toBitVec.smod 64).toNat = 18 := by decide
  have e : (x >>> ((18 : Int32).toInt64 &&& 63)).toInt = x.toInt >>> 18 := by
    rw [← h]
    exact BitVec.toInt_sshiftRight ..
  rw [e, Int.shiftRight_eq_div_pow]
  rfl
theorem xd_u127 (x : Int64) : uN (x &&& 127) = uN x % 128 := by
  show (x.toUInt64 &&& Int64.toUInt64 127).toNat = _
  rw [UInt64.toNat_and]
  exact Nat.and_two_pow_sub_one_eq_mod _ 7
theorem xd_uof {n : Nat} (h : n < 18446744073709551616) : uN (lN n) = n := Nat.mod_eq_of_lt h
theorem xd_low (e : Int64) : (e &&& 127).toInt32 = nI (e.toInt % 128).toNat := by
  have h1 : e &&& 127 = lN (uN e % 128) := by
    apply uN_inj
    rw [xd_u127, xd_uof (by omega)]
  have h2 : uN e % 128 = (e.toInt % 128).toNat := by
    rw [uN_int]
    split <;> omega
  rw [h1, lN_i, h2]
/-! the estimate, over plain numbers -/
theorem xd_k (s c a b p : Nat) (A B P : Int) (ha : a = 4 * s % 18446744073709551616) (hb : b = 4 * c % 18446744073709551616) (hp : p = (s + c) % 18446744073709551616) (hA : A = if 2 * a < 18446744073709551616 then (a : Int) else (a : Int) - 18446744073709551616) (hB : B = if 2 * b < 18446744073709551616 then (b : Int) else (b : Int) - 18446744073709551616) (hP : P = if 2 * p < 18446744073709551616 then (p : Int) else (p : Int) - 18446744073709551616) : ∃ k : Int, A + B = 4 * P + k * 18446744073709551616 := by
  refine ⟨(A + B - 4 * P) / 18446744073709551616, ?_⟩
  split at hA <;> split at hB <;> split at hP <;> omega
theorem xd_E {A B P k t E : Int} (h : A + B = 4 * P + k * 18446744073709551616) (l : -46000000000 ≤ 4 * P) (u : 4 * P ≤ 46000000000) (ht : t = A / 1073741824 + B / 1073741824) (hE : E = if t % 128 < 64 then t % 128 else t % 128 - 128) : 1073741824 * E ≤ 4 * P ∧ 4 * P < 1073741824 * (E + 2) := by
  have h1 : ∃ w : Int, t = w + k * 17179869184 ∧ 1073741824 * w ≤ 4 * P ∧ 4 * P < 1073741824 * (w + 2) := ⟨t - k * 17179869184, by omega, by omega, by omega⟩
  obtain ⟨w, hw, w1, w2⟩ := h1
  have h2 : E = w := by
    have : -64 ≤ w := by omega
    have : w < 64 := by omega
    split at hE <;> omega
  rw [h2]
  exact ⟨w1, w2⟩
/-! the next remainder, over plain numbers -/
theorem xd_y (s c g p y : Nat) (P G Y : Int) (hs : s < 18446744073709551616) (hc : c < 18446744073709551616) (hg : g < 18446744073709551616) (hp : p = (s + c) % 18446744073709551616) (hy : y = ((4 * s % 18446744073709551616 + 4 * c % 18446744073709551616) % 18446744073709551616 + g) % 18446744073709551616) (hP : P = if 2 * p < 18446744073709551616 then (p : Int) else (p : Int) - 18446744073709551616) (hG : G = if 2 * g < 18446744073709551616 then (g : Int) else (g : Int) - 18446744073709551616) (hY : Y = if 2 * y < 18446744073709551616 then (y : Int) else (y : Int) - 18446744073709551616) (l : -1000000000000 ≤ 4 * P + G) (u : 4 * P + G ≤ 1000000000000) : Y = 4 * P + G := by
  split at hP <;> split at hG <;> split at hY <;> omega
theorem xd_g (z g : Nat) (Z G : Int) (hz : z < 18446744073709551616) (hg : g = 262144 * z % 18446744073709551616) (hZ : Z = if 2 * z < 18446744073709551616 then (z : Int) else (z : Int) - 18446744073709551616) (hG : G = if 2 * g < 18446744073709551616 then (g : Int) else (g : Int) - 18446744073709551616) (l : -1000000 ≤ Z) (u : Z ≤ 1000000) : G = 262144 * Z := by
  split at hZ <;> split at hG <;> omega
theorem xd_shlI {z : Int64} (l : -1000000 ≤ z.toInt) (u : z.toInt ≤ 1000000) : (z <<< ((18 : Int32).toInt64 &&& 63)).toInt = 262144 * z.toInt := xd_g (uN z) _ _ _ (uN_lt z) (xd_shl18 z) (uN_int z) (uN_int _) l u
theorem xd_next {S C g : Int64} {P G : Int} (hP : (S + C).toInt = P) (hG : g.toInt = G) (l : -1000000000000 ≤ 4 * P + G) (u : 4 * P + G ≤ 1000000000000) :
    (((S <<< ((2 : Int32).toInt64 &&& 63)) ^^^ (C <<< ((2 : Int32).toInt64 &&& 63)) ^^^ g) + ((((S <<< ((2 : Int32).toInt64 &&& 63)) &&& (C <<< ((2 : Int32).toInt64 &&& 63))) ||| ((S <<< ((2 : Int32).toInt64 &&& 63)) &&& g) ||| ((C <<< ((2 : Int32).toInt64 &&& 63)) &&& g)) <<< ((1 : Int32).toInt64 &&& 63))).toInt = 4 * P + G := by
  rw [xd_csaL]
  refine xd_y (uN S) (uN C) (uN g) (uN (S + C)) _ P G _ (uN_lt S) (uN_lt C) (uN_lt g) (uN_add S C) ?_ (hP.symm.trans (uN_int _)) (hG.symm.trans (uN_int _)) (uN_int _) l u
  rw [uN_add, uN_add, xd_shl2, xd_shl2]
theorem xd_lowE (m : Nat) (h : m < 128) : (if (64 : Int32) ≤ nI m then nI m - 128 else nI m).toInt = if (m : Int) < 64 then (m : Int) else (m : Int) - 128 := by
  have : ∀ m, m < 128 → (if (64 : Int32) ≤ nI m then nI m - 128 else nI m).toInt = if (m : Int) < 64 then (m : Int) else (m : Int) - 128 := by decide +kernel
  exact this m h
theorem xd_estI {S C : Int64} {P : Int} (hP : (S + C).toInt = P) (l : -46000000000 ≤ 4 * P) (u : 4 * P ≤ 46000000000) : 1073741824 * (xd_est S C).toInt ≤ 4 * P ∧ 4 * P < 1073741824 * ((xd_est S C).toInt + 2) := by
  obtain ⟨k, hk⟩ := xd_k (uN S) (uN C) _ _ _ _ _ _ (xd_shl2 S) (xd_shl2 C) (uN_add S C) (uN_int _) (uN_int _) (uN_int _)
  rw [hP] at hk
  have a1 := Int64.toInt_lt (S <<< ((2 : Int32).toInt64 &&& 63))
  have a2 := Int64.le_toInt (S <<< ((2 : Int32).toInt64 &&& 63))
  have b1 := Int64.toInt_lt (C <<< ((2 : Int32).toInt64 &&& 63))
  have b2 := Int64.le_toInt (C <<< ((2 : Int32).toInt64 &&& 63))
  have ht : (((S <<< ((2 : Int32).toInt64 &&& 63)) >>> ((30 : Int32).toInt64 &&& 63)) + ((C <<< ((2 : Int32).toInt64 &&& 63)) >>> ((30 : Int32).toInt64 &&& 63))).toInt = (S <<< ((2 : Int32).toInt64 &&& 63)).toInt / 1073741824 + (C <<< ((2 : Int32).toInt64 &&& 63)).toInt / 1073741824 := by
    rw [Int64.toInt_add, xd_sar30, xd_sar30]
    generalize (S <<< ((2 : Int32).toInt64 &&& 63)).toInt = A at a1 a2 ⊢
    generalize (C <<< ((2 : Int32).toInt64 &&& 63)).toInt = B at b1 b2 ⊢
    exact Int.bmod_eq_of_le (by omega) (by omega)
  refine xd_E hk l u ht ?_
  unfold xd_est
  rw [xd_low]
  generalize (((S <<< ((2 : Int32).toInt64 &&& 63)) >>> ((30 : Int32).toInt64 &&& 63)) + ((C <<< ((2 : Int32).toInt64 &&& 63)) >>> ((30 : Int32).toInt64 &&& 63))).toInt = t
  rw [xd_lowE (t % 128).toNat (by omega)]
  have e : (((t % 128).toNat : Nat) : Int) = t % 128 := by omega
  rw [e]
end XDA
end
section
section XDB
/-! the selection: row by row -/
theorem xd_sel0 {D P E q : Int} (h1 : 32768 ≤ D) (h2 : D < 36864) (l : -(524288 * D) ≤ 3 * P) (u : 3 * P ≤ 524288 * D) (e1 : 1073741824 * E ≤ 4 * P) (e2 : 4 * P < 1073741824 * (E + 2)) (hq : q = if (12 : Int) ≤ E then 2 else if (4 : Int) ≤ E then 1 else if (-4 : Int) ≤ E then 0 else if (-13 : Int) ≤ E then -1 else -2) : -(524288 * D) ≤ 3 * (4 * P + 262144 * (-q * D)) ∧ 3 * (4 * P + 262144 * (-q * D)) ≤ 524288 * D ∧ -2 ≤ q ∧ q ≤ 2 := by
  split at hq
  · subst hq; omega
  · split at hq
    · subst hq; omega
    · split at hq
      · subst hq; omega
      · split at hq
        · subst hq; omega
        · subst hq; omega
theorem xd_sel1 {D P E q : Int} (h1 : 36864 ≤ D) (h2 : D < 40960) (l : -(524288 * D) ≤ 3 * P) (u : 3 * P ≤ 524288 * D) (e1 : 1073741824 * E ≤ 4 * P) (e2 : 4 * P < 1073741824 * (E + 2)) (hq : q = if (14 : Int) ≤ E then 2 else if (5 : Int) ≤ E then 1 else if (-5 : Int) ≤ E then 0 else if (-15 : Int) ≤ E then -1 else -2) : -(524288 * D) ≤ 3 * (4 * P + 262144 * (-q * D)) ∧ 3 * (4 * P + 262144 * (-q * D)) ≤ 524288 * D ∧ -2 ≤ q ∧ q ≤ 2 := by
  split at hq
  · subst hq; omega
  · split at hq
    · subst hq; omega
    · split at hq
      · subst hq; omega
      · split at hq
        · subst hq; omega
        · subst hq; omega
theorem xd_sel2 {D P E q : Int} (h1 : 40960 ≤ D) (h2 : D < 45056) (l : -(524288 * D) ≤ 3 * P) (u : 3 * P ≤ 524288 * D) (e1 : 1073741824 * E ≤ 4 * P) (e2 : 4 * P < 1073741824 * (E + 2)) (hq : q = if (15 : Int) ≤ E then 2 else if (5 : Int) ≤ E then 1 else if (-5 : Int) ≤ E then 0 else if (-16 : Int) ≤ E then -1 else -2) : -(524288 * D) ≤ 3 * (4 * P + 262144 * (-q * D)) ∧ 3 * (4 * P + 262144 * (-q * D)) ≤ 524288 * D ∧ -2 ≤ q ∧ q ≤ 2 := by
  split at hq
  · subst hq; omega
  · split at hq
    · subst hq; omega
    · split at hq
      · subst hq; omega
      · split at hq
        · subst hq; omega
        · subst hq; omega
theorem xd_sel3 {D P E q : Int} (h1 : 45056 ≤ D) (h2 : D < 49152) (l : -(524288 * D) ≤ 3 * P) (u : 3 * P ≤ 524288 * D) (e1 : 1073741824 * E ≤ 4 * P) (e2 : 4 * P < 1073741824 * (E + 2)) (hq : q = if (16 : Int) ≤ E then 2 else if (6 : Int) ≤ E then 1 else if (-6 : Int) ≤ E then 0 else if (-17 : Int) ≤ E then -1 else -2) : -(524288 * D) ≤ 3 * (4 * P + 262144 * (-q * D)) ∧ 3 * (4 * P + 262144 * (-q * D)) ≤ 524288 * D ∧ -2 ≤ q ∧ q ≤ 2 := by
  split at hq
  · subst hq; omega
  · split at hq
    · subst hq; omega
    · split at hq
      · subst hq; omega
      · split at hq
        · subst hq; omega
        · subst hq; omega
theorem xd_sel4 {D P E q : Int} (h1 : 49152 ≤ D) (h2 : D < 53248) (l : -(524288 * D) ≤ 3 * P) (u : 3 * P ≤ 524288 * D) (e1 : 1073741824 * E ≤ 4 * P) (e2 : 4 * P < 1073741824 * (E + 2)) (hq : q = if (18 : Int) ≤ E then 2 else if (6 : Int) ≤ E then 1 else if (-6 : Int) ≤ E then 0 else if (-19 : Int) ≤ E then -1 else -2) : -(524288 * D) ≤ 3 * (4 * P + 262144 * (-q * D)) ∧ 3 * (4 * P + 262144 * (-q * D)) ≤ 524288 * D ∧ -2 ≤ q ∧ q ≤ 2 := by
  split at hq
  · subst hq; omega
  · split at hq
    · subst hq; omega
    · split at hq
      · subst hq; omega
      · split at hq
        · subst hq; omega
        · subst hq; omega
theorem xd_sel5 {D P E q : Int} (h1 : 53248 ≤ D) (h2 : D < 57344) (l : -(524288 * D) ≤ 3 * P) (u : 3 * P ≤ 524288 * D) (e1 : 1073741824 * E ≤ 4 * P) (e2 : 4 * P < 1073741824 * (E + 2)) (hq : q = if (20 : Int) ≤ E then 2 else if (7 : Int) ≤ E then 1 else if (-7 : Int) ≤ E then 0 else if (-20 : Int) ≤ E then -1 else -2) : -(524288 * D) ≤ 3 * (4 * P + 262144 * (-q * D)) ∧ 3 * (4 * P + 262144 * (-q * D)) ≤ 524288 * D ∧ -2 ≤ q ∧ q ≤ 2 := by
  split at hq
  · subst hq; omega
  · split at hq
    · subst hq; omega
    · split at hq
      · subst hq; omega
      · split at hq
        · subst hq; omega
        · subst hq; omega
theorem xd_sel6 {D P E q : Int} (h1 : 57344 ≤ D) (h2 : D < 61440) (l : -(524288 * D) ≤ 3 * P) (u : 3 * P ≤ 524288 * D) (e1 : 1073741824 * E ≤ 4 * P) (e2 : 4 * P < 1073741824 * (E + 2)) (hq : q = if (21 : Int) ≤ E then 2 else if (7 : Int) ≤ E then 1 else if (-7 : Int) ≤ E then 0 else if (-22 : Int) ≤ E then -1 else -2) : -(524288 * D) ≤ 3 * (4 * P + 262144 * (-q * D)) ∧ 3 * (4 * P + 262144 * (-q * D)) ≤ 524288 * D ∧ -2 ≤ q ∧ q ≤ 2 := by
  split at hq
  · subst hq; omega
  · split at hq
    · subst hq; omega
    · split at hq
      · subst hq; omega
      · split at hq
        · subst hq; omega
        · subst hq; omega
theorem xd_sel7 {D P E q : Int} (h1 : 61440 ≤ D) (h2 : D < 65536) (l : -(524288 * D) ≤ 3 * P) (u : 3 * P ≤ 524288 * D) (e1 : 1073741824 * E ≤ 4 * P) (e2 : 4 * P < 1073741824 * (E + 2)) (hq : q = if (23 : Int) ≤ E then 2 else if (8 : Int) ≤ E then 1 else if (-8 : Int) ≤ E then 0 else if (-24 : Int) ≤ E then -1 else -2) : -(524288 * D) ≤ 3 * (4 * P + 262144 * (-q * D)) ∧ 3 * (4 * P + 262144 * (-q * D)) ≤ 524288 * D ∧ -2 ≤ q ∧ q ≤ 2 := by
  split at hq
  · subst hq; omega
  · split at hq
    · subst hq; omega
    · split at hq
      · subst hq; omega
      · split at hq
        · subst hq; omega
        · subst hq; omega
theorem xd_dI (a b c d e : Int32) : (if a ≤ e then (2 : Int32) else if b ≤ e then 1 else if c ≤ e then 0 else if d ≤ e then -1 else -2).toInt = if a.toInt ≤ e.toInt then 2 else if b.toInt ≤ e.toInt then 1 else if c.toInt ≤ e.toInt then 0 else if d.toInt ≤ e.toInt then -1 else -2 := by
  by_cases h1 : a ≤ e
  · rw [if_pos h1, if_pos (Int32.le_iff_toInt_le.mp h1)]; decide
  · rw [if_neg h1, if_neg (fun z => h1 (Int32.le_iff_toInt_le.mpr z))]
    by_cases h2 : b ≤ e
    · rw [if_pos h2, if_pos (Int32.le_iff_toInt_le.mp h2)]; decide
    · rw [if_neg h2, if_neg (fun z => h2 (Int32.le_iff_toInt_le.mpr z))]
      by_cases h3 : c ≤ e
      · rw [if_pos h3, if_pos (Int32.le_iff_toInt_le.mp h3)]; decide
      · rw [if_neg h3, if_neg (fun z => h3 (Int32.le_iff_toInt_le.mpr z))]
        by_cases h4 : d ≤ e
        · rw [if_pos h4, if_pos (Int32.le_iff_toInt_le.mp h4)]; decide
        · rw [if_neg h4, if_neg (fun z => h4 (Int32.le_iff_toInt_le.mpr z))]; decide
theorem xd_tab0 : (xd_tab (4 * 0)).toInt = 12 ∧ (xd_tab (4 * 0 + 1)).toInt = 4 ∧ (xd_tab (4 * 0 + 2)).toInt = -4 ∧ (xd_tab (4 * 0 + 3)).toInt = -13 := by decide +kernel
theorem xd_tab1 : (xd_tab (4 * 1)).toInt = 14 ∧ (xd_tab (4 * 1 + 1)).toInt = 5 ∧ (xd_tab (4 * 1 + 2)).toInt = -5 ∧ (xd_tab (4 * 1 + 3)).toInt = -15 := by decide +kernel
theorem xd_tab2 : (xd_tab (4 * 2)).toInt = 15 ∧ (xd_tab (4 * 2 + 1)).toInt = 5 ∧ (xd_tab (4 * 2 + 2)).toInt = -5 ∧ (xd_tab (4 * 2 + 3)).toInt = -16 := by decide +kernel
theorem xd_tab3 : (xd_tab (4 * 3)).toInt = 16 ∧ (xd_tab (4 * 3 + 1)).toInt = 6 ∧ (xd_tab (4 * 3 + 2)).toInt = -6 ∧ (xd_tab (4 * 3 + 3)).toInt = -17 := by decide +kernel
theorem xd_tab4 : (xd_tab (4 * 4)).toInt = 18 ∧ (xd_tab (4 * 4 + 1)).toInt = 6 ∧ (xd_tab (4 * 4 + 2)).toInt = -6 ∧ (xd_tab (4 * 4 + 3)).toInt = -19 := by decide +kernel
theorem xd_tab5 : (xd_tab (4 * 5)).toInt = 20 ∧ (xd_tab (4 * 5 + 1)).toInt = 7 ∧ (xd_tab (4 * 5 + 2)).toInt = -7 ∧ (xd_tab (4 * 5 + 3)).toInt = -20 := by decide +kernel
theorem xd_tab6 : (xd_tab (4 * 6)).toInt = 21 ∧ (xd_tab (4 * 6 + 1)).toInt = 7 ∧ (xd_tab (4 * 6 + 2)).toInt = -7 ∧ (xd_tab (4 * 6 + 3)).toInt = -22 := by decide +kernel
theorem xd_tab7 : (xd_tab (4 * 7)).toInt = 23 ∧ (xd_tab (4 * 7 + 1)).toInt = 8 ∧ (xd_tab (4 * 7 + 2)).toInt = -8 ∧ (xd_tab (4 * 7 + 3)).toInt = -24 := by decide +kernel
theorem xd_sel {r : Nat} (hr : r < 8) {D P : Int} {e : Int32} (h1 : 4096 * (8 + (r : Int)) ≤ D) (h2 : D < 4096 * (9 + (r : Int))) (l : -(524288 * D) ≤ 3 * P) (u : 3 * P ≤ 524288 * D) (e1 : 1073741824 * e.toInt ≤ 4 * P) (e2 : 4 * P < 1073741824 * (e.toInt + 2)) : -(524288 * D) ≤ 3 * (4 * P + 262144 * (-(xd_dig xd_tab r e).toInt * D)) ∧ 3 * (4 * P + 262144 * (-(xd_dig xd_tab r e).toInt * D)) ≤ 524288 * D ∧ -2 ≤ (xd_dig xd_tab r e).toInt ∧ (xd_dig xd_tab r e).toInt ≤ 2 := by
  unfold xd_dig
  have hr : r = 0 ∨ r = 1 ∨ r = 2 ∨ r = 3 ∨ r = 4 ∨ r = 5 ∨ r = 6 ∨ r = 7 := by omega
  rcases hr with rfl | rfl | rfl | rfl | rfl | rfl | rfl | rfl
  · obtain ⟨t0, t1, t2, t3⟩ := xd_tab0
    refine xd_sel0 (by omega) (by omega) l u e1 e2 ?_
    rw [xd_dI, t0, t1, t2, t3]
  · obtain ⟨t0, t1, t2, t3⟩ := xd_tab1
    refine xd_sel1 (by omega) (by omega) l u e1 e2 ?_
    rw [xd_dI, t0, t1, t2, t3]
  · obtain ⟨t0, t1, t2, t3⟩ := xd_tab2
    refine xd_sel2 (by omega) (by omega) l u e1 e2 ?_
    rw [xd_dI, t0, t1, t2, t3]
  · obtain ⟨t0, t1, t2, t3⟩ := xd_tab3
    refine xd_sel3 (by omega) (by omega) l u e1 e2 ?_
    rw [xd_dI, t0, t1, t2, t3]
  · obtain ⟨t0, t1, t2, t3⟩ := xd_tab4
    refine xd_sel4 (by omega) (by omega) l u e1 e2 ?_
    rw [xd_dI, t0, t1, t2, t3]
  · obtain ⟨t0, t1, t2, t3⟩ := xd_tab5
    refine xd_sel5 (by omega) (by omega) l u e1 e2 ?_
    rw [xd_dI, t0, t1, t2, t3]
  · obtain ⟨t0, t1, t2, t3⟩ := xd_tab6
    refine xd_sel6 (by omega) (by omega) l u e1 e2 ?_
    rw [xd_dI, t0, t1, t2, t3]
  · obtain ⟨t0, t1, t2, t3⟩ := xd_tab7
    refine xd_sel7 (by omega) (by omega) l u e1 e2 ?_
    rw [xd_dI, t0, t1, t2, t3]
end XDB
end
section
section XDC
theorem xd_ad {a b : Int32} (l : -2147483648 ≤ a.toInt + b.toInt) (u : a.toInt + b.toInt < 2147483648) : (a + b).toInt = a.toInt + b.toInt := by
  rw [Int32.toInt_add]
  exact Int.bmod_eq_of_le (by omega) (by omega)
theorem xd_sb {a b : Int32} (l : -2147483648 ≤ a.toInt - b.toInt) (u : a.toInt - b.toInt < 2147483648) : (a - b).toInt = a.toInt - b.toInt := by
  rw [Int32.toInt_sub]
  exact Int.bmod_eq_of_le (by omega) (by omega)
theorem xd_ml {a b : Int32} (l : -2147483648 ≤ a.toInt * b.toInt) (u : a.toInt * b.toInt < 2147483648) : (a * b).toInt = a.toInt * b.toInt := by
  rw [Int32.toInt_mul]
  generalize a.toInt * b.toInt = z at l u ⊢
  exact Int.bmod_eq_of_le (by omega) (by omega)
theorem xd_ng {a : Int32} (l : -2147483647 ≤ a.toInt) : (-a).toInt = -a.toInt := by
  have := Int32.toInt_lt a
  rw [Int32.toInt_neg]
  exact Int.bmod_eq_of_le (by omega) (by omega)
theorem xd_qq {qp qm d : Int32} {Q q : Int} (hp : qp.toInt = Q) (hm : qm.toInt = Q - 1) (hd : d.toInt = q) (a1 : -300000 ≤ Q) (a2 : Q ≤ 300000) (b1 : -2 ≤ q) (b2 : q ≤ 2) : (4 * qp + d).toInt = 4 * Q + q ∧ (4 * qm + 4 + d).toInt = 4 * Q + q ∧ (4 * qp + d - 1).toInt = 4 * Q + q - 1 ∧ (4 * qm + 3 + d).toInt = 4 * Q + q - 1 := by
  have f4 : (4 : Int32).toInt = 4 := by decide
  have f3 : (3 : Int32).toInt = 3 := by decide
  have f1 : (1 : Int32).toInt = 1 := by decide
  have m1 : (4 * qp).toInt = 4 * Q := by rw [xd_ml (by rw [f4, hp]; omega) (by rw [f4, hp]; omega), f4, hp]
  have m2 : (4 * qm).toInt = 4 * (Q - 1) := by rw [xd_ml (by rw [f4, hm]; omega) (by rw [f4, hm]; omega), f4, hm]
  have p1 : (4 * qp + d).toInt = 4 * Q + q := by rw [xd_ad (by rw [m1, hd]; omega) (by rw [m1, hd]; omega), m1, hd]
  have p2 : (4 * qm + 4).toInt = 4 * (Q - 1) + 4 := by rw [xd_ad (by rw [m2, f4]; omega) (by rw [m2, f4]; omega), m2, f4]
  have p3 : (4 * qm + 3).toInt = 4 * (Q - 1) + 3 := by rw [xd_ad (by rw [m2, f3]; omega) (by rw [m2, f3]; omega), m2, f3]
  refine ⟨p1, ?_, ?_, ?_⟩
  · rw [xd_ad (by rw [p2, hd]; omega) (by rw [p2, hd]; omega), p2, hd]; omega
  · rw [xd_sb (by rw [p1, f1]; omega) (by rw [p1, f1]; omega), p1, f1]
  · rw [xd_ad (by rw [p3, hd]; omega) (by rw [p3, hd]; omega), p3, hd]; omega
theorem xd_qD {q D : Int} (b1 : -2 ≤ q) (b2 : q ≤ 2) (h0 : 0 ≤ D) (h1 : D < 65536) : -131072 ≤ -q * D ∧ -q * D ≤ 131072 := by
  have h : q = -2 ∨ q = -1 ∨ q = 0 ∨ q = 1 ∨ q = 2 := by omega
  rcases h with rfl | rfl | rfl | rfl | rfl <;> omega
/-- after j cycles: the two words stand for 4^j N - QP D 2^18, within two thirds of D -/
def xd_It (N D j : Nat) (S C : Int64) (qp qm : Int32) : Prop :=
  ∃ P Q : Int, (S + C).toInt = P ∧ qp.toInt = Q ∧ qm.toInt = Q - 1 ∧ P = 4 ^ j * (N : Int) - 262144 * (Q * (D : Int)) ∧ -(524288 * (D : Int)) ≤ 3 * P ∧ 3 * P ≤ 524288 * (D : Int) ∧ -(4 ^ j : Int) < Q ∧ Q < 4 ^ j
theorem xd_It0 {N D : Nat} (hN : N ≤ 2147450880) (hD : 32768 ≤ D) : xd_It N D 0 (lN N) 0 0 (-1) := by
  have e : (lN N + 0).toInt = (N : Int) := by
    rw [Int64.add_zero]
    exact lN_toInt (by omega)
  refine ⟨(N : Int), 0, e, by decide, by decide, ?_, ?_, ?_, by decide, by decide⟩
  · rw [Int.pow_zero]; omega
  · omega
  · omega
theorem xd_4 : ∀ j, j < 10 → (4 : Int) ^ j ≤ 262144 ∧ 1 ≤ (4 : Int) ^ j := by decide +kernel
theorem xd_step {N D r j : Nat} {S C : Int64} {qp qm d : Int32} (hr : r < 8) (h1 : 4096 * (8 + r) ≤ D) (h2 : D < 4096 * (9 + r)) (hj : j < 9) (h : xd_It N D j S C qp qm) (hd : d = xd_dig xd_tab r (xd_est S C)) :
    xd_It N D (j + 1) (xd_wS S C d (nI D)) (xd_wC S C d (nI D)) (xd_nP d qp qm) (xd_nM d qp qm) ∧ -2 ≤ d.toInt ∧ d.toInt ≤ 2 := by
  obtain ⟨P, Q, hP, hq, hm, hE, l, u, b1, b2⟩ := h
  have hK := (xd_4 j (by omega)).1
  have E := xd_estI hP (by omega) (by omega)
  obtain ⟨s1, s2, d1, d2⟩ := xd_sel hr (D := (D : Int)) (by omega) (by omega) l u E.1 E.2
  rw [← hd] at s1 s2 d1 d2
  generalize hq' : d.toInt = q at s1 s2 d1 d2
  have qD := xd_qD d1 d2 (D := (D : Int)) (by omega) (by omega)
  have hDI : (nI D).toInt = (D : Int) := nI_toInt (by omega)
  have hn : (-d).toInt = -q := by rw [xd_ng (by omega), hq']
  have z : (-d * nI D).toInt = -q * (D : Int) := by
    rw [xd_ml (by rw [hn, hDI]; omega) (by rw [hn, hDI]; omega), hn, hDI]
  have G : ((-d * nI D).toInt64 <<< ((18 : Int32).toInt64 &&& 63)).toInt = 262144 * (-q * (D : Int)) := by
    rw [xd_shlI (by rw [Int32.toInt_toInt64, z]; omega) (by rw [Int32.toInt_toInt64, z]; omega), Int32.toInt_toInt64, z]
  have Y := xd_next hP G (by omega) (by omega)
  obtain ⟨q1, q2, q3, q4⟩ := xd_qq hq hm hq' (by omega) (by omega) d1 d2
  refine ⟨⟨4 * P + 262144 * (-q * (D : Int)), 4 * Q + q, Y, ?_, ?_, ?_, s1, s2, ?_, ?_⟩, by omega, by omega⟩
  · unfold xd_nP; split
    · exact q1
    · exact q2
  · unfold xd_nM; split
    · exact q3
    · exact q4
  · have e1 : (4 * Q + q) * (D : Int) = 4 * (Q * (D : Int)) + q * (D : Int) := by rw [Int.add_mul, Int.mul_assoc]
    have e2 : -q * (D : Int) = -(q * (D : Int)) := Int.neg_mul _ _
    have e3 : (4 : Int) ^ (j + 1) * (N : Int) = 4 * (4 ^ j * (N : Int)) := by rw [Int.pow_succ, Int.mul_comm (4 ^ j) 4, Int.mul_assoc]
    rw [hE, e1, e2, e3]
    omega
  · rw [Int.pow_succ]; omega
  · rw [Int.pow_succ]; omega
theorem xd_inj {a : Int32} {n : Nat} (h : a.toInt = (n : Int)) (hn : n < 2 ^ 31) : a = nI n := Int32.toInt_inj.mp (by rw [h, nI_toInt hn])
theorem xd_eu {x v s : Nat} {Q R : Int} (hv : 1 ≤ v) (h : ((x * 2 ^ s : Nat) : Int) = Q * ((v * 2 ^ s : Nat) : Int) + R) (h0 : 0 ≤ R) (h1 : R < ((v * 2 ^ s : Nat) : Int)) : Q = ((x / v : Nat) : Int) ∧ R = ((x % v * 2 ^ s : Nat) : Int) := by
  have hp : 0 < 2 ^ s := Nat.two_pow_pos s
  have hD : 0 < v * 2 ^ s := Nat.mul_pos (by omega) hp
  have hu := (Int.ediv_emod_unique (a := ((x * 2 ^ s : Nat) : Int)) (b := ((v * 2 ^ s : Nat) : Int)) (r := R) (q := Q) (by omega)).mpr ⟨by rw [h, Int.mul_comm Q, Int.add_comm], h0, h1⟩
  obtain ⟨u1, u2⟩ := hu
  constructor
  · rw [← u1, ← Int.natCast_ediv, Nat.mul_div_mul_right _ _ hp]
  · rw [← u2, ← Int.natCast_emod, Nat.mul_mod_mul_right]
theorem xd_finA {N D : Nat} {S C p : Int64} {qp qm : Int32} (hD0 : 0 < D) (hD : D < 65536) (h : xd_It N D 9 S C qp qm) (hp : p = S + C) :
    ∃ Q R : Int, (if p < 0 then qm else qp).toInt = Q ∧ (if p < 0 then (p >>> ((18 : Int32).toInt64 &&& 63)).toInt32 + nI D else (p >>> ((18 : Int32).toInt64 &&& 63)).toInt32).toInt = R ∧ (N : Int) = Q * (D : Int) + R ∧ 0 ≤ R ∧ R < (D : Int) := by
  obtain ⟨P, Q, hP, hq, hm, hE, l, u, b1, b2⟩ := h
  rw [← hp] at hP
  have h9 : (4 : Int) ^ 9 = 262144 := by decide
  rw [h9] at hE
  have hT : (Q - 1) * (D : Int) = Q * (D : Int) - (D : Int) := by rw [Int.sub_mul, Int.one_mul]
  have hsc0 : P / 262144 = (N : Int) - Q * (D : Int) := by
    rw [hE]
    generalize Q * (D : Int) = T
    omega
  have hsc : (p >>> ((18 : Int32).toInt64 &&& 63)).toInt32.toInt = P / 262144 := by
    rw [Int64.toInt_toInt32, xd_sar18, hP]
    exact Int.bmod_eq_of_le (by omega) (by omega)
  have hDI : (nI D).toInt = (D : Int) := nI_toInt (by omega)
  have hc : p < 0 ↔ P < 0 := by rw [Int64.lt_iff_toInt_lt, hP]; exact Iff.rfl
  by_cases hn : P < 0
  · rw [if_pos (hc.mpr hn), if_pos (hc.mpr hn)]
    refine ⟨Q - 1, P / 262144 + (D : Int), hm, ?_, ?_, by omega, by omega⟩
    · rw [xd_ad (by rw [hsc, hDI]; omega) (by rw [hsc, hDI]; omega), hsc, hDI]
    · rw [hsc0, hT]
      generalize Q * (D : Int) = T
      omega
  · rw [if_neg (fun z => hn (hc.mp z)), if_neg (fun z => hn (hc.mp z))]
    refine ⟨Q, P / 262144, hq, hsc, ?_, by omega, by omega⟩
    rw [hsc0]
    generalize Q * (D : Int) = T
    omega
theorem xd_fin {x v s : Nat} {S C p : Int64} {qp qm : Int32} (hx : x ≤ 65535) (hv : 1 ≤ v) (hs : s ≤ 15) (hD : v * 2 ^ s < 65536) (h : xd_It (x * 2 ^ s) (v * 2 ^ s) 9 S C qp qm) (hp : p = S + C) :
    (if p < 0 then qm else qp) = nI (x / v) ∧ (if p < 0 then (p >>> ((18 : Int32).toInt64 &&& 63)).toInt32 + nI (v * 2 ^ s) else (p >>> ((18 : Int32).toInt64 &&& 63)).toInt32) >>> (nI s &&& 31) = nI (x % v) := by
  have hps : 0 < 2 ^ s := Nat.two_pow_pos s
  obtain ⟨Q, R, hQ, hR, hN, h0, h1⟩ := xd_finA (Nat.mul_pos hv hps) hD h hp
  obtain ⟨w1, w2⟩ := xd_eu hv hN h0 h1
  have hK : x / v ≤ x := Nat.div_le_self _ _
  have hr2 : x % v * 2 ^ s < v * 2 ^ s := Nat.mul_lt_mul_of_pos_right (Nat.mod_lt _ hv) hps
  have hr3 : x % v * 2 ^ s < 2 ^ 31 := Nat.lt_trans (Nat.lt_trans hr2 hD) (by decide)
  refine ⟨xd_inj (hQ.trans w1) (by omega), ?_⟩
  rw [xd_inj (hR.trans w2) hr3, pk_shrN hr3 _ s (sd_sl s (by omega)), Nat.mul_div_cancel _ hps]
end XDC
end
section
section SDX
variable {cap pc dv ph cx x w s d ro qp qm fq fr : Int32} {sm ca : Int64} {tb dg es qa qb ax av aq ar : Nat → Int32} {pr : Nat → Int64}
/-! the component, method by method -/
theorem xa_shL {post : Int32 → Prop} {v k : Nat} (hk : k ≤ 15) (h1 : 32768 ≤ v * 2 ^ k) (h2 : v * 2 ^ k < 65536) (hm : ∀ t, t < k → v * 2 ^ t < 32768) (hp : post (nI k)) : ∀ (m p n : Nat), p + m = k → m < n → wX_shiftToNormalise_2 post (nI v) n (nI p) := by
  intro m
  induction m with
  | zero =>
    intro p n hpk hn
    obtain ⟨n, rfl⟩ : ∃ n', n = n' + 1 := ⟨n - 1, by omega⟩
    have e : p = k := by omega
    subst e
    refine pk_le 15 p (fun _ => hp) (fun z => br_t ?_ hp)
    rw [sd_shl (by omega) (by omega)]
    exact nI_le h1 (by omega)
  | succ m ih =>
    intro p n hpk hn
    obtain ⟨n, rfl⟩ : ∃ n', n = n' + 1 := ⟨n - 1, by omega⟩
    have h3 := hm p (by omega)
    refine pk_le 15 p (fun z => absurd z (by omega)) (fun z => br_f ?_ (nm_r (nI_1 p) (ih (p + 1) n (by omega) (by omega))))
    rw [sd_shl (by omega) (by omega)]
    exact nI_ge (b := 32768) h3 (by decide)
theorem xa_shift {post : Int32 → Prop} {v k : Nat} (hk : k ≤ 15) (h1 : 32768 ≤ v * 2 ^ k) (h2 : v * 2 ^ k < 65536) (hm : ∀ t, t < k → v * 2 ^ t < 32768) (hp : post (nI k)) : wpX_shiftToNormalise post () (nI v) :=
  ⟨k + 1, xa_shL hk h1 h2 hm hp k 0 (k + 1) (by omega) (by omega)⟩
theorem xa_rec {post : St2 → Prop} {j : Nat} {t : Int64} (hj : j < 10) (ht : sm + ca = t) (hp : post (cap, pc, dv, ph, cx, x, w, s, d, ro, sm, ca, qp, qm, fq, fr, tb, dg, es, upd qa j qp, upd qb j qm, vp_updL pr j t, ax, av, aq, ar)) : wpX_recordRegisters post (cap, pc, dv, ph, cx, x, w, s, d, ro, sm, ca, qp, qm, fq, fr, tb, dg, es, qa, qb, pr, ax, av, aq, ar) (nI j) :=
  ⟨vp_in_nI hj (by decide), nm_r (by rw [nI_clamp (by omega)]) ⟨vp_in_nI hj (by decide), nm_r (by rw [nI_clamp (by omega)]) ⟨vp_in_nI hj (by decide), nm_r (by rw [nI_clamp (by omega), ht]) hp⟩⟩⟩
theorem xa_begin {post : St2 → Prop} {b k : Nat} (hk : k ≤ 15) (h1 : 32768 ≤ b * 2 ^ k) (h2 : b * 2 ^ k < 65536) (hm : ∀ t, t < k → b * 2 ^ t < 32768)
    (hp : post (cap, pc, dv, 2, 0, x, nI b, nI k, nI (b * 2 ^ k), nI (b * 2 ^ k / 4096 - 8), x.toInt64 <<< ((nI k).toInt64 &&& 63), 0, 0, -1, fq, fr, tb, dg, es, upd qa 0 0, upd qb 0 (-1), vp_updL pr 0 (x.toInt64 <<< ((nI k).toInt64 &&& 63)), ax, av, aq, ar)) : wpX_beginDivision post (cap, pc, dv, ph, cx, x, nI b, s, d, ro, sm, ca, qp, qm, fq, fr, tb, dg, es, qa, qb, pr, ax, av, aq, ar) := by
  unfold wpX_beginDivision
  refine xa_shift hk h1 h2 hm (nm_r (sd_shl (by omega) (by omega)) (nm_r (sd_row h1 h2) (nm_e ?_)))
  exact xa_rec (j := 0) (by decide) (Int64.add_zero _) hp
theorem xa_est {post : Int32 → Prop} {S C : Int64} (hp : post (xd_est S C)) : wpX_truncatedEstimate post () (S <<< ((2 : Int32).toInt64 &&& 63)) (C <<< ((2 : Int32).toInt64 &&& 63)) := by
  unfold xd_est at hp
  refine nm_e (nm_e (br_c (fun h => ?_) (fun h => ?_)))
  · rw [if_neg (Int32.not_le.mpr h)] at hp
    exact hp
  · rw [if_pos (Int32.not_lt.mp h)] at hp
    exact hp
theorem sd_g0 : ∀ r, r < 8 → nI r * 4 + 2 - 2 = nI (4 * r + 0) := by decide +kernel
theorem sd_g1 : ∀ r, r < 8 → nI r * 4 + 2 - 1 = nI (4 * r + 1) := by decide +kernel
theorem sd_g2 : ∀ r, r < 8 → nI r * 4 + 2 - 0 = nI (4 * r + 2) := by decide +kernel
theorem sd_g3 : ∀ r, r < 8 → nI r * 4 + 2 - (-1) = nI (4 * r + 3) := by decide +kernel
theorem xa_te {post : Int32 → Prop} {r i : Nat} {g : Int32} (hr : r < 8) (hi : i < 4) (hg : nI r * 4 + 2 - g = nI (4 * r + i)) (hp : post (tb (4 * r + i))) : wpX_tableEntry post (cap, pc, dv, ph, cx, x, w, s, d, ro, sm, ca, qp, qm, fq, fr, tb, dg, es, qa, qb, pr, ax, av, aq, ar) (nI r) g := by
  show vp_in (nI r * 4 + 2 - g) 32 ∧ post (tb (nI r * 4 + 2 - g).toNatClampNeg)
  rw [hg, nI_clamp (by omega)]
  exact ⟨vp_in_nI (by omega) (by decide), hp⟩
theorem xa_choose {post : Int32 → Prop} {r : Nat} {e : Int32} (hr : r < 8) (hp : post (xd_dig tb r e)) : wpX_chooseDigit post (cap, pc, dv, ph, cx, x, w, s, d, nI r, sm, ca, qp, qm, fq, fr, tb, dg, es, qa, qb, pr, ax, av, aq, ar) e := by
  unfold xd_dig at hp
  refine ⟨6, br_f (by decide) (xa_te hr (i := 0) (by decide) (sd_g0 r hr) (br_c (fun h => ?_) (fun h => ?_)))⟩
  rotate_left
  · rw [if_pos (show tb (4 * r) ≤ e from Int32.not_lt.mp h)] at hp
    exact hp
  rw [if_neg (show ¬ tb (4 * r) ≤ e from Int32.not_le.mpr h)] at hp
  refine nm_r (e' := 1) (by decide) (br_f (by decide) (xa_te hr (i := 1) (by decide) (sd_g1 r hr) (br_c (fun h => ?_) (fun h => ?_))))
  rotate_left
  · rw [if_pos (show tb (4 * r + 1) ≤ e from Int32.not_lt.mp h)] at hp
    exact hp
  rw [if_neg (show ¬ tb (4 * r + 1) ≤ e from Int32.not_le.mpr h)] at hp
  refine nm_r (e' := 0) (by decide) (br_f (by decide) (xa_te hr (i := 2) (by decide) (sd_g2 r hr) (br_c (fun h => ?_) (fun h => ?_))))
  rotate_left
  · rw [if_pos (show tb (4 * r + 2) ≤ e from Int32.not_lt.mp h)] at hp
    exact hp
  rw [if_neg (show ¬ tb (4 * r + 2) ≤ e from Int32.not_le.mpr h)] at hp
  refine nm_r (e' := -1) (by decide) (br_f (by decide) (xa_te hr (i := 3) (by decide) (sd_g3 r hr) (br_c (fun h => ?_) (fun h => ?_))))
  rotate_left
  · rw [if_pos (show tb (4 * r + 3) ≤ e from Int32.not_lt.mp h)] at hp
    exact hp
  rw [if_neg (show ¬ tb (4 * r + 3) ≤ e from Int32.not_le.mpr h)] at hp
  exact nm_r (e' := -2) (by decide) (br_t (by decide) hp)
theorem xa_add {post : St2 → Prop} {S C : Int64} {g : Int32} (hp : post (cap, pc, dv, ph, cx, x, w, s, d, ro, xd_wS S C g d, xd_wC S C g d, qp, qm, fq, fr, tb, dg, es, qa, qb, pr, ax, av, aq, ar)) : wpX_addMultiple post (cap, pc, dv, ph, cx, x, w, s, d, ro, sm, ca, qp, qm, fq, fr, tb, dg, es, qa, qb, pr, ax, av, aq, ar) (S <<< ((2 : Int32).toInt64 &&& 63)) (C <<< ((2 : Int32).toInt64 &&& 63)) g := nm_e (nm_e (nm_e hp))
theorem xa_app {post : St2 → Prop} {g : Int32} (hp : post (cap, pc, dv, ph, cx, x, w, s, d, ro, sm, ca, xd_nP g qp qm, xd_nM g qp qm, fq, fr, tb, dg, es, qa, qb, pr, ax, av, aq, ar)) : wpX_appendDigit post (cap, pc, dv, ph, cx, x, w, s, d, ro, sm, ca, qp, qm, fq, fr, tb, dg, es, qa, qb, pr, ax, av, aq, ar) g := by
  unfold xd_nP xd_nM at hp
  refine br_c (fun h => ?_) (fun h => ?_)
  · rw [if_neg (show ¬ (0 : Int32) ≤ g from Int32.not_le.mpr h)] at hp
    refine br_c (fun h2 => ?_) (fun h2 => ?_)
    · rw [if_neg (show ¬ (0 : Int32) < g from Int32.not_lt.mpr h2)] at hp
      exact hp
    · rw [if_pos (show (0 : Int32) < g from Int32.not_le.mp h2)] at hp
      exact hp
  · rw [if_pos (show (0 : Int32) ≤ g from Int32.not_lt.mp h)] at hp
    refine br_c (fun h2 => ?_) (fun h2 => ?_)
    · rw [if_neg (show ¬ (0 : Int32) < g from Int32.not_lt.mpr h2)] at hp
      exact hp
    · rw [if_pos (show (0 : Int32) < g from Int32.not_le.mp h2)] at hp
      exact hp
theorem xa_iter {post : St2 → Prop} {r j : Nat} {E G P M : Int32} {S C T : Int64} (hr : r < 8) (hj : j < 10) (hE : xd_est sm ca = E) (hG : xd_dig tb r E = G) (hS : xd_wS sm ca G d = S) (hC : xd_wC sm ca G d = C) (hP : xd_nP G qp qm = P) (hM : xd_nM G qp qm = M) (hT : S + C = T)
    (hp : post (cap, pc, dv, ph, cx, x, w, s, d, nI r, S, C, P, M, fq, fr, tb, upd dg j G, upd es j E, upd qa j P, upd qb j M, vp_updL pr j T, ax, av, aq, ar)) : wpX_iterate post (cap, pc, dv, ph, cx, x, w, s, d, nI r, sm, ca, qp, qm, fq, fr, tb, dg, es, qa, qb, pr, ax, av, aq, ar) (nI j) := by
  subst hE hG hS hC hP hM
  refine nm_e (nm_e (xa_est ?_))
  refine xa_choose hr ?_
  refine xa_add ?_
  refine xa_app ?_
  refine ⟨vp_in_nI hj (by decide), nm_r (e' := upd es j (xd_est sm ca)) (by rw [nI_clamp (by omega)]) ⟨vp_in_nI hj (by decide), nm_r (e' := upd dg j (xd_dig tb r (xd_est sm ca))) (by rw [nI_clamp (by omega)]) ?_⟩⟩
  exact xa_rec hj hT hp
/-! the history -/
def sd_pc (c m : Nat) : Nat := if c ≤ m then m else m + 1
theorem sd_in1 {k : Nat} (h : k < 16) : vp_in (nI (k + 1) - 1) 16 := by
  rw [nI_pred]
  exact vp_in_nI h (by decide)
theorem sd_shN {f : Nat → Int32} {k e : Nat} (h : k + 1 ≤ e) (hk : k + 1 < 2 ^ 31) : upd (sd_sh f (k + 1) e) (nI (k + 1)).toNatClampNeg (sd_sh f (k + 1) e (nI (k + 1) - 1).toNatClampNeg) = sd_sh f k e := by
  rw [nI_pred, nI_clamp hk, nI_clamp (by omega), sd_sh1, sd_shs h]
theorem xa_pushL {post : St2 → Prop} {c m : Nat} (hc : c ≤ 16) (hm : m ≤ 16) (hp : post (nI c, nI (sd_pc c m), dv, ph, cx, x, w, s, d, ro, sm, ca, qp, qm, fq, fr, tb, dg, es, qa, qb, pr, upd (sd_sh ax 0 15) 0 x, upd (sd_sh av 0 15) 0 w, upd (sd_sh aq 0 15) 0 fq, upd (sd_sh ar 0 15) 0 fr)) :
    ∀ (k n : Nat), k ≤ 15 → k < n → wX_pushHistory_3 post (nI c) (nI m) dv ph cx x w s d ro sm ca qp qm fq fr n (nI k) tb dg es qa qb pr (sd_sh ax k 15) (sd_sh av k 15) (sd_sh aq k 15) (sd_sh ar k 15) := by
  intro k
  induction k with
  | zero =>
    intro n hk hn
    obtain ⟨n, rfl⟩ : ∃ n', n = n' + 1 := ⟨n - 1, by omega⟩
    refine br_t (by decide) (nm_e (nm_e (nm_e (nm_e ?_))))
    refine pk_le c m (fun z => ?_) (fun z => nm_r (nI_1 m) ?_)
    · have e : sd_pc c m = m := if_pos z
      rw [e] at hp
      exact hp
    · have e : sd_pc c m = m + 1 := if_neg (by omega)
      rw [e] at hp
      exact hp
  | succ k ih =>
    intro n hk hn
    obtain ⟨n, rfl⟩ : ∃ n', n = n' + 1 := ⟨n - 1, by omega⟩
    have i1 : vp_in (nI (k + 1) - 1) 16 := sd_in1 (by omega)
    have i2 : vp_in (nI (k + 1)) 16 := vp_in_nI (by omega) (by decide)
    exact br_f (nI_nle (by omega) (by omega)) ⟨i1, i2, nm_r (sd_shN hk (by omega)) ⟨i1, i2, nm_r (sd_shN hk (by omega)) ⟨i1, i2, nm_r (sd_shN hk (by omega)) ⟨i1, i2, nm_r (sd_shN hk (by omega)) (nm_r (pk_m1 k) (ih n (by omega) (by omega)))⟩⟩⟩⟩
theorem xa_push {post : St2 → Prop} {c m : Nat} (hc : c ≤ 16) (hm : m ≤ 16) (hp : post (nI c, nI (sd_pc c m), dv, ph, cx, x, w, s, d, ro, sm, ca, qp, qm, fq, fr, tb, dg, es, qa, qb, pr, upd (sd_sh ax 0 15) 0 x, upd (sd_sh av 0 15) 0 w, upd (sd_sh aq 0 15) 0 fq, upd (sd_sh ar 0 15) 0 fr)) : wpX_pushHistory post (nI c, nI m, dv, ph, cx, x, w, s, d, ro, sm, ca, qp, qm, fq, fr, tb, dg, es, qa, qb, pr, ax, av, aq, ar) := by
  have h := xa_pushL hc hm hp 15 16 (by decide) (by decide)
  rw [sd_she, sd_she, sd_she, sd_she] at h
  exact ⟨16, h⟩
theorem xa_corr {post : St2 → Prop} {c m : Nat} {F R : Int32} (hc : c ≤ 16) (hm : m ≤ 16) (hF : (if pr 9 < 0 then qm else qp) = F) (hR : (if pr 9 < 0 then (pr 9 >>> ((18 : Int32).toInt64 &&& 63)).toInt32 + d else (pr 9 >>> ((18 : Int32).toInt64 &&& 63)).toInt32) >>> (s &&& 31) = R)
    (hp : post (nI c, nI (sd_pc c m), dv + 1, 3, cx, x, w, s, d, ro, sm, ca, qp, qm, F, R, tb, dg, es, qa, qb, pr, upd (sd_sh ax 0 15) 0 x, upd (sd_sh av 0 15) 0 w, upd (sd_sh aq 0 15) 0 F, upd (sd_sh ar 0 15) 0 R)) : wpX_correct post (nI c, nI m, dv, ph, cx, x, w, s, d, ro, sm, ca, qp, qm, fq, fr, tb, dg, es, qa, qb, pr, ax, av, aq, ar) := by
  refine nm_e (nm_e (br_c (fun h => ?_) (fun h => ?_)))
  · have h' : ¬ pr 9 < 0 := Int64.not_lt.mpr h
    rw [if_neg h'] at hF hR
    subst hF hR
    exact br_t rfl (br_t rfl (nm_e (nm_e (xa_push hc hm hp))))
  · have h' : pr 9 < 0 := Int64.not_le.mp h
    rw [if_pos h'] at hF hR
    subst hF hR
    exact br_f (by decide) (br_f (by decide) (nm_e (nm_e (xa_push hc hm hp))))
/-! the loop of cycles: its end, an iteration, the correction -/
theorem xa_r0 {post : St2 → Prop} {l i n : Nat} (h : l ≤ i) (hi : i < 2 ^ 31) (hp : post (cap, pc, dv, ph, cx, x, w, s, d, ro, sm, ca, qp, qm, fq, fr, tb, dg, es, qa, qb, pr, ax, av, aq, ar)) : wX_runCycles_2 post (nI l) (n + 1) (nI i) cap pc dv ph cx x w s d ro sm ca qp qm fq fr tb dg es qa qb pr ax av aq ar := br_t (nI_le h hi) hp
theorem xa_r1 {post : St2 → Prop} {l i n c r : Nat} {E G P M : Int32} {S C T : Int64} (h : i < l) (hl : l ≤ 10) (hc : c < 9) (hr' : r < 8) (hE : xd_est sm ca = E) (hG : xd_dig tb r E = G) (hS : xd_wS sm ca G d = S) (hC : xd_wC sm ca G d = C) (hP : xd_nP G qp qm = P) (hM : xd_nM G qp qm = M) (hT : S + C = T)
    (hp : wX_runCycles_2 post (nI l) n (nI (i + 1)) cap pc dv ph (nI (c + 1)) x w s d (nI r) S C P M fq fr tb (upd dg (c + 1) G) (upd es (c + 1) E) (upd qa (c + 1) P) (upd qb (c + 1) M) (vp_updL pr (c + 1) T) ax av aq ar) : wX_runCycles_2 post (nI l) (n + 1) (nI i) cap pc dv ph (nI c) x w s d (nI r) sm ca qp qm fq fr tb dg es qa qb pr ax av aq ar := by
  refine br_f (nI_ge h (by omega)) (br_f (nI_ge (b := 9) hc (by decide)) ?_)
  rw [nI_1 c]
  exact xa_iter hr' (by omega) hE hG hS hC hP hM hT (nm_r (nI_1 c) (nm_r (nI_1 i) hp))
theorem xa_r2 {post : St2 → Prop} {l i n c m : Nat} {F R : Int32} (h : i < l) (hl : l ≤ 10) (hc : c ≤ 16) (hm : m ≤ 16) (hF : (if pr 9 < 0 then qm else qp) = F) (hR : (if pr 9 < 0 then (pr 9 >>> ((18 : Int32).toInt64 &&& 63)).toInt32 + d else (pr 9 >>> ((18 : Int32).toInt64 &&& 63)).toInt32) >>> (s &&& 31) = R)
    (hp : wX_runCycles_2 post (nI l) n (nI (i + 1)) (nI c) (nI (sd_pc c m)) (dv + 1) 3 (nI 10) x w s d ro sm ca qp qm F R tb dg es qa qb pr (upd (sd_sh ax 0 15) 0 x) (upd (sd_sh av 0 15) 0 w) (upd (sd_sh aq 0 15) 0 F) (upd (sd_sh ar 0 15) 0 R)) : wX_runCycles_2 post (nI l) (n + 1) (nI i) (nI c) (nI m) dv ph (nI 9) x w s d ro sm ca qp qm fq fr tb dg es qa qb pr ax av aq ar := by
  refine br_f (nI_ge h (by omega)) (br_t (by decide) ?_)
  exact xa_corr hc hm hF hR (nm_r (nI_1 9) (nm_r (nI_1 i) hp))
theorem xa_fr {post : St2 → Prop} {r : Nat} {a b e g : Int32} (hr : r < 8) (hp : post (cap, pc, dv, ph, cx, x, w, s, d, ro, sm, ca, qp, qm, fq, fr, upd (upd (upd (upd tb (4 * r) a) (4 * r + 1) b) (4 * r + 2) e) (4 * r + 3) g, dg, es, qa, qb, pr, ax, av, aq, ar)) : wpX_fillRow post (cap, pc, dv, ph, cx, x, w, s, d, ro, sm, ca, qp, qm, fq, fr, tb, dg, es, qa, qb, pr, ax, av, aq, ar) (nI r) a b e g := by
  have e0 : nI r * 4 = nI (4 * r) := by
    have h : nI r * 4 = nI (r * 4) := pk_mul r 4
    rw [h, Nat.mul_comm]
  have e1 : nI (4 * r) + 1 = nI (4 * r + 1) := nI_1 _
  have e2 : nI (4 * r) + 2 = nI (4 * r + 2) := nI_add _ 2
  have e3 : nI (4 * r) + 3 = nI (4 * r + 3) := nI_add _ 3
  refine nm_r e0 ?_
  rw [e1, e2, e3, nI_clamp (by omega), nI_clamp (by omega), nI_clamp (by omega), nI_clamp (by omega)]
  exact ⟨vp_in_nI (by omega) (by decide), nm_e ⟨vp_in_nI (by omega) (by decide), nm_e ⟨vp_in_nI (by omega) (by decide), nm_e ⟨vp_in_nI (by omega) (by decide), nm_e hp⟩⟩⟩⟩
theorem xa_fill {post : St2 → Prop} (hp : post (cap, pc, dv, ph, cx, x, w, s, d, ro, sm, ca, qp, qm, fq, fr, xd_fill tb, dg, es, qa, qb, pr, ax, av, aq, ar)) : wpX_fillTable post (cap, pc, dv, ph, cx, x, w, s, d, ro, sm, ca, qp, qm, fq, fr, tb, dg, es, qa, qb, pr, ax, av, aq, ar) := by
  unfold wpX_fillTable
  refine xa_fr (r := 0) (by decide) ?_
  refine xa_fr (r := 1) (by decide) ?_
  refine xa_fr (r := 2) (by decide) ?_
  refine xa_fr (r := 3) (by decide) ?_
  refine xa_fr (r := 4) (by decide) ?_
  refine xa_fr (r := 5) (by decide) ?_
  refine xa_fr (r := 6) (by decide) ?_
  refine xa_fr (r := 7) (by decide) ?_
  exact hp
theorem xa_can1 {post : Int32 → Prop} {p q : Int32} (hph : ¬ ph = 2) (h0 : ¬ p < 0) (h1 : ¬ 65535 < p) (h2 : ¬ q < 1) (h3 : ¬ 65535 < q) (hp : post 1) : wpX_canLoad post (cap, pc, dv, ph, cx, x, w, s, d, ro, sm, ca, qp, qm, fq, fr, tb, dg, es, qa, qb, pr, ax, av, aq, ar) p q := br_f hph (br_f h0 (br_f h1 (br_f h2 (br_f h3 hp))))
theorem xa_can0 {post : Int32 → Prop} {p q : Int32} (h : ph = 2 ∨ p < 0 ∨ 65535 < p ∨ q < 1 ∨ 65535 < q) (hp : post 0) : wpX_canLoad post (cap, pc, dv, ph, cx, x, w, s, d, ro, sm, ca, qp, qm, fq, fr, tb, dg, es, qa, qb, pr, ax, av, aq, ar) p q :=
  br_c (fun _ => hp) (fun a => br_c (fun _ => hp) (fun b => br_c (fun _ => hp) (fun c => br_c (fun _ => hp) (fun e => br_c (fun _ => hp) (fun f => by rcases h with h | h | h | h | h <;> contradiction)))))
theorem xa_hold {post : St2 → Prop} {p q : Int32} (hp : post (cap, pc, dv, 1, 0, p, q, s, d, ro, sm, ca, qp, qm, fq, fr, tb, dg, es, qa, qb, pr, ax, av, aq, ar)) : wpX_holdOperands post (cap, pc, dv, ph, cx, x, w, s, d, ro, sm, ca, qp, qm, fq, fr, tb, dg, es, qa, qb, pr, ax, av, aq, ar) p q := hp
theorem xa_is1 {post : Int32 → Prop} {p : Int32} (hph : ph = 2 ∨ ph = 3) (a : ¬ p < 0) (b : ¬ cx < p) (c : ¬ 9 < p) (h1 : post 1) : wpX_isRecorded post (cap, pc, dv, ph, cx, x, w, s, d, ro, sm, ca, qp, qm, fq, fr, tb, dg, es, qa, qb, pr, ax, av, aq, ar) p := by
  unfold wpX_isRecorded
  have R : ((1 : Int32) = 0 → post 0) ∧ (¬ (1 : Int32) = 0 → ((p < 0 → post 0) ∧ (¬ p < 0 → ((cx < p → post 0) ∧ (¬ cx < p → ((9 < p → post 0) ∧ (¬ 9 < p → post 1))))))) := br_f (by decide) (br_f a (br_f b (br_f c h1)))
  exact br_c (fun _ => R) (fun e => br_c (fun _ => R) (fun g => by rcases hph with h | h <;> contradiction))
def sd_O (x w : Int32) : Prop := ∃ a b : Nat, a ≤ 65535 ∧ 1 ≤ b ∧ b ≤ 65535 ∧ x = nI a ∧ w = nI b
theorem sd_Omk {p q : Int32} (h0 : ¬ p < 0) (h1 : ¬ 65535 < p) (h2 : ¬ q < 1) (h3 : ¬ 65535 < q) : sd_O p q := by
  obtain ⟨a, ha, rfl⟩ := nI_of2 (M := 65535) (n := 65535) (by decide) h0 (Int32.not_lt.mp h1)
  have hq : ¬ q < 0 := fun z => h2 (Int32.lt_trans z (by decide))
  obtain ⟨b, hb, rfl⟩ := nI_of2 (M := 65535) (n := 65535) (by decide) hq (Int32.not_lt.mp h3)
  refine ⟨a, b, ha, ?_, hb, rfl, rfl⟩
  apply Nat.le_of_not_lt
  intro z
  have e : b = 0 := by omega
  subst e
  exact h2 (by decide)
end SDX
end
section
section XDP
/-! the picture of a state -/
/-- record k of the history -/
def xd_rc (k : Nat) (ax av aq ar : Nat → Int32) : Prop := ∃ a b : Nat, a ≤ 65535 ∧ 1 ≤ b ∧ b ≤ 65535 ∧ ax k = nI a ∧ av k = nI b ∧ aq k = nI (a / b) ∧ ar k = nI (a % b)
/-- what is recorded of cycle j -/
def xd_cy (D j : Nat) (pr : Nat → Int64) (dg qa qb : Nat → Int32) : Prop := -(524288 * (D : Int)) ≤ 3 * (pr j).toInt ∧ 3 * (pr j).toInt ≤ 524288 * (D : Int) ∧ -300000 ≤ (qa j).toInt ∧ (qa j).toInt ≤ 300000 ∧ (qb j).toInt = (qa j).toInt - 1 ∧ (1 ≤ j → -2 ≤ (dg j).toInt ∧ (dg j).toInt ≤ 2)
/-- the operands, normalised -/
def xd_On (a b t : Nat) (x w s d ro : Int32) : Prop := a ≤ 65535 ∧ 1 ≤ b ∧ b ≤ 65535 ∧ t ≤ 15 ∧ 32768 ≤ b * 2 ^ t ∧ b * 2 ^ t < 65536 ∧ x = nI a ∧ w = nI b ∧ s = nI t ∧ d = nI (b * 2 ^ t) ∧ ro = nI (b * 2 ^ t / 4096 - 8)
/-- the four phases -/
def xd_Ph (ph cx x w s d ro qp qm fq fr : Int32) (sm ca : Int64) (dg qa qb : Nat → Int32) (pr : Nat → Int64) : Prop :=
  (ph = 0 ∧ cx = 0) ∨ (ph = 1 ∧ cx = 0 ∧ sd_O x w) ∨
  (ph = 2 ∧ ∃ a b t j, xd_On a b t x w s d ro ∧ j ≤ 9 ∧ cx = nI j ∧ xd_It (a * 2 ^ t) (b * 2 ^ t) j sm ca qp qm ∧ pr j = sm + ca ∧ ∀ i, i ≤ j → xd_cy (b * 2 ^ t) i pr dg qa qb) ∨
  (ph = 3 ∧ ∃ a b t, xd_On a b t x w s d ro ∧ cx = nI 10 ∧ fq = nI (a / b) ∧ fr = nI (a % b) ∧ ∀ i, i ≤ 9 → xd_cy (b * 2 ^ t) i pr dg qa qb)
def xd_Ok (u : St2) : Prop :=
  ∃ (c n : Nat) (dv ph cx x w s d ro qp qm fq fr : Int32) (sm ca : Int64) (dg es qa qb ax av aq ar : Nat → Int32) (pr : Nat → Int64),
    u = (nI c, nI n, dv, ph, cx, x, w, s, d, ro, sm, ca, qp, qm, fq, fr, xd_tab, dg, es, qa, qb, pr, ax, av, aq, ar) ∧ 1 ≤ c ∧ c ≤ 16 ∧ n ≤ c ∧ (∀ k, k < n → xd_rc k ax av aq ar) ∧ xd_Ph ph cx x w s d ro qp qm fq fr sm ca dg qa qb pr
theorem xd_tup {u : St2} (h : xd_Ok u) : ∃ (cap pc dv ph cx x w s d ro qp qm fq fr : Int32) (sm ca : Int64) (tb dg es qa qb ax av aq ar : Nat → Int32) (pr : Nat → Int64), u = (cap, pc, dv, ph, cx, x, w, s, d, ro, sm, ca, qp, qm, fq, fr, tb, dg, es, qa, qb, pr, ax, av, aq, ar) := by
  obtain ⟨c, n, dv, ph, cx, x, w, s, d, ro, qp, qm, fq, fr, sm, ca, dg, es, qa, qb, ax, av, aq, ar, pr, e, _⟩ := h
  exact ⟨_, _, _, _, _, _, _, _, _, _, _, _, _, _, _, _, _, _, _, _, _, _, _, _, _, _, e⟩
theorem xd_cyI {N D j : Nat} {S C T : Int64} {P M g : Int32} {pr : Nat → Int64} {dg qa qb : Nat → Int32} (h : xd_It N D j S C P M) (hj : j < 10) (hT : S + C = T) (hd : 1 ≤ j → -2 ≤ g.toInt ∧ g.toInt ≤ 2) : xd_cy D j (vp_updL pr j T) (upd dg j g) (upd qa j P) (upd qb j M) := by
  obtain ⟨p, q, hP, hq, hm, hE, l, u, b1, b2⟩ := h
  have hK := (xd_4 j hj).1
  unfold xd_cy
  rw [pk_uLs, pk_us, pk_us, pk_us, ← hT, hP, hq, hm]
  exact ⟨l, u, by omega, by omega, rfl, hd⟩
theorem xd_cyU {D i j : Nat} {T : Int64} {P M g : Int32} {pr : Nat → Int64} {dg qa qb : Nat → Int32} (h : xd_cy D i pr dg qa qb) (hi : i ≠ j) : xd_cy D i (vp_updL pr j T) (upd dg j g) (upd qa j P) (upd qb j M) := by
  unfold xd_cy
  rw [pk_uLn hi, pk_un hi, pk_un hi, pk_un hi]
  exact h
theorem xd_rcP {c n a b : Nat} {ax av aq ar : Nat → Int32} (ha : a ≤ 65535) (hb : 1 ≤ b) (hb2 : b ≤ 65535) (hc : c ≤ 16) (hn : n ≤ c) (h : ∀ k, k < n → xd_rc k ax av aq ar) :
    ∀ k, k < sd_pc c n → xd_rc k (upd (sd_sh ax 0 15) 0 (nI a)) (upd (sd_sh av 0 15) 0 (nI b)) (upd (sd_sh aq 0 15) 0 (nI (a / b))) (upd (sd_sh ar 0 15) 0 (nI (a % b))) := by
  intro k hk
  by_cases z : k = 0
  · subst z
    exact ⟨a, b, ha, hb, hb2, pk_us, pk_us, pk_us, pk_us⟩
  · have hk3 : k ≤ 15 ∧ k - 1 < n := by
      unfold sd_pc at hk
      split at hk <;> omega
    obtain ⟨hk15, hk2⟩ := hk3
    have e : ∀ f : Nat → Int32, ∀ y, upd (sd_sh f 0 15) 0 y k = f (k - 1) := by
      intro f y
      rw [pk_un z]
      exact if_pos (by omega)
    unfold xd_rc
    rw [e, e, e, e]
    exact h (k - 1) hk2
theorem xd_run {c n a b t : Nat} {dv x w s d ro fq fr : Int32} {ax av aq ar : Nat → Int32} (h1 : 1 ≤ c) (hc : c ≤ 16) (hn : n ≤ c) (hR : ∀ k, k < n → xd_rc k ax av aq ar) (hO : xd_On a b t x w s d ro) :
    ∀ (m j i l : Nat) (qp qm : Int32) (sm ca : Int64) (dg es qa qb : Nat → Int32) (pr : Nat → Int64), j + m ≤ 10 → j ≤ 9 → m + i = l → l ≤ 10 → xd_It (a * 2 ^ t) (b * 2 ^ t) j sm ca qp qm → pr j = sm + ca → (∀ i, i ≤ j → xd_cy (b * 2 ^ t) i pr dg qa qb) →
    ∃ u' : St2, xd_Ok u' ∧ ∀ (post : St2 → Prop) (f : Nat), m < f → post u' → wX_runCycles_2 post (nI l) f (nI i) (nI c) (nI n) dv 2 (nI j) x w s d ro sm ca qp qm fq fr xd_tab dg es qa qb pr ax av aq ar := by
  have hO' := hO
  obtain ⟨o1, o2, o3, o4, o5, o6, rfl, rfl, rfl, rfl, rfl⟩ := hO
  have hr8 : b * 2 ^ t / 4096 - 8 < 8 := by omega
  intro m
  induction m with
  | zero =>
    intro j i l qp qm sm ca dg es qa qb pr hj hj9 hl hl10 hI hp hcy
    refine ⟨_, ⟨c, n, dv, 2, nI j, nI a, nI b, nI t, nI (b * 2 ^ t), nI (b * 2 ^ t / 4096 - 8), qp, qm, fq, fr, sm, ca, dg, es, qa, qb, ax, av, aq, ar, pr, rfl, h1, hc, hn, hR, Or.inr (Or.inr (Or.inl ⟨rfl, a, b, t, j, hO', hj9, rfl, hI, hp, hcy⟩))⟩, ?_⟩
    intro post f hf hq
    obtain ⟨f, rfl⟩ : ∃ f', f = f' + 1 := ⟨f - 1, by omega⟩
    exact xa_r0 (by omega) (by omega) hq
  | succ m ih =>
    intro j i l qp qm sm ca dg es qa qb pr hj hj9 hl hl10 hI hp hcy
    by_cases h9 : j < 9
    · obtain ⟨hI', d1, d2⟩ := xd_step (r := b * 2 ^ t / 4096 - 8) hr8 (by omega) (by omega) h9 hI rfl
      obtain ⟨u', R, HX⟩ := ih (j + 1) (i + 1) l _ _ _ _ (upd dg (j + 1) (xd_dig xd_tab (b * 2 ^ t / 4096 - 8) (xd_est sm ca))) (upd es (j + 1) (xd_est sm ca)) (upd qa (j + 1) (xd_nP (xd_dig xd_tab (b * 2 ^ t / 4096 - 8) (xd_est sm ca)) qp qm)) (upd qb (j + 1) (xd_nM (xd_dig xd_tab (b * 2 ^ t / 4096 - 8) (xd_est sm ca)) qp qm)) (vp_updL pr (j + 1) (xd_wS sm ca (xd_dig xd_tab (b * 2 ^ t / 4096 - 8) (xd_est sm ca)) (nI (b * 2 ^ t)) + xd_wC sm ca (xd_dig xd_tab (b * 2 ^ t / 4096 - 8) (xd_est sm ca)) (nI (b * 2 ^ t)))) (by omega) (by omega) (by omega) hl10 hI' pk_uLs (fun i' hi' => by
        by_cases e : i' = j + 1
        · subst e
          exact xd_cyI hI' (by omega) rfl (fun _ => ⟨d1, d2⟩)
        · exact xd_cyU (hcy i' (by omega)) e)
      refine ⟨u', R, ?_⟩
      intro post f hf hq
      obtain ⟨f, rfl⟩ : ∃ f', f = f' + 1 := ⟨f - 1, by omega⟩
      exact xa_r1 (by omega) hl10 h9 hr8 rfl rfl rfl rfl rfl rfl rfl (HX post f (by omega) hq)
    · have e9 : j = 9 := by omega
      have e0 : m = 0 := by omega
      subst e9 e0
      obtain ⟨hF, hG⟩ := xd_fin o1 o2 o4 o6 hI hp
      refine ⟨_, ⟨c, sd_pc c n, dv + 1, 3, nI 10, nI a, nI b, nI t, nI (b * 2 ^ t), nI (b * 2 ^ t / 4096 - 8), qp, qm, nI (a / b), nI (a % b), sm, ca, dg, es, qa, qb, upd (sd_sh ax 0 15) 0 (nI a), upd (sd_sh av 0 15) 0 (nI b), upd (sd_sh aq 0 15) 0 (nI (a / b)), upd (sd_sh ar 0 15) 0 (nI (a % b)), pr, rfl, h1, hc, by unfold sd_pc; split <;> omega, xd_rcP o1 o2 o3 hc hn hR, Or.inr (Or.inr (Or.inr ⟨rfl, a, b, t, hO', rfl, rfl, rfl, hcy⟩))⟩, ?_⟩
      intro post f hf hq
      obtain ⟨f, rfl⟩ : ∃ f', f = f' + 1 := ⟨f - 1, by omega⟩
      obtain ⟨f, rfl⟩ : ∃ f', f = f' + 1 := ⟨f - 1, by omega⟩
      exact xa_r2 (by omega) hl10 hc (by omega) hF hG (xa_r0 (by omega) (by omega) hq)
end XDP
end
section
section XDQ
/-! the calls that change the state: from a good state to a good state -/
theorem xd_load {post : Int32 → St2 → Prop} {u : St2} {p q : Int32} (h : xd_Ok u) (H : ∀ r u', xd_Ok u' → post r u') : wpX_load post u p q := by
  have J := h
  obtain ⟨c, n, dv, ph, cx, x, w, s, d, ro, qp, qm, fq, fr, sm, ca, dg, es, qa, qb, ax, av, aq, ar, pr, rfl, h1, hc, hn, hR, hP⟩ := h
  unfold wpX_load
  by_cases hok : ph = 2 ∨ p < 0 ∨ 65535 < p ∨ q < 1 ∨ 65535 < q
  · exact xa_can0 hok (br_t rfl (H 0 _ J))
  · simp only [not_or] at hok
    obtain ⟨a0, a1, a2, a3, a4⟩ := hok
    exact xa_can1 a0 a1 a2 a3 a4 (br_f (by decide) (xa_hold (H 1 _ ⟨c, n, dv, 1, 0, p, q, s, d, ro, qp, qm, fq, fr, sm, ca, dg, es, qa, qb, ax, av, aq, ar, pr, rfl, h1, hc, hn, hR, Or.inr (Or.inl ⟨rfl, rfl, sd_Omk a1 a2 a3 a4⟩)⟩)))
theorem xd_bt {a t : Nat} (ha : a ≤ 65535) (ht : t ≤ 15) : (nI a).toInt64 <<< ((nI t).toInt64 &&& 63) = lN (a * 2 ^ t) ∧ a * 2 ^ t ≤ 2147450880 := by
  constructor
  · rw [nI_l (by omega), wb_shl a (by omega)]
  · have h1 : 2 ^ t ≤ 2 ^ 15 := Nat.pow_le_pow_right (by decide) ht
    calc a * 2 ^ t ≤ 65535 * 2 ^ 15 := Nat.mul_le_mul ha h1
      _ ≤ 2147450880 := by decide
theorem xd_cy0 {N D : Nat} {T : Int64} {pr : Nat → Int64} {dg qa qb : Nat → Int32} (h : xd_It N D 0 T 0 0 (-1)) : ∀ i, i ≤ 0 → xd_cy D i (vp_updL pr 0 T) dg (upd qa 0 0) (upd qb 0 (-1)) := by
  intro i hi
  have e : i = 0 := by omega
  subst e
  obtain ⟨p, q, hP, hq, hm, hE, l, u, b1, b2⟩ := h
  rw [Int64.add_zero] at hP
  unfold xd_cy
  rw [pk_uLs, pk_us, pk_us, hP]
  exact ⟨l, u, by decide, by decide, by decide, fun z => absurd z (by omega)⟩
theorem xd_begin {post : St2 → Prop} {c n a b : Nat} {dv ph cx s d ro qp qm fq fr : Int32} {sm ca : Int64} {dg es qa qb ax av aq ar : Nat → Int32} {pr : Nat → Int64} (h1 : 1 ≤ c) (hc : c ≤ 16) (hn : n ≤ c) (hR : ∀ k, k < n → xd_rc k ax av aq ar) (ha : a ≤ 65535) (hb : 1 ≤ b) (hb2 : b ≤ 65535)
    (H : ∀ (t : Nat), xd_On a b t (nI a) (nI b) (nI t) (nI (b * 2 ^ t)) (nI (b * 2 ^ t / 4096 - 8)) → xd_It (a * 2 ^ t) (b * 2 ^ t) 0 (lN (a * 2 ^ t)) 0 0 (-1) →
      post (nI c, nI n, dv, 2, 0, nI a, nI b, nI t, nI (b * 2 ^ t), nI (b * 2 ^ t / 4096 - 8), lN (a * 2 ^ t), 0, 0, -1, fq, fr, xd_tab, dg, es, upd qa 0 0, upd qb 0 (-1), vp_updL pr 0 (lN (a * 2 ^ t)), ax, av, aq, ar)) :
    wpX_beginDivision post (nI c, nI n, dv, ph, cx, nI a, nI b, s, d, ro, sm, ca, qp, qm, fq, fr, xd_tab, dg, es, qa, qb, pr, ax, av, aq, ar) := by
  obtain ⟨t, ht, t1, t2, tm⟩ := sd_norm hb hb2
  obtain ⟨e, hN⟩ := xd_bt ha ht
  have K := H t ⟨ha, hb, hb2, ht, t1, t2, rfl, rfl, rfl, rfl, rfl⟩ (xd_It0 hN t1)
  rw [← e] at K
  exact xa_begin ht t1 t2 tm K
theorem xd_start {post : Int32 → St2 → Prop} {u : St2} (h : xd_Ok u) (H : ∀ r u', xd_Ok u' → post r u') : wpX_start post u := by
  have J := h
  obtain ⟨c, n, dv, ph, cx, x, w, s, d, ro, qp, qm, fq, fr, sm, ca, dg, es, qa, qb, ax, av, aq, ar, pr, rfl, h1, hc, hn, hR, hP⟩ := h
  rcases hP with ⟨rfl, rfl⟩ | ⟨rfl, rfl, a, b, ha, hb, hb2, rfl, rfl⟩ | ⟨rfl, hT⟩ | ⟨rfl, hT⟩
  · exact br_f (by decide) (H 0 _ J)
  · refine br_t rfl (xd_begin h1 hc hn hR ha hb hb2 (fun t hO hI => H 1 _ ?_))
    exact ⟨c, n, dv, 2, 0, nI a, nI b, nI t, nI (b * 2 ^ t), nI (b * 2 ^ t / 4096 - 8), 0, -1, fq, fr, lN (a * 2 ^ t), 0, dg, es, upd qa 0 0, upd qb 0 (-1), ax, av, aq, ar, vp_updL pr 0 (lN (a * 2 ^ t)), rfl, h1, hc, hn, hR, Or.inr (Or.inr (Or.inl ⟨rfl, a, b, t, 0, hO, by omega, rfl, hI, by rw [pk_uLs, Int64.add_zero], xd_cy0 hI⟩))⟩
  · exact br_f (by decide) (H 0 _ J)
  · exact br_f (by decide) (H 0 _ J)
theorem xd_stp {post : Int32 → St2 → Prop} {u : St2} {p : Int32} (h : xd_Ok u) (H : ∀ r u', xd_Ok u' → post r u') : wpX_step post u p := by
  have J := h
  obtain ⟨c, n, dv, ph, cx, x, w, s, d, ro, qp, qm, fq, fr, sm, ca, dg, es, qa, qb, ax, av, aq, ar, pr, rfl, h1, hc, hn, hR, hP⟩ := h
  rcases hP with ⟨rfl, rfl⟩ | ⟨rfl, rfl, hO⟩ | ⟨rfl, a, b, t, j, hO, hj, rfl, hI, hpr, hcy⟩ | ⟨rfl, hT⟩
  · exact br_f (by decide) (H 0 _ J)
  · exact br_f (by decide) (H 0 _ J)
  · by_cases hv : (1 : Int32) ≤ p
    · have hv0 : ¬ p < 0 := fun z => absurd (Int32.lt_of_le_of_lt hv z) (by decide)
      obtain ⟨q, hq, rfl⟩ := nI_of hv0
      have e10 : (10 : Int32) - nI j = nI (10 - j) := pk_sub (a := 10) (by omega)
      have L := fun (m : Nat) (hm : j + m ≤ 10) => xd_run (dv := dv) (fq := fq) (fr := fr) h1 hc hn hR hO m j 0 m qp qm sm ca dg es qa qb pr hm hj rfl (by omega) hI hpr hcy
      refine br_t rfl (br_t hv (nm_r e10 (pk_le (10 - j) q (fun z => ?_) (fun z => ?_))))
      · obtain ⟨u', R, HX⟩ := L (10 - j) (by omega)
        obtain ⟨_, _, _, _, _, _, _, _, _, _, _, _, _, _, _, _, _, _, _, _, _, _, _, _, _, _, rfl⟩ := xd_tup R
        exact ⟨_, HX _ _ (Nat.lt_succ_self _) (H _ _ R)⟩
      · obtain ⟨u', R, HX⟩ := L q (by omega)
        obtain ⟨_, _, _, _, _, _, _, _, _, _, _, _, _, _, _, _, _, _, _, _, _, _, _, _, _, _, rfl⟩ := xd_tup R
        exact ⟨_, HX _ _ (Nat.lt_succ_self _) (H _ _ R)⟩
    · exact br_t rfl (br_f hv (H 0 _ J))
  · exact br_f (by decide) (H 0 _ J)
theorem xd_div {post : Int32 → St2 → Prop} {u : St2} {p q : Int32} (h : xd_Ok u) (H : ∀ r u', xd_Ok u' → post r u') : wpX_divide post u p q := by
  have J := h
  obtain ⟨c, n, dv, ph, cx, x, w, s, d, ro, qp, qm, fq, fr, sm, ca, dg, es, qa, qb, ax, av, aq, ar, pr, rfl, h1, hc, hn, hR, hP⟩ := h
  unfold wpX_divide
  by_cases hok : ph = 2 ∨ p < 0 ∨ 65535 < p ∨ q < 1 ∨ 65535 < q
  · exact xa_can0 hok (br_t rfl (H 0 _ J))
  · simp only [not_or] at hok
    obtain ⟨a0, a1, a2, a3, a4⟩ := hok
    obtain ⟨a, b, ha, hb, hb2, rfl, rfl⟩ := sd_Omk a1 a2 a3 a4
    refine xa_can1 a0 a1 a2 a3 a4 (br_f (by decide) (xa_hold ?_))
    refine xd_begin h1 hc hn hR ha hb hb2 (fun t hO hI => ?_)
    obtain ⟨u', R, HX⟩ := xd_run (dv := dv) (fq := fq) (fr := fr) h1 hc hn hR hO 10 0 0 10 0 (-1) (lN (a * 2 ^ t)) 0 dg es (upd qa 0 0) (upd qb 0 (-1)) (vp_updL pr 0 (lN (a * 2 ^ t))) (by omega) (by omega) rfl (by omega) hI (by rw [pk_uLs, Int64.add_zero]) (xd_cy0 hI)
    obtain ⟨_, _, _, _, _, _, _, _, _, _, _, _, _, _, _, _, _, _, _, _, _, _, _, _, _, _, rfl⟩ := xd_tup R
    exact ⟨11, HX _ 11 (by omega) (H 1 _ R)⟩
theorem xd_cancel {post : Int32 → St2 → Prop} {u : St2} (h : xd_Ok u) (H : ∀ r u', xd_Ok u' → post r u') : wpX_cancel post u := by
  have J := h
  obtain ⟨c, n, dv, ph, cx, x, w, s, d, ro, qp, qm, fq, fr, sm, ca, dg, es, qa, qb, ax, av, aq, ar, pr, rfl, h1, hc, hn, hR, hP⟩ := h
  rcases hP with ⟨rfl, rfl⟩ | ⟨rfl, rfl, hO⟩ | ⟨rfl, a, b, t, j, hO, hj, rfl, hI, hpr, hcy⟩ | ⟨rfl, hT⟩
  · exact br_f (by decide) (H 0 _ J)
  · exact br_f (by decide) (H 0 _ J)
  · obtain ⟨o1, o2, o3, o4, o5, o6, rfl, rfl, rfl, rfl, rfl⟩ := hO
    exact br_t rfl (xa_hold (H 1 _ ⟨c, n, dv, 1, 0, nI a, nI b, nI t, nI (b * 2 ^ t), nI (b * 2 ^ t / 4096 - 8), qp, qm, fq, fr, sm, ca, dg, es, qa, qb, ax, av, aq, ar, pr, rfl, h1, hc, hn, hR, Or.inr (Or.inl ⟨rfl, rfl, a, b, o1, o2, o3, rfl, rfl⟩)⟩))
  · exact br_f (by decide) (H 0 _ J)
theorem xd_clear {post : St2 → Prop} {u : St2} (h : xd_Ok u) (H : ∀ u', xd_Ok u' → post u') : wpX_clearHistory post u := by
  obtain ⟨c, n, dv, ph, cx, x, w, s, d, ro, qp, qm, fq, fr, sm, ca, dg, es, qa, qb, ax, av, aq, ar, pr, rfl, h1, hc, hn, hR, hP⟩ := h
  exact H (nI c, 0, dv, ph, cx, x, w, s, d, ro, sm, ca, qp, qm, fq, fr, xd_tab, dg, es, qa, qb, pr, ax, av, aq, ar) ⟨c, 0, dv, ph, cx, x, w, s, d, ro, qp, qm, fq, fr, sm, ca, dg, es, qa, qb, ax, av, aq, ar, pr, rfl, h1, hc, by omega, fun q hq => absurd hq (by omega), hP⟩
end XDQ
end
section
section XDL
variable {cap pc dv ph cx x w s d ro qp qm fq fr : Int32} {sm ca : Int64} {tb dg es qa qb ax av aq ar : Nat → Int32} {pr : Nat → Int64}
/-! the law's own small methods -/
theorem xl_cell {post : Int32 → Prop} {L : Nat} {xs : Nat → Int32} {p : Int32} (q : Nat) (hpq : p = nI q) (hL : L < 2 ^ 31) (hq : q < 2 ^ 31) (H : ∀ r, post r) : wpL_cell post L xs () p := by
  subst hpq
  exact pk_le L q (fun _ => H 0) (fun z => ⟨vp_in_nI z hL, H _⟩)
theorem xl_opd {post : Int32 → Prop} {a b : Int32} (H : ∀ r, post r) : wpL_operand post () a b := nm_e (br_c (fun _ => H _) (fun _ => br_c (fun _ => H _) (fun _ => H _)))
theorem xl_dv {post : Int32 → Prop} {a b : Nat} (ha : a ≤ 65535) (hb : 1 ≤ b) (hb2 : b ≤ 65535) (hp : post 1) : wpL_divOk post () (nI a).toInt64 (nI b).toInt64 (nI (a / b)).toInt64 (nI (a % b)).toInt64 := by
  have h1 : a / b ≤ a := Nat.div_le_self _ _
  have h2 : a % b < b := Nat.mod_lt _ hb
  rw [nI_l (by omega), nI_l (by omega), nI_l (by omega), nI_l (by omega)]
  refine br_f ?_ (br_t ((lN_lt (by omega) (by omega)).mpr h2) (br_t ?_ hp))
  · intro z
    exact absurd ((lN_lt (b := 0) (by omega) (by decide)).mp z) (by omega)
  · rw [lN_mul, lN_add, Nat.div_add_mod']
theorem xl_m64 {a b : Int64} {A B : Int} (ha : a.toInt = A) (hb : b.toInt = B) (l : -9000000000000000000 ≤ A * B) (u : A * B ≤ 9000000000000000000) : (a * b).toInt = A * B := by
  rw [Int64.toInt_mul, ha, hb]
  generalize A * B = z at l u ⊢
  exact Int.bmod_eq_of_le (by omega) (by omega)
theorem xl_19 {post : Int32 → Prop} {x0 y : Int64} {V D : Int} (hx : x0.toInt = V) (hy : y.toInt = D) (h0 : 0 ≤ V) (hD : 0 ≤ D) (hD2 : D < 65536) (h : 3 * V ≤ 524288 * D) (hp : post 1) : wL_boundOk_19 post x0 y := by
  have e0 : (0 : Int64).toInt = 0 := by decide +kernel
  have e3 : (3 : Int64).toInt = 3 := by decide +kernel
  have e4 : (524288 : Int64).toInt = 524288 := by decide +kernel
  have e5 : (1099511627776 : Int64).toInt = 1099511627776 := by decide +kernel
  have m1 : (3 * x0).toInt = 3 * V := xl_m64 e3 hx (by omega) (by omega)
  have m2 : (y * 524288).toInt = D * 524288 := xl_m64 hy e4 (by omega) (by omega)
  refine br_f ?_ (br_t ?_ (br_f ?_ hp))
  · rw [Int64.lt_iff_toInt_lt, hx, e0]
    omega
  · rw [Int64.le_iff_toInt_le, hx, e5]
    omega
  · rw [Int64.lt_iff_toInt_lt, m1, m2]
    omega
theorem xl_bo {post : Int32 → Prop} {p : Int64} {D : Nat} (hD : D < 65536) (l : -(524288 * (D : Int)) ≤ 3 * p.toInt) (u : 3 * p.toInt ≤ 524288 * (D : Int)) (hp : post 1) : wpL_boundOk post () p (nI D).toInt64 := by
  have e0 : (0 : Int64).toInt = 0 := by decide +kernel
  have em : (-9223372036854775808 : Int64).toInt = -9223372036854775808 := by decide +kernel
  have hy : (nI D).toInt64.toInt = (D : Int) := by rw [Int32.toInt_toInt64]; exact nI_toInt (by omega)
  refine br_f ?_ (br_c (fun h => ?_) (fun h => nm_e ?_))
  · intro e
    rw [e, em] at l
    omega
  · rw [Int64.le_iff_toInt_le, e0] at h
    exact xl_19 rfl hy h (by omega) (by omega) u hp
  · rw [Int64.le_iff_toInt_le, e0] at h
    have hn : (-p).toInt = -p.toInt := by
      rw [Int64.toInt_neg]
      exact Int.bmod_eq_of_le (by omega) (by omega)
    exact xl_19 hn hy (by omega) (by omega) (by omega) (by omega) hp
/-! what the calls that only read answer -/
theorem xs_0 {post : Int32 → Prop} (hp : post ph) : wpX_status post (cap, pc, dv, ph, cx, x, w, s, d, ro, sm, ca, qp, qm, fq, fr, tb, dg, es, qa, qb, pr, ax, av, aq, ar) 0 := by
  repeat (first | refine br_t (by decide) ?_ | refine br_f (by decide) ?_)
  exact hp
theorem xs_1 {post : Int32 → Prop} (hp : post cx) : wpX_status post (cap, pc, dv, ph, cx, x, w, s, d, ro, sm, ca, qp, qm, fq, fr, tb, dg, es, qa, qb, pr, ax, av, aq, ar) 1 := by
  repeat (first | refine br_t (by decide) ?_ | refine br_f (by decide) ?_)
  exact hp
theorem xs_9 {post : Int32 → Prop} (hp : post pc) : wpX_status post (cap, pc, dv, ph, cx, x, w, s, d, ro, sm, ca, qp, qm, fq, fr, tb, dg, es, qa, qb, pr, ax, av, aq, ar) 9 := by
  repeat (first | refine br_t (by decide) ?_ | refine br_f (by decide) ?_)
  exact hp
theorem xs_2 {post : Int32 → Prop} (hp : post x) : wpX_status post (cap, pc, dv, 3, cx, x, w, s, d, ro, sm, ca, qp, qm, fq, fr, tb, dg, es, qa, qb, pr, ax, av, aq, ar) 2 := by
  repeat (first | refine br_t (by decide) ?_ | refine br_f (by decide) ?_)
  exact hp
theorem xs_3 {post : Int32 → Prop} (hp : post w) : wpX_status post (cap, pc, dv, 3, cx, x, w, s, d, ro, sm, ca, qp, qm, fq, fr, tb, dg, es, qa, qb, pr, ax, av, aq, ar) 3 := by
  repeat (first | refine br_t (by decide) ?_ | refine br_f (by decide) ?_)
  exact hp
theorem xs_7 {post : Int32 → Prop} (hp : post fq) : wpX_status post (cap, pc, dv, 3, cx, x, w, s, d, ro, sm, ca, qp, qm, fq, fr, tb, dg, es, qa, qb, pr, ax, av, aq, ar) 7 := by
  repeat (first | refine br_t (by decide) ?_ | refine br_f (by decide) ?_)
  exact hp
theorem xs_8 {post : Int32 → Prop} (hp : post fr) : wpX_status post (cap, pc, dv, 3, cx, x, w, s, d, ro, sm, ca, qp, qm, fq, fr, tb, dg, es, qa, qb, pr, ax, av, aq, ar) 8 := by
  repeat (first | refine br_t (by decide) ?_ | refine br_f (by decide) ?_)
  exact hp
theorem xs_5 {post : Int32 → Prop} (hph : ph = 2 ∨ ph = 3) (hp : post d) : wpX_status post (cap, pc, dv, ph, cx, x, w, s, d, ro, sm, ca, qp, qm, fq, fr, tb, dg, es, qa, qb, pr, ax, av, aq, ar) 5 := by
  rcases hph with rfl | rfl
  · repeat (first | refine br_t (by decide) ?_ | refine br_f (by decide) ?_)
    exact hp
  · repeat (first | refine br_t (by decide) ?_ | refine br_f (by decide) ?_)
    exact hp
theorem xs_h0 {post : Int32 → Prop} {n k : Nat} {z : Int32} (hn : n ≤ 16) (hk : k < n) (hz : ax k = z) (hp : post z) : wpX_history post (cap, nI n, dv, ph, cx, x, w, s, d, ro, sm, ca, qp, qm, fq, fr, tb, dg, es, qa, qb, pr, ax, av, aq, ar) 0 (nI k) :=
  br_f (nI_pos (by omega)) (br_t (nI_lt hk (by omega)) (br_f (by decide) (br_f (by decide) (br_t rfl ⟨vp_in_nI (by omega) (by decide), by rw [nI_clamp (by omega), hz]; exact hp⟩))))
theorem xs_h1 {post : Int32 → Prop} {n k : Nat} {z : Int32} (hn : n ≤ 16) (hk : k < n) (hz : av k = z) (hp : post z) : wpX_history post (cap, nI n, dv, ph, cx, x, w, s, d, ro, sm, ca, qp, qm, fq, fr, tb, dg, es, qa, qb, pr, ax, av, aq, ar) 1 (nI k) :=
  br_f (nI_pos (by omega)) (br_t (nI_lt hk (by omega)) (br_f (by decide) (br_f (by decide) (br_f (by decide) (br_t rfl ⟨vp_in_nI (by omega) (by decide), by rw [nI_clamp (by omega), hz]; exact hp⟩)))))
theorem xs_h2 {post : Int32 → Prop} {n k : Nat} {z : Int32} (hn : n ≤ 16) (hk : k < n) (hz : aq k = z) (hp : post z) : wpX_history post (cap, nI n, dv, ph, cx, x, w, s, d, ro, sm, ca, qp, qm, fq, fr, tb, dg, es, qa, qb, pr, ax, av, aq, ar) 2 (nI k) :=
  br_f (nI_pos (by omega)) (br_t (nI_lt hk (by omega)) (br_f (by decide) (br_f (by decide) (br_f (by decide) (br_f (by decide) (br_t rfl ⟨vp_in_nI (by omega) (by decide), by rw [nI_clamp (by omega), hz]; exact hp⟩))))))
theorem xs_h3 {post : Int32 → Prop} {n k : Nat} {z : Int32} (hn : n ≤ 16) (hk : k < n) (hz : ar k = z) (hp : post z) : wpX_history post (cap, nI n, dv, ph, cx, x, w, s, d, ro, sm, ca, qp, qm, fq, fr, tb, dg, es, qa, qb, pr, ax, av, aq, ar) 3 (nI k) :=
  br_f (nI_pos (by omega)) (br_t (nI_lt hk (by omega)) (br_f (by decide) (br_f (by decide) (br_f (by decide) (br_f (by decide) (br_f (by decide) (br_t rfl ⟨vp_in_nI (by omega) (by decide), by rw [nI_clamp (by omega), hz]; exact hp⟩)))))))
theorem xs_pr {post : Int64 → Prop} {c i : Nat} (hph : ph = 2 ∨ ph = 3) (hc : c ≤ 10) (hi : i ≤ c) (hi9 : i ≤ 9) (hp : post (pr i)) : wpX_partialRemainder post (cap, pc, dv, ph, nI c, x, w, s, d, ro, sm, ca, qp, qm, fq, fr, tb, dg, es, qa, qb, pr, ax, av, aq, ar) (nI i) := by
  unfold wpX_partialRemainder
  exact xa_is1 hph (nI_pos (by omega)) (nI_nlt hi (by omega)) (nI_nlt (a := 9) hi9 (by decide)) (br_f (by decide) ⟨vp_in_nI (by omega) (by decide), by rw [nI_clamp (by omega)]; exact hp⟩)
theorem xs_t2 {post : Int32 → Prop} {c i : Nat} (hph : ph = 2 ∨ ph = 3) (hc : c ≤ 10) (hi : i ≤ c) (hi9 : i ≤ 9) (hp : post (qa i)) : wpX_trace post (cap, pc, dv, ph, nI c, x, w, s, d, ro, sm, ca, qp, qm, fq, fr, tb, dg, es, qa, qb, pr, ax, av, aq, ar) 2 (nI i) := by
  unfold wpX_trace
  exact xa_is1 hph (nI_pos (by omega)) (nI_nlt hi (by omega)) (nI_nlt (a := 9) hi9 (by decide)) (br_f (by decide) (br_f (by decide) (br_f (by decide) (br_f (by decide) (br_f (by decide) (br_t rfl ⟨vp_in_nI (by omega) (by decide), by rw [nI_clamp (by omega)]; exact hp⟩))))))
theorem xs_t3 {post : Int32 → Prop} {c i : Nat} (hph : ph = 2 ∨ ph = 3) (hc : c ≤ 10) (hi : i ≤ c) (hi9 : i ≤ 9) (hp : post (qb i)) : wpX_trace post (cap, pc, dv, ph, nI c, x, w, s, d, ro, sm, ca, qp, qm, fq, fr, tb, dg, es, qa, qb, pr, ax, av, aq, ar) 3 (nI i) := by
  unfold wpX_trace
  exact xa_is1 hph (nI_pos (by omega)) (nI_nlt hi (by omega)) (nI_nlt (a := 9) hi9 (by decide)) (br_f (by decide) (br_f (by decide) (br_f (by decide) (br_f (by decide) (br_f (by decide) (br_f (by decide) (br_t rfl ⟨vp_in_nI (by omega) (by decide), by rw [nI_clamp (by omega)]; exact hp⟩)))))))
theorem xs_t0 {post : Int32 → Prop} {c i : Nat} (hph : ph = 2 ∨ ph = 3) (hc : c ≤ 10) (hi : i ≤ c) (hi9 : i ≤ 9) (h1 : 1 ≤ i) (hp : post (dg i)) : wpX_trace post (cap, pc, dv, ph, nI c, x, w, s, d, ro, sm, ca, qp, qm, fq, fr, tb, dg, es, qa, qb, pr, ax, av, aq, ar) 0 (nI i) := by
  unfold wpX_trace
  exact xa_is1 hph (nI_pos (by omega)) (nI_nlt hi (by omega)) (nI_nlt (a := 9) hi9 (by decide)) (br_f (by decide) (br_f (by decide) (br_f (by decide) (br_t rfl (br_f (nI_nle (by omega) (by omega)) ⟨vp_in_nI (by omega) (by decide), by rw [nI_clamp (by omega)]; exact hp⟩)))))
end XDL
end
section
section XDM
variable {cap pc dv ph cx x w s d ro qp qm fq fr : Int32} {sm ca : Int64} {tb dg es qa qb ax av aq ar : Nat → Int32} {pr : Nat → Int64}
variable {post : Int32 → Prop} {L : Nat} {xs : Nat → Int32} {J : Int32 → Int32 → Int32 → Int32 → Int32 → Int32 → Int32 → Int32 → Int32 → Int32 → Int32 → Int64 → Int64 → Int32 → Int32 → Int32 → Int32 → (Nat → Int32) → (Nat → Int32) → (Nat → Int32) → (Nat → Int32) → (Nat → Int32) → (Nat → Int64) → (Nat → Int32) → (Nat → Int32) → (Nat → Int32) → (Nat → Int32) → Prop} {x2 : Int32} {kc ks : Nat}
/-! the law's loops -/
/-- what the next turn asks -/
def xl_JJ (J : Int32 → Int32 → Int32 → Int32 → Int32 → Int32 → Int32 → Int32 → Int32 → Int32 → Int32 → Int64 → Int64 → Int32 → Int32 → Int32 → Int32 → (Nat → Int32) → (Nat → Int32) → (Nat → Int32) → (Nat → Int32) → (Nat → Int32) → (Nat → Int64) → (Nat → Int32) → (Nat → Int32) → (Nat → Int32) → (Nat → Int32) → Prop) (t : Nat) : Prop := ∀ (cap pc dv ph cx x w s d ro qp qm fq fr : Int32) (sm ca : Int64) (tb dg es qa qb ax av aq ar : Nat → Int32) (pr : Nat → Int64), xd_Ok (cap, pc, dv, ph, cx, x, w, s, d, ro, sm, ca, qp, qm, fq, fr, tb, dg, es, qa, qb, pr, ax, av, aq, ar) → J (nI (t + 1)) cap pc dv ph cx x w s d ro sm ca qp qm fq fr tb dg es qa qb pr ax av aq ar
theorem xl_317 {t : Nat} (hL : L ≤ 260) (ht : t ≤ 100) (hp : post 1) (hu : xd_Ok (cap, pc, dv, ph, cx, x, w, s, d, ro, sm, ca, qp, qm, fq, fr, tb, dg, es, qa, qb, pr, ax, av, aq, ar)) (HJ : xl_JJ J t) : wL_law_317 post L xs J x2 (nI t) kc ks cap pc dv ph cx x w s d ro sm ca qp qm fq fr tb dg es qa qb pr ax av aq ar := by
  have e3 : (3 : Int32) * nI t = nI (3 * t) := pk_mul 3 t
  have e6 : (1 : Int32) + 3 * nI t = nI (1 + 3 * t) := by rw [e3]; exact nI_add 1 _
  refine nm_r e6 (pk_lt (1 + 3 * t) L (fun z => ?_) (fun z => hp))
  refine xl_cell (1 + 3 * t) rfl (by omega) (by omega) (fun r0 => nm_e ?_)
  refine xl_cell (1 + 3 * t + 1) (nI_1 _) (by omega) (by omega) (fun r1 => ?_)
  refine xl_cell (1 + 3 * t + 2) (nI_add _ 2) (by omega) (by omega) (fun r2 => ?_)
  refine xl_opd (fun r3 => ?_)
  refine xl_opd (fun r4 => ?_)
  refine br_c (fun _ => ?_) (fun _ => br_c (fun _ => ?_) (fun _ => br_c (fun _ => ?_) (fun _ => br_c (fun _ => ?_) (fun _ => br_c (fun _ => ?_) (fun _ => br_c (fun _ => ?_) (fun _ => br_c (fun _ => ?_) (fun _ => ?_)))))))
  · refine xd_div hu (fun r u' h => ?_)
    obtain ⟨_, _, _, _, _, _, _, _, _, _, _, _, _, _, _, _, _, _, _, _, _, _, _, _, _, _, rfl⟩ := xd_tup h
    exact nm_r (nI_1 t) (HJ _ _ _ _ _ _ _ _ _ _ _ _ _ _ _ _ _ _ _ _ _ _ _ _ _ _ h)
  · refine xd_load hu (fun r u' h => ?_)
    obtain ⟨_, _, _, _, _, _, _, _, _, _, _, _, _, _, _, _, _, _, _, _, _, _, _, _, _, _, rfl⟩ := xd_tup h
    refine xd_start h (fun r u' h => ?_)
    obtain ⟨_, _, _, _, _, _, _, _, _, _, _, _, _, _, _, _, _, _, _, _, _, _, _, _, _, _, rfl⟩ := xd_tup h
    refine xd_stp h (fun r u' h => ?_)
    obtain ⟨_, _, _, _, _, _, _, _, _, _, _, _, _, _, _, _, _, _, _, _, _, _, _, _, _, _, rfl⟩ := xd_tup h
    exact nm_r (nI_1 t) (HJ _ _ _ _ _ _ _ _ _ _ _ _ _ _ _ _ _ _ _ _ _ _ _ _ _ _ h)
  · refine xd_load hu (fun r u' h => ?_)
    obtain ⟨_, _, _, _, _, _, _, _, _, _, _, _, _, _, _, _, _, _, _, _, _, _, _, _, _, _, rfl⟩ := xd_tup h
    exact nm_r (nI_1 t) (HJ _ _ _ _ _ _ _ _ _ _ _ _ _ _ _ _ _ _ _ _ _ _ _ _ _ _ h)
  · refine xd_start hu (fun r u' h => ?_)
    obtain ⟨_, _, _, _, _, _, _, _, _, _, _, _, _, _, _, _, _, _, _, _, _, _, _, _, _, _, rfl⟩ := xd_tup h
    exact nm_r (nI_1 t) (HJ _ _ _ _ _ _ _ _ _ _ _ _ _ _ _ _ _ _ _ _ _ _ _ _ _ _ h)
  · refine xd_stp hu (fun r u' h => ?_)
    obtain ⟨_, _, _, _, _, _, _, _, _, _, _, _, _, _, _, _, _, _, _, _, _, _, _, _, _, _, rfl⟩ := xd_tup h
    exact nm_r (nI_1 t) (HJ _ _ _ _ _ _ _ _ _ _ _ _ _ _ _ _ _ _ _ _ _ _ _ _ _ _ h)
  · refine xd_cancel hu (fun r u' h => ?_)
    obtain ⟨_, _, _, _, _, _, _, _, _, _, _, _, _, _, _, _, _, _, _, _, _, _, _, _, _, _, rfl⟩ := xd_tup h
    exact nm_r (nI_1 t) (HJ _ _ _ _ _ _ _ _ _ _ _ _ _ _ _ _ _ _ _ _ _ _ _ _ _ _ h)
  · refine xd_clear hu (fun u' h => ?_)
    obtain ⟨_, _, _, _, _, _, _, _, _, _, _, _, _, _, _, _, _, _, _, _, _, _, _, _, _, _, rfl⟩ := xd_tup h
    exact nm_r (nI_1 t) (HJ _ _ _ _ _ _ _ _ _ _ _ _ _ _ _ _ _ _ _ _ _ _ _ _ _ _ h)
  · refine xd_load hu (fun r u' h => ?_)
    obtain ⟨_, _, _, _, _, _, _, _, _, _, _, _, _, _, _, _, _, _, _, _, _, _, _, _, _, _, rfl⟩ := xd_tup h
    refine xd_start h (fun r u' h => ?_)
    obtain ⟨_, _, _, _, _, _, _, _, _, _, _, _, _, _, _, _, _, _, _, _, _, _, _, _, _, _, rfl⟩ := xd_tup h
    refine xd_stp h (fun r u' h => ?_)
    obtain ⟨_, _, _, _, _, _, _, _, _, _, _, _, _, _, _, _, _, _, _, _, _, _, _, _, _, _, rfl⟩ := xd_tup h
    exact nm_r (nI_1 t) (HJ _ _ _ _ _ _ _ _ _ _ _ _ _ _ _ _ _ _ _ _ _ _ _ _ _ _ h)
theorem xl_226 {x3 : Int32} {D c m : Nat} (hph : ph = 2 ∨ ph = 3) (hD : D < 65536) (hc : c ≤ 10) (hmc : m ≤ c) (hm : m ≤ 9) (hcy : ∀ i, i ≤ m → xd_cy D i pr dg qa qb) (K : wL_law_317 post L xs J x2 x3 kc ks cap pc dv ph (nI c) x w s d ro sm ca qp qm fq fr tb dg es qa qb pr ax av aq ar) :
    ∀ (k i f : Nat), i + k = m + 1 → k < f → wL_law_226 post L xs J x2 x3 (nI m) (nI D).toInt64 kc ks cap pc dv ph (nI c) x w s d ro sm ca qp qm fq fr tb dg es qa qb pr ax av aq ar f (nI i) := by
  intro k
  induction k with
  | zero =>
    intro i f hi hf
    obtain ⟨f, rfl⟩ : ∃ f', f = f' + 1 := ⟨f - 1, by omega⟩
    exact br_t (nI_lt (by omega) (by omega)) K
  | succ k ih =>
    intro i f hi hf
    obtain ⟨f, rfl⟩ : ∃ f', f = f' + 1 := ⟨f - 1, by omega⟩
    have hn := ih (i + 1) f (by omega) (by omega)
    obtain ⟨c1, c2, c3, c4, c5, c6⟩ := hcy i (by omega)
    refine br_f (nI_nlt (by omega) (by omega)) (xs_pr hph hc (by omega) (by omega) (xl_bo hD c1 c2 (br_f (by decide) ?_)))
    refine xs_t2 hph hc (by omega) (by omega) ?_
    refine xs_t3 hph hc (by omega) (by omega) (br_t ?_ ?_)
    · apply Int64.toInt_inj.mp
      rw [Int64.toInt_sub, Int32.toInt_toInt64, Int32.toInt_toInt64, c5, show (1 : Int64).toInt = 1 from by decide +kernel]
      exact (Int.bmod_eq_of_le (by omega) (by omega)).symm
    · refine pk_lt i 1 (fun z => nm_r (nI_1 i) hn) (fun z => ?_)
      obtain ⟨g1, g2⟩ := c6 z
      refine xs_t0 hph hc (by omega) (by omega) z (br_f ?_ (br_t ?_ (nm_r (nI_1 i) hn)))
      · rw [Int32.lt_iff_toInt_lt, show (-2 : Int32).toInt = -2 from by decide]
        omega
      · rw [Int32.le_iff_toInt_le, show (2 : Int32).toInt = 2 from by decide]
        omega
theorem xl_192 {x3 : Int32} {D c : Nat} (hph : ph = 2 ∨ ph = 3) (hD : D < 65536) (hc : c ≤ 10) (hcy : ∀ i, i ≤ c → i ≤ 9 → xd_cy D i pr dg qa qb) (K : wL_law_317 post L xs J x2 x3 kc ks cap pc dv ph (nI c) x w s (nI D) ro sm ca qp qm fq fr tb dg es qa qb pr ax av aq ar) : wL_law_192 post L xs J x2 x3 kc ks cap pc dv ph (nI c) x w s (nI D) ro sm ca qp qm fq fr tb dg es qa qb pr ax av aq ar := by
  have T : ∀ m, m ≤ c → m ≤ 9 → wL_law_213 post L xs J x2 x3 (nI m) kc ks cap pc dv ph (nI c) x w s (nI D) ro sm ca qp qm fq fr tb dg es qa qb pr ax av aq ar := by
    intro m h1 h2
    unfold wL_law_213
    refine xs_5 hph ?_
    exact ⟨m + 2, xl_226 hph hD hc h1 h2 (fun i hi => hcy i (by omega) (by omega)) K (m + 1) 0 (m + 2) (by omega) (by omega)⟩
  unfold wL_law_192
  refine xs_1 (pk_le c 9 (fun z => T c (by omega) z) (fun z => T 9 (by omega) (by omega)))
theorem xl_104 {x3 x4 : Int32} {n : Nat} (hn : n ≤ 16) (hR : ∀ k, k < n → xd_rc k ax av aq ar) (K : wL_law_180 post L xs J x2 x3 x4 kc ks cap (nI n) dv ph cx x w s d ro sm ca qp qm fq fr tb dg es qa qb pr ax av aq ar) :
    ∀ (k i f : Nat), i + k = n → k < f → wL_law_104 post L xs J x2 x3 x4 (nI n) kc ks cap (nI n) dv ph cx x w s d ro sm ca qp qm fq fr tb dg es qa qb pr ax av aq ar f (nI i) := by
  intro k
  induction k with
  | zero =>
    intro i f hi hf
    obtain ⟨f, rfl⟩ : ∃ f', f = f' + 1 := ⟨f - 1, by omega⟩
    exact br_t (nI_le (by omega) (by omega)) K
  | succ k ih =>
    intro i f hi hf
    obtain ⟨f, rfl⟩ : ∃ f', f = f' + 1 := ⟨f - 1, by omega⟩
    obtain ⟨a, b, ha, hb, hb2, e1, e2, e3, e4⟩ := hR i (by omega)
    refine br_f (nI_ge (by omega) (by omega)) (br_f (nI_ge (b := 16) (by omega) (by decide)) ?_)
    refine xs_h0 hn (by omega) e1 ?_
    refine xs_h1 hn (by omega) e2 ?_
    refine xs_h2 hn (by omega) e3 ?_
    refine xs_h3 hn (by omega) e4 ?_
    exact xl_dv ha hb hb2 (br_f (by decide) (nm_r (nI_1 i) (ih (i + 1) f (by omega) (by omega))))
theorem xl_turn {t c n : Nat} (hL : L ≤ 260) (ht : t ≤ 100) (hp : post 1) (h1 : 1 ≤ c) (hc : c ≤ 16) (hn : n ≤ c) (hR : ∀ k, k < n → xd_rc k ax av aq ar) (hP : xd_Ph ph cx x w s d ro qp qm fq fr sm ca dg qa qb pr) (HJ : xl_JJ J t) : wL_law_93 post L xs J x2 (nI t) ph kc ks (nI c) (nI n) dv ph cx x w s d ro sm ca qp qm fq fr xd_tab dg es qa qb pr ax av aq ar := by
  have K : wL_law_317 post L xs J x2 (nI t) kc ks (nI c) (nI n) dv ph cx x w s d ro sm ca qp qm fq fr xd_tab dg es qa qb pr ax av aq ar := xl_317 hL ht hp ⟨c, n, dv, ph, cx, x, w, s, d, ro, qp, qm, fq, fr, sm, ca, dg, es, qa, qb, ax, av, aq, ar, pr, rfl, h1, hc, hn, hR, hP⟩ HJ
  have K2 : wL_law_180 post L xs J x2 (nI t) ph kc ks (nI c) (nI n) dv ph cx x w s d ro sm ca qp qm fq fr xd_tab dg es qa qb pr ax av aq ar := by
    rcases hP with ⟨rfl, rfl⟩ | ⟨rfl, rfl, hO⟩ | ⟨rfl, a, b, q, j, hO, hj, rfl, hI, hpr, hcy⟩ | ⟨rfl, a, b, q, hO, rfl, e1, e2, hcy⟩
    · exact br_f (by decide) (br_f (by decide) K)
    · exact br_f (by decide) (br_f (by decide) K)
    · obtain ⟨o1, o2, o3, o4, o5, o6, rfl, rfl, rfl, rfl, rfl⟩ := hO
      exact br_t rfl (xl_192 (Or.inl rfl) o6 (by omega) (fun i h _ => hcy i h) K)
    · obtain ⟨o1, o2, o3, o4, o5, o6, rfl, rfl, rfl, rfl, rfl⟩ := hO
      exact br_f (by decide) (br_t rfl (xl_192 (Or.inr rfl) o6 (by omega) (fun i _ h => hcy i h) K))
  unfold wL_law_93
  refine xs_9 ?_
  exact ⟨n + 1, xl_104 (by omega) hR K2 n 0 (n + 1) (by omega) (by omega)⟩
theorem xl_25 {R : Nat} (hL : L ≤ 260) (hR : R ≤ 100) (hp : post 1) :
    ∀ (m t f : Nat) (cap pc dv ph cx x w s d ro qp qm fq fr : Int32) (sm ca : Int64) (tb dg es qa qb ax av aq ar : Nat → Int32) (pr : Nat → Int64), t + m = R → m < f → xd_Ok (cap, pc, dv, ph, cx, x, w, s, d, ro, sm, ca, qp, qm, fq, fr, tb, dg, es, qa, qb, pr, ax, av, aq, ar) → wL_law_25 post L xs (nI R) kc ks f (nI t) cap pc dv ph cx x w s d ro sm ca qp qm fq fr tb dg es qa qb pr ax av aq ar := by
  intro m
  induction m with
  | zero =>
    intro t f cap pc dv ph cx x w s d ro qp qm fq fr sm ca tb dg es qa qb ax av aq ar pr ht hf hu
    obtain ⟨f, rfl⟩ : ∃ f', f = f' + 1 := ⟨f - 1, by omega⟩
    exact br_t (nI_le (by omega) (by omega)) hp
  | succ m ih =>
    intro t f cap pc dv ph cx x w s d ro qp qm fq fr sm ca tb dg es qa qb ax av aq ar pr ht hf hu
    obtain ⟨f, rfl⟩ : ∃ f', f = f' + 1 := ⟨f - 1, by omega⟩
    have HJ : xl_JJ (wL_law_25 post L xs (nI R) kc ks f) t := fun cap pc dv ph cx x w s d ro qp qm fq fr sm ca tb dg es qa qb ax av aq ar pr h => ih (t + 1) f cap pc dv ph cx x w s d ro qp qm fq fr sm ca tb dg es qa qb ax av aq ar pr (by omega) (by omega) h
    obtain ⟨c, n, dv', ph', cx', x', w', s', d', ro', qp', qm', fq', fr', sm', ca', dg', es', qa', qb', ax', av', aq', ar', pr', e, h1, hc, hn, hR', hP⟩ := hu
    cases e
    have hP2 := hP
    refine br_f (nI_ge (by omega) (by omega)) (xs_0 ?_)
    rcases hP with ⟨rfl, rfl⟩ | ⟨rfl, rfl, hO⟩ | ⟨rfl, hT⟩ | ⟨rfl, a, b, q, hO, rfl, rfl, rfl, hcy⟩
    · exact br_f (by decide) (xl_turn hL (by omega) hp h1 hc hn hR' hP2 HJ)
    · exact br_f (by decide) (xl_turn hL (by omega) hp h1 hc hn hR' hP2 HJ)
    · exact br_f (by decide) (xl_turn hL (by omega) hp h1 hc hn hR' hP2 HJ)
    · obtain ⟨o1, o2, o3, o4, o5, o6, rfl, rfl, rfl, rfl, rfl⟩ := hO
      refine br_t rfl (xs_2 ?_)
      refine xs_3 ?_
      refine xs_7 ?_
      refine xs_8 ?_
      exact xl_dv o1 o2 o3 (br_f (by decide) (xl_turn hL (by omega) hp h1 hc hn hR' hP2 HJ))
end XDM
end
section
section XDN
theorem xl_clamp {post : Int32 → Prop} {p : Int32} (H : ∀ c, 1 ≤ c → c ≤ 16 → post (nI c)) : wpX_clampCapacity post () p := by
  by_cases h1 : (1 : Int32) ≤ p
  · by_cases h2 : p ≤ 16
    · have h0 : ¬ p < 0 := fun z => absurd (Int32.lt_of_le_of_lt h1 z) (by decide)
      obtain ⟨c, hc, rfl⟩ := nI_of2 (M := 16) (n := 16) (by decide) h0 h2
      have hc1 : 1 ≤ c := by
        apply Nat.le_of_not_lt
        intro z
        have e : c = 0 := by omega
        subst e
        exact absurd h1 (by decide)
      exact br_t h1 (br_t h2 (H c hc1 hc))
    · exact br_t h1 (br_f h2 (H 16 (by decide) (by decide)))
  · exact br_f h1 (H 1 (by decide) (by decide))
theorem xd_new {c : Nat} (h1 : 1 ≤ c) (hc : c ≤ 16) : xd_Ok (nI c, 0, 0, 0, 0, 0, 0, 0, 0, 0, 0, 0, 0, 0, 0, 0, xd_fill (fun _ => 0), (fun _ => 0), (fun _ => 0), (fun _ => 0), (fun _ => 0), (fun _ => 0), (fun _ => 0), (fun _ => 0), (fun _ => 0), (fun _ => 0)) :=
  ⟨c, 0, 0, 0, 0, 0, 0, 0, 0, 0, 0, 0, 0, 0, 0, 0, (fun _ => 0), (fun _ => 0), (fun _ => 0), (fun _ => 0), (fun _ => 0), (fun _ => 0), (fun _ => 0), (fun _ => 0), (fun _ => 0), rfl, h1, hc, by omega, fun q hq => absurd hq (by omega), Or.inl ⟨rfl, rfl⟩⟩
theorem i_vc (xs : Nat → Int32) (L : Nat) (hL : L ≤ 260) : wpL_law (fun r => r = 1) L xs := by
  unfold wpL_law
  refine xl_cell 0 rfl (by omega) (by decide) (fun r => ⟨by decide, 10, 146, by decide, by decide, ?_⟩)
  refine ⟨by decide, by decide, by decide, by decide, by decide, by decide, by decide, by decide, by decide, by decide, by decide, by decide, by decide, by decide, by decide, by decide, by decide, by decide, by decide, by decide, ?_⟩
  refine xl_clamp (fun c h1 hc => ?_)
  refine xa_fill ?_
  have e : (Int32.ofNat L) / 3 + 2 = nI (L / 3 + 2) := by
    have e1 : nI L / nI 3 = nI (L / 3) := pk_div (by omega) (by decide) (by decide)
    exact (congrArg (· + 2) e1).trans (nI_add _ 2)
  refine ⟨by decide, nm_r e ⟨L / 3 + 3, ?_⟩⟩
  exact xl_25 (post := fun r => r = 1) (R := L / 3 + 2) hL (by omega) rfl (L / 3 + 2) 0 (L / 3 + 3) _ _ _ _ _ _ _ _ _ _ _ _ _ _ _ _ _ _ _ _ _ _ _ _ _ _ (by omega) (by omega) (xd_new h1 hc)
end XDN
end
