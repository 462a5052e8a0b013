section SDA
theorem pk_us {f : Nat → Int32} {k : Nat} {x : Int32} : upd f k x k = x := if_pos rfl
theorem pk_un {f : Nat → Int32} {k j : Nat} {x : Int32} (h : j ≠ k) : upd f k x j = f j := if_neg h
theorem pk_uLs {f : Nat → Int64} {k : Nat} {x : Int64} : vp_updL f k x k = x := if_pos rfl
theorem pk_uLn {f : Nat → Int64} {k j : Nat} {x : Int64} (h : j ≠ k) : vp_updL f k x j = f j := if_neg h
theorem pk_sub {a b : Nat} (h : b ≤ a) : nI a - nI b = nI (a - b) := by
  obtain ⟨c, rfl⟩ : ∃ c, a = c + b := ⟨a - b, by omega⟩
  rw [← nI_add, Int32.add_sub_cancel, Nat.add_sub_cancel]
theorem pk_m1 (n : Nat) : nI (n + 1) + (-1) = nI n := by
  rw [← nI_1, Int32.add_assoc, show (1 : Int32) + (-1) = 0 from rfl, Int32.add_zero]
theorem pk_mul (a b : Nat) : nI a * nI b = nI (a * b) := (Int32.ofNat_mul a b).symm
theorem pk_ix (x : Int32) {n : Nat} (hn : n < 2 ^ 31) : x < 0 ∨ nI n ≤ x ∨ ∃ j : Nat, j < n ∧ x = nI j := by
  by_cases h : x < 0
  · exact Or.inl h
  · obtain ⟨j, hj, rfl⟩ := nI_of h
    by_cases h2 : j < n
    · exact Or.inr (Or.inr ⟨j, h2, rfl⟩)
    · exact Or.inr (Or.inl (nI_le (by omega) hj))
theorem pk_le {x y : Int32} {A B : Prop} (a b : Nat) (f : a ≤ b → A) (g : b < a → B) (hx : x = nI a := by rfl) (hy : y = nI b := by rfl) (ha : a < 2 ^ 31 := by omega) (hb : b < 2 ^ 31 := by omega) : (x ≤ y → A) ∧ (¬ x ≤ y → B) := by
  subst hx hy
  rw [nI_leI ha hb]
  exact ⟨f, fun z => g (by omega)⟩
theorem pk_lt {x y : Int32} {A B : Prop} (a b : Nat) (f : a < b → A) (g : b ≤ a → B) (hx : x = nI a := by rfl) (hy : y = nI b := by rfl) (ha : a < 2 ^ 31 := by omega) (hb : b < 2 ^ 31 := by omega) : (x < y → A) ∧ (¬ x < y → B) := by
  subst hx hy
  rw [nI_ltI ha hb]
  exact ⟨f, fun z => g (by omega)⟩
theorem pk_eq {x y : Int32} {A B : Prop} (a b : Nat) (f : a = b → A) (g : a ≠ b → B) (hx : x = nI a := by rfl) (hy : y = nI b := by rfl) (ha : a < 2 ^ 31 := by omega) (hb : b < 2 ^ 31 := by omega) : (x = y → A) ∧ (¬ x = y → B) := by
  subst hx hy
  rw [nI_eq ha hb]
  exact ⟨f, g⟩
theorem pk_in {x : Int32} (n N : Nat) (h : n < N) (hx : x = nI n := by rfl) (hN : N < 2 ^ 31 := by omega) : vp_in x N := by
  subst hx
  exact vp_in_nI h hN
theorem pk_cl {x : Int32} (n : Nat) (hx : x = nI n := by rfl) (h : n < 2 ^ 31 := by omega) : x.toNatClampNeg = n := by
  subst hx
  exact nI_clamp h
theorem pk_tn {n : Nat} (h : n < 2 ^ 32) : (nI n).toBitVec.toNat = n := Nat.mod_eq_of_lt h
theorem pk_shl (a s : Int32) (k : Nat) (hs : (s.toBitVec.smod 32).toNat = k) : (a <<< s).toBitVec.toNat = a.toBitVec.toNat * 2 ^ k % 2 ^ 32 := by
  show (a.toBitVec <<< (s.toBitVec.smod 32).toNat).toNat = _
  rw [hs, BitVec.toNat_shiftLeft, Nat.shiftLeft_eq]
theorem pk_shlN {n : Nat} (s : Int32) (k : Nat) (hs : (s.toBitVec.smod 32).toNat = k) (h : n * 2 ^ k < 2 ^ 32) : nI n <<< s = nI (n * 2 ^ k) := by
  apply Int32.toBitVec_inj.mp
  apply BitVec.eq_of_toNat_eq
  have hn : n < 2 ^ 32 := Nat.lt_of_le_of_lt (Nat.le_mul_of_pos_right n (Nat.two_pow_pos k)) h
  rw [pk_shl _ _ k hs, pk_tn hn, pk_tn h, Nat.mod_eq_of_lt h]
theorem pk_shr (a s : Int32) (k : Nat) (hs : (s.toBitVec.smod 32).toNat = k) : (a >>> s).toInt = a.toInt >>> k := by
  show (a.toBitVec.sshiftRight (s.toBitVec.smod 32).toNat).toInt = _
  rw [hs, BitVec.toInt_sshiftRight]
  rfl
theorem pk_shrN {n : Nat} (h : n < 2 ^ 31) (s : Int32) (k : Nat) (hs : (s.toBitVec.smod 32).toNat = k) : nI n >>> s = nI (n / 2 ^ k) := by
  apply Int32.toInt_inj.mp
  have h2 : n / 2 ^ k ≤ n := Nat.div_le_self _ _
  rw [pk_shr _ _ k hs, nI_toInt h, nI_toInt (by omega), Int.shiftRight_eq_div_pow]
  rfl
theorem pk_least (P : Nat → Prop) (h : ∃ k, P k) : ∃ k, P k ∧ ∀ j, j < k → ¬ P j := by
  obtain ⟨k, hk⟩ := h
  induction k using Nat.strongRecOn with
  | ind k ih =>
    by_cases e : ∃ j, j < k ∧ P j
    · obtain ⟨j, hj, pj⟩ := e
      exact ih j hj pj
    · exact ⟨k, hk, fun j hj pj => e ⟨j, hj, pj⟩⟩
theorem pk_loop {σ : Type} (W : Nat → Nat → σ → Prop) (I : Nat → σ → Prop) (e i0 : Nat) (s : σ) (hi : i0 ≤ e) (h0 : I i0 s) (hx : ∀ n s, I e s → W (n + 1) e s)
    (hs : ∀ n i s, i < e → I i s → (∀ s', I (i + 1) s' → W n (i + 1) s') → W (n + 1) i s) : ∃ n, W n i0 s :=
  ⟨e + 1, loop_i W I e hx hs (e + 1) i0 s hi (by omega) h0⟩
theorem pk_loopD {σ : Type} (W : Nat → Nat → σ → Prop) (I : Nat → σ → Prop) (hx : ∀ n s, I 0 s → W (n + 1) 0 s)
    (hs : ∀ n i s, I (i + 1) s → (∀ s', I i s' → W n i s') → W (n + 1) (i + 1) s) : ∀ (e : Nat) (s : σ), I e s → W (e + 1) e s := by
  intro e
  induction e with
  | zero => exact fun s h => hx 0 s h
  | succ e ih => exact fun s h => hs (e + 1) e s h (fun s' h' => ih s' h')
theorem sd_sl : ∀ n, n < 32 → ((nI n &&& 31).toBitVec.smod 32).toNat = n := by decide +kernel
theorem sd_shl {v p : Nat} (hp : p < 32) (h : v * 2 ^ p < 2 ^ 32) : nI v <<< (nI p &&& 31) = nI (v * 2 ^ p) := pk_shlN _ p (sd_sl p hp) h
theorem sd_norm {v : Nat} (h1 : 1 ≤ v) (h2 : v ≤ 65535) : ∃ s, s ≤ 15 ∧ 32768 ≤ v * 2 ^ s ∧ v * 2 ^ s < 65536 ∧ ∀ t, t < s → v * 2 ^ t < 32768 := by
  have h15 : 32768 ≤ v * 2 ^ 15 := by omega
  obtain ⟨s, hs, hm⟩ := pk_least (fun k => 32768 ≤ v * 2 ^ k) ⟨15, h15⟩
  have hs15 : s ≤ 15 := by
    apply Nat.le_of_not_lt
    intro h
    exact hm 15 h h15
  refine ⟨s, hs15, hs, ?_, fun t ht => Nat.lt_of_not_le (hm t ht)⟩
  cases s with
  | zero => rw [Nat.pow_zero]; omega
  | succ t =>
    have h3 : ¬ 32768 ≤ v * 2 ^ t := hm t (by omega)
    have e : v * 2 ^ (t + 1) = v * 2 ^ t * 2 := by rw [Nat.pow_succ, Nat.mul_assoc]
    rw [e]
    generalize v * 2 ^ t = w at h3 ⊢
    omega
theorem sd_row {D : Nat} (h1 : 32768 ≤ D) (h2 : D < 65536) : (nI D >>> ((12 : Int32) &&& 31)) - 8 = nI (D / 4096 - 8) := by
  rw [pk_shrN (by omega) _ 12 (by decide)]
  exact pk_sub (b := 8) (by show 8 ≤ D / 4096; omega)
/-! a history moved down by one place, from place k on, up to place e -/
def sd_sh (f : Nat → Int32) (k e : Nat) : Nat → Int32 := fun j => if k < j ∧ j ≤ e then f (j - 1) else f j
theorem sd_she (f : Nat → Int32) (e : Nat) : sd_sh f e e = f := funext fun j => if_neg (by omega)
theorem sd_sh1 {f : Nat → Int32} {k e : Nat} : sd_sh f (k + 1) e k = f k := if_neg (by omega)
theorem sd_shs {f : Nat → Int32} {k e : Nat} (h : k + 1 ≤ e) : upd (sd_sh f (k + 1) e) (k + 1) (f k) = sd_sh f k e := by
  funext j
  unfold upd sd_sh
  by_cases h1 : j = k + 1
  · rw [if_pos h1, if_pos (by omega), h1, Nat.add_sub_cancel]
  · rw [if_neg h1]
    by_cases h2 : k + 1 < j ∧ j ≤ e
    · rw [if_pos h2, if_pos (by omega)]
    · rw [if_neg h2, if_neg (by omega)]
/-- the digit that row r of the table t gives for the estimate e -/
def xd_dig (t : Nat → Int32) (r : Nat) (e : Int32) : Int32 := if t (4 * r) ≤ e then 2 else if t (4 * r + 1) ≤ e then 1 else if t (4 * r + 2) ≤ e then 0 else if t (4 * r + 3) ≤ e then -1 else -2
/-- the estimate of the two words, the next two words, the next two quotients -/
def xd_est (S C : Int64) : Int32 :=
  if 64 ≤ (((S <<< ((2 : Int32).toInt64 &&& 63)) >>> ((30 : Int32).toInt64 &&& 63)) + ((C <<< ((2 : Int32).toInt64 &&& 63)) >>> ((30 : Int32).toInt64 &&& 63)) &&& 127).toInt32
  then (((S <<< ((2 : Int32).toInt64 &&& 63)) >>> ((30 : Int32).toInt64 &&& 63)) + ((C <<< ((2 : Int32).toInt64 &&& 63)) >>> ((30 : Int32).toInt64 &&& 63)) &&& 127).toInt32 - 128
  else (((S <<< ((2 : Int32).toInt64 &&& 63)) >>> ((30 : Int32).toInt64 &&& 63)) + ((C <<< ((2 : Int32).toInt64 &&& 63)) >>> ((30 : Int32).toInt64 &&& 63)) &&& 127).toInt32
def xd_wS (S C : Int64) (d : Int32) (D : Int32) : Int64 := (S <<< ((2 : Int32).toInt64 &&& 63)) ^^^ (C <<< ((2 : Int32).toInt64 &&& 63)) ^^^ ((-d * D).toInt64 <<< ((18 : Int32).toInt64 &&& 63))
def xd_wC (S C : Int64) (d : Int32) (D : Int32) : Int64 := (((S <<< ((2 : Int32).toInt64 &&& 63)) &&& (C <<< ((2 : Int32).toInt64 &&& 63))) ||| ((S <<< ((2 : Int32).toInt64 &&& 63)) &&& ((-d * D).toInt64 <<< ((18 : Int32).toInt64 &&& 63))) ||| ((C <<< ((2 : Int32).toInt64 &&& 63)) &&& ((-d * D).toInt64 <<< ((18 : Int32).toInt64 &&& 63)))) <<< ((1 : Int32).toInt64 &&& 63)
def xd_nP (d qp qm : Int32) : Int32 := if 0 ≤ d then 4 * qp + d else 4 * qm + 4 + d
def xd_nM (d qp qm : Int32) : Int32 := if 0 < d then 4 * qp + d - 1 else 4 * qm + 3 + d
end SDA
