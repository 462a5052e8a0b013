section
section SDA
theorem pk_us {f : Nat → Int32} {k : Nat} {x : Int32} : upd f k x k = x := if_pos rfl
theorem pk_un {f : Nat → Int32} {k j : Nat} {x : Int32} (h : j ≠ k) : upd f k x j = f j := if_neg h
theorem pk_uLs {f : Nat → Int64} {k : Nat} {x : Int64} : vp_updL f k x k = x := if_pos rfl
theorem pk_uLn {f : Nat → Int64} {k j : Nat} {x : Int64} (h : j ≠ k) : vp_updL f k x j = f j := if_neg h
theorem pk_sub {a b : Nat} (h : b ≤ a) : nI a - nI b = nI (a - b) := by
  obtain ⟨c, rfl⟩ : ∃ c, a = c + b := ⟨a - b, by omega⟩
  rw [← nI_add, Int32.add_sub_cancel, Nat.add_sub_cancel]
theorem pk_m1 (n : Nat) : nI (n + 1) + (-1) = nI n := by
  rw [← nI_1, Int32.add_assoc, show (1 : Int32) + (-1) = 0 from rfl, Int32.add_zero]
theorem pk_mul (a b : Nat) : nI a * nI b = nI (a * b) := (Int32.ofNat_mul a b).symm
theorem pk_ix (x : Int32) {n : Nat} (hn : n < 2 ^ 31) : x < 0 ∨ nI n ≤ x ∨ ∃ j : Nat, j < n ∧ x = nI j := by
  by_cases h : x < 0
  · exact Or.inl h
  · obtain ⟨j, hj, rfl⟩ := nI_of h
    by_cases h2 : j < n
    · exact Or.inr (Or.inr ⟨j, h2, rfl⟩)
    · exact Or.inr (Or.inl (nI_le (by omega) hj))
theorem pk_le {x y : Int32} {A B : Prop} (a b : Nat) (f : a ≤ b → A) (g : b < a → B) (hx : x = nI a := by rfl) (hy : y = nI b := by rfl) (ha : a < 2 ^ 31 := by omega) (hb : b < 2 ^ 31 := by omega) : (x ≤ y → A) ∧ (¬ x ≤ y → B) := by
  subst hx hy
  rw [nI_leI ha hb]
  exact ⟨f, fun z => g (by omega)⟩
theorem pk_lt {x y : Int32} {A B : Prop} (a b : Nat) (f : a < b → A) (g : b ≤ a → B) (hx : x = nI a := by rfl) (hy : y = nI b := by rfl) (ha : a < 2 ^ 31 := by omega) (hb : b < 2 ^ 31 := by omega) : (x < y → A) ∧ (¬ x < y → B) := by
  subst hx hy
  rw [nI_ltI ha hb]
  exact ⟨f, fun z => g (by omega)⟩
theorem pk_eq {x y : Int32} {A B : Prop} (a b : Nat) (f : a = b → A) (g : a ≠ b → B) (hx : x = nI a := by rfl) (hy : y = nI b := by rfl) (ha : a < 2 ^ 31 := by omega) (hb : b < 2 ^ 31 := by omega) : (x = y → A) ∧ (¬ x = y → B) := by
  subst hx hy
  rw [nI_eq ha hb]
  exact ⟨f, g⟩
theorem pk_in {x : Int32} (n N : Nat) (h : n < N) (hx : x = nI n := by rfl) (hN : N < 2 ^ 31 := by omega) : vp_in x N := by
  subst hx
  exact vp_in_nI h hN
theorem pk_cl {x : Int32} (n : Nat) (hx : x = nI n := by rfl) (h : n < 2 ^ 31 := by omega) : x.toNatClampNeg = n := by
  subst hx
  exact nI_clamp h
theorem pk_tn {n : Nat} (h : n < 2 ^ 32) : (nI n).toBitVec.toNat = n := Nat.mod_eq_of_lt h
theorem pk_shl (a s : Int32) (k : Nat) (hs : (s.toBitVec.smod 32).toNat = k) : (a <<< s).toBitVec.toNat = a.toBitVec.toNat * 2 ^ k % 2 ^ 32 := by
  show (a.toBitVec <<< (s.toBitVec.smod 32).toNat).toNat = _
  rw [hs, BitVec.toNat_shiftLeft, Nat.shiftLeft_eq]
theorem pk_shlN {n : Nat} (s : Int32) (k : Nat) (hs : (s.toBitVec.smod 32).toNat = k) (h : n * 2 ^ k < 2 ^ 32) : nI n <<< s = nI (n * 2 ^ k) := by
  apply Int32.toBitVec_inj.mp
  apply BitVec.eq_of_toNat_eq
  have hn : n < 2 ^ 32 := Nat.lt_of_le_of_lt (Nat.le_mul_of_pos_right n (Nat.two_pow_pos k)) h
  rw [pk_shl _ _ k hs, pk_tn hn, pk_tn h, Nat.mod_eq_of_lt h]
theorem pk_shr (a s : Int32) (k : Nat) (hs : (s.toBitVec.smod 32).toNat = k) : (a >>> s).toInt = a.toInt >>> k := by
  show (a.toBitVec.sshiftRight (s.toBitVec.smod 32).toNat).toInt = _
  rw [hs, BitVec.toInt_sshiftRight]
  rfl
theorem pk_shrN {n : Nat} (h : n < 2 ^ 31) (s : Int32) (k : Nat) (hs : (s.toBitVec.smod 32).toNat = k) : nI n >>> s = nI (n / 2 ^ k) := by
  apply Int32.toInt_inj.mp
  have h2 : n / 2 ^ k ≤ n := Nat.div_le_self _ _
  rw [pk_shr _ _ k hs, nI_toInt h, nI_toInt (by omega), Int.shiftRight_eq_div_pow]
  rfl
theorem pk_least (P : Nat → Prop) (h : ∃ k, P k) : ∃ k, P k ∧ ∀ j, j < k → ¬ P j := by
  obtain ⟨k, hk⟩ := h
  induction k using Nat.strongRecOn with
  | ind k ih =>
    by_cases e : ∃ j, j < k ∧ P j
    · obtain ⟨j, hj, pj⟩ := e
      exact ih j hj pj
    · exact ⟨k, hk, fun j hj pj => e ⟨j, hj, pj⟩⟩
theorem pk_loop {σ : Type} (W : Nat → Nat → σ → Prop) (I : Nat → σ → Prop) (e i0 : Nat) (s : σ) (hi : i0 ≤ e) (h0 : I i0 s) (hx : ∀ n s, I e s → W (n + 1) e s)
    (hs : ∀ n i s, i < e → I i s → (∀ s', I (i + 1) s' → W n (i + 1) s') → W (n + 1) i s) : ∃ n, W n i0 s :=
  ⟨e + 1, loop_i W I e hx hs (e + 1) i0 s hi (by omega) h0⟩
theorem pk_loopD {σ : Type} (W : Nat → Nat → σ → Prop) (I : Nat → σ → Prop) (hx : ∀ n s, I 0 s → W (n + 1) 0 s)
    (hs : ∀ n i s, I (i + 1) s → (∀ s', I i s' → W n i s') → W (n + 1) (i + 1) s) : ∀ (e : Nat) (s : σ), I e s → W (e + 1) e s := by
  intro e
  induction e with
  | zero => exact fun s h => hx 0 s h
  | succ e ih => exact fun s h => hs (e + 1) e s h (fun s' h' => ih s' h')
theorem sd_sl : ∀ n, n < 32 → ((nI n &&& 31).toBitVec.smod 32).toNat = n := by decide +kernel
theorem sd_shl {v p : Nat} (hp : p < 32) (h : v * 2 ^ p < 2 ^ 32) : nI v <<< (nI p &&& 31) = nI (v * 2 ^ p) := pk_shlN _ p (sd_sl p hp) h
theorem sd_norm {v : Nat} (h1 : 1 ≤ v) (h2 : v ≤ 65535) : ∃ s, s ≤ 15 ∧ 32768 ≤ v * 2 ^ s ∧ v * 2 ^ s < 65536 ∧ ∀ t, t < s → v * 2 ^ t < 32768 := by
  have h15 : 32768 ≤ v * 2 ^ 15 := by omega
  obtain ⟨s, hs, hm⟩ := pk_least (fun k => 32768 ≤ v * 2 ^ k) ⟨15, h15⟩
  have hs15 : s ≤ 15 := by
    apply Nat.le_of_not_lt
    intro h
    exact hm 15 h h15
  refine ⟨s, hs15, hs, ?_, fun t ht => Nat.lt_of_not_le (hm t ht)⟩
  cases s with
  | zero => rw [Nat.pow_zero]; omega
  | succ t =>
    have h3 : ¬ 32768 ≤ v * 2 ^ t := hm t (by omega)
    have e : v * 2 ^ (t + 1) = v * 2 ^ t * 2 := by rw [Nat.pow_succ, Nat.mul_assoc]
    rw [e]
    generalize v * 2 ^ t = w at h3 ⊢
    omega
theorem sd_row {D : Nat} (h1 : 32768 ≤ D) (h2 : D < 65536) : (nI D >>> ((12 : Int32) &&& 31)) - 8 = nI (D / 4096 - 8) := by
  rw [pk_shrN (by omega) _ 12 (by decide)]
  exact pk_sub (b := 8) (by show 8 ≤ D / 4096; omega)
/-! a history moved down by one place, from place k on, up to place e -/
def sd_sh (f : Nat → Int32) (k e : Nat) : Nat → Int32 := fun j => if k < j ∧ j ≤ e then f (j - 1) else f j
theorem sd_she (f : Nat → Int32) (e : Nat) : sd_sh f e e = f := funext fun j => if_neg (by omega)
theorem sd_sh1 {f : Nat → Int32} {k e : Nat} : sd_sh f (k + 1) e k = f k := if_neg (by omega)
theorem sd_shs {f : Nat → Int32} {k e : Nat} (h : k + 1 ≤ e) : upd (sd_sh f (k + 1) e) (k + 1) (f k) = sd_sh f k e := by
  funext j
  unfold upd sd_sh
  by_cases h1 : j = k + 1
  · rw [if_pos h1, if_pos (by omega), h1, Nat.add_sub_cancel]
  · rw [if_neg h1]
    by_cases h2 : k + 1 < j ∧ j ≤ e
    · rw [if_pos h2, if_pos (by omega)]
    · rw [if_neg h2, if_neg (by omega)]
/-- the digit that row r of the table t gives for the estimate e -/
def xd_dig (t : Nat → Int32) (r : Nat) (e : Int32) : Int32 := if t (4 * r) ≤ e then 2 else if t (4 * r + 1) ≤ e then 1 else if t (4 * r + 2) ≤ e then 0 else if t (4 * r + 3) ≤ e then -1 else -2
/-- the estimate of the two words, the next two words, the next two quotients -/
def xd_est (S C : Int64) : Int32 :=
  if 64 ≤ (((S <<< ((2 : Int32).toInt64 &&& 63)) >>> ((30 : Int32).toInt64 &&& 63)) + ((C <<< ((2 : Int32).toInt64 &&& 63)) >>> ((30 : Int32).toInt64 &&& 63)) &&& 127).toInt32
  then (((S <<< ((2 : Int32).toInt64 &&& 63)) >>> ((30 : Int32).toInt64 &&& 63)) + ((C <<< ((2 : Int32).toInt64 &&& 63)) >>> ((30 : Int32).toInt64 &&& 63)) &&& 127).toInt32 - 128
  else (((S <<< ((2 : Int32).toInt64 &&& 63)) >>> ((30 : Int32).toInt64 &&& 63)) + ((C <<< ((2 : Int32).toInt64 &&& 63)) >>> ((30 : Int32).toInt64 &&& 63)) &&& 127).toInt32
def xd_wS (S C : Int64) (d : Int32) (D : Int32) : Int64 := (S <<< ((2 : Int32).toInt64 &&& 63)) ^^^ (C <<< ((2 : Int32).toInt64 &&& 63)) ^^^ ((-d * D).toInt64 <<< ((18 : Int32).toInt64 &&& 63))
def xd_wC (S C : Int64) (d : Int32) (D : Int32) : Int64 := (((S <<< ((2 : Int32).toInt64 &&& 63)) &&& (C <<< ((2 : Int32).toInt64 &&& 63))) ||| ((S <<< ((2 : Int32).toInt64 &&& 63)) &&& ((-d * D).toInt64 <<< ((18 : Int32).toInt64 &&& 63))) ||| ((C <<< ((2 : Int32).toInt64 &&& 63)) &&& ((-d * D).toInt64 <<< ((18 : Int32).toInt64 &&& 63)))) <<< ((1 : Int32).toInt64 &&& 63)
def xd_nP (d qp qm : Int32) : Int32 := if 0 ≤ d then 4 * qp + d else 4 * qm + 4 + d
def xd_nM (d qp qm : Int32) : Int32 := if 0 < d then 4 * qp + d - 1 else 4 * qm + 3 + d
end SDA
end
section
section SDR
/-- the histories agree below n -/
def sd_H (n : Nat) (ax av aq ar yx yv yq yr : Nat → Int32) : Prop := ∀ k, k < n → ax k = yx k ∧ av k = yv k ∧ aq k = yq k ∧ ar k = yr k
/-- operands that a load took -/
def sd_O (x w : Int32) : Prop := ∃ a b : Nat, a ≤ 65535 ∧ 1 ≤ b ∧ b ≤ 65535 ∧ x = nI a ∧ w = nI b
/-- ITERATING, c cycles done -/
def sd_T (c : Nat) (cx cy ro qp qm : Int32) (qa qb : Nat → Int32) : Prop := c ≤ 9 ∧ cx = nI c ∧ cy = nI c ∧ (∃ r, r < 8 ∧ ro = nI r) ∧ qa c = qp ∧ qb c = qm
/-- the four phases -/
def sd_P (ph cx cy x w ro qp qm : Int32) (qa qb : Nat → Int32) : Prop :=
  (ph = 0 ∧ cx = 0) ∨ (ph = 1 ∧ cx = 0 ∧ sd_O x w) ∨ (ph = 2 ∧ sd_O x w ∧ ∃ c, sd_T c cx cy ro qp qm qa qb) ∨ (ph = 3 ∧ sd_O x w ∧ cx = nI 10 ∧ cy = nI 10)
def i_Rel (_ : Nat) (u : SX) (v : SY) : Prop :=
  ∃ (c n : Nat) (dv ph cx cy x w s d ro qp qm fq fr : Int32) (sm ca : Int64) (tb dg es qa qb ax av aq ar yx yv yq yr : Nat → Int32) (pr : Nat → Int64),
    u = (nI c, nI n, dv, ph, cx, x, w, s, d, ro, sm, ca, qp, qm, fq, fr, tb, dg, es, qa, qb, pr, ax, av, aq, ar) ∧ v = (nI c, ph, x, w, cy, s, d, ro, fq, fr, nI n, dv, sm, ca, qp, qm, tb, dg, es, qa, qb, pr, yx, yv, yq, yr) ∧ 1 ≤ c ∧ c ≤ 16 ∧ n ≤ c ∧ sd_H n ax av aq ar yx yv yq yr ∧ sd_P ph cx cy x w ro qp qm qa qb
end SDR
end
section
section SDX
variable {cap pc dv ph cx x w s d ro qp qm fq fr : Int32} {sm ca : Int64} {tb dg es qa qb ax av aq ar : Nat → Int32} {pr : Nat → Int64}
/-! the component, method by method -/
theorem xa_shL {post : Int32 → Prop} {v k : Nat} (hk : k ≤ 15) (h1 : 32768 ≤ v * 2 ^ k) (h2 : v * 2 ^ k < 65536) (hm : ∀ t, t < k → v * 2 ^ t < 32768) (hp : post (nI k)) : ∀ (m p n : Nat), p + m = k → m < n → wX_shiftToNormalise_2 post (nI v) n (nI p) := by
  intro m
  induction m with
  | zero =>
    intro p n hpk hn
    obtain ⟨n, rfl⟩ : ∃ n', n = n' + 1 := ⟨n - 1, by omega⟩
    have e : p = k := by omega
    subst e
    refine pk_le 15 p (fun _ => hp) (fun z => br_t ?_ hp)
    rw [sd_shl (by omega) (by omega)]
    exact nI_le h1 (by omega)
  | succ m ih =>
    intro p n hpk hn
    obtain ⟨n, rfl⟩ : ∃ n', n = n' + 1 := ⟨n - 1, by omega⟩
    have h3 := hm p (by omega)
    refine pk_le 15 p (fun z => absurd z (by omega)) (fun z => br_f ?_ (nm_r (nI_1 p) (ih (p + 1) n (by omega) (by omega))))
    rw [sd_shl (by omega) (by omega)]
    exact nI_ge (b := 32768) h3 (by decide)
theorem xa_shift {post : Int32 → Prop} {v k : Nat} (hk : k ≤ 15) (h1 : 32768 ≤ v * 2 ^ k) (h2 : v * 2 ^ k < 65536) (hm : ∀ t, t < k → v * 2 ^ t < 32768) (hp : post (nI k)) : wpX_shiftToNormalise post (nI v) :=
  ⟨k + 1, xa_shL hk h1 h2 hm hp k 0 (k + 1) (by omega) (by omega)⟩
theorem xa_rec {post : SX → Prop} {j : Nat} {t : Int64} (hj : j < 10) (ht : sm + ca = t) (hp : post (cap, pc, dv, ph, cx, x, w, s, d, ro, sm, ca, qp, qm, fq, fr, tb, dg, es, upd qa j qp, upd qb j qm, vp_updL pr j t, ax, av, aq, ar)) : wpX_recordRegisters post (cap, pc, dv, ph, cx, x, w, s, d, ro, sm, ca, qp, qm, fq, fr, tb, dg, es, qa, qb, pr, ax, av, aq, ar) (nI j) :=
  ⟨vp_in_nI hj (by decide), nm_r (by rw [nI_clamp (by omega)]) ⟨vp_in_nI hj (by decide), nm_r (by rw [nI_clamp (by omega)]) ⟨vp_in_nI hj (by decide), nm_r (by rw [nI_clamp (by omega), ht]) hp⟩⟩⟩
theorem xa_begin {post : SX → Prop} {b k : Nat} (hk : k ≤ 15) (h1 : 32768 ≤ b * 2 ^ k) (h2 : b * 2 ^ k < 65536) (hm : ∀ t, t < k → b * 2 ^ t < 32768)
    (hp : post (cap, pc, dv, 2, 0, x, nI b, nI k, nI (b * 2 ^ k), nI (b * 2 ^ k / 4096 - 8), x.toInt64 <<< ((nI k).toInt64 &&& 63), 0, 0, -1, fq, fr, tb, dg, es, upd qa 0 0, upd qb 0 (-1), vp_updL pr 0 (x.toInt64 <<< ((nI k).toInt64 &&& 63)), ax, av, aq, ar)) : wpX_beginDivision post (cap, pc, dv, ph, cx, x, nI b, s, d, ro, sm, ca, qp, qm, fq, fr, tb, dg, es, qa, qb, pr, ax, av, aq, ar) := by
  unfold wpX_beginDivision
  refine xa_shift hk h1 h2 hm (nm_r (sd_shl (by omega) (by omega)) (nm_r (sd_row h1 h2) (nm_e ?_)))
  exact xa_rec (j := 0) (by decide) (Int64.add_zero _) hp
theorem xa_est {post : Int32 → Prop} {S C : Int64} (hp : post (xd_est S C)) : wpX_truncatedEstimate post (S <<< ((2 : Int32).toInt64 &&& 63)) (C <<< ((2 : Int32).toInt64 &&& 63)) := by
  unfold xd_est at hp
  refine nm_e (nm_e (br_c (fun h => ?_) (fun h => ?_)))
  · rw [if_neg (Int32.not_le.mpr h)] at hp
    exact hp
  · rw [if_pos (Int32.not_lt.mp h)] at hp
    exact hp
theorem sd_g0 : ∀ r, r < 8 → nI r * 4 + 2 - 2 = nI (4 * r + 0) := by decide +kernel
theorem sd_g1 : ∀ r, r < 8 → nI r * 4 + 2 - 1 = nI (4 * r + 1) := by decide +kernel
theorem sd_g2 : ∀ r, r < 8 → nI r * 4 + 2 - 0 = nI (4 * r + 2) := by decide +kernel
theorem sd_g3 : ∀ r, r < 8 → nI r * 4 + 2 - (-1) = nI (4 * r + 3) := by decide +kernel
theorem xa_te {post : Int32 → Prop} {r i : Nat} {g : Int32} (hr : r < 8) (hi : i < 4) (hg : nI r * 4 + 2 - g = nI (4 * r + i)) (hp : post (tb (4 * r + i))) : wpX_tableEntry post (cap, pc, dv, ph, cx, x, w, s, d, ro, sm, ca, qp, qm, fq, fr, tb, dg, es, qa, qb, pr, ax, av, aq, ar) (nI r) g := by
  show vp_in (nI r * 4 + 2 - g) 32 ∧ post (tb (nI r * 4 + 2 - g).toNatClampNeg)
  rw [hg, nI_clamp (by omega)]
  exact ⟨vp_in_nI (by omega) (by decide), hp⟩
theorem xa_choose {post : Int32 → Prop} {r : Nat} {e : Int32} (hr : r < 8) (hp : post (xd_dig tb r e)) : wpX_chooseDigit post (cap, pc, dv, ph, cx, x, w, s, d, nI r, sm, ca, qp, qm, fq, fr, tb, dg, es, qa, qb, pr, ax, av, aq, ar) e := by
  unfold xd_dig at hp
  refine ⟨6, br_f (by decide) (xa_te hr (i := 0) (by decide) (sd_g0 r hr) (br_c (fun h => ?_) (fun h => ?_)))⟩
  rotate_left
  · rw [if_pos (show tb (4 * r) ≤ e from Int32.not_lt.mp h)] at hp
    exact hp
  rw [if_neg (show ¬ tb (4 * r) ≤ e from Int32.not_le.mpr h)] at hp
  refine nm_r (e' := 1) (by decide) (br_f (by decide) (xa_te hr (i := 1) (by decide) (sd_g1 r hr) (br_c (fun h => ?_) (fun h => ?_))))
  rotate_left
  · rw [if_pos (show tb (4 * r + 1) ≤ e from Int32.not_lt.mp h)] at hp
    exact hp
  rw [if_neg (show ¬ tb (4 * r + 1) ≤ e from Int32.not_le.mpr h)] at hp
  refine nm_r (e' := 0) (by decide) (br_f (by decide) (xa_te hr (i := 2) (by decide) (sd_g2 r hr) (br_c (fun h => ?_) (fun h => ?_))))
  rotate_left
  · rw [if_pos (show tb (4 * r + 2) ≤ e from Int32.not_lt.mp h)] at hp
    exact hp
  rw [if_neg (show ¬ tb (4 * r + 2) ≤ e from Int32.not_le.mpr h)] at hp
  refine nm_r (e' := -1) (by decide) (br_f (by decide) (xa_te hr (i := 3) (by decide) (sd_g3 r hr) (br_c (fun h => ?_) (fun h => ?_))))
  rotate_left
  · rw [if_pos (show tb (4 * r + 3) ≤ e from Int32.not_lt.mp h)] at hp
    exact hp
  rw [if_neg (show ¬ tb (4 * r + 3) ≤ e from Int32.not_le.mpr h)] at hp
  exact nm_r (e' := -2) (by decide) (br_t (by decide) hp)
theorem xa_add {post : SX → Prop} {S C : Int64} {g : Int32} (hp : post (cap, pc, dv, ph, cx, x, w, s, d, ro, xd_wS S C g d, xd_wC S C g d, qp, qm, fq, fr, tb, dg, es, qa, qb, pr, ax, av, aq, ar)) : wpX_addMultiple post (cap, pc, dv, ph, cx, x, w, s, d, ro, sm, ca, qp, qm, fq, fr, tb, dg, es, qa, qb, pr, ax, av, aq, ar) (S <<< ((2 : Int32).toInt64 &&& 63)) (C <<< ((2 : Int32).toInt64 &&& 63)) g := nm_e (nm_e (nm_e hp))
theorem xa_app {post : SX → Prop} {g : Int32} (hp : post (cap, pc, dv, ph, cx, x, w, s, d, ro, sm, ca, xd_nP g qp qm, xd_nM g qp qm, fq, fr, tb, dg, es, qa, qb, pr, ax, av, aq, ar)) : wpX_appendDigit post (cap, pc, dv, ph, cx, x, w, s, d, ro, sm, ca, qp, qm, fq, fr, tb, dg, es, qa, qb, pr, ax, av, aq, ar) g := by
  unfold xd_nP xd_nM at hp
  refine br_c (fun h => ?_) (fun h => ?_)
  · rw [if_neg (show ¬ (0 : Int32) ≤ g from Int32.not_le.mpr h)] at hp
    refine br_c (fun h2 => ?_) (fun h2 => ?_)
    · rw [if_neg (show ¬ (0 : Int32) < g from Int32.not_lt.mpr h2)] at hp
      exact hp
    · rw [if_pos (show (0 : Int32) < g from Int32.not_le.mp h2)] at hp
      exact hp
  · rw [if_pos (show (0 : Int32) ≤ g from Int32.not_lt.mp h)] at hp
    refine br_c (fun h2 => ?_) (fun h2 => ?_)
    · rw [if_neg (show ¬ (0 : Int32) < g from Int32.not_lt.mpr h2)] at hp
      exact hp
    · rw [if_pos (show (0 : Int32) < g from Int32.not_le.mp h2)] at hp
      exact hp
theorem xa_iter {post : SX → Prop} {r j : Nat} {E G P M : Int32} {S C T : Int64} (hr : r < 8) (hj : j < 10) (hE : xd_est sm ca = E) (hG : xd_dig tb r E = G) (hS : xd_wS sm ca G d = S) (hC : xd_wC sm ca G d = C) (hP : xd_nP G qp qm = P) (hM : xd_nM G qp qm = M) (hT : S + C = T)
    (hp : post (cap, pc, dv, ph, cx, x, w, s, d, nI r, S, C, P, M, fq, fr, tb, upd dg j G, upd es j E, upd qa j P, upd qb j M, vp_updL pr j T, ax, av, aq, ar)) : wpX_iterate post (cap, pc, dv, ph, cx, x, w, s, d, nI r, sm, ca, qp, qm, fq, fr, tb, dg, es, qa, qb, pr, ax, av, aq, ar) (nI j) := by
  subst hE hG hS hC hP hM
  refine nm_e (nm_e (xa_est ?_))
  refine xa_choose hr ?_
  refine xa_add ?_
  refine xa_app ?_
  refine ⟨vp_in_nI hj (by decide), nm_r (e' := upd es j (xd_est sm ca)) (by rw [nI_clamp (by omega)]) ⟨vp_in_nI hj (by decide), nm_r (e' := upd dg j (xd_dig tb r (xd_est sm ca))) (by rw [nI_clamp (by omega)]) ?_⟩⟩
  exact xa_rec hj hT hp
/-! the history -/
def sd_pc (c m : Nat) : Nat := if c ≤ m then m else m + 1
theorem sd_in1 {k : Nat} (h : k < 16) : vp_in (nI (k + 1) - 1) 16 := by
  rw [nI_pred]
  exact vp_in_nI h (by decide)
theorem sd_shN {f : Nat → Int32} {k e : Nat} (h : k + 1 ≤ e) (hk : k + 1 < 2 ^ 31) : upd (sd_sh f (k + 1) e) (nI (k + 1)).toNatClampNeg (sd_sh f (k + 1) e (nI (k + 1) - 1).toNatClampNeg) = sd_sh f k e := by
  rw [nI_pred, nI_clamp hk, nI_clamp (by omega), sd_sh1, sd_shs h]
theorem xa_pushL {post : SX → Prop} {c m : Nat} (hc : c ≤ 16) (hm : m ≤ 16) (hp : post (nI c, nI (sd_pc c m), dv, ph, cx, x, w, s, d, ro, sm, ca, qp, qm, fq, fr, tb, dg, es, qa, qb, pr, upd (sd_sh ax 0 15) 0 x, upd (sd_sh av 0 15) 0 w, upd (sd_sh aq 0 15) 0 fq, upd (sd_sh ar 0 15) 0 fr)) :
    ∀ (k n : Nat), k ≤ 15 → k < n → wX_pushHistory_3 post (nI c) (nI m) dv ph cx x w s d ro sm ca qp qm fq fr n (nI k) tb dg es qa qb pr (sd_sh ax k 15) (sd_sh av k 15) (sd_sh aq k 15) (sd_sh ar k 15) := by
  intro k
  induction k with
  | zero =>
    intro n hk hn
    obtain ⟨n, rfl⟩ : ∃ n', n = n' + 1 := ⟨n - 1, by omega⟩
    refine br_t (by decide) (nm_e (nm_e (nm_e (nm_e ?_))))
    refine pk_le c m (fun z => ?_) (fun z => nm_r (nI_1 m) ?_)
    · have e : sd_pc c m = m := if_pos z
      rw [e] at hp
      exact hp
    · have e : sd_pc c m = m + 1 := if_neg (by omega)
      rw [e] at hp
      exact hp
  | succ k ih =>
    intro n hk hn
    obtain ⟨n, rfl⟩ : ∃ n', n = n' + 1 := ⟨n - 1, by omega⟩
    have i1 : vp_in (nI (k + 1) - 1) 16 := sd_in1 (by omega)
    have i2 : vp_in (nI (k + 1)) 16 := vp_in_nI (by omega) (by decide)
    exact br_f (nI_nle (by omega) (by omega)) ⟨i1, i2, nm_r (sd_shN hk (by omega)) ⟨i1, i2, nm_r (sd_shN hk (by omega)) ⟨i1, i2, nm_r (sd_shN hk (by omega)) ⟨i1, i2, nm_r (sd_shN hk (by omega)) (nm_r (pk_m1 k) (ih n (by omega) (by omega)))⟩⟩⟩⟩
theorem xa_push {post : SX → Prop} {c m : Nat} (hc : c ≤ 16) (hm : m ≤ 16) (hp : post (nI c, nI (sd_pc c m), dv, ph, cx, x, w, s, d, ro, sm, ca, qp, qm, fq, fr, tb, dg, es, qa, qb, pr, upd (sd_sh ax 0 15) 0 x, upd (sd_sh av 0 15) 0 w, upd (sd_sh aq 0 15) 0 fq, upd (sd_sh ar 0 15) 0 fr)) : wpX_pushHistory post (nI c, nI m, dv, ph, cx, x, w, s, d, ro, sm, ca, qp, qm, fq, fr, tb, dg, es, qa, qb, pr, ax, av, aq, ar) := by
  have h := xa_pushL hc hm hp 15 16 (by decide) (by decide)
  rw [sd_she, sd_she, sd_she, sd_she] at h
  exact ⟨16, h⟩
theorem xa_corr {post : SX → Prop} {c m : Nat} {F R : Int32} (hc : c ≤ 16) (hm : m ≤ 16) (hF : (if pr 9 < 0 then qm else qp) = F) (hR : (if pr 9 < 0 then (pr 9 >>> ((18 : Int32).toInt64 &&& 63)).toInt32 + d else (pr 9 >>> ((18 : Int32).toInt64 &&& 63)).toInt32) >>> (s &&& 31) = R)
    (hp : post (nI c, nI (sd_pc c m), dv + 1, 3, cx, x, w, s, d, ro, sm, ca, qp, qm, F, R, tb, dg, es, qa, qb, pr, upd (sd_sh ax 0 15) 0 x, upd (sd_sh av 0 15) 0 w, upd (sd_sh aq 0 15) 0 F, upd (sd_sh ar 0 15) 0 R)) : wpX_correct post (nI c, nI m, dv, ph, cx, x, w, s, d, ro, sm, ca, qp, qm, fq, fr, tb, dg, es, qa, qb, pr, ax, av, aq, ar) := by
  refine nm_e (nm_e (br_c (fun h => ?_) (fun h => ?_)))
  · have h' : ¬ pr 9 < 0 := Int64.not_lt.mpr h
    rw [if_neg h'] at hF hR
    subst hF hR
    exact br_t rfl (br_t rfl (nm_e (nm_e (xa_push hc hm hp))))
  · have h' : pr 9 < 0 := Int64.not_le.mp h
    rw [if_pos h'] at hF hR
    subst hF hR
    exact br_f (by decide) (br_f (by decide) (nm_e (nm_e (xa_push hc hm hp))))
/-! the loop of cycles: its end, an iteration, the correction -/
theorem xa_r0 {post : SX → Prop} {l i n : Nat} (h : l ≤ i) (hi : i < 2 ^ 31) (hp : post (cap, pc, dv, ph, cx, x, w, s, d, ro, sm, ca, qp, qm, fq, fr, tb, dg, es, qa, qb, pr, ax, av, aq, ar)) : wX_runCycles_2 post (nI l) (n + 1) (nI i) cap pc dv ph cx x w s d ro sm ca qp qm fq fr tb dg es qa qb pr ax av aq ar := br_t (nI_le h hi) hp
theorem xa_r1 {post : SX → Prop} {l i n c r : Nat} {E G P M : Int32} {S C T : Int64} (h : i < l) (hl : l ≤ 10) (hc : c < 9) (hr' : r < 8) (hE : xd_est sm ca = E) (hG : xd_dig tb r E = G) (hS : xd_wS sm ca G d = S) (hC : xd_wC sm ca G d = C) (hP : xd_nP G qp qm = P) (hM : xd_nM G qp qm = M) (hT : S + C = T)
    (hp : wX_runCycles_2 post (nI l) n (nI (i + 1)) cap pc dv ph (nI (c + 1)) x w s d (nI r) S C P M fq fr tb (upd dg (c + 1) G) (upd es (c + 1) E) (upd qa (c + 1) P) (upd qb (c + 1) M) (vp_updL pr (c + 1) T) ax av aq ar) : wX_runCycles_2 post (nI l) (n + 1) (nI i) cap pc dv ph (nI c) x w s d (nI r) sm ca qp qm fq fr tb dg es qa qb pr ax av aq ar := by
  refine br_f (nI_ge h (by omega)) (br_f (nI_ge (b := 9) hc (by decide)) ?_)
  rw [nI_1 c]
  exact xa_iter hr' (by omega) hE hG hS hC hP hM hT (nm_r (nI_1 c) (nm_r (nI_1 i) hp))
theorem xa_r2 {post : SX → Prop} {l i n c m : Nat} {F R : Int32} (h : i < l) (hl : l ≤ 10) (hc : c ≤ 16) (hm : m ≤ 16) (hF : (if pr 9 < 0 then qm else qp) = F) (hR : (if pr 9 < 0 then (pr 9 >>> ((18 : Int32).toInt64 &&& 63)).toInt32 + d else (pr 9 >>> ((18 : Int32).toInt64 &&& 63)).toInt32) >>> (s &&& 31) = R)
    (hp : wX_runCycles_2 post (nI l) n (nI (i + 1)) (nI c) (nI (sd_pc c m)) (dv + 1) 3 (nI 10) x w s d ro sm ca qp qm F R tb dg es qa qb pr (upd (sd_sh ax 0 15) 0 x) (upd (sd_sh av 0 15) 0 w) (upd (sd_sh aq 0 15) 0 F) (upd (sd_sh ar 0 15) 0 R)) : wX_runCycles_2 post (nI l) (n + 1) (nI i) (nI c) (nI m) dv ph (nI 9) x w s d ro sm ca qp qm fq fr tb dg es qa qb pr ax av aq ar := by
  refine br_f (nI_ge h (by omega)) (br_t (by decide) ?_)
  exact xa_corr hc hm hF hR (nm_r (nI_1 9) (nm_r (nI_1 i) hp))
end SDX
end
section
section SDY
variable {cap pc dv ph cy x w s d ro qp qm fq fr : Int32} {sm ca : Int64} {tb dg es qa qb yx yv yq yr : Nat → Int32} {pr : Nat → Int64}
/-! the reference, method by method -/
theorem ya_startL {post : Int32 → SY → Prop} {b k : Nat} (hk : k ≤ 15) (h1 : 32768 ≤ b * 2 ^ k) (h2 : b * 2 ^ k < 65536) (hm : ∀ t, t < k → b * 2 ^ t < 32768)
    (hp : post 1 (cap, 2, x, nI b, 0, nI k, nI (b * 2 ^ k), nI (b * 2 ^ k / 4096 - 8), fq, fr, pc, dv, x.toInt64 <<< ((nI k).toInt64 &&& 63), 0, 0, -1, tb, dg, es, upd qa 0 0, upd qb 0 (-1), vp_updL pr 0 (x.toInt64 <<< ((nI k).toInt64 &&& 63)), yx, yv, yq, yr)) :
    ∀ (m p n : Nat), p + m = k → m < n → wY_start_15 post cap ph x (nI b) cy d ro fq fr pc dv sm ca qp qm tb dg es qa qb pr yx yv yq yr n (nI p) := by
  have hE : wY_start_51 post cap ph x (nI b) cy (nI k) d ro fq fr pc dv sm ca qp qm tb dg es qa qb pr yx yv yq yr := nm_r (sd_shl (by omega) (by omega)) (nm_e (nm_r (sd_row h1 h2) (nm_e (nm_e (nm_e hp)))))
  intro m
  induction m with
  | zero =>
    intro p n hpk hn
    obtain ⟨n, rfl⟩ : ∃ n', n = n' + 1 := ⟨n - 1, by omega⟩
    have e : p = k := by omega
    subst e
    refine br_f (nI_ge (b := 16) (by omega) (by decide)) (br_t ?_ hE)
    rw [sd_shl (by omega) (by omega)]
    exact nI_le h1 (by omega)
  | succ m ih =>
    intro p n hpk hn
    obtain ⟨n, rfl⟩ : ∃ n', n = n' + 1 := ⟨n - 1, by omega⟩
    have h3 := hm p (by omega)
    refine br_f (nI_ge (b := 16) (by omega) (by decide)) (br_f ?_ (nm_r (nI_1 p) (ih (p + 1) n (by omega) (by omega))))
    rw [sd_shl (by omega) (by omega)]
    exact nI_ge (b := 32768) h3 (by decide)
theorem ya_start {post : Int32 → SY → Prop} {b k : Nat} (hk : k ≤ 15) (h1 : 32768 ≤ b * 2 ^ k) (h2 : b * 2 ^ k < 65536) (hm : ∀ t, t < k → b * 2 ^ t < 32768)
    (hp : post 1 (cap, 2, x, nI b, 0, nI k, nI (b * 2 ^ k), nI (b * 2 ^ k / 4096 - 8), fq, fr, pc, dv, x.toInt64 <<< ((nI k).toInt64 &&& 63), 0, 0, -1, tb, dg, es, upd qa 0 0, upd qb 0 (-1), vp_updL pr 0 (x.toInt64 <<< ((nI k).toInt64 &&& 63)), yx, yv, yq, yr)) : wpY_start post (cap, 1, x, nI b, cy, s, d, ro, fq, fr, pc, dv, sm, ca, qp, qm, tb, dg, es, qa, qb, pr, yx, yv, yq, yr) :=
  br_t rfl ⟨k + 1, ya_startL hk h1 h2 hm hp k 0 (k + 1) (by omega) (by omega)⟩
theorem ya_247 {post : SY → Prop} {j : Nat} {T : Int64} (hj : j < 10) (hT : sm + ca = T) (hp : post (cap, ph, x, w, nI j, s, d, ro, fq, fr, pc, dv, sm, ca, qp, qm, tb, dg, es, upd qa j qp, upd qb j qm, vp_updL pr j T, yx, yv, yq, yr)) : wY_runCycle_247 post (nI j) cap ph x w cy s d ro fq fr pc dv sm ca qp qm tb dg es qa qb pr yx yv yq yr :=
  ⟨vp_in_nI hj (by decide), nm_r (by rw [nI_clamp (by omega)]) ⟨vp_in_nI hj (by decide), nm_r (by rw [nI_clamp (by omega)]) ⟨vp_in_nI hj (by decide), nm_r (by rw [nI_clamp (by omega), hT]) hp⟩⟩⟩
theorem ya_end {post : SY → Prop} {j n : Nat} {e G P M : Int32} {S C T : Int64} (hj : j < 10) (hS : xd_wS sm ca G d = S) (hC : xd_wC sm ca G d = C) (hP : xd_nP G qp qm = P) (hM : xd_nM G qp qm = M) (hT : S + C = T)
    (hp : post (cap, ph, x, w, nI j, s, d, ro, fq, fr, pc, dv, S, C, P, M, tb, upd dg j G, es, upd qa j P, upd qb j M, vp_updL pr j T, yx, yv, yq, yr)) : wY_runCycle_79 post (nI j) (sm <<< ((2 : Int32).toInt64 &&& 63)) (ca <<< ((2 : Int32).toInt64 &&& 63)) e cap ph x w cy s d ro fq fr pc dv sm ca qp qm tb dg es qa qb pr yx yv yq yr (n + 1) G (-1) := by
  subst hS hC
  unfold xd_nP at hP
  unfold xd_nM at hM
  refine br_t (by decide) ⟨vp_in_nI hj (by decide), nm_r (e' := upd dg j G) (by rw [nI_clamp (by omega)]) (nm_e (nm_e (nm_e (br_c (fun h => ?_) (fun h => ?_)))))⟩
  · rw [if_neg (show ¬ (0 : Int32) ≤ G from Int32.not_le.mpr h)] at hP
    refine nm_r hP (br_c (fun h2 => ?_) (fun h2 => ?_))
    · rw [if_neg (show ¬ (0 : Int32) < G from Int32.not_lt.mpr h2)] at hM
      exact nm_r hM (ya_247 hj hT hp)
    · rw [if_pos (show (0 : Int32) < G from Int32.not_le.mp h2)] at hM
      exact nm_r hM (ya_247 hj hT hp)
  · rw [if_pos (show (0 : Int32) ≤ G from Int32.not_lt.mp h)] at hP
    refine nm_r hP (br_c (fun h2 => ?_) (fun h2 => ?_))
    · rw [if_neg (show ¬ (0 : Int32) < G from Int32.not_lt.mpr h2)] at hM
      exact nm_r hM (ya_247 hj hT hp)
    · rw [if_pos (show (0 : Int32) < G from Int32.not_le.mp h2)] at hM
      exact nm_r hM (ya_247 hj hT hp)
theorem sd_ix {r i : Nat} : nI r * 4 + nI i = nI (4 * r + i) := by
  have e : nI r * 4 = nI (r * 4) := pk_mul r 4
  rw [e, nI_add, Nat.mul_comm]
theorem ya_s {post : SY → Prop} {x1 e g g' i' : Int32} {x2 x4 : Int64} {r i n : Nat} (hr : r < 8) (hi : i < 4) (hg : (if tb (4 * r + i) ≤ e then 2 - nI i else g) = g') (h' : nI i + (-1) = i') (H : wY_runCycle_79 post x1 x2 x4 e cap ph x w cy s d (nI r) fq fr pc dv sm ca qp qm tb dg es qa qb pr yx yv yq yr n g' i') : wY_runCycle_79 post x1 x2 x4 e cap ph x w cy s d (nI r) fq fr pc dv sm ca qp qm tb dg es qa qb pr yx yv yq yr (n + 1) g (nI i) := by
  refine br_f (nI_pos (by omega)) ?_
  rw [sd_ix, nI_clamp (by omega)]
  refine ⟨vp_in_nI (by omega) (by decide), br_c (fun h => ?_) (fun h => ?_)⟩
  · rw [if_neg (Int32.not_le.mpr h)] at hg
    subst hg
    exact nm_r h' H
  · rw [if_pos (Int32.not_lt.mp h)] at hg
    exact nm_r hg (nm_r h' H)
theorem ya_dig {post : SY → Prop} {x1 e : Int32} {x2 x4 : Int64} {r n : Nat} (hr : r < 8) (H : wY_runCycle_79 post x1 x2 x4 e cap ph x w cy s d (nI r) fq fr pc dv sm ca qp qm tb dg es qa qb pr yx yv yq yr n (xd_dig tb r e) (-1)) : wY_runCycle_79 post x1 x2 x4 e cap ph x w cy s d (nI r) fq fr pc dv sm ca qp qm tb dg es qa qb pr yx yv yq yr (n + 4) (-2) 3 := by
  refine ya_s hr (i := 3) (by decide) rfl (i' := nI 2) (by decide) ?_
  refine ya_s hr (i := 2) (by decide) rfl (i' := nI 1) (by decide) ?_
  refine ya_s hr (i := 1) (by decide) rfl (i' := nI 0) (by decide) ?_
  exact ya_s hr (i := 0) (by decide) rfl (i' := -1) (by decide) H
theorem ya_64 {post : SY → Prop} {r j : Nat} {E G P M : Int32} {S C T : Int64} (hr : r < 8) (hj : j < 10) (hG : xd_dig tb r E = G) (hS : xd_wS sm ca G d = S) (hC : xd_wC sm ca G d = C) (hP : xd_nP G qp qm = P) (hM : xd_nM G qp qm = M) (hT : S + C = T)
    (hp : post (cap, ph, x, w, nI j, s, d, nI r, fq, fr, pc, dv, S, C, P, M, tb, upd dg j G, upd es j E, upd qa j P, upd qb j M, vp_updL pr j T, yx, yv, yq, yr)) : wY_runCycle_64 post (nI j) (sm <<< ((2 : Int32).toInt64 &&& 63)) (ca <<< ((2 : Int32).toInt64 &&& 63)) E cap ph x w cy s d (nI r) fq fr pc dv sm ca qp qm tb dg es qa qb pr yx yv yq yr := by
  subst hG
  exact ⟨vp_in_nI hj (by decide), nm_r (e' := upd es j E) (by rw [nI_clamp (by omega)]) ⟨5, ya_dig hr (ya_end hj hS hC hP hM hT hp)⟩⟩
theorem ya_iter {post : SY → Prop} {r c : Nat} {E G P M : Int32} {S C T : Int64} (hr : r < 8) (hc : c < 9) (hE : xd_est sm ca = E) (hG : xd_dig tb r E = G) (hS : xd_wS sm ca G d = S) (hC : xd_wC sm ca G d = C) (hP : xd_nP G qp qm = P) (hM : xd_nM G qp qm = M) (hT : S + C = T)
    (hp : post (cap, ph, x, w, nI (c + 1), s, d, nI r, fq, fr, pc, dv, S, C, P, M, tb, upd dg (c + 1) G, upd es (c + 1) E, upd qa (c + 1) P, upd qb (c + 1) M, vp_updL pr (c + 1) T, yx, yv, yq, yr)) : wpY_runCycle post (cap, ph, x, w, nI c, s, d, nI r, fq, fr, pc, dv, sm, ca, qp, qm, tb, dg, es, qa, qb, pr, yx, yv, yq, yr) := by
  unfold xd_est at hE
  refine nm_r (nI_1 c) (br_f (nI_nlt (b := c + 1) (a := 9) (by omega) (by decide)) (nm_e (nm_e (nm_e (nm_e (br_c (fun h => ?_) (fun h => ?_)))))))
  · rw [if_neg (Int32.not_le.mpr h)] at hE
    subst hE
    exact ya_64 hr (by omega) hG hS hC hP hM hT hp
  · rw [if_pos (Int32.not_lt.mp h)] at hE
    exact nm_r hE (ya_64 hr (by omega) hG hS hC hP hM hT hp)
/-! the history -/
theorem ya_pushL {post : SY → Prop} {e : Nat} (he : e ≤ 15) (hp : post (cap, ph, x, w, cy, s, d, ro, fq, fr, nI (e + 1), dv, sm, ca, qp, qm, tb, dg, es, qa, qb, pr, upd (sd_sh yx 0 e) 0 x, upd (sd_sh yv 0 e) 0 w, upd (sd_sh yq 0 e) 0 fq, upd (sd_sh yr 0 e) 0 fr)) :
    ∀ (k n : Nat), k ≤ e → k < n → wY_pushHistory_24 post (nI e) cap ph x w cy s d ro fq fr pc dv sm ca qp qm n (nI k) tb dg es qa qb pr (sd_sh yx k e) (sd_sh yv k e) (sd_sh yq k e) (sd_sh yr k e) := by
  intro k
  induction k with
  | zero =>
    intro n hk hn
    obtain ⟨n, rfl⟩ : ∃ n', n = n' + 1 := ⟨n - 1, by omega⟩
    exact br_t (by decide) (nm_e (nm_e (nm_e (nm_e (nm_r (nI_1 e) hp)))))
  | succ k ih =>
    intro n hk hn
    obtain ⟨n, rfl⟩ : ∃ n', n = n' + 1 := ⟨n - 1, by omega⟩
    have i1 : vp_in (nI (k + 1) - 1) 16 := sd_in1 (by omega)
    have i2 : vp_in (nI (k + 1)) 16 := vp_in_nI (by omega) (by decide)
    exact br_f (nI_nlt (b := 1) (by omega) (by omega)) ⟨i1, i2, nm_r (sd_shN hk (by omega)) ⟨i1, i2, nm_r (sd_shN hk (by omega)) ⟨i1, i2, nm_r (sd_shN hk (by omega)) ⟨i1, i2, nm_r (sd_shN hk (by omega)) (nm_r (pk_m1 k) (ih n (by omega) (by omega)))⟩⟩⟩⟩
def sd_mm (c m : Nat) : Nat := if m ≤ c - 1 then m else c - 1
theorem ya_push {post : SY → Prop} {c m : Nat} (h1 : 1 ≤ c) (hc : c ≤ 16) (hm : m ≤ 16) (hp : post (nI c, ph, x, w, cy, s, d, ro, fq, fr, nI (sd_mm c m + 1), dv, sm, ca, qp, qm, tb, dg, es, qa, qb, pr, upd (sd_sh yx 0 (sd_mm c m)) 0 x, upd (sd_sh yv 0 (sd_mm c m)) 0 w, upd (sd_sh yq 0 (sd_mm c m)) 0 fq, upd (sd_sh yr 0 (sd_mm c m)) 0 fr)) : wpY_pushHistory post (nI c, ph, x, w, cy, s, d, ro, fq, fr, nI m, dv, sm, ca, qp, qm, tb, dg, es, qa, qb, pr, yx, yv, yq, yr) := by
  have ec : nI c - 1 = nI (c - 1) := pk_sub (b := 1) h1
  have h := ya_pushL (cap := nI c) (pc := nI m) (e := sd_mm c m) (by unfold sd_mm; split <;> omega) hp (sd_mm c m) (sd_mm c m + 1) (Nat.le_refl _) (by omega)
  rw [sd_she, sd_she, sd_she, sd_she] at h
  refine pk_le m (c - 1) (fun z => ?_) (fun z => nm_r ec ?_) rfl ec
  · have e : sd_mm c m = m := if_pos z
    rw [e] at h
    exact ⟨_, h⟩
  · have e : sd_mm c m = c - 1 := if_neg (by omega)
    rw [e] at h
    exact ⟨_, h⟩
theorem sd_i32 (a : Int64) (b : Int32) : (a + b.toInt64).toInt32 = a.toInt32 + b := by
  rw [Int64.toInt32_add, Int32.toInt32_toInt64]
theorem ya_347 {post : SY → Prop} {c m : Nat} {z R : Int32} (h1 : 1 ≤ c) (hc : c ≤ 16) (hm : m ≤ 16) (hR : z >>> (s &&& 31) = R)
    (hp : post (nI c, 3, x, w, nI 10, s, d, ro, fq, R, nI (sd_mm c m + 1), dv + 1, sm, ca, qp, qm, tb, dg, es, qa, qb, pr, upd (sd_sh yx 0 (sd_mm c m)) 0 x, upd (sd_sh yv 0 (sd_mm c m)) 0 w, upd (sd_sh yq 0 (sd_mm c m)) 0 fq, upd (sd_sh yr 0 (sd_mm c m)) 0 R)) : wY_runCycle_347 post z (nI c) ph x w cy s d ro fq fr (nI m) dv sm ca qp qm tb dg es qa qb pr yx yv yq yr :=
  nm_r hR (ya_push h1 hc hm (nm_e hp))
theorem ya_corr {post : SY → Prop} {c m : Nat} {F R : Int32} (h1 : 1 ≤ c) (hc : c ≤ 16) (hm : m ≤ 16) (hF : (if pr 9 < 0 then qb 9 else qa 9) = F) (hR : (if pr 9 < 0 then (pr 9 >>> ((18 : Int32).toInt64 &&& 63)).toInt32 + d else (pr 9 >>> ((18 : Int32).toInt64 &&& 63)).toInt32) >>> (s &&& 31) = R)
    (hp : post (nI c, 3, x, w, nI 10, s, d, ro, F, R, nI (sd_mm c m + 1), dv + 1, sm, ca, qp, qm, tb, dg, es, qa, qb, pr, upd (sd_sh yx 0 (sd_mm c m)) 0 x, upd (sd_sh yv 0 (sd_mm c m)) 0 w, upd (sd_sh yq 0 (sd_mm c m)) 0 F, upd (sd_sh yr 0 (sd_mm c m)) 0 R)) : wpY_runCycle post (nI c, ph, x, w, nI 9, s, d, ro, fq, fr, nI m, dv, sm, ca, qp, qm, tb, dg, es, qa, qb, pr, yx, yv, yq, yr) := by
  refine nm_r (nI_1 9) (br_t (by decide) (nm_e (br_c (fun h => ?_) (fun h => ?_))))
  · have h' : ¬ pr 9 < 0 := Int64.not_lt.mpr h
    rw [if_neg h'] at hF hR
    subst hF
    exact nm_e (nm_e (ya_347 h1 hc hm hR hp))
  · have h' : pr 9 < 0 := Int64.not_le.mp h
    rw [if_pos h'] at hF hR
    subst hF
    exact nm_e (nm_r (sd_i32 _ _) (ya_347 h1 hc hm hR hp))
/-! the loop of cycles -/
theorem ya_r0 {post : Int32 → SY → Prop} {l i n : Nat} (h : l ≤ i) (hi : i < 2 ^ 31) (hp : post (nI l) (cap, ph, x, w, cy, s, d, ro, fq, fr, pc, dv, sm, ca, qp, qm, tb, dg, es, qa, qb, pr, yx, yv, yq, yr)) : wY_step_34 post (nI l) (n + 1) (nI i) cap ph x w cy s d ro fq fr pc dv sm ca qp qm tb dg es qa qb pr yx yv yq yr := br_t (nI_le h hi) hp
theorem ya_r1 {post : Int32 → SY → Prop} {l i n c r : Nat} {E G P M : Int32} {S C T : Int64} (h : i < l) (hl : l ≤ 10) (hc : c < 9) (hr : r < 8) (hE : xd_est sm ca = E) (hG : xd_dig tb r E = G) (hS : xd_wS sm ca G d = S) (hC : xd_wC sm ca G d = C) (hP : xd_nP G qp qm = P) (hM : xd_nM G qp qm = M) (hT : S + C = T)
    (hp : wY_step_34 post (nI l) n (nI (i + 1)) cap ph x w (nI (c + 1)) s d (nI r) fq fr pc dv S C P M tb (upd dg (c + 1) G) (upd es (c + 1) E) (upd qa (c + 1) P) (upd qb (c + 1) M) (vp_updL pr (c + 1) T) yx yv yq yr) : wY_step_34 post (nI l) (n + 1) (nI i) cap ph x w (nI c) s d (nI r) fq fr pc dv sm ca qp qm tb dg es qa qb pr yx yv yq yr :=
  br_f (nI_ge h (by omega)) (ya_iter hr hc hE hG hS hC hP hM hT (nm_r (nI_1 i) hp))
theorem ya_r2 {post : Int32 → SY → Prop} {l i n c m : Nat} {F R : Int32} (h : i < l) (hl : l ≤ 10) (h1 : 1 ≤ c) (hc : c ≤ 16) (hm : m ≤ 16) (hF : (if pr 9 < 0 then qb 9 else qa 9) = F) (hR : (if pr 9 < 0 then (pr 9 >>> ((18 : Int32).toInt64 &&& 63)).toInt32 + d else (pr 9 >>> ((18 : Int32).toInt64 &&& 63)).toInt32) >>> (s &&& 31) = R)
    (hp : wY_step_34 post (nI l) n (nI (i + 1)) (nI c) 3 x w (nI 10) s d ro F R (nI (sd_mm c m + 1)) (dv + 1) sm ca qp qm tb dg es qa qb pr (upd (sd_sh yx 0 (sd_mm c m)) 0 x) (upd (sd_sh yv 0 (sd_mm c m)) 0 w) (upd (sd_sh yq 0 (sd_mm c m)) 0 F) (upd (sd_sh yr 0 (sd_mm c m)) 0 R)) : wY_step_34 post (nI l) (n + 1) (nI i) (nI c) ph x w (nI 9) s d ro fq fr (nI m) dv sm ca qp qm tb dg es qa qb pr yx yv yq yr :=
  br_f (nI_ge h (by omega)) (ya_corr h1 hc hm hF hR (nm_r (nI_1 i) hp))
end SDY
end
section
section SDL
/-! both loops of cycles in step -/
theorem sd_up1 {f g : Nat → Int32} {x : Int32} {k e n : Nat} (h : ∀ j, j < n → f j = g j) (hk : k ≤ e) (he : e ≤ 15) (hn : e ≤ n) : upd (sd_sh f 0 15) 0 x k = upd (sd_sh g 0 e) 0 x k := by
  by_cases z : k = 0
  · subst z
    rw [pk_us, pk_us]
  · rw [pk_un z, pk_un z]
    unfold sd_sh
    rw [if_pos (by omega), if_pos (by omega)]
    exact h (k - 1) (by omega)
theorem sd_pm {c n : Nat} (h1 : 1 ≤ c) (hn : n ≤ c) : sd_mm c n + 1 = sd_pc c n := by
  unfold sd_mm sd_pc
  split <;> split <;> omega
theorem sd_Hpush {n c : Nat} {x w fq fr : Int32} {ax av aq ar yx yv yq yr : Nat → Int32} (h1 : 1 ≤ c) (hc : c ≤ 16) (hn : n ≤ c) (h : sd_H n ax av aq ar yx yv yq yr) :
    sd_H (sd_pc c n) (upd (sd_sh ax 0 15) 0 x) (upd (sd_sh av 0 15) 0 w) (upd (sd_sh aq 0 15) 0 fq) (upd (sd_sh ar 0 15) 0 fr) (upd (sd_sh yx 0 (sd_mm c n)) 0 x) (upd (sd_sh yv 0 (sd_mm c n)) 0 w) (upd (sd_sh yq 0 (sd_mm c n)) 0 fq) (upd (sd_sh yr 0 (sd_mm c n)) 0 fr) := by
  intro k hk
  rw [← sd_pm h1 hn] at hk
  have a : k ≤ sd_mm c n := by omega
  have b : sd_mm c n ≤ 15 := by unfold sd_mm; split <;> omega
  have e : sd_mm c n ≤ n := by unfold sd_mm; split <;> omega
  exact ⟨sd_up1 (fun j hj => (h j hj).1) a b e, sd_up1 (fun j hj => (h j hj).2.1) a b e, sd_up1 (fun j hj => (h j hj).2.2.1) a b e, sd_up1 (fun j hj => (h j hj).2.2.2) a b e⟩
theorem sd_lock {c n r : Nat} {dv x w s d fq fr : Int32} {tb ax av aq ar yx yv yq yr : Nat → Int32} (h1 : 1 ≤ c) (hc : c ≤ 16) (hn : n ≤ c) (hH : sd_H n ax av aq ar yx yv yq yr) (hO : sd_O x w) (hr : r < 8) :
    ∀ (m j i l : Nat) (qp qm : Int32) (sm ca : Int64) (dg es qa qb : Nat → Int32) (pr : Nat → Int64), j + m ≤ 10 → j ≤ 9 → m + i = l → l ≤ 10 → qa j = qp → qb j = qm →
    ∃ (u' : SX) (v' : SY), i_Rel 0 u' v' ∧ (∀ (post : SX → Prop) (f : Nat), m < f → post u' → wX_runCycles_2 post (nI l) f (nI i) (nI c) (nI n) dv 2 (nI j) x w s d (nI r) sm ca qp qm fq fr tb dg es qa qb pr ax av aq ar) ∧ (∀ (post : Int32 → SY → Prop) (f : Nat), m < f → post (nI l) v' → wY_step_34 post (nI l) f (nI i) (nI c) 2 x w (nI j) s d (nI r) fq fr (nI n) dv sm ca qp qm tb dg es qa qb pr yx yv yq yr) := by
  intro m
  induction m with
  | zero =>
    intro j i l qp qm sm ca dg es qa qb pr hj hj9 hl hl10 ha hb
    refine ⟨(nI c, nI n, dv, 2, nI j, x, w, s, d, nI r, sm, ca, qp, qm, fq, fr, tb, dg, es, qa, qb, pr, ax, av, aq, ar), (nI c, 2, x, w, nI j, s, d, nI r, fq, fr, nI n, dv, sm, ca, qp, qm, tb, dg, es, qa, qb, pr, yx, yv, yq, yr), ⟨c, n, dv, 2, nI j, nI j, x, w, s, d, nI r, qp, qm, fq, fr, sm, ca, tb, dg, es, qa, qb, ax, av, aq, ar, yx, yv, yq, yr, pr, rfl, rfl, h1, hc, hn, hH, Or.inr (Or.inr (Or.inl ⟨rfl, hO, j, hj9, rfl, rfl, ⟨r, hr, rfl⟩, ha, hb⟩))⟩, ?_, ?_⟩
    · intro post f hf hp
      obtain ⟨f, rfl⟩ : ∃ f', f = f' + 1 := ⟨f - 1, by omega⟩
      exact xa_r0 (by omega) (by omega) hp
    · intro post f hf hp
      obtain ⟨f, rfl⟩ : ∃ f', f = f' + 1 := ⟨f - 1, by omega⟩
      exact ya_r0 (by omega) (by omega) hp
  | succ m ih =>
    intro j i l qp qm sm ca dg es qa qb pr hj hj9 hl hl10 ha hb
    by_cases h9 : j < 9
    · obtain ⟨u', v', R, HX, HY⟩ := ih (j + 1) (i + 1) l _ _ _ _ (upd dg (j + 1) (xd_dig tb r (xd_est sm ca))) (upd es (j + 1) (xd_est sm ca)) (upd qa (j + 1) (xd_nP (xd_dig tb r (xd_est sm ca)) qp qm)) (upd qb (j + 1) (xd_nM (xd_dig tb r (xd_est sm ca)) qp qm)) (vp_updL pr (j + 1) (xd_wS sm ca (xd_dig tb r (xd_est sm ca)) d + xd_wC sm ca (xd_dig tb r (xd_est sm ca)) d)) (by omega) (by omega) (by omega) hl10 pk_us pk_us
      refine ⟨u', v', R, ?_, ?_⟩
      · intro post f hf hp
        obtain ⟨f, rfl⟩ : ∃ f', f = f' + 1 := ⟨f - 1, by omega⟩
        exact xa_r1 (by omega) hl10 h9 hr rfl rfl rfl rfl rfl rfl rfl (HX post f (by omega) hp)
      · intro post f hf hp
        obtain ⟨f, rfl⟩ : ∃ f', f = f' + 1 := ⟨f - 1, by omega⟩
        exact ya_r1 (by omega) hl10 h9 hr rfl rfl rfl rfl rfl rfl rfl (HY post f (by omega) hp)
    · have e9 : j = 9 := by omega
      have e0 : m = 0 := by omega
      subst e9 e0
      have em := sd_pm h1 hn
      refine ⟨_, _, ⟨c, sd_pc c n, dv + 1, 3, nI 10, nI 10, x, w, s, d, nI r, qp, qm, if pr 9 < 0 then qm else qp, (if pr 9 < 0 then (pr 9 >>> ((18 : Int32).toInt64 &&& 63)).toInt32 + d else (pr 9 >>> ((18 : Int32).toInt64 &&& 63)).toInt32) >>> (s &&& 31), sm, ca, tb, dg, es, qa, qb, upd (sd_sh ax 0 15) 0 x, upd (sd_sh av 0 15) 0 w, upd (sd_sh aq 0 15) 0 (if pr 9 < 0 then qm else qp), upd (sd_sh ar 0 15) 0 ((if pr 9 < 0 then (pr 9 >>> ((18 : Int32).toInt64 &&& 63)).toInt32 + d else (pr 9 >>> ((18 : Int32).toInt64 &&& 63)).toInt32) >>> (s &&& 31)), upd (sd_sh yx 0 (sd_mm c n)) 0 x, upd (sd_sh yv 0 (sd_mm c n)) 0 w, upd (sd_sh yq 0 (sd_mm c n)) 0 (if pr 9 < 0 then qm else qp), upd (sd_sh yr 0 (sd_mm c n)) 0 ((if pr 9 < 0 then (pr 9 >>> ((18 : Int32).toInt64 &&& 63)).toInt32 + d else (pr 9 >>> ((18 : Int32).toInt64 &&& 63)).toInt32) >>> (s &&& 31)), pr, rfl, rfl, h1, hc, by unfold sd_pc; split <;> omega, sd_Hpush h1 hc hn hH, Or.inr (Or.inr (Or.inr ⟨rfl, hO, rfl, rfl⟩))⟩, ?_, ?_⟩
      · intro post f hf hp
        obtain ⟨f, rfl⟩ : ∃ f', f = f' + 1 := ⟨f - 1, by omega⟩
        obtain ⟨f, rfl⟩ : ∃ f', f = f' + 1 := ⟨f - 1, by omega⟩
        exact xa_r2 (by omega) hl10 hc (by omega) rfl rfl (xa_r0 (by omega) (by omega) hp)
      · intro post f hf hp
        obtain ⟨f, rfl⟩ : ∃ f', f = f' + 1 := ⟨f - 1, by omega⟩
        obtain ⟨f, rfl⟩ : ∃ f', f = f' + 1 := ⟨f - 1, by omega⟩
        refine ya_r2 (by omega) hl10 h1 hc (by omega) (by rw [ha, hb]) rfl ?_
        rw [em]
        exact ya_r0 (by omega) (by omega) hp
theorem sd_tup {k : Nat} {u : SX} {v : SY} (h : i_Rel k u v) : ∃ (cap pc dv ph cx x w s d ro qp qm fq fr : Int32) (sm ca : Int64) (tb dg es qa qb ax av aq ar : Nat → Int32) (pr : Nat → Int64), u = (cap, pc, dv, ph, cx, x, w, s, d, ro, sm, ca, qp, qm, fq, fr, tb, dg, es, qa, qb, pr, ax, av, aq, ar) := by
  obtain ⟨c, n, dv, ph, cx, cy, x, w, s, d, ro, qp, qm, fq, fr, sm, ca, tb, dg, es, qa, qb, ax, av, aq, ar, yx, yv, yq, yr, pr, e, _⟩ := h
  exact ⟨_, _, _, _, _, _, _, _, _, _, _, _, _, _, _, _, _, _, _, _, _, _, _, _, _, _, e⟩
theorem sd_tupY {k : Nat} {u : SX} {v : SY} (h : i_Rel k u v) : ∃ (cap pc dv ph cy x w s d ro qp qm fq fr : Int32) (sm ca : Int64) (tb dg es qa qb yx yv yq yr : Nat → Int32) (pr : Nat → Int64), v = (cap, ph, x, w, cy, s, d, ro, fq, fr, pc, dv, sm, ca, qp, qm, tb, dg, es, qa, qb, pr, yx, yv, yq, yr) := by
  obtain ⟨c, n, dv, ph, cx, cy, x, w, s, d, ro, qp, qm, fq, fr, sm, ca, tb, dg, es, qa, qb, ax, av, aq, ar, yx, yv, yq, yr, pr, _, e, _⟩ := h
  exact ⟨_, _, _, _, _, _, _, _, _, _, _, _, _, _, _, _, _, _, _, _, _, _, _, _, _, _, e⟩
end SDL
end
section
section SDC
/-! the owed statements: construction, load, start, step, divide, cancel, clearHistory -/
theorem i_up {k : Nat} {u : SX} {v : SY} (h : i_Rel k u v) : i_Rel (k + 3) u v := h
section
variable {cap pc dv ph cx cy x w s d ro qp qm fq fr : Int32} {sm ca : Int64} {tb dg es qa qb ax av aq ar yx yv yq yr : Nat → Int32} {pr : Nat → Int64}
theorem xa_can1 {post : Int32 → Prop} {p q : Int32} (hph : ¬ ph = 2) (h0 : ¬ p < 0) (h1 : ¬ 65535 < p) (h2 : ¬ q < 1) (h3 : ¬ 65535 < q) (hp : post 1) : wpX_canLoad post (cap, pc, dv, ph, cx, x, w, s, d, ro, sm, ca, qp, qm, fq, fr, tb, dg, es, qa, qb, pr, ax, av, aq, ar) p q := br_f hph (br_f h0 (br_f h1 (br_f h2 (br_f h3 hp))))
theorem xa_can0 {post : Int32 → Prop} {p q : Int32} (h : ph = 2 ∨ p < 0 ∨ 65535 < p ∨ q < 1 ∨ 65535 < q) (hp : post 0) : wpX_canLoad post (cap, pc, dv, ph, cx, x, w, s, d, ro, sm, ca, qp, qm, fq, fr, tb, dg, es, qa, qb, pr, ax, av, aq, ar) p q :=
  br_c (fun _ => hp) (fun a => br_c (fun _ => hp) (fun b => br_c (fun _ => hp) (fun c => br_c (fun _ => hp) (fun e => br_c (fun _ => hp) (fun f => by rcases h with h | h | h | h | h <;> contradiction)))))
theorem xa_hold {post : SX → Prop} {p q : Int32} (hp : post (cap, pc, dv, 1, 0, p, q, s, d, ro, sm, ca, qp, qm, fq, fr, tb, dg, es, qa, qb, pr, ax, av, aq, ar)) : wpX_holdOperands post (cap, pc, dv, ph, cx, x, w, s, d, ro, sm, ca, qp, qm, fq, fr, tb, dg, es, qa, qb, pr, ax, av, aq, ar) p q := hp
theorem ya_load1 {post : Int32 → SY → Prop} {p q : Int32} (hph : ¬ ph = 2) (h0 : ¬ p < 0) (h1 : ¬ 65535 < p) (h2 : ¬ q < 1) (h3 : ¬ 65535 < q) (hp : post 1 (cap, 1, p, q, cy, s, d, ro, fq, fr, pc, dv, sm, ca, qp, qm, tb, dg, es, qa, qb, pr, yx, yv, yq, yr)) : wpY_load post (cap, ph, x, w, cy, s, d, ro, fq, fr, pc, dv, sm, ca, qp, qm, tb, dg, es, qa, qb, pr, yx, yv, yq, yr) p q := br_f hph (br_f h0 (br_t (Int32.not_lt.mp h1) (br_f h2 (br_t (Int32.not_lt.mp h3) hp))))
theorem ya_load0 {post : Int32 → SY → Prop} {p q : Int32} (h : ph = 2 ∨ p < 0 ∨ 65535 < p ∨ q < 1 ∨ 65535 < q) (hp : post 0 (cap, ph, x, w, cy, s, d, ro, fq, fr, pc, dv, sm, ca, qp, qm, tb, dg, es, qa, qb, pr, yx, yv, yq, yr)) : wpY_load post (cap, ph, x, w, cy, s, d, ro, fq, fr, pc, dv, sm, ca, qp, qm, tb, dg, es, qa, qb, pr, yx, yv, yq, yr) p q :=
  br_c (fun _ => hp) (fun a => br_c (fun _ => hp) (fun b => br_c (fun c => br_c (fun _ => hp) (fun e => br_c (fun f => by
    have c' := Int32.not_lt.mpr c
    have f' := Int32.not_lt.mpr f
    rcases h with h | h | h | h | h <;> contradiction) (fun _ => hp))) (fun _ => hp)))
end
theorem sd_Omk {p q : Int32} (h0 : ¬ p < 0) (h1 : ¬ 65535 < p) (h2 : ¬ q < 1) (h3 : ¬ 65535 < q) : sd_O p q := by
  obtain ⟨a, ha, rfl⟩ := nI_of2 (M := 65535) (n := 65535) (by decide) h0 (Int32.not_lt.mp h1)
  have hq : ¬ q < 0 := fun z => h2 (Int32.lt_trans z (by decide))
  obtain ⟨b, hb, rfl⟩ := nI_of2 (M := 65535) (n := 65535) (by decide) hq (Int32.not_lt.mp h3)
  refine ⟨a, b, ha, ?_, hb, rfl, rfl⟩
  apply Nat.le_of_not_lt
  intro z
  have e : b = 0 := by omega
  subst e
  exact h2 (by decide)
theorem i_vc_load {k : Nat} {u : SX} {v : SY} (I : i_Rel k u v) (hk : k + 3 ≤ 1537) (v1 : Int32) (v2 : Int32) : wpX_load (fun r u' => wpY_load (fun r' v' => r' = r ∧ i_Rel (k + 3) u' v') v v1 v2) u v1 v2 := by
  have J := i_up I
  obtain ⟨c, n, dv, ph, cx, cy, x, w, s, d, ro, qp, qm, fq, fr, sm, ca, tb, dg, es, qa, qb, ax, av, aq, ar, yx, yv, yq, yr, pr, rfl, rfl, h1, hc, hn, hH, hP⟩ := I
  unfold wpX_load
  by_cases hok : ph = 2 ∨ v1 < 0 ∨ 65535 < v1 ∨ v2 < 1 ∨ 65535 < v2
  · exact xa_can0 hok (br_t rfl (ya_load0 hok ⟨rfl, J⟩))
  · simp only [not_or] at hok
    obtain ⟨a0, a1, a2, a3, a4⟩ := hok
    exact xa_can1 a0 a1 a2 a3 a4 (br_f (by decide) (xa_hold (ya_load1 a0 a1 a2 a3 a4 ⟨rfl, c, n, dv, 1, 0, cy, v1, v2, s, d, ro, qp, qm, fq, fr, sm, ca, tb, dg, es, qa, qb, ax, av, aq, ar, yx, yv, yq, yr, pr, rfl, rfl, h1, hc, hn, hH, Or.inr (Or.inl ⟨rfl, rfl, sd_Omk a1 a2 a3 a4⟩)⟩)))
theorem i_vc_start {k : Nat} {u : SX} {v : SY} (I : i_Rel k u v) (hk : k + 3 ≤ 1537) : wpX_start (fun r u' => wpY_start (fun r' v' => r' = r ∧ i_Rel (k + 3) u' v') v) u := by
  have J := i_up I
  obtain ⟨c, n, dv, ph, cx, cy, x, w, s, d, ro, qp, qm, fq, fr, sm, ca, tb, dg, es, qa, qb, ax, av, aq, ar, yx, yv, yq, yr, pr, rfl, rfl, h1, hc, hn, hH, hP⟩ := I
  rcases hP with ⟨rfl, rfl⟩ | ⟨rfl, rfl, hO⟩ | ⟨rfl, hO, j, hT⟩ | ⟨rfl, hO, rfl, rfl⟩
  · exact br_f (by decide) (br_f (by decide) ⟨rfl, J⟩)
  · obtain ⟨a, b, ha, hb1, hb2, rfl, rfl⟩ := hO
    obtain ⟨t, ht, t1, t2, tm⟩ := sd_norm hb1 hb2
    exact br_t rfl (xa_begin ht t1 t2 tm (ya_start ht t1 t2 tm ⟨rfl, c, n, dv, 2, 0, 0, nI a, nI b, nI t, nI (b * 2 ^ t), nI (b * 2 ^ t / 4096 - 8), 0, -1, fq, fr, (nI a).toInt64 <<< ((nI t).toInt64 &&& 63), 0, tb, dg, es, upd qa 0 0, upd qb 0 (-1), ax, av, aq, ar, yx, yv, yq, yr, vp_updL pr 0 ((nI a).toInt64 <<< ((nI t).toInt64 &&& 63)), rfl, rfl, h1, hc, hn, hH, Or.inr (Or.inr (Or.inl ⟨rfl, ⟨a, b, ha, hb1, hb2, rfl, rfl⟩, 0, by omega, rfl, rfl, ⟨_, by omega, rfl⟩, pk_us, pk_us⟩))⟩))
  · exact br_f (by decide) (br_f (by decide) ⟨rfl, J⟩)
  · exact br_f (by decide) (br_f (by decide) ⟨rfl, J⟩)
theorem i_vc_step {k : Nat} {u : SX} {v : SY} (I : i_Rel k u v) (hk : k + 3 ≤ 1537) (v1 : Int32) : wpX_step (fun r u' => wpY_step (fun r' v' => r' = r ∧ i_Rel (k + 3) u' v') v v1) u v1 := by
  have J := i_up I
  obtain ⟨c, n, dv, ph, cx, cy, x, w, s, d, ro, qp, qm, fq, fr, sm, ca, tb, dg, es, qa, qb, ax, av, aq, ar, yx, yv, yq, yr, pr, rfl, rfl, h1, hc, hn, hH, hP⟩ := I
  rcases hP with ⟨rfl, rfl⟩ | ⟨rfl, rfl, hO⟩ | ⟨rfl, hO, j, hj, rfl, rfl, ⟨r, hr, rfl⟩, hqa, hqb⟩ | ⟨rfl, hO, rfl, rfl⟩
  · exact br_f (by decide) (br_f (by decide) ⟨rfl, J⟩)
  · exact br_f (by decide) (br_f (by decide) ⟨rfl, J⟩)
  · by_cases hv : (1 : Int32) ≤ v1
    · have hv0 : ¬ v1 < 0 := fun z => absurd (Int32.lt_of_le_of_lt hv z) (by decide)
      obtain ⟨q, hq, rfl⟩ := nI_of hv0
      have e10 : (10 : Int32) - nI j = nI (10 - j) := pk_sub (a := 10) (by omega)
      have L := fun (m : Nat) (hm : j + m ≤ 10) => sd_lock (dv := dv) (s := s) (d := d) (fq := fq) (fr := fr) (tb := tb) h1 hc hn hH hO hr m j 0 m qp qm sm ca dg es qa qb pr hm hj rfl (by omega) hqa hqb
      refine br_t rfl (br_t hv (nm_r e10 (pk_le (10 - j) q (fun z => ?_) (fun z => ?_))))
      · obtain ⟨u', v', R, HX, HY⟩ := L (10 - j) (by omega)
        obtain ⟨_, _, _, _, _, _, _, _, _, _, _, _, _, _, _, _, _, _, _, _, _, _, _, _, _, _, rfl⟩ := sd_tup R
        obtain ⟨_, _, _, _, _, _, _, _, _, _, _, _, _, _, _, _, _, _, _, _, _, _, _, _, _, _, rfl⟩ := sd_tupY R
        exact ⟨_, HX _ _ (Nat.lt_succ_self _) (br_t rfl (br_t hv (nm_r e10 (br_t (nI_le z hq) ⟨_, HY _ _ (Nat.lt_succ_self _) ⟨rfl, R⟩⟩))))⟩
      · obtain ⟨u', v', R, HX, HY⟩ := L q (by omega)
        obtain ⟨_, _, _, _, _, _, _, _, _, _, _, _, _, _, _, _, _, _, _, _, _, _, _, _, _, _, rfl⟩ := sd_tup R
        obtain ⟨_, _, _, _, _, _, _, _, _, _, _, _, _, _, _, _, _, _, _, _, _, _, _, _, _, _, rfl⟩ := sd_tupY R
        exact ⟨_, HX _ _ (Nat.lt_succ_self _) (br_t rfl (br_t hv (nm_r e10 (br_f (nI_ge z (by omega)) ⟨_, HY _ _ (Nat.lt_succ_self _) ⟨rfl, R⟩⟩))))⟩
    · exact br_t rfl (br_f hv (br_t rfl (br_f hv ⟨rfl, J⟩)))
  · exact br_f (by decide) (br_f (by decide) ⟨rfl, J⟩)
theorem i_vc_divide {k : Nat} {u : SX} {v : SY} (I : i_Rel k u v) (hk : k + 3 ≤ 1537) (v1 : Int32) (v2 : Int32) : wpX_divide (fun r u' => wpY_divide (fun r' v' => r' = r ∧ i_Rel (k + 3) u' v') v v1 v2) u v1 v2 := by
  have J := i_up I
  obtain ⟨c, n, dv, ph, cx, cy, x, w, s, d, ro, qp, qm, fq, fr, sm, ca, tb, dg, es, qa, qb, ax, av, aq, ar, yx, yv, yq, yr, pr, rfl, rfl, h1, hc, hn, hH, hP⟩ := I
  unfold wpX_divide
  by_cases hok : ph = 2 ∨ v1 < 0 ∨ 65535 < v1 ∨ v2 < 1 ∨ 65535 < v2
  · refine xa_can0 hok (br_t rfl ?_)
    unfold wpY_divide
    exact ya_load0 hok (br_t rfl ⟨rfl, J⟩)
  · simp only [not_or] at hok
    obtain ⟨a0, a1, a2, a3, a4⟩ := hok
    have hO := sd_Omk a1 a2 a3 a4
    obtain ⟨a, b, ha, hb1, hb2, rfl, rfl⟩ := hO
    obtain ⟨t, ht, t1, t2, tm⟩ := sd_norm hb1 hb2
    obtain ⟨u', v', R, HX, HY⟩ := sd_lock (dv := dv) (s := nI t) (d := nI (b * 2 ^ t)) (fq := fq) (fr := fr) (tb := tb) (r := b * 2 ^ t / 4096 - 8) h1 hc hn hH ⟨a, b, ha, hb1, hb2, rfl, rfl⟩ (by omega) 10 0 0 10 0 (-1) ((nI a).toInt64 <<< ((nI t).toInt64 &&& 63)) 0 dg es (upd qa 0 0) (upd qb 0 (-1)) (vp_updL pr 0 ((nI a).toInt64 <<< ((nI t).toInt64 &&& 63))) (by omega) (by omega) rfl (by omega) pk_us pk_us
    obtain ⟨_, _, _, _, _, _, _, _, _, _, _, _, _, _, _, _, _, _, _, _, _, _, _, _, _, _, rfl⟩ := sd_tup R
    obtain ⟨_, _, _, _, _, _, _, _, _, _, _, _, _, _, _, _, _, _, _, _, _, _, _, _, _, _, rfl⟩ := sd_tupY R
    refine xa_can1 a0 a1 a2 a3 a4 (br_f (by decide) (xa_hold ?_))
    refine xa_begin ht t1 t2 tm ?_
    refine ⟨11, HX _ 11 (by omega) ?_⟩
    show wpY_divide _ _ _ _
    unfold wpY_divide
    refine ya_load1 a0 a1 a2 a3 a4 (br_f (by decide) ?_)
    refine ya_start ht t1 t2 tm ?_
    exact br_t rfl (br_t (by decide) (nm_r (e' := 10) (by decide) (br_t (by decide) ⟨11, HY _ 11 (by omega) ⟨rfl, R⟩⟩)))
theorem i_vc_cancel {k : Nat} {u : SX} {v : SY} (I : i_Rel k u v) (hk : k + 3 ≤ 1537) : wpX_cancel (fun r u' => wpY_cancel (fun r' v' => r' = r ∧ i_Rel (k + 3) u' v') v) u := by
  have J := i_up I
  obtain ⟨c, n, dv, ph, cx, cy, x, w, s, d, ro, qp, qm, fq, fr, sm, ca, tb, dg, es, qa, qb, ax, av, aq, ar, yx, yv, yq, yr, pr, rfl, rfl, h1, hc, hn, hH, hP⟩ := I
  rcases hP with ⟨rfl, rfl⟩ | ⟨rfl, rfl, hO⟩ | ⟨rfl, hO, j, hT⟩ | ⟨rfl, hO, rfl, rfl⟩
  · exact br_f (by decide) (br_f (by decide) ⟨rfl, J⟩)
  · exact br_f (by decide) (br_f (by decide) ⟨rfl, J⟩)
  · exact br_t rfl (xa_hold (br_t rfl ⟨rfl, c, n, dv, 1, 0, cy, x, w, s, d, ro, qp, qm, fq, fr, sm, ca, tb, dg, es, qa, qb, ax, av, aq, ar, yx, yv, yq, yr, pr, rfl, rfl, h1, hc, hn, hH, Or.inr (Or.inl ⟨rfl, rfl, hO⟩)⟩))
  · exact br_f (by decide) (br_f (by decide) ⟨rfl, J⟩)
theorem i_vc_clearHistory {k : Nat} {u : SX} {v : SY} (I : i_Rel k u v) (hk : k + 3 ≤ 1537) : wpX_clearHistory (fun u' => wpY_clearHistory (fun v' => i_Rel (k + 3) u' v') v) u := by
  obtain ⟨c, n, dv, ph, cx, cy, x, w, s, d, ro, qp, qm, fq, fr, sm, ca, tb, dg, es, qa, qb, ax, av, aq, ar, yx, yv, yq, yr, pr, rfl, rfl, h1, hc, hn, hH, hP⟩ := I
  show i_Rel (k + 3) (nI c, 0, dv, ph, cx, x, w, s, d, ro, sm, ca, qp, qm, fq, fr, tb, dg, es, qa, qb, pr, ax, av, aq, ar) (nI c, ph, x, w, cy, s, d, ro, fq, fr, 0, dv, sm, ca, qp, qm, tb, dg, es, qa, qb, pr, yx, yv, yq, yr)
  exact ⟨c, 0, dv, ph, cx, cy, x, w, s, d, ro, qp, qm, fq, fr, sm, ca, tb, dg, es, qa, qb, ax, av, aq, ar, yx, yv, yq, yr, pr, rfl, rfl, h1, hc, by omega, fun q hq => absurd hq (by omega), hP⟩
end SDC
end
section
section SDD
/-! the owed statements: the calls that only read -/
section
variable {cap pc dv ph cx cy x w s d ro qp qm fq fr : Int32} {sm ca : Int64} {tb dg es qa qb ax av aq ar yx yv yq yr : Nat → Int32} {pr : Nat → Int64}
theorem xa_isr {post : Int32 → Prop} {p : Int32} (h0 : post 0) (h1 : post 1) : wpX_isRecorded post (cap, pc, dv, ph, cx, x, w, s, d, ro, sm, ca, qp, qm, fq, fr, tb, dg, es, qa, qb, pr, ax, av, aq, ar) p := by
  unfold wpX_isRecorded
  have R : ((1 : Int32) = 0 → post 0) ∧ (¬ (1 : Int32) = 0 → ((p < 0 → post 0) ∧ (¬ p < 0 → ((cx < p → post 0) ∧ (¬ cx < p → ((9 < p → post 0) ∧ (¬ 9 < p → post 1))))))) := br_f (by decide) (br_c (fun _ => h0) (fun _ => br_c (fun _ => h0) (fun _ => br_c (fun _ => h0) (fun _ => h1))))
  exact br_c (fun _ => R) (fun _ => br_c (fun _ => R) (fun _ => br_t rfl h0))
theorem xa_isn {post : Int32 → Prop} {p : Int32} (h2 : ¬ ph = 2) (h3 : ¬ ph = 3) (h0 : post 0) : wpX_isRecorded post (cap, pc, dv, ph, cx, x, w, s, d, ro, sm, ca, qp, qm, fq, fr, tb, dg, es, qa, qb, pr, ax, av, aq, ar) p := by
  unfold wpX_isRecorded
  exact br_f h2 (br_f h3 (br_t rfl h0))
theorem xa_is0 {post : Int32 → Prop} {p : Int32} (h : p < 0 ∨ cx < p ∨ 9 < p) (h0 : post 0) : wpX_isRecorded post (cap, pc, dv, ph, cx, x, w, s, d, ro, sm, ca, qp, qm, fq, fr, tb, dg, es, qa, qb, pr, ax, av, aq, ar) p := by
  unfold wpX_isRecorded
  have R : ((1 : Int32) = 0 → post 0) ∧ (¬ (1 : Int32) = 0 → ((p < 0 → post 0) ∧ (¬ p < 0 → ((cx < p → post 0) ∧ (¬ cx < p → ((9 < p → post 0) ∧ (¬ 9 < p → post 1))))))) := br_f (by decide) (br_c (fun _ => h0) (fun a => br_c (fun _ => h0) (fun b => br_c (fun _ => h0) (fun c => by rcases h with h | h | h <;> contradiction))))
  exact br_c (fun _ => R) (fun _ => br_c (fun _ => R) (fun _ => br_t rfl h0))
theorem xa_is1 {post : Int32 → Prop} {p : Int32} (hph : ph = 2 ∨ ph = 3) (a : ¬ p < 0) (b : ¬ cx < p) (c : ¬ 9 < p) (h1 : post 1) : wpX_isRecorded post (cap, pc, dv, ph, cx, x, w, s, d, ro, sm, ca, qp, qm, fq, fr, tb, dg, es, qa, qb, pr, ax, av, aq, ar) p := by
  unfold wpX_isRecorded
  have R : ((1 : Int32) = 0 → post 0) ∧ (¬ (1 : Int32) = 0 → ((p < 0 → post 0) ∧ (¬ p < 0 → ((cx < p → post 0) ∧ (¬ cx < p → ((9 < p → post 0) ∧ (¬ 9 < p → post 1))))))) := br_f (by decide) (br_f a (br_f b (br_f c h1)))
  exact br_c (fun _ => R) (fun e => br_c (fun _ => R) (fun g => by rcases hph with h | h <;> contradiction))
/-- what the reference looks at: the recorded cycles -/
theorem ya_tr {post : Int32 → Prop} {p q : Int32} {c m : Nat} (hm : (if c ≤ 9 then c else 9) = m) (hc : c ≤ 10) (hph : ph = 2 ∨ ph = 3) (a : ¬ p < 0) (b : p ≤ 3) (H : wY_trace_45 post p q (nI m) cap ph x w (nI c) s d ro fq fr pc dv sm ca qp qm tb dg es qa qb pr yx yv yq yr) : wpY_trace post (cap, ph, x, w, nI c, s, d, ro, fq, fr, pc, dv, sm, ca, qp, qm, tb, dg, es, qa, qb, pr, yx, yv, yq, yr) p q := by
  have K : wY_trace_31 post p q cap ph x w (nI c) s d ro fq fr pc dv sm ca qp qm tb dg es qa qb pr yx yv yq yr := by
    refine pk_le c 9 (fun z => ?_) (fun z => ?_)
    · rw [if_pos z] at hm
      subst hm
      exact H
    · rw [if_neg (by omega)] at hm
      subst hm
      exact H
  exact br_f a (br_t b (br_c (fun _ => K) (fun e => br_c (fun _ => K) (fun g => by rcases hph with h | h <;> contradiction))))
theorem ya_59n {post : Int32 → Prop} {p q z : Int32} {m : Nat} (hz : 0 ≤ z) (h : q < 0 ∨ nI m < q) (hN : post (-2147483648)) : wY_trace_59 post p q (nI m) z cap ph x w cy s d ro fq fr pc dv sm ca qp qm tb dg es qa qb pr yx yv yq yr := by
  refine br_c (fun _ => hN) (fun a => br_f ?_ hN)
  intro g
  rcases h with h | h
  · exact a (Int32.lt_of_lt_of_le h hz)
  · exact absurd g (Int32.not_le.mpr h)
theorem ya_45n {post : Int32 → Prop} {p q : Int32} {m : Nat} (h : q < 0 ∨ nI m < q) (hN : post (-2147483648)) : wY_trace_45 post p q (nI m) cap ph x w cy s d ro fq fr pc dv sm ca qp qm tb dg es qa qb pr yx yv yq yr :=
  br_c (fun _ => ya_59n (by decide) h hN) (fun _ => br_c (fun _ => ya_59n (by decide) h hN) (fun _ => ya_59n (by decide) h hN))
theorem ya_pn {post : Int64 → Prop} {q : Int32} {c m : Nat} (hm : (if c ≤ 9 then c else 9) = m) (hc : c ≤ 10) (hph : ph = 2 ∨ ph = 3) (H : wY_partialRemainder_34 post q (nI m) cap ph x w (nI c) s d ro fq fr pc dv sm ca qp qm tb dg es qa qb pr yx yv yq yr) : wpY_partialRemainder post (cap, ph, x, w, nI c, s, d, ro, fq, fr, pc, dv, sm, ca, qp, qm, tb, dg, es, qa, qb, pr, yx, yv, yq, yr) q := by
  have K : wY_partialRemainder_20 post q cap ph x w (nI c) s d ro fq fr pc dv sm ca qp qm tb dg es qa qb pr yx yv yq yr := by
    refine pk_le c 9 (fun z => ?_) (fun z => ?_)
    · rw [if_pos z] at hm
      subst hm
      exact H
    · rw [if_neg (by omega)] at hm
      subst hm
      exact H
  exact br_c (fun _ => K) (fun e => br_c (fun _ => K) (fun g => by rcases hph with h | h <;> contradiction))
end
theorem sd_k4 (p : Int32) : p < 0 ∨ 3 < p ∨ p = 0 ∨ p = 1 ∨ p = 2 ∨ p = 3 := by
  rcases pk_ix p (n := 4) (by decide) with h | h | ⟨j, hj, rfl⟩
  · exact Or.inl h
  · exact Or.inr (Or.inl (Int32.lt_of_lt_of_le (by decide) h))
  · have : j = 0 ∨ j = 1 ∨ j = 2 ∨ j = 3 := by omega
    rcases this with rfl | rfl | rfl | rfl
    · exact Or.inr (Or.inr (Or.inl rfl))
    · exact Or.inr (Or.inr (Or.inr (Or.inl rfl)))
    · exact Or.inr (Or.inr (Or.inr (Or.inr (Or.inl rfl))))
    · exact Or.inr (Or.inr (Or.inr (Or.inr (Or.inr rfl))))
theorem sd_k12 (p : Int32) : p < 0 ∨ 11 < p ∨ p = 0 ∨ p = 1 ∨ p = 2 ∨ p = 3 ∨ p = 4 ∨ p = 5 ∨ p = 6 ∨ p = 7 ∨ p = 8 ∨ p = 9 ∨ p = 10 ∨ p = 11 := by
  rcases pk_ix p (n := 12) (by decide) with h | h | ⟨j, hj, rfl⟩
  · exact Or.inl h
  · exact Or.inr (Or.inl (Int32.lt_of_lt_of_le (by decide) h))
  · right; right
    have H : ∀ j, j < 12 → (nI j = 0 ∨ nI j = 1 ∨ nI j = 2 ∨ nI j = 3 ∨ nI j = 4 ∨ nI j = 5 ∨ nI j = 6 ∨ nI j = 7 ∨ nI j = 8 ∨ nI j = 9 ∨ nI j = 10 ∨ nI j = 11) := by decide +kernel
    exact H j hj
/-- recorded or not -/
theorem sd_rec (q : Int32) {c m : Nat} (hm : (if c ≤ 9 then c else 9) = m) (hc : c ≤ 10) : ((q < 0 ∨ nI m < q) ∧ (q < 0 ∨ nI c < q ∨ 9 < q)) ∨ ∃ j : Nat, j ≤ m ∧ m ≤ 9 ∧ q = nI j ∧ ¬ nI j < 0 ∧ ¬ nI c < nI j ∧ ¬ 9 < nI j ∧ nI j ≤ nI m := by
  have hm9 : m ≤ 9 := by split at hm <;> omega
  have hmc : m ≤ c := by split at hm <;> omega
  by_cases h : q < 0
  · exact Or.inl ⟨Or.inl h, Or.inl h⟩
  · obtain ⟨j, hj, rfl⟩ := nI_of h
    by_cases hjm : j ≤ m
    · exact Or.inr ⟨j, hjm, hm9, rfl, h, nI_nlt (by omega) (by omega), nI_nlt (a := 9) (by omega) (by decide), nI_le hjm (by omega)⟩
    · refine Or.inl ⟨Or.inr (nI_lt (by omega) hj), Or.inr ?_⟩
      by_cases h9 : c ≤ 9
      · rw [if_pos h9] at hm
        exact Or.inl (nI_lt (by omega) hj)
      · rw [if_neg h9] at hm
        exact Or.inr (nI_lt (a := 9) (by omega) hj)
theorem i_vc_trace {k : Nat} {u : SX} {v : SY} (I : i_Rel k u v) (hk : k + 3 ≤ 1537) (v1 : Int32) (v2 : Int32) : wpX_trace (fun r => wpY_trace (fun r' => r' = r ∧ i_Rel (k + 3) u v) v v1 v2) u v1 v2 := by
  have J := i_up I
  obtain ⟨c, n, dv, ph, cx, cy, x, w, s, d, ro, qp, qm, fq, fr, sm, ca, tb, dg, es, qa, qb, ax, av, aq, ar, yx, yv, yq, yr, pr, rfl, rfl, h1, hc, hn, hH, hP⟩ := I
  unfold wpX_trace
  have main : ∀ a, a ≤ 10 → (ph = 2 ∨ ph = 3) → cx = nI a → cy = nI a → wpX_trace (fun r => wpY_trace (fun r' => r' = r ∧ i_Rel (k + 3) (nI c, nI n, dv, ph, cx, x, w, s, d, ro, sm, ca, qp, qm, fq, fr, tb, dg, es, qa, qb, pr, ax, av, aq, ar) (nI c, ph, x, w, cy, s, d, ro, fq, fr, nI n, dv, sm, ca, qp, qm, tb, dg, es, qa, qb, pr, yx, yv, yq, yr)) (nI c, ph, x, w, cy, s, d, ro, fq, fr, nI n, dv, sm, ca, qp, qm, tb, dg, es, qa, qb, pr, yx, yv, yq, yr) v1 v2) (nI c, nI n, dv, ph, cx, x, w, s, d, ro, sm, ca, qp, qm, fq, fr, tb, dg, es, qa, qb, pr, ax, av, aq, ar) v1 v2 := by
    rintro a ha hph rfl rfl
    unfold wpX_trace
    rcases sd_k4 v1 with h | h | h
    · exact xa_isr (br_t rfl (br_t h ⟨rfl, J⟩)) (br_f (by decide) (br_t h (br_t h ⟨rfl, J⟩)))
    · have h0 : ¬ v1 < 0 := fun z => absurd (Int32.lt_trans h z) (by decide)
      exact xa_isr (br_t rfl (br_f h0 (br_f (Int32.not_le.mpr h) ⟨rfl, J⟩))) (br_f (by decide) (br_f h0 (br_t h (br_f h0 (br_f (Int32.not_le.mpr h) ⟨rfl, J⟩)))))
    · have h0 : ¬ v1 < 0 := by rcases h with rfl | rfl | rfl | rfl <;> decide
      have h3 : v1 ≤ 3 := by rcases h with rfl | rfl | rfl | rfl <;> decide
      rcases sd_rec v2 (c := a) rfl ha with ⟨hy, hx⟩ | ⟨j, hjm, hm9, rfl, b0, b1, b2, b3⟩
      · exact xa_is0 hx (br_t rfl (ya_tr rfl ha hph h0 h3 (ya_45n hy ⟨rfl, J⟩)))
      · have hin : vp_in (nI j) 10 := vp_in_nI (by omega) (by decide)
        rcases h with rfl | rfl | rfl | rfl
        · refine xa_is1 hph b0 b1 b2 (br_f (by decide) (br_f (by decide) (br_f (by decide) (br_t rfl (pk_le j 0 (fun z => ?_) (fun z => ⟨hin, ?_⟩))))))
          · exact ya_tr rfl ha hph h0 h3 (br_t rfl (br_t (nI_lt (b := 1) (by omega) (by decide)) ⟨rfl, J⟩))
          · exact ya_tr rfl ha hph h0 h3 (br_t rfl (br_f (nI_nlt (b := 1) (by omega) (by omega)) (br_t b3 (br_t rfl ⟨hin, rfl, J⟩))))
        · refine xa_is1 hph b0 b1 b2 (br_f (by decide) (br_f (by decide) (br_f (by decide) (br_f (by decide) (br_t rfl (pk_le j 0 (fun z => ?_) (fun z => ⟨hin, ?_⟩)))))))
          · exact ya_tr rfl ha hph h0 h3 (br_f (by decide) (br_t rfl (br_t (nI_lt (b := 1) (by omega) (by decide)) ⟨rfl, J⟩)))
          · exact ya_tr rfl ha hph h0 h3 (br_f (by decide) (br_t rfl (br_f (nI_nlt (b := 1) (by omega) (by omega)) (br_t b3 (br_f (by decide) (br_t rfl ⟨hin, rfl, J⟩))))))
        · exact xa_is1 hph b0 b1 b2 (br_f (by decide) (br_f (by decide) (br_f (by decide) (br_f (by decide) (br_f (by decide) (br_t rfl ⟨hin, ya_tr rfl ha hph h0 h3 (br_f (by decide) (br_f (by decide) (br_f b0 (br_t b3 (br_f (by decide) (br_f (by decide) (br_t rfl ⟨hin, rfl, J⟩)))))))⟩))))))
        · exact xa_is1 hph b0 b1 b2 (br_f (by decide) (br_f (by decide) (br_f (by decide) (br_f (by decide) (br_f (by decide) (br_f (by decide) (br_t rfl ⟨hin, ya_tr rfl ha hph h0 h3 (br_f (by decide) (br_f (by decide) (br_f b0 (br_t b3 (br_f (by decide) (br_f (by decide) (br_f (by decide) ⟨hin, rfl, J⟩)))))))⟩)))))))
  rcases hP with ⟨rfl, rfl⟩ | ⟨rfl, rfl, hO⟩ | ⟨rfl, hO, j, hj, rfl, rfl, hrest⟩ | ⟨rfl, hO, rfl, rfl⟩
  · exact xa_isn (by decide) (by decide) (br_t rfl (br_c (fun _ => ⟨rfl, J⟩) (fun _ => br_c (fun _ => br_f (by decide) (br_f (by decide) ⟨rfl, J⟩)) (fun _ => ⟨rfl, J⟩))))
  · exact xa_isn (by decide) (by decide) (br_t rfl (br_c (fun _ => ⟨rfl, J⟩) (fun _ => br_c (fun _ => br_f (by decide) (br_f (by decide) ⟨rfl, J⟩)) (fun _ => ⟨rfl, J⟩))))
  · exact main j (by omega) (Or.inl rfl) rfl rfl
  · exact main 10 (by omega) (Or.inr rfl) rfl rfl
theorem i_vc_partialRemainder {k : Nat} {u : SX} {v : SY} (I : i_Rel k u v) (hk : k + 3 ≤ 1537) (v1 : Int32) : wpX_partialRemainder (fun r => wpY_partialRemainder (fun r' => r' = r ∧ i_Rel (k + 3) u v) v v1) u v1 := by
  have J := i_up I
  obtain ⟨c, n, dv, ph, cx, cy, x, w, s, d, ro, qp, qm, fq, fr, sm, ca, tb, dg, es, qa, qb, ax, av, aq, ar, yx, yv, yq, yr, pr, rfl, rfl, h1, hc, hn, hH, hP⟩ := I
  have main : ∀ a, a ≤ 10 → (ph = 2 ∨ ph = 3) → cx = nI a → cy = nI a → wpX_partialRemainder (fun r => wpY_partialRemainder (fun r' => r' = r ∧ i_Rel (k + 3) (nI c, nI n, dv, ph, cx, x, w, s, d, ro, sm, ca, qp, qm, fq, fr, tb, dg, es, qa, qb, pr, ax, av, aq, ar) (nI c, ph, x, w, cy, s, d, ro, fq, fr, nI n, dv, sm, ca, qp, qm, tb, dg, es, qa, qb, pr, yx, yv, yq, yr)) (nI c, ph, x, w, cy, s, d, ro, fq, fr, nI n, dv, sm, ca, qp, qm, tb, dg, es, qa, qb, pr, yx, yv, yq, yr) v1) (nI c, nI n, dv, ph, cx, x, w, s, d, ro, sm, ca, qp, qm, fq, fr, tb, dg, es, qa, qb, pr, ax, av, aq, ar) v1 := by
    rintro a ha hph rfl rfl
    unfold wpX_partialRemainder
    rcases sd_rec v1 (c := a) rfl ha with ⟨hy, hx⟩ | ⟨j, hjm, hm9, rfl, b0, b1, b2, b3⟩
    · refine xa_is0 hx (br_t rfl (ya_pn rfl ha hph (br_c (fun _ => ⟨rfl, J⟩) (fun g => br_f ?_ ⟨rfl, J⟩))))
      rcases hy with h | h
      · exact absurd h g
      · exact Int32.not_le.mpr h
    · have hin : vp_in (nI j) 10 := vp_in_nI (by omega) (by decide)
      exact xa_is1 hph b0 b1 b2 (br_f (by decide) ⟨hin, ya_pn rfl ha hph (br_f b0 (br_t b3 ⟨hin, rfl, J⟩))⟩)
  rcases hP with ⟨rfl, rfl⟩ | ⟨rfl, rfl, hO⟩ | ⟨rfl, hO, j, hj, rfl, rfl, hrest⟩ | ⟨rfl, hO, rfl, rfl⟩
  · unfold wpX_partialRemainder
    exact xa_isn (by decide) (by decide) (br_t rfl (br_f (by decide) (br_f (by decide) ⟨rfl, J⟩)))
  · unfold wpX_partialRemainder
    exact xa_isn (by decide) (by decide) (br_t rfl (br_f (by decide) (br_f (by decide) ⟨rfl, J⟩)))
  · exact main j (by omega) (Or.inl rfl) rfl rfl
  · exact main 10 (by omega) (Or.inr rfl) rfl rfl
theorem sd_le1 {n q : Nat} (hn : n ≤ 16) (hq : q < 2 ^ 31) : nI q ≤ nI n - 1 ↔ q < n := by
  cases n with
  | zero =>
    constructor
    · intro h
      exact absurd (Int32.lt_of_le_of_lt h (by decide : nI 0 - 1 < 0)) (nI_pos hq)
    · intro h
      exact absurd h (by omega)
  | succ m =>
    rw [nI_pred, nI_leI hq (by omega)]
    omega
theorem i_vc_history {k : Nat} {u : SX} {v : SY} (I : i_Rel k u v) (hk : k + 3 ≤ 1537) (v1 : Int32) (v2 : Int32) : wpX_history (fun r => wpY_history (fun r' => r' = r ∧ i_Rel (k + 3) u v) v v1 v2) u v1 v2 := by
  have J := i_up I
  obtain ⟨c, n, dv, ph, cx, cy, x, w, s, d, ro, qp, qm, fq, fr, sm, ca, tb, dg, es, qa, qb, ax, av, aq, ar, yx, yv, yq, yr, pr, rfl, rfl, h1, hc, hn, hH, hP⟩ := I
  by_cases hv : v2 < 0
  · refine br_t hv (br_c (fun _ => ⟨rfl, J⟩) (fun _ => br_c (fun _ => br_t hv ⟨rfl, J⟩) (fun _ => ⟨rfl, J⟩)))
  · obtain ⟨q, hq, rfl⟩ := nI_of hv
    by_cases hqn : q < n
    · have hl : nI q < nI n := nI_lt hqn (by omega)
      have hl' : nI q ≤ nI n - 1 := (sd_le1 (by omega) hq).mpr hqn
      have hin : vp_in (nI q) 16 := vp_in_nI (by omega) (by decide)
      obtain ⟨e1, e2, e3, e4⟩ := hH q hqn
      have ec : (nI q).toNatClampNeg = q := nI_clamp hq
      rcases sd_k4 v1 with h | h | h
      · exact br_f hv (br_t hl (br_t h (br_t h ⟨rfl, J⟩)))
      · have h0 : ¬ v1 < 0 := fun z => absurd (Int32.lt_trans h z) (by decide)
        exact br_f hv (br_t hl (br_f h0 (br_t h (br_f h0 (br_f (Int32.not_le.mpr h) ⟨rfl, J⟩)))))
      · rcases h with rfl | rfl | rfl | rfl
        · exact br_f hv (br_t hl (br_f (by decide) (br_f (by decide) (br_t rfl ⟨hin, br_f (by decide) (br_t (by decide) (br_f hv (br_t hl' (br_t rfl ⟨hin, by rw [ec, e1], J⟩))))⟩))))
        · exact br_f hv (br_t hl (br_f (by decide) (br_f (by decide) (br_f (by decide) (br_t rfl ⟨hin, br_f (by decide) (br_t (by decide) (br_f hv (br_t hl' (br_f (by decide) (br_t rfl ⟨hin, by rw [ec, e2], J⟩)))))⟩)))))
        · exact br_f hv (br_t hl (br_f (by decide) (br_f (by decide) (br_f (by decide) (br_f (by decide) (br_t rfl ⟨hin, br_f (by decide) (br_t (by decide) (br_f hv (br_t hl' (br_f (by decide) (br_f (by decide) (br_t rfl ⟨hin, by rw [ec, e3], J⟩))))))⟩))))))
        · exact br_f hv (br_t hl (br_f (by decide) (br_f (by decide) (br_f (by decide) (br_f (by decide) (br_f (by decide) (br_t rfl ⟨hin, br_f (by decide) (br_t (by decide) (br_f hv (br_t hl' (br_f (by decide) (br_f (by decide) (br_f (by decide) ⟨hin, by rw [ec, e4], J⟩))))))⟩)))))))
    · have hl : ¬ nI q < nI n := nI_nlt (by omega) hq
      have hl' : ¬ nI q ≤ nI n - 1 := fun z => hqn ((sd_le1 (by omega) hq).mp z)
      exact br_f hv (br_f hl (br_c (fun _ => ⟨rfl, J⟩) (fun _ => br_c (fun _ => br_f hv (br_f hl' ⟨rfl, J⟩)) (fun _ => ⟨rfl, J⟩))))
theorem sd_y0 : ∀ r, r < 8 → nI r * 4 + (2 - 2) = nI (4 * r + 0) := by decide +kernel
theorem sd_y1 : ∀ r, r < 8 → nI r * 4 + (2 - 1) = nI (4 * r + 1) := by decide +kernel
theorem sd_y2 : ∀ r, r < 8 → nI r * 4 + (2 - 0) = nI (4 * r + 2) := by decide +kernel
theorem sd_y3 : ∀ r, r < 8 → nI r * 4 + (2 - (-1)) = nI (4 * r + 3) := by decide +kernel
theorem sd_d4 {p : Int32} (h1 : ¬ p < -1) (h2 : p ≤ 2) : p = 2 ∨ p = 1 ∨ p = 0 ∨ p = -1 := by
  rw [Int32.lt_iff_toInt_lt, show (-1 : Int32).toInt = -1 from by decide] at h1
  rw [Int32.le_iff_toInt_le, show (2 : Int32).toInt = 2 from by decide] at h2
  have h : p.toInt = 2 ∨ p.toInt = 1 ∨ p.toInt = 0 ∨ p.toInt = -1 := by omega
  rcases h with h | h | h | h
  · exact Or.inl (Int32.toInt_inj.mp h)
  · exact Or.inr (Or.inl (Int32.toInt_inj.mp h))
  · exact Or.inr (Or.inr (Or.inl (Int32.toInt_inj.mp h)))
  · exact Or.inr (Or.inr (Or.inr (Int32.toInt_inj.mp h)))
theorem i_vc_threshold {k : Nat} {u : SX} {v : SY} (I : i_Rel k u v) (hk : k + 3 ≤ 1537) (v1 : Int32) (v2 : Int32) : wpX_threshold (fun r => wpY_threshold (fun r' => r' = r ∧ i_Rel (k + 3) u v) v v1 v2) u v1 v2 := by
  have J := i_up I
  obtain ⟨c, n, dv, ph, cx, cy, x, w, s, d, ro, qp, qm, fq, fr, sm, ca, tb, dg, es, qa, qb, ax, av, aq, ar, yx, yv, yq, yr, pr, rfl, rfl, h1, hc, hn, hH, hP⟩ := I
  by_cases h0 : v1 < 0
  · exact br_t h0 (br_t h0 ⟨rfl, J⟩)
  · obtain ⟨r, hr, rfl⟩ := nI_of h0
    by_cases h8 : r < 8
    · have g1 : nI r < 8 := nI_lt (b := 8) h8 (by decide)
      have g2 : nI r ≤ 7 := nI_le (b := 7) (by omega) (by decide)
      by_cases d1 : v2 < -1
      · exact br_f h0 (br_t g1 (br_t d1 (br_f h0 (br_t g2 (br_t d1 ⟨rfl, J⟩)))))
      · by_cases d2 : v2 ≤ 2
        · refine br_f h0 (br_t g1 (br_f d1 (br_t d2 ?_)))
          have fin : ∀ (i : Nat) (g : Int32), i < 4 → ¬ g < -1 → g ≤ 2 → nI r * 4 + 2 - g = nI (4 * r + i) → nI r * 4 + (2 - g) = nI (4 * r + i) → wpX_tableEntry (fun r_5 => wpY_threshold (fun r' => r' = r_5 ∧ i_Rel (k + 3) (nI c, nI n, dv, ph, cx, x, w, s, d, ro, sm, ca, qp, qm, fq, fr, tb, dg, es, qa, qb, pr, ax, av, aq, ar) (nI c, ph, x, w, cy, s, d, ro, fq, fr, nI n, dv, sm, ca, qp, qm, tb, dg, es, qa, qb, pr, yx, yv, yq, yr)) (nI c, ph, x, w, cy, s, d, ro, fq, fr, nI n, dv, sm, ca, qp, qm, tb, dg, es, qa, qb, pr, yx, yv, yq, yr) (nI r) g) (nI c, nI n, dv, ph, cx, x, w, s, d, ro, sm, ca, qp, qm, fq, fr, tb, dg, es, qa, qb, pr, ax, av, aq, ar) (nI r) g := by
            intro i g hi e1 e2 e3 e4
            refine xa_te h8 hi e3 (br_f h0 (br_t g2 (br_f e1 (br_t e2 ?_))))
            rw [e4, nI_clamp (by omega)]
            exact ⟨vp_in_nI (by omega) (by decide), rfl, J⟩
          rcases sd_d4 d1 d2 with rfl | rfl | rfl | rfl
          · exact fin 0 _ (by decide) d1 d2 (sd_g0 r h8) (sd_y0 r h8)
          · exact fin 1 _ (by decide) d1 d2 (sd_g1 r h8) (sd_y1 r h8)
          · exact fin 2 _ (by decide) d1 d2 (sd_g2 r h8) (sd_y2 r h8)
          · exact fin 3 _ (by decide) d1 d2 (sd_g3 r h8) (sd_y3 r h8)
        · exact br_f h0 (br_t g1 (br_f d1 (br_f d2 (br_f h0 (br_t g2 (br_f d1 (br_f d2 ⟨rfl, J⟩)))))))
    · have g1 : ¬ nI r < 8 := nI_nlt (b := 8) (by omega) hr
      have g2 : ¬ nI r ≤ 7 := nI_ge (a := 7) (by omega) hr
      exact br_f h0 (br_f g1 (br_f h0 (br_f g2 ⟨rfl, J⟩)))
end SDD
end
section
section SDE
/-! the owed statements: status, construction -/
theorem sd_ne {p : Int32} (h : p < 0 ∨ 11 < p) : ¬ p = 0 ∧ ¬ p = 1 ∧ ¬ p = 2 ∧ ¬ p = 3 ∧ ¬ p = 4 ∧ ¬ p = 5 ∧ ¬ p = 6 ∧ ¬ p = 7 ∧ ¬ p = 8 ∧ ¬ p = 9 ∧ ¬ p = 10 ∧ ¬ p = 11 := by
  refine ⟨?_, ?_, ?_, ?_, ?_, ?_, ?_, ?_, ?_, ?_, ?_, ?_⟩ <;> (rintro rfl; rcases h with h | h <;> exact absurd h (by decide))
theorem i_vc_status {k : Nat} {u : SX} {v : SY} (I : i_Rel k u v) (hk : k + 3 ≤ 1537) (v1 : Int32) : wpX_status (fun r => wpY_status (fun r' => r' = r ∧ i_Rel (k + 3) u v) v v1) u v1 := by
  have J := i_up I
  obtain ⟨c, n, dv, ph, cx, cy, x, w, s, d, ro, qp, qm, fq, fr, sm, ca, tb, dg, es, qa, qb, ax, av, aq, ar, yx, yv, yq, yr, pr, rfl, rfl, h1, hc, hn, hH, hP⟩ := I
  rcases sd_k12 v1 with h | h | h
  · obtain ⟨n0, n1, n2, n3, n4, n5, n6, n7, n8, n9, n10, n11⟩ := sd_ne (Or.inl h)
    have T : ∀ z, wY_status_21 (fun r' => r' = -2147483648 ∧ i_Rel (k + 3) (nI c, nI n, dv, ph, cx, x, w, s, d, ro, sm, ca, qp, qm, fq, fr, tb, dg, es, qa, qb, pr, ax, av, aq, ar) (nI c, ph, x, w, cy, s, d, ro, fq, fr, nI n, dv, sm, ca, qp, qm, tb, dg, es, qa, qb, pr, yx, yv, yq, yr)) v1 z (nI c) ph x w cy s d ro fq fr (nI n) dv sm ca qp qm tb dg es qa qb pr yx yv yq yr := fun z => br_f n0 (br_f n1 (br_f n2 (br_f n3 (br_f n4 (br_f n5 (br_f n6 (br_f n7 (br_f n8 (br_f n9 (br_f n10 (br_f n11 ⟨rfl, J⟩)))))))))))
    exact br_t h (br_c (fun _ => T 1) (fun _ => br_c (fun _ => T 1) (fun _ => T 0)))
  · obtain ⟨n0, n1, n2, n3, n4, n5, n6, n7, n8, n9, n10, n11⟩ := sd_ne (Or.inr h)
    have h0 : ¬ v1 < 0 := fun z => absurd (Int32.lt_trans h z) (by decide)
    have T : ∀ z, wY_status_21 (fun r' => r' = -2147483648 ∧ i_Rel (k + 3) (nI c, nI n, dv, ph, cx, x, w, s, d, ro, sm, ca, qp, qm, fq, fr, tb, dg, es, qa, qb, pr, ax, av, aq, ar) (nI c, ph, x, w, cy, s, d, ro, fq, fr, nI n, dv, sm, ca, qp, qm, tb, dg, es, qa, qb, pr, yx, yv, yq, yr)) v1 z (nI c) ph x w cy s d ro fq fr (nI n) dv sm ca qp qm tb dg es qa qb pr yx yv yq yr := fun z => br_f n0 (br_f n1 (br_f n2 (br_f n3 (br_f n4 (br_f n5 (br_f n6 (br_f n7 (br_f n8 (br_f n9 (br_f n10 (br_f n11 ⟨rfl, J⟩)))))))))))
    exact br_f h0 (br_t h (br_c (fun _ => T 1) (fun _ => br_c (fun _ => T 1) (fun _ => T 0))))
  · rcases hP with ⟨rfl, rfl⟩ | ⟨rfl, rfl, hO⟩ | ⟨rfl, hO, j, hj, rfl, rfl, hrest⟩ | ⟨rfl, hO, rfl, rfl⟩
    · rcases h with rfl | rfl | rfl | rfl | rfl | rfl | rfl | rfl | rfl | rfl | rfl | rfl <;> (repeat (first | refine br_t (by decide) ?_ | refine br_f (by decide) ?_)) <;> exact ⟨rfl, J⟩
    · rcases h with rfl | rfl | rfl | rfl | rfl | rfl | rfl | rfl | rfl | rfl | rfl | rfl <;> (repeat (first | refine br_t (by decide) ?_ | refine br_f (by decide) ?_)) <;> exact ⟨rfl, J⟩
    · rcases h with rfl | rfl | rfl | rfl | rfl | rfl | rfl | rfl | rfl | rfl | rfl | rfl <;> (repeat (first | refine br_t (by decide) ?_ | refine br_f (by decide) ?_)) <;> exact ⟨rfl, J⟩
    · rcases h with rfl | rfl | rfl | rfl | rfl | rfl | rfl | rfl | rfl | rfl | rfl | rfl <;> (repeat (first | refine br_t (by decide) ?_ | refine br_f (by decide) ?_)) <;> exact ⟨rfl, J⟩
section
variable {cap pc dv ph cx cy x w s d ro qp qm fq fr : Int32} {sm ca : Int64} {tb dg es qa qb ax av aq ar yx yv yq yr : Nat → Int32} {pr : Nat → Int64}
theorem xa_fr {post : SX → Prop} {r : Nat} {a b e g : Int32} (hr : r < 8) (hp : post (cap, pc, dv, ph, cx, x, w, s, d, ro, sm, ca, qp, qm, fq, fr, upd (upd (upd (upd tb (4 * r) a) (4 * r + 1) b) (4 * r + 2) e) (4 * r + 3) g, dg, es, qa, qb, pr, ax, av, aq, ar)) : wpX_fillRow post (cap, pc, dv, ph, cx, x, w, s, d, ro, sm, ca, qp, qm, fq, fr, tb, dg, es, qa, qb, pr, ax, av, aq, ar) (nI r) a b e g := by
  have e0 : nI r * 4 = nI (4 * r) := by
    have h : nI r * 4 = nI (r * 4) := pk_mul r 4
    rw [h, Nat.mul_comm]
  have e1 : nI (4 * r) + 1 = nI (4 * r + 1) := nI_1 _
  have e2 : nI (4 * r) + 2 = nI (4 * r + 2) := nI_add _ 2
  have e3 : nI (4 * r) + 3 = nI (4 * r + 3) := nI_add _ 3
  refine nm_r e0 ?_
  rw [e1, e2, e3, nI_clamp (by omega), nI_clamp (by omega), nI_clamp (by omega), nI_clamp (by omega)]
  exact ⟨vp_in_nI (by omega) (by decide), nm_e ⟨vp_in_nI (by omega) (by decide), nm_e ⟨vp_in_nI (by omega) (by decide), nm_e ⟨vp_in_nI (by omega) (by decide), nm_e hp⟩⟩⟩⟩
theorem ya_sr {post : SY → Prop} {r : Nat} {a b e g : Int32} (hr : r < 8) (hp : post (cap, ph, x, w, cy, s, d, ro, fq, fr, pc, dv, sm, ca, qp, qm, upd (upd (upd (upd tb (4 * r) a) (4 * r + 1) b) (4 * r + 2) e) (4 * r + 3) g, dg, es, qa, qb, pr, yx, yv, yq, yr)) : wpY_setRow post (cap, ph, x, w, cy, s, d, ro, fq, fr, pc, dv, sm, ca, qp, qm, tb, dg, es, qa, qb, pr, yx, yv, yq, yr) (nI r) a b e g := by
  have e0 : nI r * 4 = nI (4 * r) := by
    have h : nI r * 4 = nI (r * 4) := pk_mul r 4
    rw [h, Nat.mul_comm]
  have e1 : nI (4 * r) + 1 = nI (4 * r + 1) := nI_1 _
  have e2 : nI (4 * r) + 2 = nI (4 * r + 2) := nI_add _ 2
  have e3 : nI (4 * r) + 3 = nI (4 * r + 3) := nI_add _ 3
  unfold wpY_setRow
  dsimp only
  rw [e0, e1, e2, e3, nI_clamp (by omega), nI_clamp (by omega), nI_clamp (by omega), nI_clamp (by omega)]
  exact ⟨vp_in_nI (by omega) (by decide), nm_e ⟨vp_in_nI (by omega) (by decide), nm_e ⟨vp_in_nI (by omega) (by decide), nm_e ⟨vp_in_nI (by omega) (by decide), nm_e hp⟩⟩⟩⟩
def xd_fill (tb : Nat → Int32) : Nat → Int32 := (upd (upd (upd (upd (upd (upd (upd (upd (upd (upd (upd (upd (upd (upd (upd (upd (upd (upd (upd (upd (upd (upd (upd (upd (upd (upd (upd (upd (upd (upd (upd (upd tb (4 * 0) 12) (4 * 0 + 1) 4) (4 * 0 + 2) (-4)) (4 * 0 + 3) (-13)) (4 * 1) 14) (4 * 1 + 1) 5) (4 * 1 + 2) (-5)) (4 * 1 + 3) (-15)) (4 * 2) 15) (4 * 2 + 1) 5) (4 * 2 + 2) (-5)) (4 * 2 + 3) (-16)) (4 * 3) 16) (4 * 3 + 1) 6) (4 * 3 + 2) (-6)) (4 * 3 + 3) (-17)) (4 * 4) 18) (4 * 4 + 1) 6) (4 * 4 + 2) (-6)) (4 * 4 + 3) (-19)) (4 * 5) 20) (4 * 5 + 1) 7) (4 * 5 + 2) (-7)) (4 * 5 + 3) (-20)) (4 * 6) 21) (4 * 6 + 1) 7) (4 * 6 + 2) (-7)) (4 * 6 + 3) (-22)) (4 * 7) 23) (4 * 7 + 1) 8) (4 * 7 + 2) (-8)) (4 * 7 + 3) (-24))
theorem xa_fill {post : SX → Prop} (hp : post (cap, pc, dv, ph, cx, x, w, s, d, ro, sm, ca, qp, qm, fq, fr, xd_fill tb, dg, es, qa, qb, pr, ax, av, aq, ar)) : wpX_fillTable post (cap, pc, dv, ph, cx, x, w, s, d, ro, sm, ca, qp, qm, fq, fr, tb, dg, es, qa, qb, pr, ax, av, aq, ar) := by
  unfold wpX_fillTable
  refine xa_fr (r := 0) (by decide) ?_
  refine xa_fr (r := 1) (by decide) ?_
  refine xa_fr (r := 2) (by decide) ?_
  refine xa_fr (r := 3) (by decide) ?_
  refine xa_fr (r := 4) (by decide) ?_
  refine xa_fr (r := 5) (by decide) ?_
  refine xa_fr (r := 6) (by decide) ?_
  refine xa_fr (r := 7) (by decide) ?_
  exact hp
theorem ya_fill {post : SY → Prop} (hp : post (cap, 0, x, w, cy, s, d, ro, fq, fr, pc, dv, sm, ca, qp, qm, xd_fill tb, dg, es, qa, qb, pr, yx, yv, yq, yr)) : wY_init_117 post cap ph x w cy s d ro fq fr pc dv sm ca qp qm tb dg es qa qb pr yx yv yq yr := by
  unfold wY_init_117
  refine ya_sr (r := 0) (by decide) ?_
  refine ya_sr (r := 1) (by decide) ?_
  refine ya_sr (r := 2) (by decide) ?_
  refine ya_sr (r := 3) (by decide) ?_
  refine ya_sr (r := 4) (by decide) ?_
  refine ya_sr (r := 5) (by decide) ?_
  refine ya_sr (r := 6) (by decide) ?_
  refine ya_sr (r := 7) (by decide) ?_
  exact hp
end
theorem sd_init {c : Nat} (h1 : 1 ≤ c) (hc : c ≤ 16) : i_Rel 1 (nI c, 0, 0, 0, 0, 0, 0, 0, 0, 0, 0, 0, 0, 0, 0, 0, xd_fill (fun _ => 0), (fun _ => 0), (fun _ => 0), (fun _ => 0), (fun _ => 0), (fun _ => 0), (fun _ => 0), (fun _ => 0), (fun _ => 0), (fun _ => 0)) (nI c, 0, 0, 0, 0, 0, 0, 0, 0, 0, 0, 0, 0, 0, 0, 0, xd_fill (fun _ => 0), (fun _ => 0), (fun _ => 0), (fun _ => 0), (fun _ => 0), (fun _ => 0), (fun _ => 0), (fun _ => 0), (fun _ => 0), (fun _ => 0)) :=
  ⟨c, 0, 0, 0, 0, 0, 0, 0, 0, 0, 0, 0, 0, 0, 0, 0, 0, xd_fill (fun _ => 0), (fun _ => 0), (fun _ => 0), (fun _ => 0), (fun _ => 0), (fun _ => 0), (fun _ => 0), (fun _ => 0), (fun _ => 0), (fun _ => 0), (fun _ => 0), (fun _ => 0), (fun _ => 0), (fun _ => 0), rfl, rfl, h1, hc, by omega, fun q hq => absurd hq (by omega), Or.inl ⟨rfl, rfl⟩⟩
theorem i_vc0 (k0 : Int32) : wpX_init (fun u => wpY_init (fun v => i_Rel 1 u v) k0) k0 := by
  unfold wpX_init
  by_cases h1 : (1 : Int32) ≤ k0
  · by_cases h2 : k0 ≤ 16
    · have h0 : ¬ k0 < 0 := fun z => absurd (Int32.lt_of_le_of_lt h1 z) (by decide)
      obtain ⟨c, hc, rfl⟩ := nI_of2 (M := 16) (n := 16) (by decide) h0 h2
      have hc1 : 1 ≤ c := by
        apply Nat.le_of_not_lt
        intro z
        have e : c = 0 := by omega
        subst e
        exact absurd h1 (by decide)
      refine br_t h1 (br_t h2 (xa_fill ?_))
      exact br_t h1 (br_t h2 (ya_fill (sd_init hc1 hc)))
    · refine br_t h1 (br_f h2 (xa_fill ?_))
      exact br_t h1 (br_f h2 (ya_fill (sd_init (c := 16) (by decide) (by decide))))
  · refine br_f h1 (xa_fill ?_)
    exact br_f h1 (br_t (by decide) (ya_fill (sd_init (c := 1) (by decide) (by decide))))
end SDE
end
