section SDX
variable {cap pc dv ph cx x w s d ro qp qm fq fr : Int32} {sm ca : Int64} {tb dg es qa qb ax av aq ar : Nat → Int32} {pr : Nat → Int64}
/-! the component, method by method -/
theorem xa_shL {post : Int32 → Prop} {v k : Nat} (hk : k ≤ 15) (h1 : 32768 ≤ v * 2 ^ k) (h2 : v * 2 ^ k < 65536) (hm : ∀ t, t < k → v * 2 ^ t < 32768) (hp : post (nI k)) : ∀ (m p n : Nat), p + m = k → m < n → wX_shiftToNormalise_2 post (nI v) n (nI p) := by
  intro m
  induction m with
  | zero =>
    intro p n hpk hn
    obtain ⟨n, rfl⟩ : ∃ n', n = n' + 1 := ⟨n - 1, by omega⟩
    have e : p = k := by omega
    subst e
    refine pk_le 15 p (fun _ => hp) (fun z => br_t ?_ hp)
    rw [sd_shl (by omega) (by omega)]
    exact nI_le h1 (by omega)
  | succ m ih =>
    intro p n hpk hn
    obtain ⟨n, rfl⟩ : ∃ n', n = n' + 1 := ⟨n - 1, by omega⟩
    have h3 := hm p (by omega)
    refine pk_le 15 p (fun z => absurd z (by omega)) (fun z => br_f ?_ (nm_r (nI_1 p) (ih (p + 1) n (by omega) (by omega))))
    rw [sd_shl (by omega) (by omega)]
    exact nI_ge (b := 32768) h3 (by decide)
theorem xa_shift {post : Int32 → Prop} {v k : Nat} (hk : k ≤ 15) (h1 : 32768 ≤ v * 2 ^ k) (h2 : v * 2 ^ k < 65536) (hm : ∀ t, t < k → v * 2 ^ t < 32768) (hp : post (nI k)) : wpX_shiftToNormalise post () (nI v) :=
  ⟨k + 1, xa_shL hk h1 h2 hm hp k 0 (k + 1) (by omega) (by omega)⟩
theorem xa_rec {post : St2 → Prop} {j : Nat} {t : Int64} (hj : j < 10) (ht : sm + ca = t) (hp : post (cap, pc, dv, ph, cx, x, w, s, d, ro, sm, ca, qp, qm, fq, fr, tb, dg, es, upd qa j qp, upd qb j qm, vp_updL pr j t, ax, av, aq, ar)) : wpX_recordRegisters post (cap, pc, dv, ph, cx, x, w, s, d, ro, sm, ca, qp, qm, fq, fr, tb, dg, es, qa, qb, pr, ax, av, aq, ar) (nI j) :=
  ⟨vp_in_nI hj (by decide), nm_r (by rw [nI_clamp (by omega)]) ⟨vp_in_nI hj (by decide), nm_r (by rw [nI_clamp (by omega)]) ⟨vp_in_nI hj (by decide), nm_r (by rw [nI_clamp (by omega), ht]) hp⟩⟩⟩
theorem xa_begin {post : St2 → Prop} {b k : Nat} (hk : k ≤ 15) (h1 : 32768 ≤ b * 2 ^ k) (h2 : b * 2 ^ k < 65536) (hm : ∀ t, t < k → b * 2 ^ t < 32768)
    (hp : post (cap, pc, dv, 2, 0, x, nI b, nI k, nI (b * 2 ^ k), nI (b * 2 ^ k / 4096 - 8), x.toInt64 <<< ((nI k).toInt64 &&& 63), 0, 0, -1, fq, fr, tb, dg, es, upd qa 0 0, upd qb 0 (-1), vp_updL pr 0 (x.toInt64 <<< ((nI k).toInt64 &&& 63)), ax, av, aq, ar)) : wpX_beginDivision post (cap, pc, dv, ph, cx, x, nI b, s, d, ro, sm, ca, qp, qm, fq, fr, tb, dg, es, qa, qb, pr, ax, av, aq, ar) := by
  unfold wpX_beginDivision
  refine xa_shift hk h1 h2 hm (nm_r (sd_shl (by omega) (by omega)) (nm_r (sd_row h1 h2) (nm_e ?_)))
  exact xa_rec (j := 0) (by decide) (Int64.add_zero _) hp
theorem xa_est {post : Int32 → Prop} {S C : Int64} (hp : post (xd_est S C)) : wpX_truncatedEstimate post () (S <<< ((2 : Int32).toInt64 &&& 63)) (C <<< ((2 : Int32).toInt64 &&& 63)) := by
  unfold xd_est at hp
  refine nm_e (nm_e (br_c (fun h => ?_) (fun h => ?_)))
  · rw [if_neg (Int32.not_le.mpr h)] at hp
    exact hp
  · rw [if_pos (Int32.not_lt.mp h)] at hp
    exact hp
theorem sd_g0 : ∀ r, r < 8 → nI r * 4 + 2 - 2 = nI (4 * r + 0) := by decide +kernel
theorem sd_g1 : ∀ r, r < 8 → nI r * 4 + 2 - 1 = nI (4 * r + 1) := by decide +kernel
theorem sd_g2 : ∀ r, r < 8 → nI r * 4 + 2 - 0 = nI (4 * r + 2) := by decide +kernel
theorem sd_g3 : ∀ r, r < 8 → nI r * 4 + 2 - (-1) = nI (4 * r + 3) := by decide +kernel
theorem xa_te {post : Int32 → Prop} {r i : Nat} {g : Int32} (hr : r < 8) (hi : i < 4) (hg : nI r * 4 + 2 - g = nI (4 * r + i)) (hp : post (tb (4 * r + i))) : wpX_tableEntry post (cap, pc, dv, ph, cx, x, w, s, d, ro, sm, ca, qp, qm, fq, fr, tb, dg, es, qa, qb, pr, ax, av, aq, ar) (nI r) g := by
  show vp_in (nI r * 4 + 2 - g) 32 ∧ post (tb (nI r * 4 + 2 - g).toNatClampNeg)
  rw [hg, nI_clamp (by omega)]
  exact ⟨vp_in_nI (by omega) (by decide), hp⟩
theorem xa_choose {post : Int32 → Prop} {r : Nat} {e : Int32} (hr : r < 8) (hp : post (xd_dig tb r e)) : wpX_chooseDigit post (cap, pc, dv, ph, cx, x, w, s, d, nI r, sm, ca, qp, qm, fq, fr, tb, dg, es, qa, qb, pr, ax, av, aq, ar) e := by
  unfold xd_dig at hp
  refine ⟨6, br_f (by decide) (xa_te hr (i := 0) (by decide) (sd_g0 r hr) (br_c (fun h => ?_) (fun h => ?_)))⟩
  rotate_left
  · rw [if_pos (show tb (4 * r) ≤ e from Int32.not_lt.mp h)] at hp
    exact hp
  rw [if_neg (show ¬ tb (4 * r) ≤ e from Int32.not_le.mpr h)] at hp
  refine nm_r (e' := 1) (by decide) (br_f (by decide) (xa_te hr (i := 1) (by decide) (sd_g1 r hr) (br_c (fun h => ?_) (fun h => ?_))))
  rotate_left
  · rw [if_pos (show tb (4 * r + 1) ≤ e from Int32.not_lt.mp h)] at hp
    exact hp
  rw [if_neg (show ¬ tb (4 * r + 1) ≤ e from Int32.not_le.mpr h)] at hp
  refine nm_r (e' := 0) (by decide) (br_f (by decide) (xa_te hr (i := 2) (by decide) (sd_g2 r hr) (br_c (fun h => ?_) (fun h => ?_))))
  rotate_left
  · rw [if_pos (show tb (4 * r + 2) ≤ e from Int32.not_lt.mp h)] at hp
    exact hp
  rw [if_neg (show ¬ tb (4 * r + 2) ≤ e from Int32.not_le.mpr h)] at hp
  refine nm_r (e' := -1) (by decide) (br_f (by decide) (xa_te hr (i := 3) (by decide) (sd_g3 r hr) (br_c (fun h => ?_) (fun h => ?_))))
  rotate_left
  · rw [if_pos (show tb (4 * r + 3) ≤ e from Int32.not_lt.mp h)] at hp
    exact hp
  rw [if_neg (show ¬ tb (4 * r + 3) ≤ e from Int32.not_le.mpr h)] at hp
  exact nm_r (e' := -2) (by decide) (br_t (by decide) hp)
theorem xa_add {post : St2 → Prop} {S C : Int64} {g : Int32} (hp : post (cap, pc, dv, ph, cx, x, w, s, d, ro, xd_wS S C g d, xd_wC S C g d, qp, qm, fq, fr, tb, dg, es, qa, qb, pr, ax, av, aq, ar)) : wpX_addMultiple post (cap, pc, dv, ph, cx, x, w, s, d, ro, sm, ca, qp, qm, fq, fr, tb, dg, es, qa, qb, pr, ax, av, aq, ar) (S <<< ((2 : Int32).toInt64 &&& 63)) (C <<< ((2 : Int32).toInt64 &&& 63)) g := nm_e (nm_e (nm_e hp))
theorem xa_app {post : St2 → Prop} {g : Int32} (hp : post (cap, pc, dv, ph, cx, x, w, s, d, ro, sm, ca, xd_nP g qp qm, xd_nM g qp qm, fq, fr, tb, dg, es, qa, qb, pr, ax, av, aq, ar)) : wpX_appendDigit post (cap, pc, dv, ph, cx, x, w, s, d, ro, sm, ca, qp, qm, fq, fr, tb, dg, es, qa, qb, pr, ax, av, aq, ar) g := by
  unfold xd_nP xd_nM at hp
  refine br_c (fun h => ?_) (fun h => ?_)
  · rw [if_neg (show ¬ (0 : Int32) ≤ g from Int32.not_le.mpr h)] at hp
    refine br_c (fun h2 => ?_) (fun h2 => ?_)
    · rw [if_neg (show ¬ (0 : Int32) < g from Int32.not_lt.mpr h2)] at hp
      exact hp
    · rw [if_pos (show (0 : Int32) < g from Int32.not_le.mp h2)] at hp
      exact hp
  · rw [if_pos (show (0 : Int32) ≤ g from Int32.not_lt.mp h)] at hp
    refine br_c (fun h2 => ?_) (fun h2 => ?_)
    · rw [if_neg (show ¬ (0 : Int32) < g from Int32.not_lt.mpr h2)] at hp
      exact hp
    · rw [if_pos (show (0 : Int32) < g from Int32.not_le.mp h2)] at hp
      exact hp
theorem xa_iter {post : St2 → Prop} {r j : Nat} {E G P M : Int32} {S C T : Int64} (hr : r < 8) (hj : j < 10) (hE : xd_est sm ca = E) (hG : xd_dig tb r E = G) (hS : xd_wS sm ca G d = S) (hC : xd_wC sm ca G d = C) (hP : xd_nP G qp qm = P) (hM : xd_nM G qp qm = M) (hT : S + C = T)
    (hp : post (cap, pc, dv, ph, cx, x, w, s, d, nI r, S, C, P, M, fq, fr, tb, upd dg j G, upd es j E, upd qa j P, upd qb j M, vp_updL pr j T, ax, av, aq, ar)) : wpX_iterate post (cap, pc, dv, ph, cx, x, w, s, d, nI r, sm, ca, qp, qm, fq, fr, tb, dg, es, qa, qb, pr, ax, av, aq, ar) (nI j) := by
  subst hE hG hS hC hP hM
  refine nm_e (nm_e (xa_est ?_))
  refine xa_choose hr ?_
  refine xa_add ?_
  refine xa_app ?_
  refine ⟨vp_in_nI hj (by decide), nm_r (e' := upd es j (xd_est sm ca)) (by rw [nI_clamp (by omega)]) ⟨vp_in_nI hj (by decide), nm_r (e' := upd dg j (xd_dig tb r (xd_est sm ca))) (by rw [nI_clamp (by omega)]) ?_⟩⟩
  exact xa_rec hj hT hp
/-! the history -/
def sd_pc (c m : Nat) : Nat := if c ≤ m then m else m + 1
theorem sd_in1 {k : Nat} (h : k < 16) : vp_in (nI (k + 1) - 1) 16 := by
  rw [nI_pred]
  exact vp_in_nI h (by decide)
theorem sd_shN {f : Nat → Int32} {k e : Nat} (h : k + 1 ≤ e) (hk : k + 1 < 2 ^ 31) : upd (sd_sh f (k + 1) e) (nI (k + 1)).toNatClampNeg (sd_sh f (k + 1) e (nI (k + 1) - 1).toNatClampNeg) = sd_sh f k e := by
  rw [nI_pred, nI_clamp hk, nI_clamp (by omega), sd_sh1, sd_shs h]
theorem xa_pushL {post : St2 → Prop} {c m : Nat} (hc : c ≤ 16) (hm : m ≤ 16) (hp : post (nI c, nI (sd_pc c m), dv, ph, cx, x, w, s, d, ro, sm, ca, qp, qm, fq, fr, tb, dg, es, qa, qb, pr, upd (sd_sh ax 0 15) 0 x, upd (sd_sh av 0 15) 0 w, upd (sd_sh aq 0 15) 0 fq, upd (sd_sh ar 0 15) 0 fr)) :
    ∀ (k n : Nat), k ≤ 15 → k < n → wX_pushHistory_3 post (nI c) (nI m) dv ph cx x w s d ro sm ca qp qm fq fr n (nI k) tb dg es qa qb pr (sd_sh ax k 15) (sd_sh av k 15) (sd_sh aq k 15) (sd_sh ar k 15) := by
  intro k
  induction k with
  | zero =>
    intro n hk hn
    obtain ⟨n, rfl⟩ : ∃ n', n = n' + 1 := ⟨n - 1, by omega⟩
    refine br_t (by decide) (nm_e (nm_e (nm_e (nm_e ?_))))
    refine pk_le c m (fun z => ?_) (fun z => nm_r (nI_1 m) ?_)
    · have e : sd_pc c m = m := if_pos z
      rw [e] at hp
      exact hp
    · have e : sd_pc c m = m + 1 := if_neg (by omega)
      rw [e] at hp
      exact hp
  | succ k ih =>
    intro n hk hn
    obtain ⟨n, rfl⟩ : ∃ n', n = n' + 1 := ⟨n - 1, by omega⟩
    have i1 : vp_in (nI (k + 1) - 1) 16 := sd_in1 (by omega)
    have i2 : vp_in (nI (k + 1)) 16 := vp_in_nI (by omega) (by decide)
    exact br_f (nI_nle (by omega) (by omega)) ⟨i1, i2, nm_r (sd_shN hk (by omega)) ⟨i1, i2, nm_r (sd_shN hk (by omega)) ⟨i1, i2, nm_r (sd_shN hk (by omega)) ⟨i1, i2, nm_r (sd_shN hk (by omega)) (nm_r (pk_m1 k) (ih n (by omega) (by omega)))⟩⟩⟩⟩
theorem xa_push {post : St2 → Prop} {c m : Nat} (hc : c ≤ 16) (hm : m ≤ 16) (hp : post (nI c, nI (sd_pc c m), dv, ph, cx, x, w, s, d, ro, sm, ca, qp, qm, fq, fr, tb, dg, es, qa, qb, pr, upd (sd_sh ax 0 15) 0 x, upd (sd_sh av 0 15) 0 w, upd (sd_sh aq 0 15) 0 fq, upd (sd_sh ar 0 15) 0 fr)) : wpX_pushHistory post (nI c, nI m, dv, ph, cx, x, w, s, d, ro, sm, ca, qp, qm, fq, fr, tb, dg, es, qa, qb, pr, ax, av, aq, ar) := by
  have h := xa_pushL hc hm hp 15 16 (by decide) (by decide)
  rw [sd_she, sd_she, sd_she, sd_she] at h
  exact ⟨16, h⟩
theorem xa_corr {post : St2 → Prop} {c m : Nat} {F R : Int32} (hc : c ≤ 16) (hm : m ≤ 16) (hF : (if pr 9 < 0 then qm else qp) = F) (hR : (if pr 9 < 0 then (pr 9 >>> ((18 : Int32).toInt64 &&& 63)).toInt32 + d else (pr 9 >>> ((18 : Int32).toInt64 &&& 63)).toInt32) >>> (s &&& 31) = R)
    (hp : post (nI c, nI (sd_pc c m), dv + 1, 3, cx, x, w, s, d, ro, sm, ca, qp, qm, F, R, tb, dg, es, qa, qb, pr, upd (sd_sh ax 0 15) 0 x, upd (sd_sh av 0 15) 0 w, upd (sd_sh aq 0 15) 0 F, upd (sd_sh ar 0 15) 0 R)) : wpX_correct post (nI c, nI m, dv, ph, cx, x, w, s, d, ro, sm, ca, qp, qm, fq, fr, tb, dg, es, qa, qb, pr, ax, av, aq, ar) := by
  refine nm_e (nm_e (br_c (fun h => ?_) (fun h => ?_)))
  · have h' : ¬ pr 9 < 0 := Int64.not_lt.mpr h
    rw [if_neg h'] at hF hR
    subst hF hR
    exact br_t rfl (br_t rfl (nm_e (nm_e (xa_push hc hm hp))))
  · have h' : pr 9 < 0 := Int64.not_le.mp h
    rw [if_pos h'] at hF hR
    subst hF hR
    exact br_f (by decide) (br_f (by decide) (nm_e (nm_e (xa_push hc hm hp))))
/-! the loop of cycles: its end, an iteration, the correction -/
theorem xa_r0 {post : St2 → Prop} {l i n : Nat} (h : l ≤ i) (hi : i < 2 ^ 31) (hp : post (cap, pc, dv, ph, cx, x, w, s, d, ro, sm, ca, qp, qm, fq, fr, tb, dg, es, qa, qb, pr, ax, av, aq, ar)) : wX_runCycles_2 post (nI l) (n + 1) (nI i) cap pc dv ph cx x w s d ro sm ca qp qm fq fr tb dg es qa qb pr ax av aq ar := br_t (nI_le h hi) hp
theorem xa_r1 {post : St2 → Prop} {l i n c r : Nat} {E G P M : Int32} {S C T : Int64} (h : i < l) (hl : l ≤ 10) (hc : c < 9) (hr' : r < 8) (hE : xd_est sm ca = E) (hG : xd_dig tb r E = G) (hS : xd_wS sm ca G d = S) (hC : xd_wC sm ca G d = C) (hP : xd_nP G qp qm = P) (hM : xd_nM G qp qm = M) (hT : S + C = T)
    (hp : wX_runCycles_2 post (nI l) n (nI (i + 1)) cap pc dv ph (nI (c + 1)) x w s d (nI r) S C P M fq fr tb (upd dg (c + 1) G) (upd es (c + 1) E) (upd qa (c + 1) P) (upd qb (c + 1) M) (vp_updL pr (c + 1) T) ax av aq ar) : wX_runCycles_2 post (nI l) (n + 1) (nI i) cap pc dv ph (nI c) x w s d (nI r) sm ca qp qm fq fr tb dg es qa qb pr ax av aq ar := by
  refine br_f (nI_ge h (by omega)) (br_f (nI_ge (b := 9) hc (by decide)) ?_)
  rw [nI_1 c]
  exact xa_iter hr' (by omega) hE hG hS hC hP hM hT (nm_r (nI_1 c) (nm_r (nI_1 i) hp))
theorem xa_r2 {post : St2 → Prop} {l i n c m : Nat} {F R : Int32} (h : i < l) (hl : l ≤ 10) (hc : c ≤ 16) (hm : m ≤ 16) (hF : (if pr 9 < 0 then qm else qp) = F) (hR : (if pr 9 < 0 then (pr 9 >>> ((18 : Int32).toInt64 &&& 63)).toInt32 + d else (pr 9 >>> ((18 : Int32).toInt64 &&& 63)).toInt32) >>> (s &&& 31) = R)
    (hp : wX_runCycles_2 post (nI l) n (nI (i + 1)) (nI c) (nI (sd_pc c m)) (dv + 1) 3 (nI 10) x w s d ro sm ca qp qm F R tb dg es qa qb pr (upd (sd_sh ax 0 15) 0 x) (upd (sd_sh av 0 15) 0 w) (upd (sd_sh aq 0 15) 0 F) (upd (sd_sh ar 0 15) 0 R)) : wX_runCycles_2 post (nI l) (n + 1) (nI i) (nI c) (nI m) dv ph (nI 9) x w s d ro sm ca qp qm fq fr tb dg es qa qb pr ax av aq ar := by
  refine br_f (nI_ge h (by omega)) (br_t (by decide) ?_)
  exact xa_corr hc hm hF hR (nm_r (nI_1 9) (nm_r (nI_1 i) hp))
theorem xa_fr {post : St2 → Prop} {r : Nat} {a b e g : Int32} (hr : r < 8) (hp : post (cap, pc, dv, ph, cx, x, w, s, d, ro, sm, ca, qp, qm, fq, fr, upd (upd (upd (upd tb (4 * r) a) (4 * r + 1) b) (4 * r + 2) e) (4 * r + 3) g, dg, es, qa, qb, pr, ax, av, aq, ar)) : wpX_fillRow post (cap, pc, dv, ph, cx, x, w, s, d, ro, sm, ca, qp, qm, fq, fr, tb, dg, es, qa, qb, pr, ax, av, aq, ar) (nI r) a b e g := by
  have e0 : nI r * 4 = nI (4 * r) := by
    have h : nI r * 4 = nI (r * 4) := pk_mul r 4
    rw [h, Nat.mul_comm]
  have e1 : nI (4 * r) + 1 = nI (4 * r + 1) := nI_1 _
  have e2 : nI (4 * r) + 2 = nI (4 * r + 2) := nI_add _ 2
  have e3 : nI (4 * r) + 3 = nI (4 * r + 3) := nI_add _ 3
  refine nm_r e0 ?_
  rw [e1, e2, e3, nI_clamp (by omega), nI_clamp (by omega), nI_clamp (by omega), nI_clamp (by omega)]
  exact ⟨vp_in_nI (by omega) (by decide), nm_e ⟨vp_in_nI (by omega) (by decide), nm_e ⟨vp_in_nI (by omega) (by decide), nm_e ⟨vp_in_nI (by omega) (by decide), nm_e hp⟩⟩⟩⟩
theorem xa_fill {post : St2 → Prop} (hp : post (cap, pc, dv, ph, cx, x, w, s, d, ro, sm, ca, qp, qm, fq, fr, xd_fill tb, dg, es, qa, qb, pr, ax, av, aq, ar)) : wpX_fillTable post (cap, pc, dv, ph, cx, x, w, s, d, ro, sm, ca, qp, qm, fq, fr, tb, dg, es, qa, qb, pr, ax, av, aq, ar) := by
  unfold wpX_fillTable
  refine xa_fr (r := 0) (by decide) ?_
  refine xa_fr (r := 1) (by decide) ?_
  refine xa_fr (r := 2) (by decide) ?_
  refine xa_fr (r := 3) (by decide) ?_
  refine xa_fr (r := 4) (by decide) ?_
  refine xa_fr (r := 5) (by decide) ?_
  refine xa_fr (r := 6) (by decide) ?_
  refine xa_fr (r := 7) (by decide) ?_
  exact hp
theorem xa_can1 {post : Int32 → Prop} {p q : Int32} (hph : ¬ ph = 2) (h0 : ¬ p < 0) (h1 : ¬ 65535 < p) (h2 : ¬ q < 1) (h3 : ¬ 65535 < q) (hp : post 1) : wpX_canLoad post (cap, pc, dv, ph, cx, x, w, s, d, ro, sm, ca, qp, qm, fq, fr, tb, dg, es, qa, qb, pr, ax, av, aq, ar) p q := br_f hph (br_f h0 (br_f h1 (br_f h2 (br_f h3 hp))))
theorem xa_can0 {post : Int32 → Prop} {p q : Int32} (h : ph = 2 ∨ p < 0 ∨ 65535 < p ∨ q < 1 ∨ 65535 < q) (hp : post 0) : wpX_canLoad post (cap, pc, dv, ph, cx, x, w, s, d, ro, sm, ca, qp, qm, fq, fr, tb, dg, es, qa, qb, pr, ax, av, aq, ar) p q :=
  br_c (fun _ => hp) (fun a => br_c (fun _ => hp) (fun b => br_c (fun _ => hp) (fun c => br_c (fun _ => hp) (fun e => br_c (fun _ => hp) (fun f => by rcases h with h | h | h | h | h <;> contradiction)))))
theorem xa_hold {post : St2 → Prop} {p q : Int32} (hp : post (cap, pc, dv, 1, 0, p, q, s, d, ro, sm, ca, qp, qm, fq, fr, tb, dg, es, qa, qb, pr, ax, av, aq, ar)) : wpX_holdOperands post (cap, pc, dv, ph, cx, x, w, s, d, ro, sm, ca, qp, qm, fq, fr, tb, dg, es, qa, qb, pr, ax, av, aq, ar) p q := hp
theorem xa_is1 {post : Int32 → Prop} {p : Int32} (hph : ph = 2 ∨ ph = 3) (a : ¬ p < 0) (b : ¬ cx < p) (c : ¬ 9 < p) (h1 : post 1) : wpX_isRecorded post (cap, pc, dv, ph, cx, x, w, s, d, ro, sm, ca, qp, qm, fq, fr, tb, dg, es, qa, qb, pr, ax, av, aq, ar) p := by
  unfold wpX_isRecorded
  have R : ((1 : Int32) = 0 → post 0) ∧ (¬ (1 : Int32) = 0 → ((p < 0 → post 0) ∧ (¬ p < 0 → ((cx < p → post 0) ∧ (¬ cx < p → ((9 < p → post 0) ∧ (¬ 9 < p → post 1))))))) := br_f (by decide) (br_f a (br_f b (br_f c h1)))
  exact br_c (fun _ => R) (fun e => br_c (fun _ => R) (fun g => by rcases hph with h | h <;> contradiction))
def sd_O (x w : Int32) : Prop := ∃ a b : Nat, a ≤ 65535 ∧ 1 ≤ b ∧ b ≤ 65535 ∧ x = nI a ∧ w = nI b
theorem sd_Omk {p q : Int32} (h0 : ¬ p < 0) (h1 : ¬ 65535 < p) (h2 : ¬ q < 1) (h3 : ¬ 65535 < q) : sd_O p q := by
  obtain ⟨a, ha, rfl⟩ := nI_of2 (M := 65535) (n := 65535) (by decide) h0 (Int32.not_lt.mp h1)
  have hq : ¬ q < 0 := fun z => h2 (Int32.lt_trans z (by decide))
  obtain ⟨b, hb, rfl⟩ := nI_of2 (M := 65535) (n := 65535) (by decide) hq (Int32.not_lt.mp h3)
  refine ⟨a, b, ha, ?_, hb, rfl, rfl⟩
  apply Nat.le_of_not_lt
  intro z
  have e : b = 0 := by omega
  subst e
  exact h2 (by decide)
end SDX
