section XDQ
/-! the calls that change the state: from a good state to a good state -/
theorem xd_load {post : Int32 → St2 → Prop} {u : St2} {p q : Int32} (h : xd_Ok u) (H : ∀ r u', xd_Ok u' → post r u') : wpX_load post u p q := by
  have J := h
  obtain ⟨c, n, dv, ph, cx, x, w, s, d, ro, qp, qm, fq, fr, sm, ca, dg, es, qa, qb, ax, av, aq, ar, pr, rfl, h1, hc, hn, hR, hP⟩ := h
  unfold wpX_load
  by_cases hok : ph = 2 ∨ p < 0 ∨ 65535 < p ∨ q < 1 ∨ 65535 < q
  · exact xa_can0 hok (br_t rfl (H 0 _ J))
  · simp only [not_or] at hok
    obtain ⟨a0, a1, a2, a3, a4⟩ := hok
    exact xa_can1 a0 a1 a2 a3 a4 (br_f (by decide) (xa_hold (H 1 _ ⟨c, n, dv, 1, 0, p, q, s, d, ro, qp, qm, fq, fr, sm, ca, dg, es, qa, qb, ax, av, aq, ar, pr, rfl, h1, hc, hn, hR, Or.inr (Or.inl ⟨rfl, rfl, sd_Omk a1 a2 a3 a4⟩)⟩)))
theorem xd_bt {a t : Nat} (ha : a ≤ 65535) (ht : t ≤ 15) : (nI a).toInt64 <<< ((nI t).toInt64 &&& 63) = lN (a * 2 ^ t) ∧ a * 2 ^ t ≤ 2147450880 := by
  constructor
  · rw [nI_l (by omega), wb_shl a (by omega)]
  · have h1 : 2 ^ t ≤ 2 ^ 15 := Nat.pow_le_pow_right (by decide) ht
    calc a * 2 ^ t ≤ 65535 * 2 ^ 15 := Nat.mul_le_mul ha h1
      _ ≤ 2147450880 := by decide
theorem xd_cy0 {N D : Nat} {T : Int64} {pr : Nat → Int64} {dg qa qb : Nat → Int32} (h : xd_It N D 0 T 0 0 (-1)) : ∀ i, i ≤ 0 → xd_cy D i (vp_updL pr 0 T) dg (upd qa 0 0) (upd qb 0 (-1)) := by
  intro i hi
  have e : i = 0 := by omega
  subst e
  obtain ⟨p, q, hP, hq, hm, hE, l, u, b1, b2⟩ := h
  rw [Int64.add_zero] at hP
  unfold xd_cy
  rw [pk_uLs, pk_us, pk_us, hP]
  exact ⟨l, u, by decide, by decide, by decide, fun z => absurd z (by omega)⟩
theorem xd_begin {post : St2 → Prop} {c n a b : Nat} {dv ph cx s d ro qp qm fq fr : Int32} {sm ca : Int64} {dg es qa qb ax av aq ar : Nat → Int32} {pr : Nat → Int64} (h1 : 1 ≤ c) (hc : c ≤ 16) (hn : n ≤ c) (hR : ∀ k, k < n → xd_rc k ax av aq ar) (ha : a ≤ 65535) (hb : 1 ≤ b) (hb2 : b ≤ 65535)
    (H : ∀ (t : Nat), xd_On a b t (nI a) (nI b) (nI t) (nI (b * 2 ^ t)) (nI (b * 2 ^ t / 4096 - 8)) → xd_It (a * 2 ^ t) (b * 2 ^ t) 0 (lN (a * 2 ^ t)) 0 0 (-1) →
      post (nI c, nI n, dv, 2, 0, nI a, nI b, nI t, nI (b * 2 ^ t), nI (b * 2 ^ t / 4096 - 8), lN (a * 2 ^ t), 0, 0, -1, fq, fr, xd_tab, dg, es, upd qa 0 0, upd qb 0 (-1), vp_updL pr 0 (lN (a * 2 ^ t)), ax, av, aq, ar)) :
    wpX_beginDivision post (nI c, nI n, dv, ph, cx, nI a, nI b, s, d, ro, sm, ca, qp, qm, fq, fr, xd_tab, dg, es, qa, qb, pr, ax, av, aq, ar) := by
  obtain ⟨t, ht, t1, t2, tm⟩ := sd_norm hb hb2
  obtain ⟨e, hN⟩ := xd_bt ha ht
  have K := H t ⟨ha, hb, hb2, ht, t1, t2, rfl, rfl, rfl, rfl, rfl⟩ (xd_It0 hN t1)
  rw [← e] at K
  exact xa_begin ht t1 t2 tm K
theorem xd_start {post : Int32 → St2 → Prop} {u : St2} (h : xd_Ok u) (H : ∀ r u', xd_Ok u' → post r u') : wpX_start post u := by
  have J := h
  obtain ⟨c, n, dv, ph, cx, x, w, s, d, ro, qp, qm, fq, fr, sm, ca, dg, es, qa, qb, ax, av, aq, ar, pr, rfl, h1, hc, hn, hR, hP⟩ := h
  rcases hP with ⟨rfl, rfl⟩ | ⟨rfl, rfl, a, b, ha, hb, hb2, rfl, rfl⟩ | ⟨rfl, hT⟩ | ⟨rfl, hT⟩
  · exact br_f (by decide) (H 0 _ J)
  · refine br_t rfl (xd_begin h1 hc hn hR ha hb hb2 (fun t hO hI => H 1 _ ?_))
    exact ⟨c, n, dv, 2, 0, nI a, nI b, nI t, nI (b * 2 ^ t), nI (b * 2 ^ t / 4096 - 8), 0, -1, fq, fr, lN (a * 2 ^ t), 0, dg, es, upd qa 0 0, upd qb 0 (-1), ax, av, aq, ar, vp_updL pr 0 (lN (a * 2 ^ t)), rfl, h1, hc, hn, hR, Or.inr (Or.inr (Or.inl ⟨rfl, a, b, t, 0, hO, by omega, rfl, hI, by rw [pk_uLs, Int64.add_zero], xd_cy0 hI⟩))⟩
  · exact br_f (by decide) (H 0 _ J)
  · exact br_f (by decide) (H 0 _ J)
theorem xd_stp {post : Int32 → St2 → Prop} {u : St2} {p : Int32} (h : xd_Ok u) (H : ∀ r u', xd_Ok u' → post r u') : wpX_step post u p := by
  have J := h
  obtain ⟨c, n, dv, ph, cx, x, w, s, d, ro, qp, qm, fq, fr, sm, ca, dg, es, qa, qb, ax, av, aq, ar, pr, rfl, h1, hc, hn, hR, hP⟩ := h
  rcases hP with ⟨rfl, rfl⟩ | ⟨rfl, rfl, hO⟩ | ⟨rfl, a, b, t, j, hO, hj, rfl, hI, hpr, hcy⟩ | ⟨rfl, hT⟩
  · exact br_f (by decide) (H 0 _ J)
  · exact br_f (by decide) (H 0 _ J)
  · by_cases hv : (1 : Int32) ≤ p
    · have hv0 : ¬ p < 0 := fun z => absurd (Int32.lt_of_le_of_lt hv z) (by decide)
      obtain ⟨q, hq, rfl⟩ := nI_of hv0
      have e10 : (10 : Int32) - nI j = nI (10 - j) := pk_sub (a := 10) (by omega)
      have L := fun (m : Nat) (hm : j + m ≤ 10) => xd_run (dv := dv) (fq := fq) (fr := fr) h1 hc hn hR hO m j 0 m qp qm sm ca dg es qa qb pr hm hj rfl (by omega) hI hpr hcy
      refine br_t rfl (br_t hv (nm_r e10 (pk_le (10 - j) q (fun z => ?_) (fun z => ?_))))
      · obtain ⟨u', R, HX⟩ := L (10 - j) (by omega)
        obtain ⟨_, _, _, _, _, _, _, _, _, _, _, _, _, _, _, _, _, _, _, _, _, _, _, _, _, _, rfl⟩ := xd_tup R
        exact ⟨_, HX _ _ (Nat.lt_succ_self _) (H _ _ R)⟩
      · obtain ⟨u', R, HX⟩ := L q (by omega)
        obtain ⟨_, _, _, _, _, _, _, _, _, _, _, _, _, _, _, _, _, _, _, _, _, _, _, _, _, _, rfl⟩ := xd_tup R
        exact ⟨_, HX _ _ (Nat.lt_succ_self _) (H _ _ R)⟩
    · exact br_t rfl (br_f hv (H 0 _ J))
  · exact br_f (by decide) (H 0 _ J)
theorem xd_div {post : Int32 → St2 → Prop} {u : St2} {p q : Int32} (h : xd_Ok u) (H : ∀ r u', xd_Ok u' → post r u') : wpX_divide post u p q := by
  have J := h
  obtain ⟨c, n, dv, ph, cx, x, w, s, d, ro, qp, qm, fq, fr, sm, ca, dg, es, qa, qb, ax, av, aq, ar, pr, rfl, h1, hc, hn, hR, hP⟩ := h
  unfold wpX_divide
  by_cases hok : ph = 2 ∨ p < 0 ∨ 65535 < p ∨ q < 1 ∨ 65535 < q
  · exact xa_can0 hok (br_t rfl (H 0 _ J))
  · simp only [not_or] at hok
    obtain ⟨a0, a1, a2, a3, a4⟩ := hok
    obtain ⟨a, b, ha, hb, hb2, rfl, rfl⟩ := sd_Omk a1 a2 a3 a4
    refine xa_can1 a0 a1 a2 a3 a4 (br_f (by decide) (xa_hold ?_))
    refine xd_begin h1 hc hn hR ha hb hb2 (fun t hO hI => ?_)
    obtain ⟨u', R, HX⟩ := xd_run (dv := dv) (fq := fq) (fr := fr) h1 hc hn hR hO 10 0 0 10 0 (-1) (lN (a * 2 ^ t)) 0 dg es (upd qa 0 0) (upd qb 0 (-1)) (vp_updL pr 0 (lN (a * 2 ^ t))) (by omega) (by omega) rfl (by omega) hI (by rw [pk_uLs, Int64.add_zero]) (xd_cy0 hI)
    obtain ⟨_, _, _, _, _, _, _, _, _, _, _, _, _, _, _, _, _, _, _, _, _, _, _, _, _, _, rfl⟩ := xd_tup R
    exact ⟨11, HX _ 11 (by omega) (H 1 _ R)⟩
theorem xd_cancel {post : Int32 → St2 → Prop} {u : St2} (h : xd_Ok u) (H : ∀ r u', xd_Ok u' → post r u') : wpX_cancel post u := by
  have J := h
  obtain ⟨c, n, dv, ph, cx, x, w, s, d, ro, qp, qm, fq, fr, sm, ca, dg, es, qa, qb, ax, av, aq, ar, pr, rfl, h1, hc, hn, hR, hP⟩ := h
  rcases hP with ⟨rfl, rfl⟩ | ⟨rfl, rfl, hO⟩ | ⟨rfl, a, b, t, j, hO, hj, rfl, hI, hpr, hcy⟩ | ⟨rfl, hT⟩
  · exact br_f (by decide) (H 0 _ J)
  · exact br_f (by decide) (H 0 _ J)
  · obtain ⟨o1, o2, o3, o4, o5, o6, rfl, rfl, rfl, rfl, rfl⟩ := hO
    exact br_t rfl (xa_hold (H 1 _ ⟨c, n, dv, 1, 0, nI a, nI b, nI t, nI (b * 2 ^ t), nI (b * 2 ^ t / 4096 - 8), qp, qm, fq, fr, sm, ca, dg, es, qa, qb, ax, av, aq, ar, pr, rfl, h1, hc, hn, hR, Or.inr (Or.inl ⟨rfl, rfl, a, b, o1, o2, o3, rfl, rfl⟩)⟩))
  · exact br_f (by decide) (H 0 _ J)
theorem xd_clear {post : St2 → Prop} {u : St2} (h : xd_Ok u) (H : ∀ u', xd_Ok u' → post u') : wpX_clearHistory post u := by
  obtain ⟨c, n, dv, ph, cx, x, w, s, d, ro, qp, qm, fq, fr, sm, ca, dg, es, qa, qb, ax, av, aq, ar, pr, rfl, h1, hc, hn, hR, hP⟩ := h
  exact H (nI c, 0, dv, ph, cx, x, w, s, d, ro, sm, ca, qp, qm, fq, fr, xd_tab, dg, es, qa, qb, pr, ax, av, aq, ar) ⟨c, 0, dv, ph, cx, x, w, s, d, ro, qp, qm, fq, fr, sm, ca, dg, es, qa, qb, ax, av, aq, ar, pr, rfl, h1, hc, by omega, fun q hq => absurd hq (by omega), hP⟩
end XDQ
