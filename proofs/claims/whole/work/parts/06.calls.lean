section SDC
/-! the owed statements: construction, load, start, step, divide, cancel, clearHistory -/
theorem i_up {k : Nat} {u : SX} {v : SY} (h : i_Rel k u v) : i_Rel (k + 3) u v := h
section
variable {cap pc dv ph cx cy x w s d ro qp qm fq fr : Int32} {sm ca : Int64} {tb dg es qa qb ax av aq ar yx yv yq yr : Nat → Int32} {pr : Nat → Int64}
theorem xa_can1 {post : Int32 → Prop} {p q : Int32} (hph : ¬ ph = 2) (h0 : ¬ p < 0) (h1 : ¬ 65535 < p) (h2 : ¬ q < 1) (h3 : ¬ 65535 < q) (hp : post 1) : wpX_canLoad post (cap, pc, dv, ph, cx, x, w, s, d, ro, sm, ca, qp, qm, fq, fr, tb, dg, es, qa, qb, pr, ax, av, aq, ar) p q := br_f hph (br_f h0 (br_f h1 (br_f h2 (br_f h3 hp))))
theorem xa_can0 {post : Int32 → Prop} {p q : Int32} (h : ph = 2 ∨ p < 0 ∨ 65535 < p ∨ q < 1 ∨ 65535 < q) (hp : post 0) : wpX_canLoad post (cap, pc, dv, ph, cx, x, w, s, d, ro, sm, ca, qp, qm, fq, fr, tb, dg, es, qa, qb, pr, ax, av, aq, ar) p q :=
  br_c (fun _ => hp) (fun a => br_c (fun _ => hp) (fun b => br_c (fun _ => hp) (fun c => br_c (fun _ => hp) (fun e => br_c (fun _ => hp) (fun f => by rcases h with h | h | h | h | h <;> contradiction)))))
theorem xa_hold {post : SX → Prop} {p q : Int32} (hp : post (cap, pc, dv, 1, 0, p, q, s, d, ro, sm, ca, qp, qm, fq, fr, tb, dg, es, qa, qb, pr, ax, av, aq, ar)) : wpX_holdOperands post (cap, pc, dv, ph, cx, x, w, s, d, ro, sm, ca, qp, qm, fq, fr, tb, dg, es, qa, qb, pr, ax, av, aq, ar) p q := hp
theorem ya_load1 {post : Int32 → SY → Prop} {p q : Int32} (hph : ¬ ph = 2) (h0 : ¬ p < 0) (h1 : ¬ 65535 < p) (h2 : ¬ q < 1) (h3 : ¬ 65535 < q) (hp : post 1 (cap, 1, p, q, cy, s, d, ro, fq, fr, pc, dv, sm, ca, qp, qm, tb, dg, es, qa, qb, pr, yx, yv, yq, yr)) : wpY_load post (cap, ph, x, w, cy, s, d, ro, fq, fr, pc, dv, sm, ca, qp, qm, tb, dg, es, qa, qb, pr, yx, yv, yq, yr) p q := br_f hph (br_f h0 (br_t (Int32.not_lt.mp h1) (br_f h2 (br_t (Int32.not_lt.mp h3) hp))))
theorem ya_load0 {post : Int32 → SY → Prop} {p q : Int32} (h : ph = 2 ∨ p < 0 ∨ 65535 < p ∨ q < 1 ∨ 65535 < q) (hp : post 0 (cap, ph, x, w, cy, s, d, ro, fq, fr, pc, dv, sm, ca, qp, qm, tb, dg, es, qa, qb, pr, yx, yv, yq, yr)) : wpY_load post (cap, ph, x, w, cy, s, d, ro, fq, fr, pc, dv, sm, ca, qp, qm, tb, dg, es, qa, qb, pr, yx, yv, yq, yr) p q :=
  br_c (fun _ => hp) (fun a => br_c (fun _ => hp) (fun b => br_c (fun c => br_c (fun _ => hp) (fun e => br_c (fun f => by
    have c' := Int32.not_lt.mpr c
    have f' := Int32.not_lt.mpr f
    rcases h with h | h | h | h | h <;> contradiction) (fun _ => hp))) (fun _ => hp)))
end
theorem sd_Omk {p q : Int32} (h0 : ¬ p < 0) (h1 : ¬ 65535 < p) (h2 : ¬ q < 1) (h3 : ¬ 65535 < q) : sd_O p q := by
  obtain ⟨a, ha, rfl⟩ := nI_of2 (M := 65535) (n := 65535) (by decide) h0 (Int32.not_lt.mp h1)
  have hq : ¬ q < 0 := fun z => h2 (Int32.lt_trans z (by decide))
  obtain ⟨b, hb, rfl⟩ := nI_of2 (M := 65535) (n := 65535) (by decide) hq (Int32.not_lt.mp h3)
  refine ⟨a, b, ha, ?_, hb, rfl, rfl⟩
  apply Nat.le_of_not_lt
  intro z
  have e : b = 0 := by omega
  subst e
  exact h2 (by decide)
theorem i_vc_load {k : Nat} {u : SX} {v : SY} (I : i_Rel k u v) (hk : k + 3 ≤ 1537) (v1 : Int32) (v2 : Int32) : wpX_load (fun r u' => wpY_load (fun r' v' => r' = r ∧ i_Rel (k + 3) u' v') v v1 v2) u v1 v2 := by
  have J := i_up I
  obtain ⟨c, n, dv, ph, cx, cy, x, w, s, d, ro, qp, qm, fq, fr, sm, ca, tb, dg, es, qa, qb, ax, av, aq, ar, yx, yv, yq, yr, pr, rfl, rfl, h1, hc, hn, hH, hP⟩ := I
  unfold wpX_load
  by_cases hok : ph = 2 ∨ v1 < 0 ∨ 65535 < v1 ∨ v2 < 1 ∨ 65535 < v2
  · exact xa_can0 hok (br_t rfl (ya_load0 hok ⟨rfl, J⟩))
  · simp only [not_or] at hok
    obtain ⟨a0, a1, a2, a3, a4⟩ := hok
    exact xa_can1 a0 a1 a2 a3 a4 (br_f (by decide) (xa_hold (ya_load1 a0 a1 a2 a3 a4 ⟨rfl, c, n, dv, 1, 0, cy, v1, v2, s, d, ro, qp, qm, fq, fr, sm, ca, tb, dg, es, qa, qb, ax, av, aq, ar, yx, yv, yq, yr, pr, rfl, rfl, h1, hc, hn, hH, Or.inr (Or.inl ⟨rfl, rfl, sd_Omk a1 a2 a3 a4⟩)⟩)))
theorem i_vc_start {k : Nat} {u : SX} {v : SY} (I : i_Rel k u v) (hk : k + 3 ≤ 1537) : wpX_start (fun r u' => wpY_start (fun r' v' => r' = r ∧ i_Rel (k + 3) u' v') v) u := by
  have J := i_up I
  obtain ⟨c, n, dv, ph, cx, cy, x, w, s, d, ro, qp, qm, fq, fr, sm, ca, tb, dg, es, qa, qb, ax, av, aq, ar, yx, yv, yq, yr, pr, rfl, rfl, h1, hc, hn, hH, hP⟩ := I
  rcases hP with ⟨rfl, rfl⟩ | ⟨rfl, rfl, hO⟩ | ⟨rfl, hO, j, hT⟩ | ⟨rfl, hO, rfl, rfl⟩
  · exact br_f (by decide) (br_f (by decide) ⟨rfl, J⟩)
  · obtain ⟨a, b, ha, hb1, hb2, rfl, rfl⟩ := hO
    obtain ⟨t, ht, t1, t2, tm⟩ := sd_norm hb1 hb2
    exact br_t rfl (xa_begin ht t1 t2 tm (ya_start ht t1 t2 tm ⟨rfl, c, n, dv, 2, 0, 0, nI a, nI b, nI t, nI (b * 2 ^ t), nI (b * 2 ^ t / 4096 - 8), 0, -1, fq, fr, (nI a).toInt64 <<< ((nI t).toInt64 &&& 63), 0, tb, dg, es, upd qa 0 0, upd qb 0 (-1), ax, av, aq, ar, yx, yv, yq, yr, vp_updL pr 0 ((nI a).toInt64 <<< ((nI t).toInt64 &&& 63)), rfl, rfl, h1, hc, hn, hH, Or.inr (Or.inr (Or.inl ⟨rfl, ⟨a, b, ha, hb1, hb2, rfl, rfl⟩, 0, by omega, rfl, rfl, ⟨_, by omega, rfl⟩, pk_us, pk_us⟩))⟩))
  · exact br_f (by decide) (br_f (by decide) ⟨rfl, J⟩)
  · exact br_f (by decide) (br_f (by decide) ⟨rfl, J⟩)
theorem i_vc_step {k : Nat} {u : SX} {v : SY} (I : i_Rel k u v) (hk : k + 3 ≤ 1537) (v1 : Int32) : wpX_step (fun r u' => wpY_step (fun r' v' => r' = r ∧ i_Rel (k + 3) u' v') v v1) u v1 := by
  have J := i_up I
  obtain ⟨c, n, dv, ph, cx, cy, x, w, s, d, ro, qp, qm, fq, fr, sm, ca, tb, dg, es, qa, qb, ax, av, aq, ar, yx, yv, yq, yr, pr, rfl, rfl, h1, hc, hn, hH, hP⟩ := I
  rcases hP with ⟨rfl, rfl⟩ | ⟨rfl, rfl, hO⟩ | ⟨rfl, hO, j, hj, rfl, rfl, ⟨r, hr, rfl⟩, hqa, hqb⟩ | ⟨rfl, hO, rfl, rfl⟩
  · exact br_f (by decide) (br_f (by decide) ⟨rfl, J⟩)
  · exact br_f (by decide) (br_f (by decide) ⟨rfl, J⟩)
  · by_cases hv : (1 : Int32) ≤ v1
    · have hv0 : ¬ v1 < 0 := fun z => absurd (Int32.lt_of_le_of_lt hv z) (by decide)
      obtain ⟨q, hq, rfl⟩ := nI_of hv0
      have e10 : (10 : Int32) - nI j = nI (10 - j) := pk_sub (a := 10) (by omega)
      have L := fun (m : Nat) (hm : j + m ≤ 10) => sd_lock (dv := dv) (s := s) (d := d) (fq := fq) (fr := fr) (tb := tb) h1 hc hn hH hO hr m j 0 m qp qm sm ca dg es qa qb pr hm hj rfl (by omega) hqa hqb
      refine br_t rfl (br_t hv (nm_r e10 (pk_le (10 - j) q (fun z => ?_) (fun z => ?_))))
      · obtain ⟨u', v', R, HX, HY⟩ := L (10 - j) (by omega)
        obtain ⟨_, _, _, _, _, _, _, _, _, _, _, _, _, _, _, _, _, _, _, _, _, _, _, _, _, _, rfl⟩ := sd_tup R
        obtain ⟨_, _, _, _, _, _, _, _, _, _, _, _, _, _, _, _, _, _, _, _, _, _, _, _, _, _, rfl⟩ := sd_tupY R
        exact ⟨_, HX _ _ (Nat.lt_succ_self _) (br_t rfl (br_t hv (nm_r e10 (br_t (nI_le z hq) ⟨_, HY _ _ (Nat.lt_succ_self _) ⟨rfl, R⟩⟩))))⟩
      · obtain ⟨u', v', R, HX, HY⟩ := L q (by omega)
        obtain ⟨_, _, _, _, _, _, _, _, _, _, _, _, _, _, _, _, _, _, _, _, _, _, _, _, _, _, rfl⟩ := sd_tup R
        obtain ⟨_, _, _, _, _, _, _, _, _, _, _, _, _, _, _, _, _, _, _, _, _, _, _, _, _, _, rfl⟩ := sd_tupY R
        exact ⟨_, HX _ _ (Nat.lt_succ_self _) (br_t rfl (br_t hv (nm_r e10 (br_f (nI_ge z (by omega)) ⟨_, HY _ _ (Nat.lt_succ_self _) ⟨rfl, R⟩⟩))))⟩
    · exact br_t rfl (br_f hv (br_t rfl (br_f hv ⟨rfl, J⟩)))
  · exact br_f (by decide) (br_f (by decide) ⟨rfl, J⟩)
theorem i_vc_divide {k : Nat} {u : SX} {v : SY} (I : i_Rel k u v) (hk : k + 3 ≤ 1537) (v1 : Int32) (v2 : Int32) : wpX_divide (fun r u' => wpY_divide (fun r' v' => r' = r ∧ i_Rel (k + 3) u' v') v v1 v2) u v1 v2 := by
  have J := i_up I
  obtain ⟨c, n, dv, ph, cx, cy, x, w, s, d, ro, qp, qm, fq, fr, sm, ca, tb, dg, es, qa, qb, ax, av, aq, ar, yx, yv, yq, yr, pr, rfl, rfl, h1, hc, hn, hH, hP⟩ := I
  unfold wpX_divide
  by_cases hok : ph = 2 ∨ v1 < 0 ∨ 65535 < v1 ∨ v2 < 1 ∨ 65535 < v2
  · refine xa_can0 hok (br_t rfl ?_)
    unfold wpY_divide
    exact ya_load0 hok (br_t rfl ⟨rfl, J⟩)
  · simp only [not_or] at hok
    obtain ⟨a0, a1, a2, a3, a4⟩ := hok
    have hO := sd_Omk a1 a2 a3 a4
    obtain ⟨a, b, ha, hb1, hb2, rfl, rfl⟩ := hO
    obtain ⟨t, ht, t1, t2, tm⟩ := sd_norm hb1 hb2
    obtain ⟨u', v', R, HX, HY⟩ := sd_lock (dv := dv) (s := nI t) (d := nI (b * 2 ^ t)) (fq := fq) (fr := fr) (tb := tb) (r := b * 2 ^ t / 4096 - 8) h1 hc hn hH ⟨a, b, ha, hb1, hb2, rfl, rfl⟩ (by omega) 10 0 0 10 0 (-1) ((nI a).toInt64 <<< ((nI t).toInt64 &&& 63)) 0 dg es (upd qa 0 0) (upd qb 0 (-1)) (vp_updL pr 0 ((nI a).toInt64 <<< ((nI t).toInt64 &&& 63))) (by omega) (by omega) rfl (by omega) pk_us pk_us
    obtain ⟨_, _, _, _, _, _, _, _, _, _, _, _, _, _, _, _, _, _, _, _, _, _, _, _, _, _, rfl⟩ := sd_tup R
    obtain ⟨_, _, _, _, _, _, _, _, _, _, _, _, _, _, _, _, _, _, _, _, _, _, _, _, _, _, rfl⟩ := sd_tupY R
    refine xa_can1 a0 a1 a2 a3 a4 (br_f (by decide) (xa_hold ?_))
    refine xa_begin ht t1 t2 tm ?_
    refine ⟨11, HX _ 11 (by omega) ?_⟩
    show wpY_divide _ _ _ _
    unfold wpY_divide
    refine ya_load1 a0 a1 a2 a3 a4 (br_f (by decide) ?_)
    refine ya_start ht t1 t2 tm ?_
    exact br_t rfl (br_t (by decide) (nm_r (e' := 10) (by decide) (br_t (by decide) ⟨11, HY _ 11 (by omega) ⟨rfl, R⟩⟩)))
theorem i_vc_cancel {k : Nat} {u : SX} {v : SY} (I : i_Rel k u v) (hk : k + 3 ≤ 1537) : wpX_cancel (fun r u' => wpY_cancel (fun r' v' => r' = r ∧ i_Rel (k + 3) u' v') v) u := by
  have J := i_up I
  obtain ⟨c, n, dv, ph, cx, cy, x, w, s, d, ro, qp, qm, fq, fr, sm, ca, tb, dg, es, qa, qb, ax, av, aq, ar, yx, yv, yq, yr, pr, rfl, rfl, h1, hc, hn, hH, hP⟩ := I
  rcases hP with ⟨rfl, rfl⟩ | ⟨rfl, rfl, hO⟩ | ⟨rfl, hO, j, hT⟩ | ⟨rfl, hO, rfl, rfl⟩
  · exact br_f (by decide) (br_f (by decide) ⟨rfl, J⟩)
  · exact br_f (by decide) (br_f (by decide) ⟨rfl, J⟩)
  · exact br_t rfl (xa_hold (br_t rfl ⟨rfl, c, n, dv, 1, 0, cy, x, w, s, d, ro, qp, qm, fq, fr, sm, ca, tb, dg, es, qa, qb, ax, av, aq, ar, yx, yv, yq, yr, pr, rfl, rfl, h1, hc, hn, hH, Or.inr (Or.inl ⟨rfl, rfl, hO⟩)⟩))
  · exact br_f (by decide) (br_f (by decide) ⟨rfl, J⟩)
theorem i_vc_clearHistory {k : Nat} {u : SX} {v : SY} (I : i_Rel k u v) (hk : k + 3 ≤ 1537) : wpX_clearHistory (fun u' => wpY_clearHistory (fun v' => i_Rel (k + 3) u' v') v) u := by
  obtain ⟨c, n, dv, ph, cx, cy, x, w, s, d, ro, qp, qm, fq, fr, sm, ca, tb, dg, es, qa, qb, ax, av, aq, ar, yx, yv, yq, yr, pr, rfl, rfl, h1, hc, hn, hH, hP⟩ := I
  show i_Rel (k + 3) (nI c, 0, dv, ph, cx, x, w, s, d, ro, sm, ca, qp, qm, fq, fr, tb, dg, es, qa, qb, pr, ax, av, aq, ar) (nI c, ph, x, w, cy, s, d, ro, fq, fr, 0, dv, sm, ca, qp, qm, tb, dg, es, qa, qb, pr, yx, yv, yq, yr)
  exact ⟨c, 0, dv, ph, cx, cy, x, w, s, d, ro, qp, qm, fq, fr, sm, ca, tb, dg, es, qa, qb, ax, av, aq, ar, yx, yv, yq, yr, pr, rfl, rfl, h1, hc, by omega, fun q hq => absurd hq (by omega), hP⟩
end SDC
