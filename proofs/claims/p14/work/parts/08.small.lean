section XDL
variable {cap pc dv ph cx x w s d ro qp qm fq fr : Int32} {sm ca : Int64} {tb dg es qa qb ax av aq ar : Nat → Int32} {pr : Nat → Int64}
/-! the law's own small methods -/
theorem xl_cell {post : Int32 → Prop} {L : Nat} {xs : Nat → Int32} {p : Int32} (q : Nat) (hpq : p = nI q) (hL : L < 2 ^ 31) (hq : q < 2 ^ 31) (H : ∀ r, post r) : wpL_cell post L xs () p := by
  subst hpq
  exact pk_le L q (fun _ => H 0) (fun z => ⟨vp_in_nI z hL, H _⟩)
theorem xl_opd {post : Int32 → Prop} {a b : Int32} (H : ∀ r, post r) : wpL_operand post () a b := nm_e (br_c (fun _ => H _) (fun _ => br_c (fun _ => H _) (fun _ => H _)))
theorem xl_dv {post : Int32 → Prop} {a b : Nat} (ha : a ≤ 65535) (hb : 1 ≤ b) (hb2 : b ≤ 65535) (hp : post 1) : wpL_divOk post () (nI a).toInt64 (nI b).toInt64 (nI (a / b)).toInt64 (nI (a % b)).toInt64 := by
  have h1 : a / b ≤ a := Nat.div_le_self _ _
  have h2 : a % b < b := Nat.mod_lt _ hb
  rw [nI_l (by omega), nI_l (by omega), nI_l (by omega), nI_l (by omega)]
  refine br_f ?_ (br_t ((lN_lt (by omega) (by omega)).mpr h2) (br_t ?_ hp))
  · intro z
    exact absurd ((lN_lt (b := 0) (by omega) (by decide)).mp z) (by omega)
  · rw [lN_mul, lN_add, Nat.div_add_mod']
theorem xl_m64 {a b : Int64} {A B : Int} (ha : a.toInt = A) (hb : b.toInt = B) (l : -9000000000000000000 ≤ A * B) (u : A * B ≤ 9000000000000000000) : (a * b).toInt = A * B := by
  rw [Int64.toInt_mul, ha, hb]
  generalize A * B = z at l u ⊢
  exact Int.bmod_eq_of_le (by omega) (by omega)
theorem xl_19 {post : Int32 → Prop} {x0 y : Int64} {V D : Int} (hx : x0.toInt = V) (hy : y.toInt = D) (h0 : 0 ≤ V) (hD : 0 ≤ D) (hD2 : D < 65536) (h : 3 * V ≤ 524288 * D) (hp : post 1) : wL_boundOk_19 post x0 y := by
  have e0 : (0 : Int64).toInt = 0 := by decide +kernel
  have e3 : (3 : Int64).toInt = 3 := by decide +kernel
  have e4 : (524288 : Int64).toInt = 524288 := by decide +kernel
  have e5 : (1099511627776 : Int64).toInt = 1099511627776 := by decide +kernel
  have m1 : (3 * x0).toInt = 3 * V := xl_m64 e3 hx (by omega) (by omega)
  have m2 : (y * 524288).toInt = D * 524288 := xl_m64 hy e4 (by omega) (by omega)
  refine br_f ?_ (br_t ?_ (br_f ?_ hp))
  · rw [Int64.lt_iff_toInt_lt, hx, e0]
    omega
  · rw [Int64.le_iff_toInt_le, hx, e5]
    omega
  · rw [Int64.lt_iff_toInt_lt, m1, m2]
    omega
theorem xl_bo {post : Int32 → Prop} {p : Int64} {D : Nat} (hD : D < 65536) (l : -(524288 * (D : Int)) ≤ 3 * p.toInt) (u : 3 * p.toInt ≤ 524288 * (D : Int)) (hp : post 1) : wpL_boundOk post () p (nI D).toInt64 := by
  have e0 : (0 : Int64).toInt = 0 := by decide +kernel
  have em : (-9223372036854775808 : Int64).toInt = -9223372036854775808 := by decide +kernel
  have hy : (nI D).toInt64.toInt = (D : Int) := by rw [Int32.toInt_toInt64]; exact nI_toInt (by omega)
  refine br_f ?_ (br_c (fun h => ?_) (fun h => nm_e ?_))
  · intro e
    rw [e, em] at l
    omega
  · rw [Int64.le_iff_toInt_le, e0] at h
    exact xl_19 rfl hy h (by omega) (by omega) u hp
  · rw [Int64.le_iff_toInt_le, e0] at h
    have hn : (-p).toInt = -p.toInt := by
      rw [Int64.toInt_neg]
      exact Int.bmod_eq_of_le (by omega) (by omega)
    exact xl_19 hn hy (by omega) (by omega) (by omega) (by omega) hp
/-! what the calls that only read answer -/
theorem xs_0 {post : Int32 → Prop} (hp : post ph) : wpX_status post (cap, pc, dv, ph, cx, x, w, s, d, ro, sm, ca, qp, qm, fq, fr, tb, dg, es, qa, qb, pr, ax, av, aq, ar) 0 := by
  repeat (first | refine br_t (by decide) ?_ | refine br_f (by decide) ?_)
  exact hp
theorem xs_1 {post : Int32 → Prop} (hp : post cx) : wpX_status post (cap, pc, dv, ph, cx, x, w, s, d, ro, sm, ca, qp, qm, fq, fr, tb, dg, es, qa, qb, pr, ax, av, aq, ar) 1 := by
  repeat (first | refine br_t (by decide) ?_ | refine br_f (by decide) ?_)
  exact hp
theorem xs_9 {post : Int32 → Prop} (hp : post pc) : wpX_status post (cap, pc, dv, ph, cx, x, w, s, d, ro, sm, ca, qp, qm, fq, fr, tb, dg, es, qa, qb, pr, ax, av, aq, ar) 9 := by
  repeat (first | refine br_t (by decide) ?_ | refine br_f (by decide) ?_)
  exact hp
theorem xs_2 {post : Int32 → Prop} (hp : post x) : wpX_status post (cap, pc, dv, 3, cx, x, w, s, d, ro, sm, ca, qp, qm, fq, fr, tb, dg, es, qa, qb, pr, ax, av, aq, ar) 2 := by
  repeat (first | refine br_t (by decide) ?_ | refine br_f (by decide) ?_)
  exact hp
theorem xs_3 {post : Int32 → Prop} (hp : post w) : wpX_status post (cap, pc, dv, 3, cx, x, w, s, d, ro, sm, ca, qp, qm, fq, fr, tb, dg, es, qa, qb, pr, ax, av, aq, ar) 3 := by
  repeat (first | refine br_t (by decide) ?_ | refine br_f (by decide) ?_)
  exact hp
theorem xs_7 {post : Int32 → Prop} (hp : post fq) : wpX_status post (cap, pc, dv, 3, cx, x, w, s, d, ro, sm, ca, qp, qm, fq, fr, tb, dg, es, qa, qb, pr, ax, av, aq, ar) 7 := by
  repeat (first | refine br_t (by decide) ?_ | refine br_f (by decide) ?_)
  exact hp
theorem xs_8 {post : Int32 → Prop} (hp : post fr) : wpX_status post (cap, pc, dv, 3, cx, x, w, s, d, ro, sm, ca, qp, qm, fq, fr, tb, dg, es, qa, qb, pr, ax, av, aq, ar) 8 := by
  repeat (first | refine br_t (by decide) ?_ | refine br_f (by decide) ?_)
  exact hp
theorem xs_5 {post : Int32 → Prop} (hph : ph = 2 ∨ ph = 3) (hp : post d) : wpX_status post (cap, pc, dv, ph, cx, x, w, s, d, ro, sm, ca, qp, qm, fq, fr, tb, dg, es, qa, qb, pr, ax, av, aq, ar) 5 := by
  rcases hph with rfl | rfl
  · repeat (first | refine br_t (by decide) ?_ | refine br_f (by decide) ?_)
    exact hp
  · repeat (first | refine br_t (by decide) ?_ | refine br_f (by decide) ?_)
    exact hp
theorem xs_h0 {post : Int32 → Prop} {n k : Nat} {z : Int32} (hn : n ≤ 16) (hk : k < n) (hz : ax k = z) (hp : post z) : wpX_history post (cap, nI n, dv, ph, cx, x, w, s, d, ro, sm, ca, qp, qm, fq, fr, tb, dg, es, qa, qb, pr, ax, av, aq, ar) 0 (nI k) :=
  br_f (nI_pos (by omega)) (br_t (nI_lt hk (by omega)) (br_f (by decide) (br_f (by decide) (br_t rfl ⟨vp_in_nI (by omega) (by decide), by rw [nI_clamp (by omega), hz]; exact hp⟩))))
theorem xs_h1 {post : Int32 → Prop} {n k : Nat} {z : Int32} (hn : n ≤ 16) (hk : k < n) (hz : av k = z) (hp : post z) : wpX_history post (cap, nI n, dv, ph, cx, x, w, s, d, ro, sm, ca, qp, qm, fq, fr, tb, dg, es, qa, qb, pr, ax, av, aq, ar) 1 (nI k) :=
  br_f (nI_pos (by omega)) (br_t (nI_lt hk (by omega)) (br_f (by decide) (br_f (by decide) (br_f (by decide) (br_t rfl ⟨vp_in_nI (by omega) (by decide), by rw [nI_clamp (by omega), hz]; exact hp⟩)))))
theorem xs_h2 {post : Int32 → Prop} {n k : Nat} {z : Int32} (hn : n ≤ 16) (hk : k < n) (hz : aq k = z) (hp : post z) : wpX_history post (cap, nI n, dv, ph, cx, x, w, s, d, ro, sm, ca, qp, qm, fq, fr, tb, dg, es, qa, qb, pr, ax, av, aq, ar) 2 (nI k) :=
  br_f (nI_pos (by omega)) (br_t (nI_lt hk (by omega)) (br_f (by decide) (br_f (by decide) (br_f (by decide) (br_f (by decide) (br_t rfl ⟨vp_in_nI (by omega) (by decide), by rw [nI_clamp (by omega), hz]; exact hp⟩))))))
theorem xs_h3 {post : Int32 → Prop} {n k : Nat} {z : Int32} (hn : n ≤ 16) (hk : k < n) (hz : ar k = z) (hp : post z) : wpX_history post (cap, nI n, dv, ph, cx, x, w, s, d, ro, sm, ca, qp, qm, fq, fr, tb, dg, es, qa, qb, pr, ax, av, aq, ar) 3 (nI k) :=
  br_f (nI_pos (by omega)) (br_t (nI_lt hk (by omega)) (br_f (by decide) (br_f (by decide) (br_f (by decide) (br_f (by decide) (br_f (by decide) (br_t rfl ⟨vp_in_nI (by omega) (by decide), by rw [nI_clamp (by omega), hz]; exact hp⟩)))))))
theorem xs_pr {post : Int64 → Prop} {c i : Nat} (hph : ph = 2 ∨ ph = 3) (hc : c ≤ 10) (hi : i ≤ c) (hi9 : i ≤ 9) (hp : post (pr i)) : wpX_partialRemainder post (cap, pc, dv, ph, nI c, x, w, s, d, ro, sm, ca, qp, qm, fq, fr, tb, dg, es, qa, qb, pr, ax, av, aq, ar) (nI i) := by
  unfold wpX_partialRemainder
  exact xa_is1 hph (nI_pos (by omega)) (nI_nlt hi (by omega)) (nI_nlt (a := 9) hi9 (by decide)) (br_f (by decide) ⟨vp_in_nI (by omega) (by decide), by rw [nI_clamp (by omega)]; exact hp⟩)
theorem xs_t2 {post : Int32 → Prop} {c i : Nat} (hph : ph = 2 ∨ ph = 3) (hc : c ≤ 10) (hi : i ≤ c) (hi9 : i ≤ 9) (hp : post (qa i)) : wpX_trace post (cap, pc, dv, ph, nI c, x, w, s, d, ro, sm, ca, qp, qm, fq, fr, tb, dg, es, qa, qb, pr, ax, av, aq, ar) 2 (nI i) := by
  unfold wpX_trace
  exact xa_is1 hph (nI_pos (by omega)) (nI_nlt hi (by omega)) (nI_nlt (a := 9) hi9 (by decide)) (br_f (by decide) (br_f (by decide) (br_f (by decide) (br_f (by decide) (br_f (by decide) (br_t rfl ⟨vp_in_nI (by omega) (by decide), by rw [nI_clamp (by omega)]; exact hp⟩))))))
theorem xs_t3 {post : Int32 → Prop} {c i : Nat} (hph : ph = 2 ∨ ph = 3) (hc : c ≤ 10) (hi : i ≤ c) (hi9 : i ≤ 9) (hp : post (qb i)) : wpX_trace post (cap, pc, dv, ph, nI c, x, w, s, d, ro, sm, ca, qp, qm, fq, fr, tb, dg, es, qa, qb, pr, ax, av, aq, ar) 3 (nI i) := by
  unfold wpX_trace
  exact xa_is1 hph (nI_pos (by omega)) (nI_nlt hi (by omega)) (nI_nlt (a := 9) hi9 (by decide)) (br_f (by decide) (br_f (by decide) (br_f (by decide) (br_f (by decide) (br_f (by decide) (br_f (by decide) (br_t rfl ⟨vp_in_nI (by omega) (by decide), by rw [nI_clamp (by omega)]; exact hp⟩)))))))
theorem xs_t0 {post : Int32 → Prop} {c i : Nat} (hph : ph = 2 ∨ ph = 3) (hc : c ≤ 10) (hi : i ≤ c) (hi9 : i ≤ 9) (h1 : 1 ≤ i) (hp : post (dg i)) : wpX_trace post (cap, pc, dv, ph, nI c, x, w, s, d, ro, sm, ca, qp, qm, fq, fr, tb, dg, es, qa, qb, pr, ax, av, aq, ar) 0 (nI i) := by
  unfold wpX_trace
  exact xa_is1 hph (nI_pos (by omega)) (nI_nlt hi (by omega)) (nI_nlt (a := 9) hi9 (by decide)) (br_f (by decide) (br_f (by decide) (br_f (by decide) (br_t rfl (br_f (nI_nle (by omega) (by omega)) ⟨vp_in_nI (by omega) (by decide), by rw [nI_clamp (by omega)]; exact hp⟩)))))
end XDL
