section SDE
/-! the owed statements: status, construction -/
theorem sd_ne {p : Int32} (h : p < 0 ∨ 11 < p) : ¬ p = 0 ∧ ¬ p = 1 ∧ ¬ p = 2 ∧ ¬ p = 3 ∧ ¬ p = 4 ∧ ¬ p = 5 ∧ ¬ p = 6 ∧ ¬ p = 7 ∧ ¬ p = 8 ∧ ¬ p = 9 ∧ ¬ p = 10 ∧ ¬ p = 11 := by
  refine ⟨?_, ?_, ?_, ?_, ?_, ?_, ?_, ?_, ?_, ?_, ?_, ?_⟩ <;> (rintro rfl; rcases h with h | h <;> exact absurd h (by decide))
theorem i_vc_status {k : Nat} {u : SX} {v : SY} (I : i_Rel k u v) (hk : k + 3 ≤ 1537) (v1 : Int32) : wpX_status (fun r => wpY_status (fun r' => r' = r ∧ i_Rel (k + 3) u v) v v1) u v1 := by
  have J := i_up I
  obtain ⟨c, n, dv, ph, cx, cy, x, w, s, d, ro, qp, qm, fq, fr, sm, ca, tb, dg, es, qa, qb, ax, av, aq, ar, yx, yv, yq, yr, pr, rfl, rfl, h1, hc, hn, hH, hP⟩ := I
  rcases sd_k12 v1 with h | h | h
  · obtain ⟨n0, n1, n2, n3, n4, n5, n6, n7, n8, n9, n10, n11⟩ := sd_ne (Or.inl h)
    have T : ∀ z, wY_status_21 (fun r' => r' = -2147483648 ∧ i_Rel (k + 3) (nI c, nI n, dv, ph, cx, x, w, s, d, ro, sm, ca, qp, qm, fq, fr, tb, dg, es, qa, qb, pr, ax, av, aq, ar) (nI c, ph, x, w, cy, s, d, ro, fq, fr, nI n, dv, sm, ca, qp, qm, tb, dg, es, qa, qb, pr, yx, yv, yq, yr)) v1 z (nI c) ph x w cy s d ro fq fr (nI n) dv sm ca qp qm tb dg es qa qb pr yx yv yq yr := fun z => br_f n0 (br_f n1 (br_f n2 (br_f n3 (br_f n4 (br_f n5 (br_f n6 (br_f n7 (br_f n8 (br_f n9 (br_f n10 (br_f n11 ⟨rfl, J⟩)))))))))))
    exact br_t h (br_c (fun _ => T 1) (fun _ => br_c (fun _ => T 1) (fun _ => T 0)))
  · obtain ⟨n0, n1, n2, n3, n4, n5, n6, n7, n8, n9, n10, n11⟩ := sd_ne (Or.inr h)
    have h0 : ¬ v1 < 0 := fun z => absurd (Int32.lt_trans h z) (by decide)
    have T : ∀ z, wY_status_21 (fun r' => r' = -2147483648 ∧ i_Rel (k + 3) (nI c, nI n, dv, ph, cx, x, w, s, d, ro, sm, ca, qp, qm, fq, fr, tb, dg, es, qa, qb, pr, ax, av, aq, ar) (nI c, ph, x, w, cy, s, d, ro, fq, fr, nI n, dv, sm, ca, qp, qm, tb, dg, es, qa, qb, pr, yx, yv, yq, yr)) v1 z (nI c) ph x w cy s d ro fq fr (nI n) dv sm ca qp qm tb dg es qa qb pr yx yv yq yr := fun z => br_f n0 (br_f n1 (br_f n2 (br_f n3 (br_f n4 (br_f n5 (br_f n6 (br_f n7 (br_f n8 (br_f n9 (br_f n10 (br_f n11 ⟨rfl, J⟩)))))))))))
    exact br_f h0 (br_t h (br_c (fun _ => T 1) (fun _ => br_c (fun _ => T 1) (fun _ => T 0))))
  · rcases hP with ⟨rfl, rfl⟩ | ⟨rfl, rfl, hO⟩ | ⟨rfl, hO, j, hj, rfl, rfl, hrest⟩ | ⟨rfl, hO, rfl, rfl⟩
    · rcases h with rfl | rfl | rfl | rfl | rfl | rfl | rfl | rfl | rfl | rfl | rfl | rfl <;> (repeat (first | refine br_t (by decide) ?_ | refine br_f (by decide) ?_)) <;> exact ⟨rfl, J⟩
    · rcases h with rfl | rfl | rfl | rfl | rfl | rfl | rfl | rfl | rfl | rfl | rfl | rfl <;> (repeat (first | refine br_t (by decide) ?_ | refine br_f (by decide) ?_)) <;> exact ⟨rfl, J⟩
    · rcases h with rfl | rfl | rfl | rfl | rfl | rfl | rfl | rfl | rfl | rfl | rfl | rfl <;> (repeat (first | refine br_t (by decide) ?_ | refine br_f (by decide) ?_)) <;> exact ⟨rfl, J⟩
    · rcases h with rfl | rfl | rfl | rfl | rfl | rfl | rfl | rfl | rfl | rfl | rfl | rfl <;> (repeat (first | refine br_t (by decide) ?_ | refine br_f (by decide) ?_)) <;> exact ⟨rfl, J⟩
section
variable {cap pc dv ph cx cy x w s d ro qp qm fq fr : Int32} {sm ca : Int64} {tb dg es qa qb ax av aq ar yx yv yq yr : Nat → Int32} {pr : Nat → Int64}
theorem xa_fr {post : SX → Prop} {r : Nat} {a b e g : Int32} (hr : r < 8) (hp : post (cap, pc, dv, ph, cx, x, w, s, d, ro, sm, ca, qp, qm, fq, fr, upd (upd (upd (upd tb (4 * r) a) (4 * r + 1) b) (4 * r + 2) e) (4 * r + 3) g, dg, es, qa, qb, pr, ax, av, aq, ar)) : wpX_fillRow post (cap, pc, dv, ph, cx, x, w, s, d, ro, sm, ca, qp, qm, fq, fr, tb, dg, es, qa, qb, pr, ax, av, aq, ar) (nI r) a b e g := by
  have e0 : nI r * 4 = nI (4 * r) := by
    have h : nI r * 4 = nI (r * 4) := pk_mul r 4
    rw [h, Nat.mul_comm]
  have e1 : nI (4 * r) + 1 = nI (4 * r + 1) := nI_1 _
  have e2 : nI (4 * r) + 2 = nI (4 * r + 2) := nI_add _ 2
  have e3 : nI (4 * r) + 3 = nI (4 * r + 3) := nI_add _ 3
  refine nm_r e0 ?_
  rw [e1, e2, e3, nI_clamp (by omega), nI_clamp (by omega), nI_clamp (by omega), nI_clamp (by omega)]
  exact ⟨vp_in_nI (by omega) (by decide), nm_e ⟨vp_in_nI (by omega) (by decide), nm_e ⟨vp_in_nI (by omega) (by decide), nm_e ⟨vp_in_nI (by omega) (by decide), nm_e hp⟩⟩⟩⟩
theorem ya_sr {post : SY → Prop} {r : Nat} {a b e g : Int32} (hr : r < 8) (hp : post (cap, ph, x, w, cy, s, d, ro, fq, fr, pc, dv, sm, ca, qp, qm, upd (upd (upd (upd tb (4 * r) a) (4 * r + 1) b) (4 * r + 2) e) (4 * r + 3) g, dg, es, qa, qb, pr, yx, yv, yq, yr)) : wpY_setRow post (cap, ph, x, w, cy, s, d, ro, fq, fr, pc, dv, sm, ca, qp, qm, tb, dg, es, qa, qb, pr, yx, yv, yq, yr) (nI r) a b e g := by
  have e0 : nI r * 4 = nI (4 * r) := by
    have h : nI r * 4 = nI (r * 4) := pk_mul r 4
    rw [h, Nat.mul_comm]
  have e1 : nI (4 * r) + 1 = nI (4 * r + 1) := nI_1 _
  have e2 : nI (4 * r) + 2 = nI (4 * r + 2) := nI_add _ 2
  have e3 : nI (4 * r) + 3 = nI (4 * r + 3) := nI_add _ 3
  unfold wpY_setRow
  dsimp only
  rw [e0, e1, e2, e3, nI_clamp (by omega), nI_clamp (by omega), nI_clamp (by omega), nI_clamp (by omega)]
  exact ⟨vp_in_nI (by omega) (by decide), nm_e ⟨vp_in_nI (by omega) (by decide), nm_e ⟨vp_in_nI (by omega) (by decide), nm_e ⟨vp_in_nI (by omega) (by decide), nm_e hp⟩⟩⟩⟩
def xd_fill (tb : Nat → Int32) : Nat → Int32 := (upd (upd (upd (upd (upd (upd (upd (upd (upd (upd (upd (upd (upd (upd (upd (upd (upd (upd (upd (upd (upd (upd (upd (upd (upd (upd (upd (upd (upd (upd (upd (upd tb (4 * 0) 12) (4 * 0 + 1) 4) (4 * 0 + 2) (-4)) (4 * 0 + 3) (-13)) (4 * 1) 14) (4 * 1 + 1) 5) (4 * 1 + 2) (-5)) (4 * 1 + 3) (-15)) (4 * 2) 15) (4 * 2 + 1) 5) (4 * 2 + 2) (-5)) (4 * 2 + 3) (-16)) (4 * 3) 16) (4 * 3 + 1) 6) (4 * 3 + 2) (-6)) (4 * 3 + 3) (-17)) (4 * 4) 18) (4 * 4 + 1) 6) (4 * 4 + 2) (-6)) (4 * 4 + 3) (-19)) (4 * 5) 20) (4 * 5 + 1) 7) (4 * 5 + 2) (-7)) (4 * 5 + 3) (-20)) (4 * 6) 21) (4 * 6 + 1) 7) (4 * 6 + 2) (-7)) (4 * 6 + 3) (-22)) (4 * 7) 23) (4 * 7 + 1) 8) (4 * 7 + 2) (-8)) (4 * 7 + 3) (-24))
theorem xa_fill {post : SX → Prop} (hp : post (cap, pc, dv, ph, cx, x, w, s, d, ro, sm, ca, qp, qm, fq, fr, xd_fill tb, dg, es, qa, qb, pr, ax, av, aq, ar)) : wpX_fillTable post (cap, pc, dv, ph, cx, x, w, s, d, ro, sm, ca, qp, qm, fq, fr, tb, dg, es, qa, qb, pr, ax, av, aq, ar) := by
  unfold wpX_fillTable
  refine xa_fr (r := 0) (by decide) ?_
  refine xa_fr (r := 1) (by decide) ?_
  refine xa_fr (r := 2) (by decide) ?_
  refine xa_fr (r := 3) (by decide) ?_
  refine xa_fr (r := 4) (by decide) ?_
  refine xa_fr (r := 5) (by decide) ?_
  refine xa_fr (r := 6) (by decide) ?_
  refine xa_fr (r := 7) (by decide) ?_
  exact hp
theorem ya_fill {post : SY → Prop} (hp : post (cap, 0, x, w, cy, s, d, ro, fq, fr, pc, dv, sm, ca, qp, qm, xd_fill tb, dg, es, qa, qb, pr, yx, yv, yq, yr)) : wY_init_117 post cap ph x w cy s d ro fq fr pc dv sm ca qp qm tb dg es qa qb pr yx yv yq yr := by
  unfold wY_init_117
  refine ya_sr (r := 0) (by decide) ?_
  refine ya_sr (r := 1) (by decide) ?_
  refine ya_sr (r := 2) (by decide) ?_
  refine ya_sr (r := 3) (by decide) ?_
  refine ya_sr (r := 4) (by decide) ?_
  refine ya_sr (r := 5) (by decide) ?_
  refine ya_sr (r := 6) (by decide) ?_
  refine ya_sr (r := 7) (by decide) ?_
  exact hp
end
theorem sd_init {c : Nat} (h1 : 1 ≤ c) (hc : c ≤ 16) : i_Rel 1 (nI c, 0, 0, 0, 0, 0, 0, 0, 0, 0, 0, 0, 0, 0, 0, 0, xd_fill (fun _ => 0), (fun _ => 0), (fun _ => 0), (fun _ => 0), (fun _ => 0), (fun _ => 0), (fun _ => 0), (fun _ => 0), (fun _ => 0), (fun _ => 0)) (nI c, 0, 0, 0, 0, 0, 0, 0, 0, 0, 0, 0, 0, 0, 0, 0, xd_fill (fun _ => 0), (fun _ => 0), (fun _ => 0), (fun _ => 0), (fun _ => 0), (fun _ => 0), (fun _ => 0), (fun _ => 0), (fun _ => 0), (fun _ => 0)) :=
  ⟨c, 0, 0, 0, 0, 0, 0, 0, 0, 0, 0, 0, 0, 0, 0, 0, 0, xd_fill (fun _ => 0), (fun _ => 0), (fun _ => 0), (fun _ => 0), (fun _ => 0), (fun _ => 0), (fun _ => 0), (fun _ => 0), (fun _ => 0), (fun _ => 0), (fun _ => 0), (fun _ => 0), (fun _ => 0), (fun _ => 0), rfl, rfl, h1, hc, by omega, fun q hq => absurd hq (by omega), Or.inl ⟨rfl, rfl⟩⟩
theorem i_vc0 (k0 : Int32) : wpX_init (fun u => wpY_init (fun v => i_Rel 1 u v) k0) k0 := by
  unfold wpX_init
  by_cases h1 : (1 : Int32) ≤ k0
  · by_cases h2 : k0 ≤ 16
    · have h0 : ¬ k0 < 0 := fun z => absurd (Int32.lt_of_le_of_lt h1 z) (by decide)
      obtain ⟨c, hc, rfl⟩ := nI_of2 (M := 16) (n := 16) (by decide) h0 h2
      have hc1 : 1 ≤ c := by
        apply Nat.le_of_not_lt
        intro z
        have e : c = 0 := by omega
        subst e
        exact absurd h1 (by decide)
      refine br_t h1 (br_t h2 (xa_fill ?_))
      exact br_t h1 (br_t h2 (ya_fill (sd_init hc1 hc)))
    · refine br_t h1 (br_f h2 (xa_fill ?_))
      exact br_t h1 (br_f h2 (ya_fill (sd_init (c := 16) (by decide) (by decide))))
  · refine br_f h1 (xa_fill ?_)
    exact br_f h1 (br_t (by decide) (ya_fill (sd_init (c := 1) (by decide) (by decide))))
end SDE
