section SDD
/-! the owed statements: the calls that only read -/
section
variable {cap pc dv ph cx cy x w s d ro qp qm fq fr : Int32} {sm ca : Int64} {tb dg es qa qb ax av aq ar yx yv yq yr : Nat → Int32} {pr : Nat → Int64}
theorem xa_isr {post : Int32 → Prop} {p : Int32} (h0 : post 0) (h1 : post 1) : wpX_isRecorded post (cap, pc, dv, ph, cx, x, w, s, d, ro, sm, ca, qp, qm, fq, fr, tb, dg, es, qa, qb, pr, ax, av, aq, ar) p := by
  unfold wpX_isRecorded
  have R : ((1 : Int32) = 0 → post 0) ∧ (¬ (1 : Int32) = 0 → ((p < 0 → post 0) ∧ (¬ p < 0 → ((cx < p → post 0) ∧ (¬ cx < p → ((9 < p → post 0) ∧ (¬ 9 < p → post 1))))))) := br_f (by decide) (br_c (fun _ => h0) (fun _ => br_c (fun _ => h0) (fun _ => br_c (fun _ => h0) (fun _ => h1))))
  exact br_c (fun _ => R) (fun _ => br_c (fun _ => R) (fun _ => br_t rfl h0))
theorem xa_isn {post : Int32 → Prop} {p : Int32} (h2 : ¬ ph = 2) (h3 : ¬ ph = 3) (h0 : post 0) : wpX_isRecorded post (cap, pc, dv, ph, cx, x, w, s, d, ro, sm, ca, qp, qm, fq, fr, tb, dg, es, qa, qb, pr, ax, av, aq, ar) p := by
  unfold wpX_isRecorded
  exact br_f h2 (br_f h3 (br_t rfl h0))
theorem xa_is0 {post : Int32 → Prop} {p : Int32} (h : p < 0 ∨ cx < p ∨ 9 < p) (h0 : post 0) : wpX_isRecorded post (cap, pc, dv, ph, cx, x, w, s, d, ro, sm, ca, qp, qm, fq, fr, tb, dg, es, qa, qb, pr, ax, av, aq, ar) p := by
  unfold wpX_isRecorded
  have R : ((1 : Int32) = 0 → post 0) ∧ (¬ (1 : Int32) = 0 → ((p < 0 → post 0) ∧ (¬ p < 0 → ((cx < p → post 0) ∧ (¬ cx < p → ((9 < p → post 0) ∧ (¬ 9 < p → post 1))))))) := br_f (by decide) (br_c (fun _ => h0) (fun a => br_c (fun _ => h0) (fun b => br_c (fun _ => h0) (fun c => by rcases h with h | h | h <;> contradiction))))
  exact br_c (fun _ => R) (fun _ => br_c (fun _ => R) (fun _ => br_t rfl h0))
theorem xa_is1 {post : Int32 → Prop} {p : Int32} (hph : ph = 2 ∨ ph = 3) (a : ¬ p < 0) (b : ¬ cx < p) (c : ¬ 9 < p) (h1 : post 1) : wpX_isRecorded post (cap, pc, dv, ph, cx, x, w, s, d, ro, sm, ca, qp, qm, fq, fr, tb, dg, es, qa, qb, pr, ax, av, aq, ar) p := by
  unfold wpX_isRecorded
  have R : ((1 : Int32) = 0 → post 0) ∧ (¬ (1 : Int32) = 0 → ((p < 0 → post 0) ∧ (¬ p < 0 → ((cx < p → post 0) ∧ (¬ cx < p → ((9 < p → post 0) ∧ (¬ 9 < p → post 1))))))) := br_f (by decide) (br_f a (br_f b (br_f c h1)))
  exact br_c (fun _ => R) (fun e => br_c (fun _ => R) (fun g => by rcases hph with h | h <;> contradiction))
/-- what the reference looks at: the recorded cycles -/
theorem ya_tr {post : Int32 → Prop} {p q : Int32} {c m : Nat} (hm : (if c ≤ 9 then c else 9) = m) (hc : c ≤ 10) (hph : ph = 2 ∨ ph = 3) (a : ¬ p < 0) (b : p ≤ 3) (H : wY_trace_45 post p q (nI m) cap ph x w (nI c) s d ro fq fr pc dv sm ca qp qm tb dg es qa qb pr yx yv yq yr) : wpY_trace post (cap, ph, x, w, nI c, s, d, ro, fq, fr, pc, dv, sm, ca, qp, qm, tb, dg, es, qa, qb, pr, yx, yv, yq, yr) p q := by
  have K : wY_trace_31 post p q cap ph x w (nI c) s d ro fq fr pc dv sm ca qp qm tb dg es qa qb pr yx yv yq yr := by
    refine pk_le c 9 (fun z => ?_) (fun z => ?_)
    · rw [if_pos z] at hm
      subst hm
      exact H
    · rw [if_neg (by omega)] at hm
      subst hm
      exact H
  exact br_f a (br_t b (br_c (fun _ => K) (fun e => br_c (fun _ => K) (fun g => by rcases hph with h | h <;> contradiction))))
theorem ya_59n {post : Int32 → Prop} {p q z : Int32} {m : Nat} (hz : 0 ≤ z) (h : q < 0 ∨ nI m < q) (hN : post (-2147483648)) : wY_trace_59 post p q (nI m) z cap ph x w cy s d ro fq fr pc dv sm ca qp qm tb dg es qa qb pr yx yv yq yr := by
  refine br_c (fun _ => hN) (fun a => br_f ?_ hN)
  intro g
  rcases h with h | h
  · exact a (Int32.lt_of_lt_of_le h hz)
  · exact absurd g (Int32.not_le.mpr h)
theorem ya_45n {post : Int32 → Prop} {p q : Int32} {m : Nat} (h : q < 0 ∨ nI m < q) (hN : post (-2147483648)) : wY_trace_45 post p q (nI m) cap ph x w cy s d ro fq fr pc dv sm ca qp qm tb dg es qa qb pr yx yv yq yr :=
  br_c (fun _ => ya_59n (by decide) h hN) (fun _ => br_c (fun _ => ya_59n (by decide) h hN) (fun _ => ya_59n (by decide) h hN))
theorem ya_pn {post : Int64 → Prop} {q : Int32} {c m : Nat} (hm : (if c ≤ 9 then c else 9) = m) (hc : c ≤ 10) (hph : ph = 2 ∨ ph = 3) (H : wY_partialRemainder_34 post q (nI m) cap ph x w (nI c) s d ro fq fr pc dv sm ca qp qm tb dg es qa qb pr yx yv yq yr) : wpY_partialRemainder post (cap, ph, x, w, nI c, s, d, ro, fq, fr, pc, dv, sm, ca, qp, qm, tb, dg, es, qa, qb, pr, yx, yv, yq, yr) q := by
  have K : wY_partialRemainder_20 post q cap ph x w (nI c) s d ro fq fr pc dv sm ca qp qm tb dg es qa qb pr yx yv yq yr := by
    refine pk_le c 9 (fun z => ?_) (fun z => ?_)
    · rw [if_pos z] at hm
      subst hm
      exact H
    · rw [if_neg (by omega)] at hm
      subst hm
      exact H
  exact br_c (fun _ => K) (fun e => br_c (fun _ => K) (fun g => by rcases hph with h | h <;> contradiction))
end
theorem sd_k4 (p : Int32) : p < 0 ∨ 3 < p ∨ p = 0 ∨ p = 1 ∨ p = 2 ∨ p = 3 := by
  rcases pk_ix p (n := 4) (by decide) with h | h | ⟨j, hj, rfl⟩
  · exact Or.inl h
  · exact Or.inr (Or.inl (Int32.lt_of_lt_of_le (by decide) h))
  · have : j = 0 ∨ j = 1 ∨ j = 2 ∨ j = 3 := by omega
    rcases this with rfl | rfl | rfl | rfl
    · exact Or.inr (Or.inr (Or.inl rfl))
    · exact Or.inr (Or.inr (Or.inr (Or.inl rfl)))
    · exact Or.inr (Or.inr (Or.inr (Or.inr (Or.inl rfl))))
    · exact Or.inr (Or.inr (Or.inr (Or.inr (Or.inr rfl))))
theorem sd_k12 (p : Int32) : p < 0 ∨ 11 < p ∨ p = 0 ∨ p = 1 ∨ p = 2 ∨ p = 3 ∨ p = 4 ∨ p = 5 ∨ p = 6 ∨ p = 7 ∨ p = 8 ∨ p = 9 ∨ p = 10 ∨ p = 11 := by
  rcases pk_ix p (n := 12) (by decide) with h | h | ⟨j, hj, rfl⟩
  · exact Or.inl h
  · exact Or.inr (Or.inl (Int32.lt_of_lt_of_le (by decide) h))
  · right; right
    have H : ∀ j, j < 12 → (nI j = 0 ∨ nI j = 1 ∨ nI j = 2 ∨ nI j = 3 ∨ nI j = 4 ∨ nI j = 5 ∨ nI j = 6 ∨ nI j = 7 ∨ nI j = 8 ∨ nI j = 9 ∨ nI j = 10 ∨ nI j = 11) := by decide +kernel
    exact H j hj
/-- recorded or not -/
theorem sd_rec (q : Int32) {c m : Nat} (hm : (if c ≤ 9 then c else 9) = m) (hc : c ≤ 10) : ((q < 0 ∨ nI m < q) ∧ (q < 0 ∨ nI c < q ∨ 9 < q)) ∨ ∃ j : Nat, j ≤ m ∧ m ≤ 9 ∧ q = nI j ∧ ¬ nI j < 0 ∧ ¬ nI c < nI j ∧ ¬ 9 < nI j ∧ nI j ≤ nI m := by
  have hm9 : m ≤ 9 := by split at hm <;> omega
  have hmc : m ≤ c := by split at hm <;> omega
  by_cases h : q < 0
  · exact Or.inl ⟨Or.inl h, Or.inl h⟩
  · obtain ⟨j, hj, rfl⟩ := nI_of h
    by_cases hjm : j ≤ m
    · exact Or.inr ⟨j, hjm, hm9, rfl, h, nI_nlt (by omega) (by omega), nI_nlt (a := 9) (by omega) (by decide), nI_le hjm (by omega)⟩
    · refine Or.inl ⟨Or.inr (nI_lt (by omega) hj), Or.inr ?_⟩
      by_cases h9 : c ≤ 9
      · rw [if_pos h9] at hm
        exact Or.inl (nI_lt (by omega) hj)
      · rw [if_neg h9] at hm
        exact Or.inr (nI_lt (a := 9) (by omega) hj)
theorem i_vc_trace {k : Nat} {u : SX} {v : SY} (I : i_Rel k u v) (hk : k + 3 ≤ 1537) (v1 : Int32) (v2 : Int32) : wpX_trace (fun r => wpY_trace (fun r' => r' = r ∧ i_Rel (k + 3) u v) v v1 v2) u v1 v2 := by
  have J := i_up I
  obtain ⟨c, n, dv, ph, cx, cy, x, w, s, d, ro, qp, qm, fq, fr, sm, ca, tb, dg, es, qa, qb, ax, av, aq, ar, yx, yv, yq, yr, pr, rfl, rfl, h1, hc, hn, hH, hP⟩ := I
  unfold wpX_trace
  have main : ∀ a, a ≤ 10 → (ph = 2 ∨ ph = 3) → cx = nI a → cy = nI a → wpX_trace (fun r => wpY_trace (fun r' => r' = r ∧ i_Rel (k + 3) (nI c, nI n, dv, ph, cx, x, w, s, d, ro, sm, ca, qp, qm, fq, fr, tb, dg, es, qa, qb, pr, ax, av, aq, ar) (nI c, ph, x, w, cy, s, d, ro, fq, fr, nI n, dv, sm, ca, qp, qm, tb, dg, es, qa, qb, pr, yx, yv, yq, yr)) (nI c, ph, x, w, cy, s, d, ro, fq, fr, nI n, dv, sm, ca, qp, qm, tb, dg, es, qa, qb, pr, yx, yv, yq, yr) v1 v2) (nI c, nI n, dv, ph, cx, x, w, s, d, ro, sm, ca, qp, qm, fq, fr, tb, dg, es, qa, qb, pr, ax, av, aq, ar) v1 v2 := by
    rintro a ha hph rfl rfl
    unfold wpX_trace
    rcases sd_k4 v1 with h | h | h
    · exact xa_isr (br_t rfl (br_t h ⟨rfl, J⟩)) (br_f (by decide) (br_t h (br_t h ⟨rfl, J⟩)))
    · have h0 : ¬ v1 < 0 := fun z => absurd (Int32.lt_trans h z) (by decide)
      exact xa_isr (br_t rfl (br_f h0 (br_f (Int32.not_le.mpr h) ⟨rfl, J⟩))) (br_f (by decide) (br_f h0 (br_t h (br_f h0 (br_f (Int32.not_le.mpr h) ⟨rfl, J⟩)))))
    · have h0 : ¬ v1 < 0 := by rcases h with rfl | rfl | rfl | rfl <;> decide
      have h3 : v1 ≤ 3 := by rcases h with rfl | rfl | rfl | rfl <;> decide
      rcases sd_rec v2 (c := a) rfl ha with ⟨hy, hx⟩ | ⟨j, hjm, hm9, rfl, b0, b1, b2, b3⟩
      · exact xa_is0 hx (br_t rfl (ya_tr rfl ha hph h0 h3 (ya_45n hy ⟨rfl, J⟩)))
      · have hin : vp_in (nI j) 10 := vp_in_nI (by omega) (by decide)
        rcases h with rfl | rfl | rfl | rfl
        · refine xa_is1 hph b0 b1 b2 (br_f (by decide) (br_f (by decide) (br_f (by decide) (br_t rfl (pk_le j 0 (fun z => ?_) (fun z => ⟨hin, ?_⟩))))))
          · exact ya_tr rfl ha hph h0 h3 (br_t rfl (br_t (nI_lt (b := 1) (by omega) (by decide)) ⟨rfl, J⟩))
          · exact ya_tr rfl ha hph h0 h3 (br_t rfl (br_f (nI_nlt (b := 1) (by omega) (by omega)) (br_t b3 (br_t rfl ⟨hin, rfl, J⟩))))
        · refine xa_is1 hph b0 b1 b2 (br_f (by decide) (br_f (by decide) (br_f (by decide) (br_f (by decide) (br_t rfl (pk_le j 0 (fun z => ?_) (fun z => ⟨hin, ?_⟩)))))))
          · exact ya_tr rfl ha hph h0 h3 (br_f (by decide) (br_t rfl (br_t (nI_lt (b := 1) (by omega) (by decide)) ⟨rfl, J⟩)))
          · exact ya_tr rfl ha hph h0 h3 (br_f (by decide) (br_t rfl (br_f (nI_nlt (b := 1) (by omega) (by omega)) (br_t b3 (br_f (by decide) (br_t rfl ⟨hin, rfl, J⟩))))))
        · exact xa_is1 hph b0 b1 b2 (br_f (by decide) (br_f (by decide) (br_f (by decide) (br_f (by decide) (br_f (by decide) (br_t rfl ⟨hin, ya_tr rfl ha hph h0 h3 (br_f (by decide) (br_f (by decide) (br_f b0 (br_t b3 (br_f (by decide) (br_f (by decide) (br_t rfl ⟨hin, rfl, J⟩)))))))⟩))))))
        · exact xa_is1 hph b0 b1 b2 (br_f (by decide) (br_f (by decide) (br_f (by decide) (br_f (by decide) (br_f (by decide) (br_f (by decide) (br_t rfl ⟨hin, ya_tr rfl ha hph h0 h3 (br_f (by decide) (br_f (by decide) (br_f b0 (br_t b3 (br_f (by decide) (br_f (by decide) (br_f (by decide) ⟨hin, rfl, J⟩)))))))⟩)))))))
  rcases hP with ⟨rfl, rfl⟩ | ⟨rfl, rfl, hO⟩ | ⟨rfl, hO, j, hj, rfl, rfl, hrest⟩ | ⟨rfl, hO, rfl, rfl⟩
  · exact xa_isn (by decide) (by decide) (br_t rfl (br_c (fun _ => ⟨rfl, J⟩) (fun _ => br_c (fun _ => br_f (by decide) (br_f (by decide) ⟨rfl, J⟩)) (fun _ => ⟨rfl, J⟩))))
  · exact xa_isn (by decide) (by decide) (br_t rfl (br_c (fun _ => ⟨rfl, J⟩) (fun _ => br_c (fun _ => br_f (by decide) (br_f (by decide) ⟨rfl, J⟩)) (fun _ => ⟨rfl, J⟩))))
  · exact main j (by omega) (Or.inl rfl) rfl rfl
  · exact main 10 (by omega) (Or.inr rfl) rfl rfl
theorem i_vc_partialRemainder {k : Nat} {u : SX} {v : SY} (I : i_Rel k u v) (hk : k + 3 ≤ 1537) (v1 : Int32) : wpX_partialRemainder (fun r => wpY_partialRemainder (fun r' => r' = r ∧ i_Rel (k + 3) u v) v v1) u v1 := by
  have J := i_up I
  obtain ⟨c, n, dv, ph, cx, cy, x, w, s, d, ro, qp, qm, fq, fr, sm, ca, tb, dg, es, qa, qb, ax, av, aq, ar, yx, yv, yq, yr, pr, rfl, rfl, h1, hc, hn, hH, hP⟩ := I
  have main : ∀ a, a ≤ 10 → (ph = 2 ∨ ph = 3) → cx = nI a → cy = nI a → wpX_partialRemainder (fun r => wpY_partialRemainder (fun r' => r' = r ∧ i_Rel (k + 3) (nI c, nI n, dv, ph, cx, x, w, s, d, ro, sm, ca, qp, qm, fq, fr, tb, dg, es, qa, qb, pr, ax, av, aq, ar) (nI c, ph, x, w, cy, s, d, ro, fq, fr, nI n, dv, sm, ca, qp, qm, tb, dg, es, qa, qb, pr, yx, yv, yq, yr)) (nI c, ph, x, w, cy, s, d, ro, fq, fr, nI n, dv, sm, ca, qp, qm, tb, dg, es, qa, qb, pr, yx, yv, yq, yr) v1) (nI c, nI n, dv, ph, cx, x, w, s, d, ro, sm, ca, qp, qm, fq, fr, tb, dg, es, qa, qb, pr, ax, av, aq, ar) v1 := by
    rintro a ha hph rfl rfl
    unfold wpX_partialRemainder
    rcases sd_rec v1 (c := a) rfl ha with ⟨hy, hx⟩ | ⟨j, hjm, hm9, rfl, b0, b1, b2, b3⟩
    · refine xa_is0 hx (br_t rfl (ya_pn rfl ha hph (br_c (fun _ => ⟨rfl, J⟩) (fun g => br_f ?_ ⟨rfl, J⟩))))
      rcases hy with h | h
      · exact absurd h g
      · exact Int32.not_le.mpr h
    · have hin : vp_in (nI j) 10 := vp_in_nI (by omega) (by decide)
      exact xa_is1 hph b0 b1 b2 (br_f (by decide) ⟨hin, ya_pn rfl ha hph (br_f b0 (br_t b3 ⟨hin, rfl, J⟩))⟩)
  rcases hP with ⟨rfl, rfl⟩ | ⟨rfl, rfl, hO⟩ | ⟨rfl, hO, j, hj, rfl, rfl, hrest⟩ | ⟨rfl, hO, rfl, rfl⟩
  · unfold wpX_partialRemainder
    exact xa_isn (by decide) (by decide) (br_t rfl (br_f (by decide) (br_f (by decide) ⟨rfl, J⟩)))
  · unfold wpX_partialRemainder
    exact xa_isn (by decide) (by decide) (br_t rfl (br_f (by decide) (br_f (by decide) ⟨rfl, J⟩)))
  · exact main j (by omega) (Or.inl rfl) rfl rfl
  · exact main 10 (by omega) (Or.inr rfl) rfl rfl
theorem sd_le1 {n q : Nat} (hn : n ≤ 16) (hq : q < 2 ^ 31) : nI q ≤ nI n - 1 ↔ q < n := by
  cases n with
  | zero =>
    constructor
    · intro h
      exact absurd (Int32.lt_of_le_of_lt h (by decide : nI 0 - 1 < 0)) (nI_pos hq)
    · intro h
      exact absurd h (by omega)
  | succ m =>
    rw [nI_pred, nI_leI hq (by omega)]
    omega
theorem i_vc_history {k : Nat} {u : SX} {v : SY} (I : i_Rel k u v) (hk : k + 3 ≤ 1537) (v1 : Int32) (v2 : Int32) : wpX_history (fun r => wpY_history (fun r' => r' = r ∧ i_Rel (k + 3) u v) v v1 v2) u v1 v2 := by
  have J := i_up I
  obtain ⟨c, n, dv, ph, cx, cy, x, w, s, d, ro, qp, qm, fq, fr, sm, ca, tb, dg, es, qa, qb, ax, av, aq, ar, yx, yv, yq, yr, pr, rfl, rfl, h1, hc, hn, hH, hP⟩ := I
  by_cases hv : v2 < 0
  · refine br_t hv (br_c (fun _ => ⟨rfl, J⟩) (fun _ => br_c (fun _ => br_t hv ⟨rfl, J⟩) (fun _ => ⟨rfl, J⟩)))
  · obtain ⟨q, hq, rfl⟩ := nI_of hv
    by_cases hqn : q < n
    · have hl : nI q < nI n := nI_lt hqn (by omega)
      have hl' : nI q ≤ nI n - 1 := (sd_le1 (by omega) hq).mpr hqn
      have hin : vp_in (nI q) 16 := vp_in_nI (by omega) (by decide)
      obtain ⟨e1, e2, e3, e4⟩ := hH q hqn
      have ec : (nI q).toNatClampNeg = q := nI_clamp hq
      rcases sd_k4 v1 with h | h | h
      · exact br_f hv (br_t hl (br_t h (br_t h ⟨rfl, J⟩)))
      · have h0 : ¬ v1 < 0 := fun z => absurd (Int32.lt_trans h z) (by decide)
        exact br_f hv (br_t hl (br_f h0 (br_t h (br_f h0 (br_f (Int32.not_le.mpr h) ⟨rfl, J⟩)))))
      · rcases h with rfl | rfl | rfl | rfl
        · exact br_f hv (br_t hl (br_f (by decide) (br_f (by decide) (br_t rfl ⟨hin, br_f (by decide) (br_t (by decide) (br_f hv (br_t hl' (br_t rfl ⟨hin, by rw [ec, e1], J⟩))))⟩))))
        · exact br_f hv (br_t hl (br_f (by decide) (br_f (by decide) (br_f (by decide) (br_t rfl ⟨hin, br_f (by decide) (br_t (by decide) (br_f hv (br_t hl' (br_f (by decide) (br_t rfl ⟨hin, by rw [ec, e2], J⟩)))))⟩)))))
        · exact br_f hv (br_t hl (br_f (by decide) (br_f (by decide) (br_f (by decide) (br_f (by decide) (br_t rfl ⟨hin, br_f (by decide) (br_t (by decide) (br_f hv (br_t hl' (br_f (by decide) (br_f (by decide) (br_t rfl ⟨hin, by rw [ec, e3], J⟩))))))⟩))))))
        · exact br_f hv (br_t hl (br_f (by decide) (br_f (by decide) (br_f (by decide) (br_f (by decide) (br_f (by decide) (br_t rfl ⟨hin, br_f (by decide) (br_t (by decide) (br_f hv (br_t hl' (br_f (by decide) (br_f (by decide) (br_f (by decide) ⟨hin, by rw [ec, e4], J⟩))))))⟩)))))))
    · have hl : ¬ nI q < nI n := nI_nlt (by omega) hq
      have hl' : ¬ nI q ≤ nI n - 1 := fun z => hqn ((sd_le1 (by omega) hq).mp z)
      exact br_f hv (br_f hl (br_c (fun _ => ⟨rfl, J⟩) (fun _ => br_c (fun _ => br_f hv (br_f hl' ⟨rfl, J⟩)) (fun _ => ⟨rfl, J⟩))))
theorem sd_y0 : ∀ r, r < 8 → nI r * 4 + (2 - 2) = nI (4 * r + 0) := by decide +kernel
theorem sd_y1 : ∀ r, r < 8 → nI r * 4 + (2 - 1) = nI (4 * r + 1) := by decide +kernel
theorem sd_y2 : ∀ r, r < 8 → nI r * 4 + (2 - 0) = nI (4 * r + 2) := by decide +kernel
theorem sd_y3 : ∀ r, r < 8 → nI r * 4 + (2 - (-1)) = nI (4 * r + 3) := by decide +kernel
theorem sd_d4 {p : Int32} (h1 : ¬ p < -1) (h2 : p ≤ 2) : p = 2 ∨ p = 1 ∨ p = 0 ∨ p = -1 := by
  rw [Int32.lt_iff_toInt_lt, show (-1 : Int32).toInt = -1 from by decide] at h1
  rw [Int32.le_iff_toInt_le, show (2 : Int32).toInt = 2 from by decide] at h2
  have h : p.toInt = 2 ∨ p.toInt = 1 ∨ p.toInt = 0 ∨ p.toInt = -1 := by omega
  rcases h with h | h | h | h
  · exact Or.inl (Int32.toInt_inj.mp h)
  · exact Or.inr (Or.inl (Int32.toInt_inj.mp h))
  · exact Or.inr (Or.inr (Or.inl (Int32.toInt_inj.mp h)))
  · exact Or.inr (Or.inr (Or.inr (Int32.toInt_inj.mp h)))
theorem i_vc_threshold {k : Nat} {u : SX} {v : SY} (I : i_Rel k u v) (hk : k + 3 ≤ 1537) (v1 : Int32) (v2 : Int32) : wpX_threshold (fun r => wpY_threshold (fun r' => r' = r ∧ i_Rel (k + 3) u v) v v1 v2) u v1 v2 := by
  have J := i_up I
  obtain ⟨c, n, dv, ph, cx, cy, x, w, s, d, ro, qp, qm, fq, fr, sm, ca, tb, dg, es, qa, qb, ax, av, aq, ar, yx, yv, yq, yr, pr, rfl, rfl, h1, hc, hn, hH, hP⟩ := I
  by_cases h0 : v1 < 0
  · exact br_t h0 (br_t h0 ⟨rfl, J⟩)
  · obtain ⟨r, hr, rfl⟩ := nI_of h0
    by_cases h8 : r < 8
    · have g1 : nI r < 8 := nI_lt (b := 8) h8 (by decide)
      have g2 : nI r ≤ 7 := nI_le (b := 7) (by omega) (by decide)
      by_cases d1 : v2 < -1
      · exact br_f h0 (br_t g1 (br_t d1 (br_f h0 (br_t g2 (br_t d1 ⟨rfl, J⟩)))))
      · by_cases d2 : v2 ≤ 2
        · refine br_f h0 (br_t g1 (br_f d1 (br_t d2 ?_)))
          have fin : ∀ (i : Nat) (g : Int32), i < 4 → ¬ g < -1 → g ≤ 2 → nI r * 4 + 2 - g = nI (4 * r + i) → nI r * 4 + (2 - g) = nI (4 * r + i) → wpX_tableEntry (fun r_5 => wpY_threshold (fun r' => r' = r_5 ∧ i_Rel (k + 3) (nI c, nI n, dv, ph, cx, x, w, s, d, ro, sm, ca, qp, qm, fq, fr, tb, dg, es, qa, qb, pr, ax, av, aq, ar) (nI c, ph, x, w, cy, s, d, ro, fq, fr, nI n, dv, sm, ca, qp, qm, tb, dg, es, qa, qb, pr, yx, yv, yq, yr)) (nI c, ph, x, w, cy, s, d, ro, fq, fr, nI n, dv, sm, ca, qp, qm, tb, dg, es, qa, qb, pr, yx, yv, yq, yr) (nI r) g) (nI c, nI n, dv, ph, cx, x, w, s, d, ro, sm, ca, qp, qm, fq, fr, tb, dg, es, qa, qb, pr, ax, av, aq, ar) (nI r) g := by
            intro i g hi e1 e2 e3 e4
            refine xa_te h8 hi e3 (br_f h0 (br_t g2 (br_f e1 (br_t e2 ?_))))
            rw [e4, nI_clamp (by omega)]
            exact ⟨vp_in_nI (by omega) (by decide), rfl, J⟩
          rcases sd_d4 d1 d2 with rfl | rfl | rfl | rfl
          · exact fin 0 _ (by decide) d1 d2 (sd_g0 r h8) (sd_y0 r h8)
          · exact fin 1 _ (by decide) d1 d2 (sd_g1 r h8) (sd_y1 r h8)
          · exact fin 2 _ (by decide) d1 d2 (sd_g2 r h8) (sd_y2 r h8)
          · exact fin 3 _ (by decide) d1 d2 (sd_g3 r h8) (sd_y3 r h8)
        · exact br_f h0 (br_t g1 (br_f d1 (br_f d2 (br_f h0 (br_t g2 (br_f d1 (br_f d2 ⟨rfl, J⟩)))))))
    · have g1 : ¬ nI r < 8 := nI_nlt (b := 8) (by omega) hr
      have g2 : ¬ nI r ≤ 7 := nI_ge (a := 7) (by omega) hr
      exact br_f h0 (br_f g1 (br_f h0 (br_f g2 ⟨rfl, J⟩)))
end SDD
