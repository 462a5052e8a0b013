section SDL
/-! both loops of cycles in step -/
theorem sd_up1 {f g : Nat → Int32} {x : Int32} {k e n : Nat} (h : ∀ j, j < n → f j = g j) (hk : k ≤ e) (he : e ≤ 15) (hn : e ≤ n) : upd (sd_sh f 0 15) 0 x k = upd (sd_sh g 0 e) 0 x k := by
  by_cases z : k = 0
  · subst z
    rw [pk_us, pk_us]
  · rw [pk_un z, pk_un z]
    unfold sd_sh
    rw [if_pos (by omega), if_pos (by omega)]
    exact h (k - 1) (by omega)
theorem sd_pm {c n : Nat} (h1 : 1 ≤ c) (hn : n ≤ c) : sd_mm c n + 1 = sd_pc c n := by
  unfold sd_mm sd_pc
  split <;> split <;> omega
theorem sd_Hpush {n c : Nat} {x w fq fr : Int32} {ax av aq ar yx yv yq yr : Nat → Int32} (h1 : 1 ≤ c) (hc : c ≤ 16) (hn : n ≤ c) (h : sd_H n ax av aq ar yx yv yq yr) :
    sd_H (sd_pc c n) (upd (sd_sh ax 0 15) 0 x) (upd (sd_sh av 0 15) 0 w) (upd (sd_sh aq 0 15) 0 fq) (upd (sd_sh ar 0 15) 0 fr) (upd (sd_sh yx 0 (sd_mm c n)) 0 x) (upd (sd_sh yv 0 (sd_mm c n)) 0 w) (upd (sd_sh yq 0 (sd_mm c n)) 0 fq) (upd (sd_sh yr 0 (sd_mm c n)) 0 fr) := by
  intro k hk
  rw [← sd_pm h1 hn] at hk
  have a : k ≤ sd_mm c n := by omega
  have b : sd_mm c n ≤ 15 := by unfold sd_mm; split <;> omega
  have e : sd_mm c n ≤ n := by unfold sd_mm; split <;> omega
  exact ⟨sd_up1 (fun j hj => (h j hj).1) a b e, sd_up1 (fun j hj => (h j hj).2.1) a b e, sd_up1 (fun j hj => (h j hj).2.2.1) a b e, sd_up1 (fun j hj => (h j hj).2.2.2) a b e⟩
theorem sd_lock {c n r : Nat} {dv x w s d fq fr : Int32} {tb ax av aq ar yx yv yq yr : Nat → Int32} (h1 : 1 ≤ c) (hc : c ≤ 16) (hn : n ≤ c) (hH : sd_H n ax av aq ar yx yv yq yr) (hO : sd_O x w) (hr : r < 8) :
    ∀ (m j i l : Nat) (qp qm : Int32) (sm ca : Int64) (dg es qa qb : Nat → Int32) (pr : Nat → Int64), j + m ≤ 10 → j ≤ 9 → m + i = l → l ≤ 10 → qa j = qp → qb j = qm →
    ∃ (u' : SX) (v' : SY), i_Rel 0 u' v' ∧ (∀ (post : SX → Prop) (f : Nat), m < f → post u' → wX_runCycles_2 post (nI l) f (nI i) (nI c) (nI n) dv 2 (nI j) x w s d (nI r) sm ca qp qm fq fr tb dg es qa qb pr ax av aq ar) ∧ (∀ (post : Int32 → SY → Prop) (f : Nat), m < f → post (nI l) v' → wY_step_34 post (nI l) f (nI i) (nI c) 2 x w (nI j) s d (nI r) fq fr (nI n) dv sm ca qp qm tb dg es qa qb pr yx yv yq yr) := by
  intro m
  induction m with
  | zero =>
    intro j i l qp qm sm ca dg es qa qb pr hj hj9 hl hl10 ha hb
    refine ⟨(nI c, nI n, dv, 2, nI j, x, w, s, d, nI r, sm, ca, qp, qm, fq, fr, tb, dg, es, qa, qb, pr, ax, av, aq, ar), (nI c, 2, x, w, nI j, s, d, nI r, fq, fr, nI n, dv, sm, ca, qp, qm, tb, dg, es, qa, qb, pr, yx, yv, yq, yr), ⟨c, n, dv, 2, nI j, nI j, x, w, s, d, nI r, qp, qm, fq, fr, sm, ca, tb, dg, es, qa, qb, ax, av, aq, ar, yx, yv, yq, yr, pr, rfl, rfl, h1, hc, hn, hH, Or.inr (Or.inr (Or.inl ⟨rfl, hO, j, hj9, rfl, rfl, ⟨r, hr, rfl⟩, ha, hb⟩))⟩, ?_, ?_⟩
    · intro post f hf hp
      obtain ⟨f, rfl⟩ : ∃ f', f = f' + 1 := ⟨f - 1, by omega⟩
      exact xa_r0 (by omega) (by omega) hp
    · intro post f hf hp
      obtain ⟨f, rfl⟩ : ∃ f', f = f' + 1 := ⟨f - 1, by omega⟩
      exact ya_r0 (by omega) (by omega) hp
  | succ m ih =>
    intro j i l qp qm sm ca dg es qa qb pr hj hj9 hl hl10 ha hb
    by_cases h9 : j < 9
    · obtain ⟨u', v', R, HX, HY⟩ := ih (j + 1) (i + 1) l _ _ _ _ (upd dg (j + 1) (xd_dig tb r (xd_est sm ca))) (upd es (j + 1) (xd_est sm ca)) (upd qa (j + 1) (xd_nP (xd_dig tb r (xd_est sm ca)) qp qm)) (upd qb (j + 1) (xd_nM (xd_dig tb r (xd_est sm ca)) qp qm)) (vp_updL pr (j + 1) (xd_wS sm ca (xd_dig tb r (xd_est sm ca)) d + xd_wC sm ca (xd_dig tb r (xd_est sm ca)) d)) (by omega) (by omega) (by omega) hl10 pk_us pk_us
      refine ⟨u', v', R, ?_, ?_⟩
      · intro post f hf hp
        obtain ⟨f, rfl⟩ : ∃ f', f = f' + 1 := ⟨f - 1, by omega⟩
        exact xa_r1 (by omega) hl10 h9 hr rfl rfl rfl rfl rfl rfl rfl (HX post f (by omega) hp)
      · intro post f hf hp
        obtain ⟨f, rfl⟩ : ∃ f', f = f' + 1 := ⟨f - 1, by omega⟩
        exact ya_r1 (by omega) hl10 h9 hr rfl rfl rfl rfl rfl rfl rfl (HY post f (by omega) hp)
    · have e9 : j = 9 := by omega
      have e0 : m = 0 := by omega
      subst e9 e0
      have em := sd_pm h1 hn
      refine ⟨_, _, ⟨c, sd_pc c n, dv + 1, 3, nI 10, nI 10, x, w, s, d, nI r, qp, qm, if pr 9 < 0 then qm else qp, (if pr 9 < 0 then (pr 9 >>> ((18 : Int32).toInt64 &&& 63)).toInt32 + d else (pr 9 >>> ((18 : Int32).toInt64 &&& 63)).toInt32) >>> (s &&& 31), sm, ca, tb, dg, es, qa, qb, upd (sd_sh ax 0 15) 0 x, upd (sd_sh av 0 15) 0 w, upd (sd_sh aq 0 15) 0 (if pr 9 < 0 then qm else qp), upd (sd_sh ar 0 15) 0 ((if pr 9 < 0 then (pr 9 >>> ((18 : Int32).toInt64 &&& 63)).toInt32 + d else (pr 9 >>> ((18 : Int32).toInt64 &&& 63)).toInt32) >>> (s &&& 31)), upd (sd_sh yx 0 (sd_mm c n)) 0 x, upd (sd_sh yv 0 (sd_mm c n)) 0 w, upd (sd_sh yq 0 (sd_mm c n)) 0 (if pr 9 < 0 then qm else qp), upd (sd_sh yr 0 (sd_mm c n)) 0 ((if pr 9 < 0 then (pr 9 >>> ((18 : Int32).toInt64 &&& 63)).toInt32 + d else (pr 9 >>> ((18 : Int32).toInt64 &&& 63)).toInt32) >>> (s &&& 31)), pr, rfl, rfl, h1, hc, by unfold sd_pc; split <;> omega, sd_Hpush h1 hc hn hH, Or.inr (Or.inr (Or.inr ⟨rfl, hO, rfl, rfl⟩))⟩, ?_, ?_⟩
      · intro post f hf hp
        obtain ⟨f, rfl⟩ : ∃ f', f = f' + 1 := ⟨f - 1, by omega⟩
        obtain ⟨f, rfl⟩ : ∃ f', f = f' + 1 := ⟨f - 1, by omega⟩
        exact xa_r2 (by omega) hl10 hc (by omega) rfl rfl (xa_r0 (by omega) (by omega) hp)
      · intro post f hf hp
        obtain ⟨f, rfl⟩ : ∃ f', f = f' + 1 := ⟨f - 1, by omega⟩
        obtain ⟨f, rfl⟩ : ∃ f', f = f' + 1 := ⟨f - 1, by omega⟩
        refine ya_r2 (by omega) hl10 h1 hc (by omega) (by rw [ha, hb]) rfl ?_
        rw [em]
        exact ya_r0 (by omega) (by omega) hp
theorem sd_tup {k : Nat} {u : SX} {v : SY} (h : i_Rel k u v) : ∃ (cap pc dv ph cx x w s d ro qp qm fq fr : Int32) (sm ca : Int64) (tb dg es qa qb ax av aq ar : Nat → Int32) (pr : Nat → Int64), u = (cap, pc, dv, ph, cx, x, w, s, d, ro, sm, ca, qp, qm, fq, fr, tb, dg, es, qa, qb, pr, ax, av, aq, ar) := by
  obtain ⟨c, n, dv, ph, cx, cy, x, w, s, d, ro, qp, qm, fq, fr, sm, ca, tb, dg, es, qa, qb, ax, av, aq, ar, yx, yv, yq, yr, pr, e, _⟩ := h
  exact ⟨_, _, _, _, _, _, _, _, _, _, _, _, _, _, _, _, _, _, _, _, _, _, _, _, _, _, e⟩
theorem sd_tupY {k : Nat} {u : SX} {v : SY} (h : i_Rel k u v) : ∃ (cap pc dv ph cy x w s d ro qp qm fq fr : Int32) (sm ca : Int64) (tb dg es qa qb yx yv yq yr : Nat → Int32) (pr : Nat → Int64), v = (cap, ph, x, w, cy, s, d, ro, fq, fr, pc, dv, sm, ca, qp, qm, tb, dg, es, qa, qb, pr, yx, yv, yq, yr) := by
  obtain ⟨c, n, dv, ph, cx, cy, x, w, s, d, ro, qp, qm, fq, fr, sm, ca, tb, dg, es, qa, qb, ax, av, aq, ar, yx, yv, yq, yr, pr, _, e, _⟩ := h
  exact ⟨_, _, _, _, _, _, _, _, _, _, _, _, _, _, _, _, _, _, _, _, _, _, _, _, _, _, e⟩
end SDL
