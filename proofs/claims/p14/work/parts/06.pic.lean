section XDP
/-! the picture of a state -/
/-- record k of the history -/
def xd_rc (k : Nat) (ax av aq ar : Nat → Int32) : Prop := ∃ a b : Nat, a ≤ 65535 ∧ 1 ≤ b ∧ b ≤ 65535 ∧ ax k = nI a ∧ av k = nI b ∧ aq k = nI (a / b) ∧ ar k = nI (a % b)
/-- what is recorded of cycle j -/
def xd_cy (D j : Nat) (pr : Nat → Int64) (dg qa qb : Nat → Int32) : Prop := -(524288 * (D : Int)) ≤ 3 * (pr j).toInt ∧ 3 * (pr j).toInt ≤ 524288 * (D : Int) ∧ -300000 ≤ (qa j).toInt ∧ (qa j).toInt ≤ 300000 ∧ (qb j).toInt = (qa j).toInt - 1 ∧ (1 ≤ j → -2 ≤ (dg j).toInt ∧ (dg j).toInt ≤ 2)
/-- the operands, normalised -/
def xd_On (a b t : Nat) (x w s d ro : Int32) : Prop := a ≤ 65535 ∧ 1 ≤ b ∧ b ≤ 65535 ∧ t ≤ 15 ∧ 32768 ≤ b * 2 ^ t ∧ b * 2 ^ t < 65536 ∧ x = nI a ∧ w = nI b ∧ s = nI t ∧ d = nI (b * 2 ^ t) ∧ ro = nI (b * 2 ^ t / 4096 - 8)
/-- the four phases -/
def xd_Ph (ph cx x w s d ro qp qm fq fr : Int32) (sm ca : Int64) (dg qa qb : Nat → Int32) (pr : Nat → Int64) : Prop :=
  (ph = 0 ∧ cx = 0) ∨ (ph = 1 ∧ cx = 0 ∧ sd_O x w) ∨
  (ph = 2 ∧ ∃ a b t j, xd_On a b t x w s d ro ∧ j ≤ 9 ∧ cx = nI j ∧ xd_It (a * 2 ^ t) (b * 2 ^ t) j sm ca qp qm ∧ pr j = sm + ca ∧ ∀ i, i ≤ j → xd_cy (b * 2 ^ t) i pr dg qa qb) ∨
  (ph = 3 ∧ ∃ a b t, xd_On a b t x w s d ro ∧ cx = nI 10 ∧ fq = nI (a / b) ∧ fr = nI (a % b) ∧ ∀ i, i ≤ 9 → xd_cy (b * 2 ^ t) i pr dg qa qb)
def xd_Ok (u : St2) : Prop :=
  ∃ (c n : Nat) (dv ph cx x w s d ro qp qm fq fr : Int32) (sm ca : Int64) (dg es qa qb ax av aq ar : Nat → Int32) (pr : Nat → Int64),
    u = (nI c, nI n, dv, ph, cx, x, w, s, d, ro, sm, ca, qp, qm, fq, fr, xd_tab, dg, es, qa, qb, pr, ax, av, aq, ar) ∧ 1 ≤ c ∧ c ≤ 16 ∧ n ≤ c ∧ (∀ k, k < n → xd_rc k ax av aq ar) ∧ xd_Ph ph cx x w s d ro qp qm fq fr sm ca dg qa qb pr
theorem xd_tup {u : St2} (h : xd_Ok u) : ∃ (cap pc dv ph cx x w s d ro qp qm fq fr : Int32) (sm ca : Int64) (tb dg es qa qb ax av aq ar : Nat → Int32) (pr : Nat → Int64), u = (cap, pc, dv, ph, cx, x, w, s, d, ro, sm, ca, qp, qm, fq, fr, tb, dg, es, qa, qb, pr, ax, av, aq, ar) := by
  obtain ⟨c, n, dv, ph, cx, x, w, s, d, ro, qp, qm, fq, fr, sm, ca, dg, es, qa, qb, ax, av, aq, ar, pr, e, _⟩ := h
  exact ⟨_, _, _, _, _, _, _, _, _, _, _, _, _, _, _, _, _, _, _, _, _, _, _, _, _, _, e⟩
theorem xd_cyI {N D j : Nat} {S C T : Int64} {P M g : Int32} {pr : Nat → Int64} {dg qa qb : Nat → Int32} (h : xd_It N D j S C P M) (hj : j < 10) (hT : S + C = T) (hd : 1 ≤ j → -2 ≤ g.toInt ∧ g.toInt ≤ 2) : xd_cy D j (vp_updL pr j T) (upd dg j g) (upd qa j P) (upd qb j M) := by
  obtain ⟨p, q, hP, hq, hm, hE, l, u, b1, b2⟩ := h
  have hK := (xd_4 j hj).1
  unfold xd_cy
  rw [pk_uLs, pk_us, pk_us, pk_us, ← hT, hP, hq, hm]
  exact ⟨l, u, by omega, by omega, rfl, hd⟩
theorem xd_cyU {D i j : Nat} {T : Int64} {P M g : Int32} {pr : Nat → Int64} {dg qa qb : Nat → Int32} (h : xd_cy D i pr dg qa qb) (hi : i ≠ j) : xd_cy D i (vp_updL pr j T) (upd dg j g) (upd qa j P) (upd qb j M) := by
  unfold xd_cy
  rw [pk_uLn hi, pk_un hi, pk_un hi, pk_un hi]
  exact h
theorem xd_rcP {c n a b : Nat} {ax av aq ar : Nat → Int32} (ha : a ≤ 65535) (hb : 1 ≤ b) (hb2 : b ≤ 65535) (hc : c ≤ 16) (hn : n ≤ c) (h : ∀ k, k < n → xd_rc k ax av aq ar) :
    ∀ k, k < sd_pc c n → xd_rc k (upd (sd_sh ax 0 15) 0 (nI a)) (upd (sd_sh av 0 15) 0 (nI b)) (upd (sd_sh aq 0 15) 0 (nI (a / b))) (upd (sd_sh ar 0 15) 0 (nI (a % b))) := by
  intro k hk
  by_cases z : k = 0
  · subst z
    exact ⟨a, b, ha, hb, hb2, pk_us, pk_us, pk_us, pk_us⟩
  · have hk3 : k ≤ 15 ∧ k - 1 < n := by
      unfold sd_pc at hk
      split at hk <;> omega
    obtain ⟨hk15, hk2⟩ := hk3
    have e : ∀ f : Nat → Int32, ∀ y, upd (sd_sh f 0 15) 0 y k = f (k - 1) := by
      intro f y
      rw [pk_un z]
      exact if_pos (by omega)
    unfold xd_rc
    rw [e, e, e, e]
    exact h (k - 1) hk2
theorem xd_run {c n a b t : Nat} {dv x w s d ro fq fr : Int32} {ax av aq ar : Nat → Int32} (h1 : 1 ≤ c) (hc : c ≤ 16) (hn : n ≤ c) (hR : ∀ k, k < n → xd_rc k ax av aq ar) (hO : xd_On a b t x w s d ro) :
    ∀ (m j i l : Nat) (qp qm : Int32) (sm ca : Int64) (dg es qa qb : Nat → Int32) (pr : Nat → Int64), j + m ≤ 10 → j ≤ 9 → m + i = l → l ≤ 10 → xd_It (a * 2 ^ t) (b * 2 ^ t) j sm ca qp qm → pr j = sm + ca → (∀ i, i ≤ j → xd_cy (b * 2 ^ t) i pr dg qa qb) →
    ∃ u' : St2, xd_Ok u' ∧ ∀ (post : St2 → Prop) (f : Nat), m < f → post u' → wX_runCycles_2 post (nI l) f (nI i) (nI c) (nI n) dv 2 (nI j) x w s d ro sm ca qp qm fq fr xd_tab dg es qa qb pr ax av aq ar := by
  have hO' := hO
  obtain ⟨o1, o2, o3, o4, o5, o6, rfl, rfl, rfl, rfl, rfl⟩ := hO
  have hr8 : b * 2 ^ t / 4096 - 8 < 8 := by omega
  intro m
  induction m with
  | zero =>
    intro j i l qp qm sm ca dg es qa qb pr hj hj9 hl hl10 hI hp hcy
    refine ⟨_, ⟨c, n, dv, 2, nI j, nI a, nI b, nI t, nI (b * 2 ^ t), nI (b * 2 ^ t / 4096 - 8), qp, qm, fq, fr, sm, ca, dg, es, qa, qb, ax, av, aq, ar, pr, rfl, h1, hc, hn, hR, Or.inr (Or.inr (Or.inl ⟨rfl, a, b, t, j, hO', hj9, rfl, hI, hp, hcy⟩))⟩, ?_⟩
    intro post f hf hq
    obtain ⟨f, rfl⟩ : ∃ f', f = f' + 1 := ⟨f - 1, by omega⟩
    exact xa_r0 (by omega) (by omega) hq
  | succ m ih =>
    intro j i l qp qm sm ca dg es qa qb pr hj hj9 hl hl10 hI hp hcy
    by_cases h9 : j < 9
    · obtain ⟨hI', d1, d2⟩ := xd_step (r := b * 2 ^ t / 4096 - 8) hr8 (by omega) (by omega) h9 hI rfl
      obtain ⟨u', R, HX⟩ := ih (j + 1) (i + 1) l _ _ _ _ (upd dg (j + 1) (xd_dig xd_tab (b * 2 ^ t / 4096 - 8) (xd_est sm ca))) (upd es (j + 1) (xd_est sm ca)) (upd qa (j + 1) (xd_nP (xd_dig xd_tab (b * 2 ^ t / 4096 - 8) (xd_est sm ca)) qp qm)) (upd qb (j + 1) (xd_nM (xd_dig xd_tab (b * 2 ^ t / 4096 - 8) (xd_est sm ca)) qp qm)) (vp_updL pr (j + 1) (xd_wS sm ca (xd_dig xd_tab (b * 2 ^ t / 4096 - 8) (xd_est sm ca)) (nI (b * 2 ^ t)) + xd_wC sm ca (xd_dig xd_tab (b * 2 ^ t / 4096 - 8) (xd_est sm ca)) (nI (b * 2 ^ t)))) (by omega) (by omega) (by omega) hl10 hI' pk_uLs (fun i' hi' => by
        by_cases e : i' = j + 1
        · subst e
          exact xd_cyI hI' (by omega) rfl (fun _ => ⟨d1, d2⟩)
        · exact xd_cyU (hcy i' (by omega)) e)
      refine ⟨u', R, ?_⟩
      intro post f hf hq
      obtain ⟨f, rfl⟩ : ∃ f', f = f' + 1 := ⟨f - 1, by omega⟩
      exact xa_r1 (by omega) hl10 h9 hr8 rfl rfl rfl rfl rfl rfl rfl (HX post f (by omega) hq)
    · have e9 : j = 9 := by omega
      have e0 : m = 0 := by omega
      subst e9 e0
      obtain ⟨hF, hG⟩ := xd_fin o1 o2 o4 o6 hI hp
      refine ⟨_, ⟨c, sd_pc c n, dv + 1, 3, nI 10, nI a, nI b, nI t, nI (b * 2 ^ t), nI (b * 2 ^ t / 4096 - 8), qp, qm, nI (a / b), nI (a % b), sm, ca, dg, es, qa, qb, upd (sd_sh ax 0 15) 0 (nI a), upd (sd_sh av 0 15) 0 (nI b), upd (sd_sh aq 0 15) 0 (nI (a / b)), upd (sd_sh ar 0 15) 0 (nI (a % b)), pr, rfl, h1, hc, by unfold sd_pc; split <;> omega, xd_rcP o1 o2 o3 hc hn hR, Or.inr (Or.inr (Or.inr ⟨rfl, a, b, t, hO', rfl, rfl, rfl, hcy⟩))⟩, ?_⟩
      intro post f hf hq
      obtain ⟨f, rfl⟩ : ∃ f', f = f' + 1 := ⟨f - 1, by omega⟩
      obtain ⟨f, rfl⟩ : ∃ f', f = f' + 1 := ⟨f - 1, by omega⟩
      exact xa_r2 (by omega) hl10 hc (by omega) hF hG (xa_r0 (by omega) (by omega) hq)
end XDP
