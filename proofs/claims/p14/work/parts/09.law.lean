section XDM
variable {cap pc dv ph cx x w s d ro qp qm fq fr : Int32} {sm ca : Int64} {tb dg es qa qb ax av aq ar : Nat → Int32} {pr : Nat → Int64}
variable {post : Int32 → Prop} {L : Nat} {xs : Nat → Int32} {J : Int32 → Int32 → Int32 → Int32 → Int32 → Int32 → Int32 → Int32 → Int32 → Int32 → Int32 → Int64 → Int64 → Int32 → Int32 → Int32 → Int32 → (Nat → Int32) → (Nat → Int32) → (Nat → Int32) → (Nat → Int32) → (Nat → Int32) → (Nat → Int64) → (Nat → Int32) → (Nat → Int32) → (Nat → Int32) → (Nat → Int32) → Prop} {x2 : Int32} {kc ks : Nat}
/-! the law's loops -/
/-- what the next turn asks -/
def xl_JJ (J : Int32 → Int32 → Int32 → Int32 → Int32 → Int32 → Int32 → Int32 → Int32 → Int32 → Int32 → Int64 → Int64 → Int32 → Int32 → Int32 → Int32 → (Nat → Int32) → (Nat → Int32) → (Nat → Int32) → (Nat → Int32) → (Nat → Int32) → (Nat → Int64) → (Nat → Int32) → (Nat → Int32) → (Nat → Int32) → (Nat → Int32) → Prop) (t : Nat) : Prop := ∀ (cap pc dv ph cx x w s d ro qp qm fq fr : Int32) (sm ca : Int64) (tb dg es qa qb ax av aq ar : Nat → Int32) (pr : Nat → Int64), xd_Ok (cap, pc, dv, ph, cx, x, w, s, d, ro, sm, ca, qp, qm, fq, fr, tb, dg, es, qa, qb, pr, ax, av, aq, ar) → J (nI (t + 1)) cap pc dv ph cx x w s d ro sm ca qp qm fq fr tb dg es qa qb pr ax av aq ar
theorem xl_317 {t : Nat} (hL : L ≤ 260) (ht : t ≤ 100) (hp : post 1) (hu : xd_Ok (cap, pc, dv, ph, cx, x, w, s, d, ro, sm, ca, qp, qm, fq, fr, tb, dg, es, qa, qb, pr, ax, av, aq, ar)) (HJ : xl_JJ J t) : wL_law_317 post L xs J x2 (nI t) kc ks cap pc dv ph cx x w s d ro sm ca qp qm fq fr tb dg es qa qb pr ax av aq ar := by
  have e3 : (3 : Int32) * nI t = nI (3 * t) := pk_mul 3 t
  have e6 : (1 : Int32) + 3 * nI t = nI (1 + 3 * t) := by rw [e3]; exact nI_add 1 _
  refine nm_r e6 (pk_lt (1 + 3 * t) L (fun z => ?_) (fun z => hp))
  refine xl_cell (1 + 3 * t) rfl (by omega) (by omega) (fun r0 => nm_e ?_)
  refine xl_cell (1 + 3 * t + 1) (nI_1 _) (by omega) (by omega) (fun r1 => ?_)
  refine xl_cell (1 + 3 * t + 2) (nI_add _ 2) (by omega) (by omega) (fun r2 => ?_)
  refine xl_opd (fun r3 => ?_)
  refine xl_opd (fun r4 => ?_)
  refine br_c (fun _ => ?_) (fun _ => br_c (fun _ => ?_) (fun _ => br_c (fun _ => ?_) (fun _ => br_c (fun _ => ?_) (fun _ => br_c (fun _ => ?_) (fun _ => br_c (fun _ => ?_) (fun _ => br_c (fun _ => ?_) (fun _ => ?_)))))))
  · refine xd_div hu (fun r u' h => ?_)
    obtain ⟨_, _, _, _, _, _, _, _, _, _, _, _, _, _, _, _, _, _, _, _, _, _, _, _, _, _, rfl⟩ := xd_tup h
    exact nm_r (nI_1 t) (HJ _ _ _ _ _ _ _ _ _ _ _ _ _ _ _ _ _ _ _ _ _ _ _ _ _ _ h)
  · refine xd_load hu (fun r u' h => ?_)
    obtain ⟨_, _, _, _, _, _, _, _, _, _, _, _, _, _, _, _, _, _, _, _, _, _, _, _, _, _, rfl⟩ := xd_tup h
    refine xd_start h (fun r u' h => ?_)
    obtain ⟨_, _, _, _, _, _, _, _, _, _, _, _, _, _, _, _, _, _, _, _, _, _, _, _, _, _, rfl⟩ := xd_tup h
    refine xd_stp h (fun r u' h => ?_)
    obtain ⟨_, _, _, _, _, _, _, _, _, _, _, _, _, _, _, _, _, _, _, _, _, _, _, _, _, _, rfl⟩ := xd_tup h
    exact nm_r (nI_1 t) (HJ _ _ _ _ _ _ _ _ _ _ _ _ _ _ _ _ _ _ _ _ _ _ _ _ _ _ h)
  · refine xd_load hu (fun r u' h => ?_)
    obtain ⟨_, _, _, _, _, _, _, _, _, _, _, _, _, _, _, _, _, _, _, _, _, _, _, _, _, _, rfl⟩ := xd_tup h
    exact nm_r (nI_1 t) (HJ _ _ _ _ _ _ _ _ _ _ _ _ _ _ _ _ _ _ _ _ _ _ _ _ _ _ h)
  · refine xd_start hu (fun r u' h => ?_)
    obtain ⟨_, _, _, _, _, _, _, _, _, _, _, _, _, _, _, _, _, _, _, _, _, _, _, _, _, _, rfl⟩ := xd_tup h
    exact nm_r (nI_1 t) (HJ _ _ _ _ _ _ _ _ _ _ _ _ _ _ _ _ _ _ _ _ _ _ _ _ _ _ h)
  · refine xd_stp hu (fun r u' h => ?_)
    obtain ⟨_, _, _, _, _, _, _, _, _, _, _, _, _, _, _, _, _, _, _, _, _, _, _, _, _, _, rfl⟩ := xd_tup h
    exact nm_r (nI_1 t) (HJ _ _ _ _ _ _ _ _ _ _ _ _ _ _ _ _ _ _ _ _ _ _ _ _ _ _ h)
  · refine xd_cancel hu (fun r u' h => ?_)
    obtain ⟨_, _, _, _, _, _, _, _, _, _, _, _, _, _, _, _, _, _, _, _, _, _, _, _, _, _, rfl⟩ := xd_tup h
    exact nm_r (nI_1 t) (HJ _ _ _ _ _ _ _ _ _ _ _ _ _ _ _ _ _ _ _ _ _ _ _ _ _ _ h)
  · refine xd_clear hu (fun u' h => ?_)
    obtain ⟨_, _, _, _, _, _, _, _, _, _, _, _, _, _, _, _, _, _, _, _, _, _, _, _, _, _, rfl⟩ := xd_tup h
    exact nm_r (nI_1 t) (HJ _ _ _ _ _ _ _ _ _ _ _ _ _ _ _ _ _ _ _ _ _ _ _ _ _ _ h)
  · refine xd_load hu (fun r u' h => ?_)
    obtain ⟨_, _, _, _, _, _, _, _, _, _, _, _, _, _, _, _, _, _, _, _, _, _, _, _, _, _, rfl⟩ := xd_tup h
    refine xd_start h (fun r u' h => ?_)
    obtain ⟨_, _, _, _, _, _, _, _, _, _, _, _, _, _, _, _, _, _, _, _, _, _, _, _, _, _, rfl⟩ := xd_tup h
    refine xd_stp h (fun r u' h => ?_)
    obtain ⟨_, _, _, _, _, _, _, _, _, _, _, _, _, _, _, _, _, _, _, _, _, _, _, _, _, _, rfl⟩ := xd_tup h
    exact nm_r (nI_1 t) (HJ _ _ _ _ _ _ _ _ _ _ _ _ _ _ _ _ _ _ _ _ _ _ _ _ _ _ h)
theorem xl_226 {x3 : Int32} {D c m : Nat} (hph : ph = 2 ∨ ph = 3) (hD : D < 65536) (hc : c ≤ 10) (hmc : m ≤ c) (hm : m ≤ 9) (hcy : ∀ i, i ≤ m → xd_cy D i pr dg qa qb) (K : wL_law_317 post L xs J x2 x3 kc ks cap pc dv ph (nI c) x w s d ro sm ca qp qm fq fr tb dg es qa qb pr ax av aq ar) :
    ∀ (k i f : Nat), i + k = m + 1 → k < f → wL_law_226 post L xs J x2 x3 (nI m) (nI D).toInt64 kc ks cap pc dv ph (nI c) x w s d ro sm ca qp qm fq fr tb dg es qa qb pr ax av aq ar f (nI i) := by
  intro k
  induction k with
  | zero =>
    intro i f hi hf
    obtain ⟨f, rfl⟩ : ∃ f', f = f' + 1 := ⟨f - 1, by omega⟩
    exact br_t (nI_lt (by omega) (by omega)) K
  | succ k ih =>
    intro i f hi hf
    obtain ⟨f, rfl⟩ : ∃ f', f = f' + 1 := ⟨f - 1, by omega⟩
    have hn := ih (i + 1) f (by omega) (by omega)
    obtain ⟨c1, c2, c3, c4, c5, c6⟩ := hcy i (by omega)
    refine br_f (nI_nlt (by omega) (by omega)) (xs_pr hph hc (by omega) (by omega) (xl_bo hD c1 c2 (br_f (by decide) ?_)))
    refine xs_t2 hph hc (by omega) (by omega) ?_
    refine xs_t3 hph hc (by omega) (by omega) (br_t ?_ ?_)
    · apply Int64.toInt_inj.mp
      rw [Int64.toInt_sub, Int32.toInt_toInt64, Int32.toInt_toInt64, c5, show (1 : Int64).toInt = 1 from by decide +kernel]
      exact (Int.bmod_eq_of_le (by omega) (by omega)).symm
    · refine pk_lt i 1 (fun z => nm_r (nI_1 i) hn) (fun z => ?_)
      obtain ⟨g1, g2⟩ := c6 z
      refine xs_t0 hph hc (by omega) (by omega) z (br_f ?_ (br_t ?_ (nm_r (nI_1 i) hn)))
      · rw [Int32.lt_iff_toInt_lt, show (-2 : Int32).toInt = -2 from by decide]
        omega
      · rw [Int32.le_iff_toInt_le, show (2 : Int32).toInt = 2 from by decide]
        omega
theorem xl_192 {x3 : Int32} {D c : Nat} (hph : ph = 2 ∨ ph = 3) (hD : D < 65536) (hc : c ≤ 10) (hcy : ∀ i, i ≤ c → i ≤ 9 → xd_cy D i pr dg qa qb) (K : wL_law_317 post L xs J x2 x3 kc ks cap pc dv ph (nI c) x w s (nI D) ro sm ca qp qm fq fr tb dg es qa qb pr ax av aq ar) : wL_law_192 post L xs J x2 x3 kc ks cap pc dv ph (nI c) x w s (nI D) ro sm ca qp qm fq fr tb dg es qa qb pr ax av aq ar := by
  have T : ∀ m, m ≤ c → m ≤ 9 → wL_law_213 post L xs J x2 x3 (nI m) kc ks cap pc dv ph (nI c) x w s (nI D) ro sm ca qp qm fq fr tb dg es qa qb pr ax av aq ar := by
    intro m h1 h2
    unfold wL_law_213
    refine xs_5 hph ?_
    exact ⟨m + 2, xl_226 hph hD hc h1 h2 (fun i hi => hcy i (by omega) (by omega)) K (m + 1) 0 (m + 2) (by omega) (by omega)⟩
  unfold wL_law_192
  refine xs_1 (pk_le c 9 (fun z => T c (by omega) z) (fun z => T 9 (by omega) (by omega)))
theorem xl_104 {x3 x4 : Int32} {n : Nat} (hn : n ≤ 16) (hR : ∀ k, k < n → xd_rc k ax av aq ar) (K : wL_law_180 post L xs J x2 x3 x4 kc ks cap (nI n) dv ph cx x w s d ro sm ca qp qm fq fr tb dg es qa qb pr ax av aq ar) :
    ∀ (k i f : Nat), i + k = n → k < f → wL_law_104 post L xs J x2 x3 x4 (nI n) kc ks cap (nI n) dv ph cx x w s d ro sm ca qp qm fq fr tb dg es qa qb pr ax av aq ar f (nI i) := by
  intro k
  induction k with
  | zero =>
    intro i f hi hf
    obtain ⟨f, rfl⟩ : ∃ f', f = f' + 1 := ⟨f - 1, by omega⟩
    exact br_t (nI_le (by omega) (by omega)) K
  | succ k ih =>
    intro i f hi hf
    obtain ⟨f, rfl⟩ : ∃ f', f = f' + 1 := ⟨f - 1, by omega⟩
    obtain ⟨a, b, ha, hb, hb2, e1, e2, e3, e4⟩ := hR i (by omega)
    refine br_f (nI_ge (by omega) (by omega)) (br_f (nI_ge (b := 16) (by omega) (by decide)) ?_)
    refine xs_h0 hn (by omega) e1 ?_
    refine xs_h1 hn (by omega) e2 ?_
    refine xs_h2 hn (by omega) e3 ?_
    refine xs_h3 hn (by omega) e4 ?_
    exact xl_dv ha hb hb2 (br_f (by decide) (nm_r (nI_1 i) (ih (i + 1) f (by omega) (by omega))))
theorem xl_turn {t c n : Nat} (hL : L ≤ 260) (ht : t ≤ 100) (hp : post 1) (h1 : 1 ≤ c) (hc : c ≤ 16) (hn : n ≤ c) (hR : ∀ k, k < n → xd_rc k ax av aq ar) (hP : xd_Ph ph cx x w s d ro qp qm fq fr sm ca dg qa qb pr) (HJ : xl_JJ J t) : wL_law_93 post L xs J x2 (nI t) ph kc ks (nI c) (nI n) dv ph cx x w s d ro sm ca qp qm fq fr xd_tab dg es qa qb pr ax av aq ar := by
  have K : wL_law_317 post L xs J x2 (nI t) kc ks (nI c) (nI n) dv ph cx x w s d ro sm ca qp qm fq fr xd_tab dg es qa qb pr ax av aq ar := xl_317 hL ht hp ⟨c, n, dv, ph, cx, x, w, s, d, ro, qp, qm, fq, fr, sm, ca, dg, es, qa, qb, ax, av, aq, ar, pr, rfl, h1, hc, hn, hR, hP⟩ HJ
  have K2 : wL_law_180 post L xs J x2 (nI t) ph kc ks (nI c) (nI n) dv ph cx x w s d ro sm ca qp qm fq fr xd_tab dg es qa qb pr ax av aq ar := by
    rcases hP with ⟨rfl, rfl⟩ | ⟨rfl, rfl, hO⟩ | ⟨rfl, a, b, q, j, hO, hj, rfl, hI, hpr, hcy⟩ | ⟨rfl, a, b, q, hO, rfl, e1, e2, hcy⟩
    · exact br_f (by decide) (br_f (by decide) K)
    · exact br_f (by decide) (br_f (by decide) K)
    · obtain ⟨o1, o2, o3, o4, o5, o6, rfl, rfl, rfl, rfl, rfl⟩ := hO
      exact br_t rfl (xl_192 (Or.inl rfl) o6 (by omega) (fun i h _ => hcy i h) K)
    · obtain ⟨o1, o2, o3, o4, o5, o6, rfl, rfl, rfl, rfl, rfl⟩ := hO
      exact br_f (by decide) (br_t rfl (xl_192 (Or.inr rfl) o6 (by omega) (fun i _ h => hcy i h) K))
  unfold wL_law_93
  refine xs_9 ?_
  exact ⟨n + 1, xl_104 (by omega) hR K2 n 0 (n + 1) (by omega) (by omega)⟩
theorem xl_25 {R : Nat} (hL : L ≤ 260) (hR : R ≤ 100) (hp : post 1) :
    ∀ (m t f : Nat) (cap pc dv ph cx x w s d ro qp qm fq fr : Int32) (sm ca : Int64) (tb dg es qa qb ax av aq ar : Nat → Int32) (pr : Nat → Int64), t + m = R → m < f → xd_Ok (cap, pc, dv, ph, cx, x, w, s, d, ro, sm, ca, qp, qm, fq, fr, tb, dg, es, qa, qb, pr, ax, av, aq, ar) → wL_law_25 post L xs (nI R) kc ks f (nI t) cap pc dv ph cx x w s d ro sm ca qp qm fq fr tb dg es qa qb pr ax av aq ar := by
  intro m
  induction m with
  | zero =>
    intro t f cap pc dv ph cx x w s d ro qp qm fq fr sm ca tb dg es qa qb ax av aq ar pr ht hf hu
    obtain ⟨f, rfl⟩ : ∃ f', f = f' + 1 := ⟨f - 1, by omega⟩
    exact br_t (nI_le (by omega) (by omega)) hp
  | succ m ih =>
    intro t f cap pc dv ph cx x w s d ro qp qm fq fr sm ca tb dg es qa qb ax av aq ar pr ht hf hu
    obtain ⟨f, rfl⟩ : ∃ f', f = f' + 1 := ⟨f - 1, by omega⟩
    have HJ : xl_JJ (wL_law_25 post L xs (nI R) kc ks f) t := fun cap pc dv ph cx x w s d ro qp qm fq fr sm ca tb dg es qa qb ax av aq ar pr h => ih (t + 1) f cap pc dv ph cx x w s d ro qp qm fq fr sm ca tb dg es qa qb ax av aq ar pr (by omega) (by omega) h
    obtain ⟨c, n, dv', ph', cx', x', w', s', d', ro', qp', qm', fq', fr', sm', ca', dg', es', qa', qb', ax', av', aq', ar', pr', e, h1, hc, hn, hR', hP⟩ := hu
    cases e
    have hP2 := hP
    refine br_f (nI_ge (by omega) (by omega)) (xs_0 ?_)
    rcases hP with ⟨rfl, rfl⟩ | ⟨rfl, rfl, hO⟩ | ⟨rfl, hT⟩ | ⟨rfl, a, b, q, hO, rfl, rfl, rfl, hcy⟩
    · exact br_f (by decide) (xl_turn hL (by omega) hp h1 hc hn hR' hP2 HJ)
    · exact br_f (by decide) (xl_turn hL (by omega) hp h1 hc hn hR' hP2 HJ)
    · exact br_f (by decide) (xl_turn hL (by omega) hp h1 hc hn hR' hP2 HJ)
    · obtain ⟨o1, o2, o3, o4, o5, o6, rfl, rfl, rfl, rfl, rfl⟩ := hO
      refine br_t rfl (xs_2 ?_)
      refine xs_3 ?_
      refine xs_7 ?_
      refine xs_8 ?_
      exact xl_dv o1 o2 o3 (br_f (by decide) (xl_turn hL (by omega) hp h1 hc hn hR' hP2 HJ))
end XDM
