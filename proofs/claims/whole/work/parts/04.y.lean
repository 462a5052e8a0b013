section SDY
variable {cap pc dv ph cy x w s d ro qp qm fq fr : Int32} {sm ca : Int64} {tb dg es qa qb yx yv yq yr : Nat → Int32} {pr : Nat → Int64}
/-! the reference, method by method -/
theorem ya_startL {post : Int32 → SY → Prop} {b k : Nat} (hk : k ≤ 15) (h1 : 32768 ≤ b * 2 ^ k) (h2 : b * 2 ^ k < 65536) (hm : ∀ t, t < k → b * 2 ^ t < 32768)
    (hp : post 1 (cap, 2, x, nI b, 0, nI k, nI (b * 2 ^ k), nI (b * 2 ^ k / 4096 - 8), fq, fr, pc, dv, x.toInt64 <<< ((nI k).toInt64 &&& 63), 0, 0, -1, tb, dg, es, upd qa 0 0, upd qb 0 (-1), vp_updL pr 0 (x.toInt64 <<< ((nI k).toInt64 &&& 63)), yx, yv, yq, yr)) :
    ∀ (m p n : Nat), p + m = k → m < n → wY_start_15 post cap ph x (nI b) cy d ro fq fr pc dv sm ca qp qm tb dg es qa qb pr yx yv yq yr n (nI p) := by
  have hE : wY_start_51 post cap ph x (nI b) cy (nI k) d ro fq fr pc dv sm ca qp qm tb dg es qa qb pr yx yv yq yr := nm_r (sd_shl (by omega) (by omega)) (nm_e (nm_r (sd_row h1 h2) (nm_e (nm_e (nm_e hp)))))
  intro m
  induction m with
  | zero =>
    intro p n hpk hn
    obtain ⟨n, rfl⟩ : ∃ n', n = n' + 1 := ⟨n - 1, by omega⟩
    have e : p = k := by omega
    subst e
    refine br_f (nI_ge (b := 16) (by omega) (by decide)) (br_t ?_ hE)
    rw [sd_shl (by omega) (by omega)]
    exact nI_le h1 (by omega)
  | succ m ih =>
    intro p n hpk hn
    obtain ⟨n, rfl⟩ : ∃ n', n = n' + 1 := ⟨n - 1, by omega⟩
    have h3 := hm p (by omega)
    refine br_f (nI_ge (b := 16) (by omega) (by decide)) (br_f ?_ (nm_r (nI_1 p) (ih (p + 1) n (by omega) (by omega))))
    rw [sd_shl (by omega) (by omega)]
    exact nI_ge (b := 32768) h3 (by decide)
theorem ya_start {post : Int32 → SY → Prop} {b k : Nat} (hk : k ≤ 15) (h1 : 32768 ≤ b * 2 ^ k) (h2 : b * 2 ^ k < 65536) (hm : ∀ t, t < k → b * 2 ^ t < 32768)
    (hp : post 1 (cap, 2, x, nI b, 0, nI k, nI (b * 2 ^ k), nI (b * 2 ^ k / 4096 - 8), fq, fr, pc, dv, x.toInt64 <<< ((nI k).toInt64 &&& 63), 0, 0, -1, tb, dg, es, upd qa 0 0, upd qb 0 (-1), vp_updL pr 0 (x.toInt64 <<< ((nI k).toInt64 &&& 63)), yx, yv, yq, yr)) : wpY_start post (cap, 1, x, nI b, cy, s, d, ro, fq, fr, pc, dv, sm, ca, qp, qm, tb, dg, es, qa, qb, pr, yx, yv, yq, yr) :=
  br_t rfl ⟨k + 1, ya_startL hk h1 h2 hm hp k 0 (k + 1) (by omega) (by omega)⟩
theorem ya_247 {post : SY → Prop} {j : Nat} {T : Int64} (hj : j < 10) (hT : sm + ca = T) (hp : post (cap, ph, x, w, nI j, s, d, ro, fq, fr, pc, dv, sm, ca, qp, qm, tb, dg, es, upd qa j qp, upd qb j qm, vp_updL pr j T, yx, yv, yq, yr)) : wY_runCycle_247 post (nI j) cap ph x w cy s d ro fq fr pc dv sm ca qp qm tb dg es qa qb pr yx yv yq yr :=
  ⟨vp_in_nI hj (by decide), nm_r (by rw [nI_clamp (by omega)]) ⟨vp_in_nI hj (by decide), nm_r (by rw [nI_clamp (by omega)]) ⟨vp_in_nI hj (by decide), nm_r (by rw [nI_clamp (by omega), hT]) hp⟩⟩⟩
theorem ya_end {post : SY → Prop} {j n : Nat} {e G P M : Int32} {S C T : Int64} (hj : j < 10) (hS : xd_wS sm ca G d = S) (hC : xd_wC sm ca G d = C) (hP : xd_nP G qp qm = P) (hM : xd_nM G qp qm = M) (hT : S + C = T)
    (hp : post (cap, ph, x, w, nI j, s, d, ro, fq, fr, pc, dv, S, C, P, M, tb, upd dg j G, es, upd qa j P, upd qb j M, vp_updL pr j T, yx, yv, yq, yr)) : wY_runCycle_79 post (nI j) (sm <<< ((2 : Int32).toInt64 &&& 63)) (ca <<< ((2 : Int32).toInt64 &&& 63)) e cap ph x w cy s d ro fq fr pc dv sm ca qp qm tb dg es qa qb pr yx yv yq yr (n + 1) G (-1) := by
  subst hS hC
  unfold xd_nP at hP
  unfold xd_nM at hM
  refine br_t (by decide) ⟨vp_in_nI hj (by decide), nm_r (e' := upd dg j G) (by rw [nI_clamp (by omega)]) (nm_e (nm_e (nm_e (br_c (fun h => ?_) (fun h => ?_)))))⟩
  · rw [if_neg (show ¬ (0 : Int32) ≤ G from Int32.not_le.mpr h)] at hP
    refine nm_r hP (br_c (fun h2 => ?_) (fun h2 => ?_))
    · rw [if_neg (show ¬ (0 : Int32) < G from Int32.not_lt.mpr h2)] at hM
      exact nm_r hM (ya_247 hj hT hp)
    · rw [if_pos (show (0 : Int32) < G from Int32.not_le.mp h2)] at hM
      exact nm_r hM (ya_247 hj hT hp)
  · rw [if_pos (show (0 : Int32) ≤ G from Int32.not_lt.mp h)] at hP
    refine nm_r hP (br_c (fun h2 => ?_) (fun h2 => ?_))
    · rw [if_neg (show ¬ (0 : Int32) < G from Int32.not_lt.mpr h2)] at hM
      exact nm_r hM (ya_247 hj hT hp)
    · rw [if_pos (show (0 : Int32) < G from Int32.not_le.mp h2)] at hM
      exact nm_r hM (ya_247 hj hT hp)
theorem sd_ix {r i : Nat} : nI r * 4 + nI i = nI (4 * r + i) := by
  have e : nI r * 4 = nI (r * 4) := pk_mul r 4
  rw [e, nI_add, Nat.mul_comm]
theorem ya_s {post : SY → Prop} {x1 e g g' i' : Int32} {x2 x4 : Int64} {r i n : Nat} (hr : r < 8) (hi : i < 4) (hg : (if tb (4 * r + i) ≤ e then 2 - nI i else g) = g') (h' : nI i + (-1) = i') (H : wY_runCycle_79 post x1 x2 x4 e cap ph x w cy s d (nI r) fq fr pc dv sm ca qp qm tb dg es qa qb pr yx yv yq yr n g' i') : wY_runCycle_79 post x1 x2 x4 e cap ph x w cy s d (nI r) fq fr pc dv sm ca qp qm tb dg es qa qb pr yx yv yq yr (n + 1) g (nI i) := by
  refine br_f (nI_pos (by omega)) ?_
  rw [sd_ix, nI_clamp (by omega)]
  refine ⟨vp_in_nI (by omega) (by decide), br_c (fun h => ?_) (fun h => ?_)⟩
  · rw [if_neg (Int32.not_le.mpr h)] at hg
    subst hg
    exact nm_r h' H
  · rw [if_pos (Int32.not_lt.mp h)] at hg
    exact nm_r hg (nm_r h' H)
theorem ya_dig {post : SY → Prop} {x1 e : Int32} {x2 x4 : Int64} {r n : Nat} (hr : r < 8) (H : wY_runCycle_79 post x1 x2 x4 e cap ph x w cy s d (nI r) fq fr pc dv sm ca qp qm tb dg es qa qb pr yx yv yq yr n (xd_dig tb r e) (-1)) : wY_runCycle_79 post x1 x2 x4 e cap ph x w cy s d (nI r) fq fr pc dv sm ca qp qm tb dg es qa qb pr yx yv yq yr (n + 4) (-2) 3 := by
  refine ya_s hr (i := 3) (by decide) rfl (i' := nI 2) (by decide) ?_
  refine ya_s hr (i := 2) (by decide) rfl (i' := nI 1) (by decide) ?_
  refine ya_s hr (i := 1) (by decide) rfl (i' := nI 0) (by decide) ?_
  exact ya_s hr (i := 0) (by decide) rfl (i' := -1) (by decide) H
theorem ya_64 {post : SY → Prop} {r j : Nat} {E G P M : Int32} {S C T : Int64} (hr : r < 8) (hj : j < 10) (hG : xd_dig tb r E = G) (hS : xd_wS sm ca G d = S) (hC : xd_wC sm ca G d = C) (hP : xd_nP G qp qm = P) (hM : xd_nM G qp qm = M) (hT : S + C = T)
    (hp : post (cap, ph, x, w, nI j, s, d, nI r, fq, fr, pc, dv, S, C, P, M, tb, upd dg j G, upd es j E, upd qa j P, upd qb j M, vp_updL pr j T, yx, yv, yq, yr)) : wY_runCycle_64 post (nI j) (sm <<< ((2 : Int32).toInt64 &&& 63)) (ca <<< ((2 : Int32).toInt64 &&& 63)) E cap ph x w cy s d (nI r) fq fr pc dv sm ca qp qm tb dg es qa qb pr yx yv yq yr := by
  subst hG
  exact ⟨vp_in_nI hj (by decide), nm_r (e' := upd es j E) (by rw [nI_clamp (by omega)]) ⟨5, ya_dig hr (ya_end hj hS hC hP hM hT hp)⟩⟩
theorem ya_iter {post : SY → Prop} {r c : Nat} {E G P M : Int32} {S C T : Int64} (hr : r < 8) (hc : c < 9) (hE : xd_est sm ca = E) (hG : xd_dig tb r E = G) (hS : xd_wS sm ca G d = S) (hC : xd_wC sm ca G d = C) (hP : xd_nP G qp qm = P) (hM : xd_nM G qp qm = M) (hT : S + C = T)
    (hp : post (cap, ph, x, w, nI (c + 1), s, d, nI r, fq, fr, pc, dv, S, C, P, M, tb, upd dg (c + 1) G, upd es (c + 1) E, upd qa (c + 1) P, upd qb (c + 1) M, vp_updL pr (c + 1) T, yx, yv, yq, yr)) : wpY_runCycle post (cap, ph, x, w, nI c, s, d, nI r, fq, fr, pc, dv, sm, ca, qp, qm, tb, dg, es, qa, qb, pr, yx, yv, yq, yr) := by
  unfold xd_est at hE
  refine nm_r (nI_1 c) (br_f (nI_nlt (b := c + 1) (a := 9) (by omega) (by decide)) (nm_e (nm_e (nm_e (nm_e (br_c (fun h => ?_) (fun h => ?_)))))))
  · rw [if_neg (Int32.not_le.mpr h)] at hE
    subst hE
    exact ya_64 hr (by omega) hG hS hC hP hM hT hp
  · rw [if_pos (Int32.not_lt.mp h)] at hE
    exact nm_r hE (ya_64 hr (by omega) hG hS hC hP hM hT hp)
/-! the history -/
theorem ya_pushL {post : SY → Prop} {e : Nat} (he : e ≤ 15) (hp : post (cap, ph, x, w, cy, s, d, ro, fq, fr, nI (e + 1), dv, sm, ca, qp, qm, tb, dg, es, qa, qb, pr, upd (sd_sh yx 0 e) 0 x, upd (sd_sh yv 0 e) 0 w, upd (sd_sh yq 0 e) 0 fq, upd (sd_sh yr 0 e) 0 fr)) :
    ∀ (k n : Nat), k ≤ e → k < n → wY_pushHistory_24 post (nI e) cap ph x w cy s d ro fq fr pc dv sm ca qp qm n (nI k) tb dg es qa qb pr (sd_sh yx k e) (sd_sh yv k e) (sd_sh yq k e) (sd_sh yr k e) := by
  intro k
  induction k with
  | zero =>
    intro n hk hn
    obtain ⟨n, rfl⟩ : ∃ n', n = n' + 1 := ⟨n - 1, by omega⟩
    exact br_t (by decide) (nm_e (nm_e (nm_e (nm_e (nm_r (nI_1 e) hp)))))
  | succ k ih =>
    intro n hk hn
    obtain ⟨n, rfl⟩ : ∃ n', n = n' + 1 := ⟨n - 1, by omega⟩
    have i1 : vp_in (nI (k + 1) - 1) 16 := sd_in1 (by omega)
    have i2 : vp_in (nI (k + 1)) 16 := vp_in_nI (by omega) (by decide)
    exact br_f (nI_nlt (b := 1) (by omega) (by omega)) ⟨i1, i2, nm_r (sd_shN hk (by omega)) ⟨i1, i2, nm_r (sd_shN hk (by omega)) ⟨i1, i2, nm_r (sd_shN hk (by omega)) ⟨i1, i2, nm_r (sd_shN hk (by omega)) (nm_r (pk_m1 k) (ih n (by omega) (by omega)))⟩⟩⟩⟩
def sd_mm (c m : Nat) : Nat := if m ≤ c - 1 then m else c - 1
theorem ya_push {post : SY → Prop} {c m : Nat} (h1 : 1 ≤ c) (hc : c ≤ 16) (hm : m ≤ 16) (hp : post (nI c, ph, x, w, cy, s, d, ro, fq, fr, nI (sd_mm c m + 1), dv, sm, ca, qp, qm, tb, dg, es, qa, qb, pr, upd (sd_sh yx 0 (sd_mm c m)) 0 x, upd (sd_sh yv 0 (sd_mm c m)) 0 w, upd (sd_sh yq 0 (sd_mm c m)) 0 fq, upd (sd_sh yr 0 (sd_mm c m)) 0 fr)) : wpY_pushHistory post (nI c, ph, x, w, cy, s, d, ro, fq, fr, nI m, dv, sm, ca, qp, qm, tb, dg, es, qa, qb, pr, yx, yv, yq, yr) := by
  have ec : nI c - 1 = nI (c - 1) := pk_sub (b := 1) h1
  have h := ya_pushL (cap := nI c) (pc := nI m) (e := sd_mm c m) (by unfold sd_mm; split <;> omega) hp (sd_mm c m) (sd_mm c m + 1) (Nat.le_refl _) (by omega)
  rw [sd_she, sd_she, sd_she, sd_she] at h
  refine pk_le m (c - 1) (fun z => ?_) (fun z => nm_r ec ?_) rfl ec
  · have e : sd_mm c m = m := if_pos z
    rw [e] at h
    exact ⟨_, h⟩
  · have e : sd_mm c m = c - 1 := if_neg (by omega)
    rw [e] at h
    exact ⟨_, h⟩
theorem sd_i32 (a : Int64) (b : Int32) : (a + b.toInt64).toInt32 = a.toInt32 + b := by
  rw [Int64.toInt32_add, Int32.toInt32_toInt64]
theorem ya_347 {post : SY → Prop} {c m : Nat} {z R : Int32} (h1 : 1 ≤ c) (hc : c ≤ 16) (hm : m ≤ 16) (hR : z >>> (s &&& 31) = R)
    (hp : post (nI c, 3, x, w, nI 10, s, d, ro, fq, R, nI (sd_mm c m + 1), dv + 1, sm, ca, qp, qm, tb, dg, es, qa, qb, pr, upd (sd_sh yx 0 (sd_mm c m)) 0 x, upd (sd_sh yv 0 (sd_mm c m)) 0 w, upd (sd_sh yq 0 (sd_mm c m)) 0 fq, upd (sd_sh yr 0 (sd_mm c m)) 0 R)) : wY_runCycle_347 post z (nI c) ph x w cy s d ro fq fr (nI m) dv sm ca qp qm tb dg es qa qb pr yx yv yq yr :=
  nm_r hR (ya_push h1 hc hm (nm_e hp))
theorem ya_corr {post : SY → Prop} {c m : Nat} {F R : Int32} (h1 : 1 ≤ c) (hc : c ≤ 16) (hm : m ≤ 16) (hF : (if pr 9 < 0 then qb 9 else qa 9) = F) (hR : (if pr 9 < 0 then (pr 9 >>> ((18 : Int32).toInt64 &&& 63)).toInt32 + d else (pr 9 >>> ((18 : Int32).toInt64 &&& 63)).toInt32) >>> (s &&& 31) = R)
    (hp : post (nI c, 3, x, w, nI 10, s, d, ro, F, R, nI (sd_mm c m + 1), dv + 1, sm, ca, qp, qm, tb, dg, es, qa, qb, pr, upd (sd_sh yx 0 (sd_mm c m)) 0 x, upd (sd_sh yv 0 (sd_mm c m)) 0 w, upd (sd_sh yq 0 (sd_mm c m)) 0 F, upd (sd_sh yr 0 (sd_mm c m)) 0 R)) : wpY_runCycle post (nI c, ph, x, w, nI 9, s, d, ro, fq, fr, nI m, dv, sm, ca, qp, qm, tb, dg, es, qa, qb, pr, yx, yv, yq, yr) := by
  refine nm_r (nI_1 9) (br_t (by decide) (nm_e (br_c (fun h => ?_) (fun h => ?_))))
  · have h' : ¬ pr 9 < 0 := Int64.not_lt.mpr h
    rw [if_neg h'] at hF hR
    subst hF
    exact nm_e (nm_e (ya_347 h1 hc hm hR hp))
  · have h' : pr 9 < 0 := Int64.not_le.mp h
    rw [if_pos h'] at hF hR
    subst hF
    exact nm_e (nm_r (sd_i32 _ _) (ya_347 h1 hc hm hR hp))
/-! the loop of cycles -/
theorem ya_r0 {post : Int32 → SY → Prop} {l i n : Nat} (h : l ≤ i) (hi : i < 2 ^ 31) (hp : post (nI l) (cap, ph, x, w, cy, s, d, ro, fq, fr, pc, dv, sm, ca, qp, qm, tb, dg, es, qa, qb, pr, yx, yv, yq, yr)) : wY_step_34 post (nI l) (n + 1) (nI i) cap ph x w cy s d ro fq fr pc dv sm ca qp qm tb dg es qa qb pr yx yv yq yr := br_t (nI_le h hi) hp
theorem ya_r1 {post : Int32 → SY → Prop} {l i n c r : Nat} {E G P M : Int32} {S C T : Int64} (h : i < l) (hl : l ≤ 10) (hc : c < 9) (hr : r < 8) (hE : xd_est sm ca = E) (hG : xd_dig tb r E = G) (hS : xd_wS sm ca G d = S) (hC : xd_wC sm ca G d = C) (hP : xd_nP G qp qm = P) (hM : xd_nM G qp qm = M) (hT : S + C = T)
    (hp : wY_step_34 post (nI l) n (nI (i + 1)) cap ph x w (nI (c + 1)) s d (nI r) fq fr pc dv S C P M tb (upd dg (c + 1) G) (upd es (c + 1) E) (upd qa (c + 1) P) (upd qb (c + 1) M) (vp_updL pr (c + 1) T) yx yv yq yr) : wY_step_34 post (nI l) (n + 1) (nI i) cap ph x w (nI c) s d (nI r) fq fr pc dv sm ca qp qm tb dg es qa qb pr yx yv yq yr :=
  br_f (nI_ge h (by omega)) (ya_iter hr hc hE hG hS hC hP hM hT (nm_r (nI_1 i) hp))
theorem ya_r2 {post : Int32 → SY → Prop} {l i n c m : Nat} {F R : Int32} (h : i < l) (hl : l ≤ 10) (h1 : 1 ≤ c) (hc : c ≤ 16) (hm : m ≤ 16) (hF : (if pr 9 < 0 then qb 9 else qa 9) = F) (hR : (if pr 9 < 0 then (pr 9 >>> ((18 : Int32).toInt64 &&& 63)).toInt32 + d else (pr 9 >>> ((18 : Int32).toInt64 &&& 63)).toInt32) >>> (s &&& 31) = R)
    (hp : wY_step_34 post (nI l) n (nI (i + 1)) (nI c) 3 x w (nI 10) s d ro F R (nI (sd_mm c m + 1)) (dv + 1) sm ca qp qm tb dg es qa qb pr (upd (sd_sh yx 0 (sd_mm c m)) 0 x) (upd (sd_sh yv 0 (sd_mm c m)) 0 w) (upd (sd_sh yq 0 (sd_mm c m)) 0 F) (upd (sd_sh yr 0 (sd_mm c m)) 0 R)) : wY_step_34 post (nI l) (n + 1) (nI i) (nI c) ph x w (nI 9) s d ro fq fr (nI m) dv sm ca qp qm tb dg es qa qb pr yx yv yq yr :=
  br_f (nI_ge h (by omega)) (ya_corr h1 hc hm hF hR (nm_r (nI_1 i) hp))
end SDY
