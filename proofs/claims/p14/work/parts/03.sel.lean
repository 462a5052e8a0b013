section XDB
/-! the selection: row by row -/
theorem xd_sel0 {D P E q : Int} (h1 : 32768 ≤ D) (h2 : D < 36864) (l : -(524288 * D) ≤ 3 * P) (u : 3 * P ≤ 524288 * D) (e1 : 1073741824 * E ≤ 4 * P) (e2 : 4 * P < 1073741824 * (E + 2)) (hq : q = if (12 : Int) ≤ E then 2 else if (4 : Int) ≤ E then 1 else if (-4 : Int) ≤ E then 0 else if (-13 : Int) ≤ E then -1 else -2) : -(524288 * D) ≤ 3 * (4 * P + 262144 * (-q * D)) ∧ 3 * (4 * P + 262144 * (-q * D)) ≤ 524288 * D ∧ -2 ≤ q ∧ q ≤ 2 := by
  split at hq
  · subst hq; omega
  · split at hq
    · subst hq; omega
    · split at hq
      · subst hq; omega
      · split at hq
        · subst hq; omega
        · subst hq; omega
theorem xd_sel1 {D P E q : Int} (h1 : 36864 ≤ D) (h2 : D < 40960) (l : -(524288 * D) ≤ 3 * P) (u : 3 * P ≤ 524288 * D) (e1 : 1073741824 * E ≤ 4 * P) (e2 : 4 * P < 1073741824 * (E + 2)) (hq : q = if (14 : Int) ≤ E then 2 else if (5 : Int) ≤ E then 1 else if (-5 : Int) ≤ E then 0 else if (-15 : Int) ≤ E then -1 else -2) : -(524288 * D) ≤ 3 * (4 * P + 262144 * (-q * D)) ∧ 3 * (4 * P + 262144 * (-q * D)) ≤ 524288 * D ∧ -2 ≤ q ∧ q ≤ 2 := by
  split at hq
  · subst hq; omega
  · split at hq
    · subst hq; omega
    · split at hq
      · subst hq; omega
      · split at hq
        · subst hq; omega
        · subst hq; omega
theorem xd_sel2 {D P E q : Int} (h1 : 40960 ≤ D) (h2 : D < 45056) (l : -(524288 * D) ≤ 3 * P) (u : 3 * P ≤ 524288 * D) (e1 : 1073741824 * E ≤ 4 * P) (e2 : 4 * P < 1073741824 * (E + 2)) (hq : q = if (15 : Int) ≤ E then 2 else if (5 : Int) ≤ E then 1 else if (-5 : Int) ≤ E then 0 else if (-16 : Int) ≤ E then -1 else -2) : -(524288 * D) ≤ 3 * (4 * P + 262144 * (-q * D)) ∧ 3 * (4 * P + 262144 * (-q * D)) ≤ 524288 * D ∧ -2 ≤ q ∧ q ≤ 2 := by
  split at hq
  · subst hq; omega
  · split at hq
    · subst hq; omega
    · split at hq
      · subst hq; omega
      · split at hq
        · subst hq; omega
        · subst hq; omega
theorem xd_sel3 {D P E q : Int} (h1 : 45056 ≤ D) (h2 : D < 49152) (l : -(524288 * D) ≤ 3 * P) (u : 3 * P ≤ 524288 * D) (e1 : 1073741824 * E ≤ 4 * P) (e2 : 4 * P < 1073741824 * (E + 2)) (hq : q = if (16 : Int) ≤ E then 2 else if (6 : Int) ≤ E then 1 else if (-6 : Int) ≤ E then 0 else if (-17 : Int) ≤ E then -1 else -2) : -(524288 * D) ≤ 3 * (4 * P + 262144 * (-q * D)) ∧ 3 * (4 * P + 262144 * (-q * D)) ≤ 524288 * D ∧ -2 ≤ q ∧ q ≤ 2 := by
  split at hq
  · subst hq; omega
  · split at hq
    · subst hq; omega
    · split at hq
      · subst hq; omega
      · split at hq
        · subst hq; omega
        · subst hq; omega
theorem xd_sel4 {D P E q : Int} (h1 : 49152 ≤ D) (h2 : D < 53248) (l : -(524288 * D) ≤ 3 * P) (u : 3 * P ≤ 524288 * D) (e1 : 1073741824 * E ≤ 4 * P) (e2 : 4 * P < 1073741824 * (E + 2)) (hq : q = if (18 : Int) ≤ E then 2 else if (6 : Int) ≤ E then 1 else if (-6 : Int) ≤ E then 0 else if (-19 : Int) ≤ E then -1 else -2) : -(524288 * D) ≤ 3 * (4 * P + 262144 * (-q * D)) ∧ 3 * (4 * P + 262144 * (-q * D)) ≤ 524288 * D ∧ -2 ≤ q ∧ q ≤ 2 := by
  split at hq
  · subst hq; omega
  · split at hq
    · subst hq; omega
    · split at hq
      · subst hq; omega
      · split at hq
        · subst hq; omega
        · subst hq; omega
theorem xd_sel5 {D P E q : Int} (h1 : 53248 ≤ D) (h2 : D < 57344) (l : -(524288 * D) ≤ 3 * P) (u : 3 * P ≤ 524288 * D) (e1 : 1073741824 * E ≤ 4 * P) (e2 : 4 * P < 1073741824 * (E + 2)) (hq : q = if (20 : Int) ≤ E then 2 else if (7 : Int) ≤ E then 1 else if (-7 : Int) ≤ E then 0 else if (-20 : Int) ≤ E then -1 else -2) : -(524288 * D) ≤ 3 * (4 * P + 262144 * (-q * D)) ∧ 3 * (4 * P + 262144 * (-q * D)) ≤ 524288 * D ∧ -2 ≤ q ∧ q ≤ 2 := by
  split at hq
  · subst hq; omega
  · split at hq
    · subst hq; omega
    · split at hq
      · subst hq; omega
      · split at hq
        · subst hq; omega
        · subst hq; omega
theorem xd_sel6 {D P E q : Int} (h1 : 57344 ≤ D) (h2 : D < 61440) (l : -(524288 * D) ≤ 3 * P) (u : 3 * P ≤ 524288 * D) (e1 : 1073741824 * E ≤ 4 * P) (e2 : 4 * P < 1073741824 * (E + 2)) (hq : q = if (21 : Int) ≤ E then 2 else if (7 : Int) ≤ E then 1 else if (-7 : Int) ≤ E then 0 else if (-22 : Int) ≤ E then -1 else -2) : -(524288 * D) ≤ 3 * (4 * P + 262144 * (-q * D)) ∧ 3 * (4 * P + 262144 * (-q * D)) ≤ 524288 * D ∧ -2 ≤ q ∧ q ≤ 2 := by
  split at hq
  · subst hq; omega
  · split at hq
    · subst hq; omega
    · split at hq
      · subst hq; omega
      · split at hq
        · subst hq; omega
        · subst hq; omega
theorem xd_sel7 {D P E q : Int} (h1 : 61440 ≤ D) (h2 : D < 65536) (l : -(524288 * D) ≤ 3 * P) (u : 3 * P ≤ 524288 * D) (e1 : 1073741824 * E ≤ 4 * P) (e2 : 4 * P < 1073741824 * (E + 2)) (hq : q = if (23 : Int) ≤ E then 2 else if (8 : Int) ≤ E then 1 else if (-8 : Int) ≤ E then 0 else if (-24 : Int) ≤ E then -1 else -2) : -(524288 * D) ≤ 3 * (4 * P + 262144 * (-q * D)) ∧ 3 * (4 * P + 262144 * (-q * D)) ≤ 524288 * D ∧ -2 ≤ q ∧ q ≤ 2 := by
  split at hq
  · subst hq; omega
  · split at hq
    · subst hq; omega
    · split at hq
      · subst hq; omega
      · split at hq
        · subst hq; omega
        · subst hq; omega
theorem xd_dI (a b c d e : Int32) : (if a ≤ e then (2 : Int32) else if b ≤ e then 1 else if c ≤ e then 0 else if d ≤ e then -1 else -2).toInt = if a.toInt ≤ e.toInt then 2 else if b.toInt ≤ e.toInt then 1 else if c.toInt ≤ e.toInt then 0 else if d.toInt ≤ e.toInt then -1 else -2 := by
  by_cases h1 : a ≤ e
  · rw [if_pos h1, if_pos (Int32.le_iff_toInt_le.mp h1)]; decide
  · rw [if_neg h1, if_neg (fun z => h1 (Int32.le_iff_toInt_le.mpr z))]
    by_cases h2 : b ≤ e
    · rw [if_pos h2, if_pos (Int32.le_iff_toInt_le.mp h2)]; decide
    · rw [if_neg h2, if_neg (fun z => h2 (Int32.le_iff_toInt_le.mpr z))]
      by_cases h3 : c ≤ e
      · rw [if_pos h3, if_pos (Int32.le_iff_toInt_le.mp h3)]; decide
      · rw [if_neg h3, if_neg (fun z => h3 (Int32.le_iff_toInt_le.mpr z))]
        by_cases h4 : d ≤ e
        · rw [if_pos h4, if_pos (Int32.le_iff_toInt_le.mp h4)]; decide
        · rw [if_neg h4, if_neg (fun z => h4 (Int32.le_iff_toInt_le.mpr z))]; decide
theorem xd_tab0 : (xd_tab (4 * 0)).toInt = 12 ∧ (xd_tab (4 * 0 + 1)).toInt = 4 ∧ (xd_tab (4 * 0 + 2)).toInt = -4 ∧ (xd_tab (4 * 0 + 3)).toInt = -13 := by decide +kernel
theorem xd_tab1 : (xd_tab (4 * 1)).toInt = 14 ∧ (xd_tab (4 * 1 + 1)).toInt = 5 ∧ (xd_tab (4 * 1 + 2)).toInt = -5 ∧ (xd_tab (4 * 1 + 3)).toInt = -15 := by decide +kernel
theorem xd_tab2 : (xd_tab (4 * 2)).toInt = 15 ∧ (xd_tab (4 * 2 + 1)).toInt = 5 ∧ (xd_tab (4 * 2 + 2)).toInt = -5 ∧ (xd_tab (4 * 2 + 3)).toInt = -16 := by decide +kernel
theorem xd_tab3 : (xd_tab (4 * 3)).toInt = 16 ∧ (xd_tab (4 * 3 + 1)).toInt = 6 ∧ (xd_tab (4 * 3 + 2)).toInt = -6 ∧ (xd_tab (4 * 3 + 3)).toInt = -17 := by decide +kernel
theorem xd_tab4 : (xd_tab (4 * 4)).toInt = 18 ∧ (xd_tab (4 * 4 + 1)).toInt = 6 ∧ (xd_tab (4 * 4 + 2)).toInt = -6 ∧ (xd_tab (4 * 4 + 3)).toInt = -19 := by decide +kernel
theorem xd_tab5 : (xd_tab (4 * 5)).toInt = 20 ∧ (xd_tab (4 * 5 + 1)).toInt = 7 ∧ (xd_tab (4 * 5 + 2)).toInt = -7 ∧ (xd_tab (4 * 5 + 3)).toInt = -20 := by decide +kernel
theorem xd_tab6 : (xd_tab (4 * 6)).toInt = 21 ∧ (xd_tab (4 * 6 + 1)).toInt = 7 ∧ (xd_tab (4 * 6 + 2)).toInt = -7 ∧ (xd_tab (4 * 6 + 3)).toInt = -22 := by decide +kernel
theorem xd_tab7 : (xd_tab (4 * 7)).toInt = 23 ∧ (xd_tab (4 * 7 + 1)).toInt = 8 ∧ (xd_tab (4 * 7 + 2)).toInt = -8 ∧ (xd_tab (4 * 7 + 3)).toInt = -24 := by decide +kernel
theorem xd_sel {r : Nat} (hr : r < 8) {D P : Int} {e : Int32} (h1 : 4096 * (8 + (r : Int)) ≤ D) (h2 : D < 4096 * (9 + (r : Int))) (l : -(524288 * D) ≤ 3 * P) (u : 3 * P ≤ 524288 * D) (e1 : 1073741824 * e.toInt ≤ 4 * P) (e2 : 4 * P < 1073741824 * (e.toInt + 2)) : -(524288 * D) ≤ 3 * (4 * P + 262144 * (-(xd_dig xd_tab r e).toInt * D)) ∧ 3 * (4 * P + 262144 * (-(xd_dig xd_tab r e).toInt * D)) ≤ 524288 * D ∧ -2 ≤ (xd_dig xd_tab r e).toInt ∧ (xd_dig xd_tab r e).toInt ≤ 2 := by
  unfold xd_dig
  have hr : r = 0 ∨ r = 1 ∨ r = 2 ∨ r = 3 ∨ r = 4 ∨ r = 5 ∨ r = 6 ∨ r = 7 := by omega
  rcases hr with rfl | rfl | rfl | rfl | rfl | rfl | rfl | rfl
  · obtain ⟨t0, t1, t2, t3⟩ := xd_tab0
    refine xd_sel0 (by omega) (by omega) l u e1 e2 ?_
    rw [xd_dI, t0, t1, t2, t3]
  · obtain ⟨t0, t1, t2, t3⟩ := xd_tab1
    refine xd_sel1 (by omega) (by omega) l u e1 e2 ?_
    rw [xd_dI, t0, t1, t2, t3]
  · obtain ⟨t0, t1, t2, t3⟩ := xd_tab2
    refine xd_sel2 (by omega) (by omega) l u e1 e2 ?_
    rw [xd_dI, t0, t1, t2, t3]
  · obtain ⟨t0, t1, t2, t3⟩ := xd_tab3
    refine xd_sel3 (by omega) (by omega) l u e1 e2 ?_
    rw [xd_dI, t0, t1, t2, t3]
  · obtain ⟨t0, t1, t2, t3⟩ := xd_tab4
    refine xd_sel4 (by omega) (by omega) l u e1 e2 ?_
    rw [xd_dI, t0, t1, t2, t3]
  · obtain ⟨t0, t1, t2, t3⟩ := xd_tab5
    refine xd_sel5 (by omega) (by omega) l u e1 e2 ?_
    rw [xd_dI, t0, t1, t2, t3]
  · obtain ⟨t0, t1, t2, t3⟩ := xd_tab6
    refine xd_sel6 (by omega) (by omega) l u e1 e2 ?_
    rw [xd_dI, t0, t1, t2, t3]
  · obtain ⟨t0, t1, t2, t3⟩ := xd_tab7
    refine xd_sel7 (by omega) (by omega) l u e1 e2 ?_
    rw [xd_dI, t0, t1, t2, t3]
end XDB
