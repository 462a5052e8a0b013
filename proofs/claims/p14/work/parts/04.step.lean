section XDC
theorem xd_ad {a b : Int32} (l : -2147483648 ≤ a.toInt + b.toInt) (u : a.toInt + b.toInt < 2147483648) : (a + b).toInt = a.toInt + b.toInt := by
  rw [Int32.toInt_add]
  exact Int.bmod_eq_of_le (by omega) (by omega)
theorem xd_sb {a b : Int32} (l : -2147483648 ≤ a.toInt - b.toInt) (u : a.toInt - b.toInt < 2147483648) : (a - b).toInt = a.toInt - b.toInt := by
  rw [Int32.toInt_sub]
  exact Int.bmod_eq_of_le (by omega) (by omega)
theorem xd_ml {a b : Int32} (l : -2147483648 ≤ a.toInt * b.toInt) (u : a.toInt * b.toInt < 2147483648) : (a * b).toInt = a.toInt * b.toInt := by
  rw [Int32.toInt_mul]
  generalize a.toInt * b.toInt = z at l u ⊢
  exact Int.bmod_eq_of_le (by omega) (by omega)
theorem xd_ng {a : Int32} (l : -2147483647 ≤ a.toInt) : (-a).toInt = -a.toInt := by
  have := Int32.toInt_lt a
  rw [Int32.toInt_neg]
  exact Int.bmod_eq_of_le (by omega) (by omega)
theorem xd_qq {qp qm d : Int32} {Q q : Int} (hp : qp.toInt = Q) (hm : qm.toInt = Q - 1) (hd : d.toInt = q) (a1 : -300000 ≤ Q) (a2 : Q ≤ 300000) (b1 : -2 ≤ q) (b2 : q ≤ 2) : (4 * qp + d).toInt = 4 * Q + q ∧ (4 * qm + 4 + d).toInt = 4 * Q + q ∧ (4 * qp + d - 1).toInt = 4 * Q + q - 1 ∧ (4 * qm + 3 + d).toInt = 4 * Q + q - 1 := by
  have f4 : (4 : Int32).toInt = 4 := by decide
  have f3 : (3 : Int32).toInt = 3 := by decide
  have f1 : (1 : Int32).toInt = 1 := by decide
  have m1 : (4 * qp).toInt = 4 * Q := by rw [xd_ml (by rw [f4, hp]; omega) (by rw [f4, hp]; omega), f4, hp]
  have m2 : (4 * qm).toInt = 4 * (Q - 1) := by rw [xd_ml (by rw [f4, hm]; omega) (by rw [f4, hm]; omega), f4, hm]
  have p1 : (4 * qp + d).toInt = 4 * Q + q := by rw [xd_ad (by rw [m1, hd]; omega) (by rw [m1, hd]; omega), m1, hd]
  have p2 : (4 * qm + 4).toInt = 4 * (Q - 1) + 4 := by rw [xd_ad (by rw [m2, f4]; omega) (by rw [m2, f4]; omega), m2, f4]
  have p3 : (4 * qm + 3).toInt = 4 * (Q - 1) + 3 := by rw [xd_ad (by rw [m2, f3]; omega) (by rw [m2, f3]; omega), m2, f3]
  refine ⟨p1, ?_, ?_, ?_⟩
  · rw [xd_ad (by rw [p2, hd]; omega) (by rw [p2, hd]; omega), p2, hd]; omega
  · rw [xd_sb (by rw [p1, f1]; omega) (by rw [p1, f1]; omega), p1, f1]
  · rw [xd_ad (by rw [p3, hd]; omega) (by rw [p3, hd]; omega), p3, hd]; omega
theorem xd_qD {q D : Int} (b1 : -2 ≤ q) (b2 : q ≤ 2) (h0 : 0 ≤ D) (h1 : D < 65536) : -131072 ≤ -q * D ∧ -q * D ≤ 131072 := by
  have h : q = -2 ∨ q = -1 ∨ q = 0 ∨ q = 1 ∨ q = 2 := by omega
  rcases h with rfl | rfl | rfl | rfl | rfl <;> omega
/-- after j cycles: the two words stand for 4^j N - QP D 2^18, within two thirds of D -/
def xd_It (N D j : Nat) (S C : Int64) (qp qm : Int32) : Prop :=
  ∃ P Q : Int, (S + C).toInt = P ∧ qp.toInt = Q ∧ qm.toInt = Q - 1 ∧ P = 4 ^ j * (N : Int) - 262144 * (Q * (D : Int)) ∧ -(524288 * (D : Int)) ≤ 3 * P ∧ 3 * P ≤ 524288 * (D : Int) ∧ -(4 ^ j : Int) < Q ∧ Q < 4 ^ j
theorem xd_It0 {N D : Nat} (hN : N ≤ 2147450880) (hD : 32768 ≤ D) : xd_It N D 0 (lN N) 0 0 (-1) := by
  have e : (lN N + 0).toInt = (N : Int) := by
    rw [Int64.add_zero]
    exact lN_toInt (by omega)
  refine ⟨(N : Int), 0, e, by decide, by decide, ?_, ?_, ?_, by decide, by decide⟩
  · rw [Int.pow_zero]; omega
  · omega
  · omega
theorem xd_4 : ∀ j, j < 10 → (4 : Int) ^ j ≤ 262144 ∧ 1 ≤ (4 : Int) ^ j := by decide +kernel
theorem xd_step {N D r j : Nat} {S C : Int64} {qp qm d : Int32} (hr : r < 8) (h1 : 4096 * (8 + r) ≤ D) (h2 : D < 4096 * (9 + r)) (hj : j < 9) (h : xd_It N D j S C qp qm) (hd : d = xd_dig xd_tab r (xd_est S C)) :
    xd_It N D (j + 1) (xd_wS S C d (nI D)) (xd_wC S C d (nI D)) (xd_nP d qp qm) (xd_nM d qp qm) ∧ -2 ≤ d.toInt ∧ d.toInt ≤ 2 := by
  obtain ⟨P, Q, hP, hq, hm, hE, l, u, b1, b2⟩ := h
  have hK := (xd_4 j (by omega)).1
  have E := xd_estI hP (by omega) (by omega)
  obtain ⟨s1, s2, d1, d2⟩ := xd_sel hr (D := (D : Int)) (by omega) (by omega) l u E.1 E.2
  rw [← hd] at s1 s2 d1 d2
  generalize hq' : d.toInt = q at s1 s2 d1 d2
  have qD := xd_qD d1 d2 (D := (D : Int)) (by omega) (by omega)
  have hDI : (nI D).toInt = (D : Int) := nI_toInt (by omega)
  have hn : (-d).toInt = -q := by rw [xd_ng (by omega), hq']
  have z : (-d * nI D).toInt = -q * (D : Int) := by
    rw [xd_ml (by rw [hn, hDI]; omega) (by rw [hn, hDI]; omega), hn, hDI]
  have G : ((-d * nI D).toInt64 <<< ((18 : Int32).toInt64 &&& 63)).toInt = 262144 * (-q * (D : Int)) := by
    rw [xd_shlI (by rw [Int32.toInt_toInt64, z]; omega) (by rw [Int32.toInt_toInt64, z]; omega), Int32.toInt_toInt64, z]
  have Y := xd_next hP G (by omega) (by omega)
  obtain ⟨q1, q2, q3, q4⟩ := xd_qq hq hm hq' (by omega) (by omega) d1 d2
  refine ⟨⟨4 * P + 262144 * (-q * (D : Int)), 4 * Q + q, Y, ?_, ?_, ?_, s1, s2, ?_, ?_⟩, by omega, by omega⟩
  · unfold xd_nP; split
    · exact q1
    · exact q2
  · unfold xd_nM; split
    · exact q3
    · exact q4
  · have e1 : (4 * Q + q) * (D : Int) = 4 * (Q * (D : Int)) + q * (D : Int) := by rw [Int.add_mul, Int.mul_assoc]
    have e2 : -q * (D : Int) = -(q * (D : Int)) := Int.neg_mul _ _
    have e3 : (4 : Int) ^ (j + 1) * (N : Int) = 4 * (4 ^ j * (N : Int)) := by rw [Int.pow_succ, Int.mul_comm (4 ^ j) 4, Int.mul_assoc]
    rw [hE, e1, e2, e3]
    omega
  · rw [Int.pow_succ]; omega
  · rw [Int.pow_succ]; omega
theorem xd_inj {a : Int32} {n : Nat} (h : a.toInt = (n : Int)) (hn : n < 2 ^ 31) : a = nI n := Int32.toInt_inj.mp (by rw [h, nI_toInt hn])
theorem xd_eu {x v s : Nat} {Q R : Int} (hv : 1 ≤ v) (h : ((x * 2 ^ s : Nat) : Int) = Q * ((v * 2 ^ s : Nat) : Int) + R) (h0 : 0 ≤ R) (h1 : R < ((v * 2 ^ s : Nat) : Int)) : Q = ((x / v : Nat) : Int) ∧ R = ((x % v * 2 ^ s : Nat) : Int) := by
  have hp : 0 < 2 ^ s := Nat.two_pow_pos s
  have hD : 0 < v * 2 ^ s := Nat.mul_pos (by omega) hp
  have hu := (Int.ediv_emod_unique (a := ((x * 2 ^ s : Nat) : Int)) (b := ((v * 2 ^ s : Nat) : Int)) (r := R) (q := Q) (by omega)).mpr ⟨by rw [h, Int.mul_comm Q, Int.add_comm], h0, h1⟩
  obtain ⟨u1, u2⟩ := hu
  constructor
  · rw [← u1, ← Int.natCast_ediv, Nat.mul_div_mul_right _ _ hp]
  · rw [← u2, ← Int.natCast_emod, Nat.mul_mod_mul_right]
theorem xd_finA {N D : Nat} {S C p : Int64} {qp qm : Int32} (hD0 : 0 < D) (hD : D < 65536) (h : xd_It N D 9 S C qp qm) (hp : p = S + C) :
    ∃ Q R : Int, (if p < 0 then qm else qp).toInt = Q ∧ (if p < 0 then (p >>> ((18 : Int32).toInt64 &&& 63)).toInt32 + nI D else (p >>> ((18 : Int32).toInt64 &&& 63)).toInt32).toInt = R ∧ (N : Int) = Q * (D : Int) + R ∧ 0 ≤ R ∧ R < (D : Int) := by
  obtain ⟨P, Q, hP, hq, hm, hE, l, u, b1, b2⟩ := h
  rw [← hp] at hP
  have h9 : (4 : Int) ^ 9 = 262144 := by decide
  rw [h9] at hE
  have hT : (Q - 1) * (D : Int) = Q * (D : Int) - (D : Int) := by rw [Int.sub_mul, Int.one_mul]
  have hsc0 : P / 262144 = (N : Int) - Q * (D : Int) := by
    rw [hE]
    generalize Q * (D : Int) = T
    omega
  have hsc : (p >>> ((18 : Int32).toInt64 &&& 63)).toInt32.toInt = P / 262144 := by
    rw [Int64.toInt_toInt32, xd_sar18, hP]
    exact Int.bmod_eq_of_le (by omega) (by omega)
  have hDI : (nI D).toInt = (D : Int) := nI_toInt (by omega)
  have hc : p < 0 ↔ P < 0 := by rw [Int64.lt_iff_toInt_lt, hP]; exact Iff.rfl
  by_cases hn : P < 0
  · rw [if_pos (hc.mpr hn), if_pos (hc.mpr hn)]
    refine ⟨Q - 1, P / 262144 + (D : Int), hm, ?_, ?_, by omega, by omega⟩
    · rw [xd_ad (by rw [hsc, hDI]; omega) (by rw [hsc, hDI]; omega), hsc, hDI]
    · rw [hsc0, hT]
      generalize Q * (D : Int) = T
      omega
  · rw [if_neg (fun z => hn (hc.mp z)), if_neg (fun z => hn (hc.mp z))]
    refine ⟨Q, P / 262144, hq, hsc, ?_, by omega, by omega⟩
    rw [hsc0]
    generalize Q * (D : Int) = T
    omega
theorem xd_fin {x v s : Nat} {S C p : Int64} {qp qm : Int32} (hx : x ≤ 65535) (hv : 1 ≤ v) (hs : s ≤ 15) (hD : v * 2 ^ s < 65536) (h : xd_It (x * 2 ^ s) (v * 2 ^ s) 9 S C qp qm) (hp : p = S + C) :
    (if p < 0 then qm else qp) = nI (x / v) ∧ (if p < 0 then (p >>> ((18 : Int32).toInt64 &&& 63)).toInt32 + nI (v * 2 ^ s) else (p >>> ((18 : Int32).toInt64 &&& 63)).toInt32) >>> (nI s &&& 31) = nI (x % v) := by
  have hps : 0 < 2 ^ s := Nat.two_pow_pos s
  obtain ⟨Q, R, hQ, hR, hN, h0, h1⟩ := xd_finA (Nat.mul_pos hv hps) hD h hp
  obtain ⟨w1, w2⟩ := xd_eu hv hN h0 h1
  have hK : x / v ≤ x := Nat.div_le_self _ _
  have hr2 : x % v * 2 ^ s < v * 2 ^ s := Nat.mul_lt_mul_of_pos_right (Nat.mod_lt _ hv) hps
  have hr3 : x % v * 2 ^ s < 2 ^ 31 := Nat.lt_trans (Nat.lt_trans hr2 hD) (by decide)
  refine ⟨xd_inj (hQ.trans w1) (by omega), ?_⟩
  rw [xd_inj (hR.trans w2) hr3, pk_shrN hr3 _ s (sd_sl s (by omega)), Nat.mul_div_cancel _ hps]
end XDC
