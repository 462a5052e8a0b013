section SDR
/-- the histories agree below n -/
def sd_H (n : Nat) (ax av aq ar yx yv yq yr : Nat → Int32) : Prop := ∀ k, k < n → ax k = yx k ∧ av k = yv k ∧ aq k = yq k ∧ ar k = yr k
/-- operands that a load took -/
def sd_O (x w : Int32) : Prop := ∃ a b : Nat, a ≤ 65535 ∧ 1 ≤ b ∧ b ≤ 65535 ∧ x = nI a ∧ w = nI b
/-- ITERATING, c cycles done -/
def sd_T (c : Nat) (cx cy ro qp qm : Int32) (qa qb : Nat → Int32) : Prop := c ≤ 9 ∧ cx = nI c ∧ cy = nI c ∧ (∃ r, r < 8 ∧ ro = nI r) ∧ qa c = qp ∧ qb c = qm
/-- the four phases -/
def sd_P (ph cx cy x w ro qp qm : Int32) (qa qb : Nat → Int32) : Prop :=
  (ph = 0 ∧ cx = 0) ∨ (ph = 1 ∧ cx = 0 ∧ sd_O x w) ∨ (ph = 2 ∧ sd_O x w ∧ ∃ c, sd_T c cx cy ro qp qm qa qb) ∨ (ph = 3 ∧ sd_O x w ∧ cx = nI 10 ∧ cy = nI 10)
def i_Rel (_ : Nat) (u : SX) (v : SY) : Prop :=
  ∃ (c n : Nat) (dv ph cx cy x w s d ro qp qm fq fr : Int32) (sm ca : Int64) (tb dg es qa qb ax av aq ar yx yv yq yr : Nat → Int32) (pr : Nat → Int64),
    u = (nI c, nI n, dv, ph, cx, x, w, s, d, ro, sm, ca, qp, qm, fq, fr, tb, dg, es, qa, qb, pr, ax, av, aq, ar) ∧ v = (nI c, ph, x, w, cy, s, d, ro, fq, fr, nI n, dv, sm, ca, qp, qm, tb, dg, es, qa, qb, pr, yx, yv, yq, yr) ∧ 1 ≤ c ∧ c ≤ 16 ∧ n ≤ c ∧ sd_H n ax av aq ar yx yv yq yr ∧ sd_P ph cx cy x w ro qp qm qa qb
end SDR
