section SDA
theorem sd_sl : ∀ n, n < 32 → ((nI n &&& 31).toBitVec.smod 32).toNat = n := by decide +kernel
theorem sd_shl {v p : Nat} (hp : p < 32) (h : v * 2 ^ p < 2 ^ 32) : nI v <<< (nI p &&& 31) = nI (v * 2 ^ p) := pk_shlN _ p (sd_sl p hp) h
theorem sd_norm {v : Nat} (h1 : 1 ≤ v) (h2 : v ≤ 65535) : ∃ s, s ≤ 15 ∧ 32768 ≤ v * 2 ^ s ∧ v * 2 ^ s < 65536 ∧ ∀ t, t < s → v * 2 ^ t < 32768 := by
  have h15 : 32768 ≤ v * 2 ^ 15 := by omega
  obtain ⟨s, hs, hm⟩ := pk_least (fun k => 32768 ≤ v * 2 ^ k) ⟨15, h15⟩
  have hs15 : s ≤ 15 := by
    apply Nat.le_of_not_lt
    intro h
    exact hm 15 h h15
  refine ⟨s, hs15, hs, ?_, fun t ht => Nat.lt_of_not_le (hm t ht)⟩
  cases s with
  | zero => rw [Nat.pow_zero]; omega
  | succ t =>
    have h3 : ¬ 32768 ≤ v * 2 ^ t := hm t (by omega)
    have e : v * 2 ^ (t + 1) = v * 2 ^ t * 2 := by rw [Nat.pow_succ, Nat.mul_assoc]
    rw [e]
    generalize v * 2 ^ t = w at h3 ⊢
    omega
theorem sd_row {D : Nat} (h1 : 32768 ≤ D) (h2 : D < 65536) : (nI D >>> ((12 : Int32) &&& 31)) - 8 = nI (D / 4096 - 8) := by
  rw [pk_shrN (by omega) _ 12 (by decide)]
  exact pk_sub (b := 8) (by show 8 ≤ D / 4096; omega)
/-! a history moved down by one place, from place k on, up to place e -/
def sd_sh (f : Nat → Int32) (k e : Nat) : Nat → Int32 := fun j => if k < j ∧ j ≤ e then f (j - 1) else f j
theorem sd_she (f : Nat → Int32) (e : Nat) : sd_sh f e e = f := funext fun j => if_neg (by omega)
theorem sd_sh1 {f : Nat → Int32} {k e : Nat} : sd_sh f (k + 1) e k = f k := if_neg (by omega)
theorem sd_shs {f : Nat → Int32} {k e : Nat} (h : k + 1 ≤ e) : upd (sd_sh f (k + 1) e) (k + 1) (f k) = sd_sh f k e := by
  funext j
  unfold upd sd_sh
  by_cases h1 : j = k + 1
  · rw [if_pos h1, if_pos (by omega), h1, Nat.add_sub_cancel]
  · rw [if_neg h1]
    by_cases h2 : k + 1 < j ∧ j ≤ e
    · rw [if_pos h2, if_pos (by omega)]
    · rw [if_neg h2, if_neg (by omega)]
/-- the digit that row r of the table t gives for the estimate e -/
def xd_dig (t : Nat → Int32) (r : Nat) (e : Int32) : Int32 := if t (4 * r) ≤ e then 2 else if t (4 * r + 1) ≤ e then 1 else if t (4 * r + 2) ≤ e then 0 else if t (4 * r + 3) ≤ e then -1 else -2
/-- the estimate of the two words, the next two words, the next two quotients -/
def xd_est (S C : Int64) : Int32 :=
  if 64 ≤ (((S <<< ((2 : Int32).toInt64 &&& 63)) >>> ((30 : Int32).toInt64 &&& 63)) + ((C <<< ((2 : Int32).toInt64 &&& 63)) >>> ((30 : Int32).toInt64 &&& 63)) &&& 127).toInt32
  then (((S <<< ((2 : Int32).toInt64 &&& 63)) >>> ((30 : Int32).toInt64 &&& 63)) + ((C <<< ((2 : Int32).toInt64 &&& 63)) >>> ((30 : Int32).toInt64 &&& 63)) &&& 127).toInt32 - 128
  else (((S <<< ((2 : Int32).toInt64 &&& 63)) >>> ((30 : Int32).toInt64 &&& 63)) + ((C <<< ((2 : Int32).toInt64 &&& 63)) >>> ((30 : Int32).toInt64 &&& 63)) &&& 127).toInt32
def xd_wS (S C : Int64) (d : Int32) (D : Int32) : Int64 := (S <<< ((2 : Int32).toInt64 &&& 63)) ^^^ (C <<< ((2 : Int32).toInt64 &&& 63)) ^^^ ((-d * D).toInt64 <<< ((18 : Int32).toInt64 &&& 63))
def xd_wC (S C : Int64) (d : Int32) (D : Int32) : Int64 := (((S <<< ((2 : Int32).toInt64 &&& 63)) &&& (C <<< ((2 : Int32).toInt64 &&& 63))) ||| ((S <<< ((2 : Int32).toInt64 &&& 63)) &&& ((-d * D).toInt64 <<< ((18 : Int32).toInt64 &&& 63))) ||| ((C <<< ((2 : Int32).toInt64 &&& 63)) &&& ((-d * D).toInt64 <<< ((18 : Int32).toInt64 &&& 63)))) <<< ((1 : Int32).toInt64 &&& 63)
def xd_nP (d qp qm : Int32) : Int32 := if 0 ≤ d then 4 * qp + d else 4 * qm + 4 + d
def xd_nM (d qp qm : Int32) : Int32 := if 0 < d then 4 * qp + d - 1 else 4 * qm + 3 + d
def xd_fill (tb : Nat → Int32) : Nat → Int32 := (upd (upd (upd (upd (upd (upd (upd (upd (upd (upd (upd (upd (upd (upd (upd (upd (upd (upd (upd (upd (upd (upd (upd (upd (upd (upd (upd (upd (upd (upd (upd (upd tb (4 * 0) 12) (4 * 0 + 1) 4) (4 * 0 + 2) (-4)) (4 * 0 + 3) (-13)) (4 * 1) 14) (4 * 1 + 1) 5) (4 * 1 + 2) (-5)) (4 * 1 + 3) (-15)) (4 * 2) 15) (4 * 2 + 1) 5) (4 * 2 + 2) (-5)) (4 * 2 + 3) (-16)) (4 * 3) 16) (4 * 3 + 1) 6) (4 * 3 + 2) (-6)) (4 * 3 + 3) (-17)) (4 * 4) 18) (4 * 4 + 1) 6) (4 * 4 + 2) (-6)) (4 * 4 + 3) (-19)) (4 * 5) 20) (4 * 5 + 1) 7) (4 * 5 + 2) (-7)) (4 * 5 + 3) (-20)) (4 * 6) 21) (4 * 6 + 1) 7) (4 * 6 + 2) (-7)) (4 * 6 + 3) (-22)) (4 * 7) 23) (4 * 7 + 1) 8) (4 * 7 + 2) (-8)) (4 * 7 + 3) (-24))
def xd_tab : Nat → Int32 := xd_fill (fun _ => 0)
end SDA
