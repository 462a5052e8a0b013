section XDN
theorem xl_clamp {post : Int32 → Prop} {p : Int32} (H : ∀ c, 1 ≤ c → c ≤ 16 → post (nI c)) : wpX_clampCapacity post () p := by
  by_cases h1 : (1 : Int32) ≤ p
  · by_cases h2 : p ≤ 16
    · have h0 : ¬ p < 0 := fun z => absurd (Int32.lt_of_le_of_lt h1 z) (by decide)
      obtain ⟨c, hc, rfl⟩ := nI_of2 (M := 16) (n := 16) (by decide) h0 h2
      have hc1 : 1 ≤ c := by
        apply Nat.le_of_not_lt
        intro z
        have e : c = 0 := by omega
        subst e
        exact absurd h1 (by decide)
      exact br_t h1 (br_t h2 (H c hc1 hc))
    · exact br_t h1 (br_f h2 (H 16 (by decide) (by decide)))
  · exact br_f h1 (H 1 (by decide) (by decide))
theorem xd_new {c : Nat} (h1 : 1 ≤ c) (hc : c ≤ 16) : xd_Ok (nI c, 0, 0, 0, 0, 0, 0, 0, 0, 0, 0, 0, 0, 0, 0, 0, xd_fill (fun _ => 0), (fun _ => 0), (fun _ => 0), (fun _ => 0), (fun _ => 0), (fun _ => 0), (fun _ => 0), (fun _ => 0), (fun _ => 0), (fun _ => 0)) :=
  ⟨c, 0, 0, 0, 0, 0, 0, 0, 0, 0, 0, 0, 0, 0, 0, 0, (fun _ => 0), (fun _ => 0), (fun _ => 0), (fun _ => 0), (fun _ => 0), (fun _ => 0), (fun _ => 0), (fun _ => 0), (fun _ => 0), rfl, h1, hc, by omega, fun q hq => absurd hq (by omega), Or.inl ⟨rfl, rfl⟩⟩
theorem i_vc (xs : Nat → Int32) (L : Nat) (hL : L ≤ 260) : wpL_law (fun r => r = 1) L xs := by
  unfold wpL_law
  refine xl_cell 0 rfl (by omega) (by decide) (fun r => ⟨by decide, 10, 146, by decide, by decide, ?_⟩)
  refine ⟨by decide, by decide, by decide, by decide, by decide, by decide, by decide, by decide, by decide, by decide, by decide, by decide, by decide, by decide, by decide, by decide, by decide, by decide, by decide, by decide, ?_⟩
  refine xl_clamp (fun c h1 hc => ?_)
  refine xa_fill ?_
  have e : (Int32.ofNat L) / 3 + 2 = nI (L / 3 + 2) := by
    have e1 : nI L / nI 3 = nI (L / 3) := pk_div (by omega) (by decide) (by decide)
    exact (congrArg (· + 2) e1).trans (nI_add _ 2)
  refine ⟨by decide, nm_r e ⟨L / 3 + 3, ?_⟩⟩
  exact xl_25 (post := fun r => r = 1) (R := L / 3 + 2) hL (by omega) rfl (L / 3 + 2) 0 (L / 3 + 3) _ _ _ _ _ _ _ _ _ _ _ _ _ _ _ _ _ _ _ _ _ _ _ _ _ _ (by omega) (by omega) (xd_new h1 hc)
end XDN
