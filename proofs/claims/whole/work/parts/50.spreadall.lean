/-! spreading, in the class: all hours, and the least greatest number -/
section SpreadA
variable {l : Launch} {P : Option Value → ax_Sg → Prop} {σ : ax_Sg} {F : Nat} {st A : Nat → Nat}
theorem bd_start {mo g : Nat} {rt : Nat → Nat → Nat} (hg : g < 2 ^ F) : Bd F st mo rt 0 g (if g = 0 then 0 else IMP) := by
  by_cases c : g = 0
  · rw [if_pos c, c]
    refine Or.inr ⟨by unfold IMP; omega, ⟨fun _ => 0, ⟨fun f hf hb => ?_, fun h hh => absurd hh (by omega)⟩, ?_⟩, fun t ht => Nat.zero_le _⟩
    · rw [Nat.zero_testBit] at hb; exact absurd hb (by decide)
    · have := sm_le (u := fun f => if (0 : Nat).testBit f = true then rt f 0 else 0) (b := 0) F (fun f hf => by rw [Nat.zero_testBit]; exact Nat.le_refl _)
      exact Nat.le_antisymm (by show sm _ F ≤ 0; omega) (Nat.zero_le _)
  · rw [if_neg c]
    refine Or.inl ⟨rfl, fun t ht => ?_⟩
    obtain ⟨f, hf⟩ := Nat.exists_testBit_of_ne_zero c
    have hfF : f < F := by
      by_cases y : f < F
      · exact y
      · rw [Nat.testBit_lt_two_pow (Nat.lt_of_lt_of_le hg (Nat.pow_le_pow_right (by omega) (by omega)))] at hf
        exact absurd hf (by decide)
    have := (ht.1 f hfF hf).1
    omega
theorem c_placeAll (hs : Se F st A σ) {mo : Nat} (hmo : mo ≤ 6) (hP : ∀ σ', (∀ j, j ≠ 52 → j ≠ 53 → σ' j = σ j) → Rt F st A mo 8 σ' → P none σ') : Ev l 21 0 [some (.ref 10), some (.int (nI mo)), none] [] σ P := by
  have hp : 2 ^ F ≤ 64 := Nat.pow_le_pow_right (n := 2) (by omega) hs.1
  have l2 : ∀ m i σ', 8 - i = m → i ≤ 8 → (∀ j, j ≠ 52 → j ≠ 53 → σ' j = σ j) → Rt F st A mo i σ' → Ev l 21 31 [some (.ref 10), some (.int (nI mo)), some (.int (nI i))] [] σ' P := by
    intro m
    induction m with
    | zero =>
      intro i σ' hm hi fr hR
      have : i = 8 := by omega
      subst this
      exact b_X2_placeAll_31 _ _ (br_f' (nI_nlt (a := 8) (b := 8) (Nat.le_refl _) (by omega)) (hP σ' fr hR))
    | succ m ih =>
      intro i σ' hm hi fr hR
      have hs1 : Se F st A σ' := hs.fr (by rw [fr 10 (by decide) (by decide)]) (fr 51 (by decide) (by decide)) (fr 29 (by decide) (by decide))
      refine b_X2_placeAll_31 _ _ (br_t' (nI_lt (b := 8) (by omega) (by omega)) (c_rate hs1 (by omega) (fun σ2 fr2 h53 => ?_)))
      have hs2 : Se F st A σ2 := hs1.fr (by rw [fr2 10 (by decide)]) (fr2 51 (by decide)) (fr2 29 (by decide))
      refine c_takers hs2 (by omega) (c_place hs2 (by omega) hmo h53 ?_ (fun σ3 fr3 hR3 => ?_))
      · intro g hg
        obtain ⟨v, a1, a2, a3⟩ := hR g hg
        exact ⟨v, a1, by rw [fr2 52 (by decide)]; exact a2, a3⟩
      · show Ev l 21 31 [some (.ref 10), some (.int (nI mo)), some (.int (nI i + 1))] [] σ3 P
        rw [nI_1]
        exact ih (i + 1) σ3 (by omega) (by omega) (fun j h1 h2 => (fr3 j h1).trans ((fr2 j h2).trans (fr j h1 h2))) hR3
  have l1 : ∀ m g σ', 64 - g = m → 1 ≤ g → g ≤ 64 → (∀ j, j ≠ 52 → j ≠ 53 → σ' j = σ j) → (∀ g', 1 ≤ g' → g' < g → σ' 52 g' = nI IMP) → Ev l 21 2 [some (.ref 10), some (.int (nI mo)), some (.int (nI g))] [] σ' P := by
    intro m
    induction m with
    | zero =>
      intro g σ' hm h1 hg fr hR
      have : g = 64 := by omega
      subst this
      refine b_X2_placeAll_2 _ _ (br_f' (nI_nlt (a := 64) (b := 64) (Nat.le_refl _) (by omega)) ⟨in_nI (n := 0) (by decide) (by decide), l2 8 0 _ (by omega) (by omega) (fun j h1 h2 => ?_) (fun g' hg' => ?_)⟩)
      · rw [us_n _ _ _ h1]; exact fr j h1 h2
      · refine ⟨if g' = 0 then 0 else IMP, ?_, ?_, bd_start hg'⟩
        · by_cases c : g' = 0
          · rw [if_pos c]; exact Nat.zero_le _
          · rw [if_neg c]; exact Nat.le_refl _
        · show upd (σ' 52) 0 0 g' = _
          by_cases c : g' = 0
          · rw [if_pos c, c, upd_s]; rfl
          · rw [if_neg c, upd_n _ _ c]; exact hR g' (by omega) (by omega)
    | succ m ih =>
      intro g σ' hm h1 hg fr hR
      refine b_X2_placeAll_2 _ _ (br_t' (nI_lt (b := 64) (by omega) (by omega)) ?_)
      rw [cl_nI (by omega), nI_1]
      refine ⟨in_nI (by omega) (by decide), ih (g + 1) _ (by omega) (by omega) (by omega) (fun j h1 h2 => ?_) (fun g' h1' h2' => ?_)⟩
      · rw [us_n _ _ _ h1]; exact fr j h1 h2
      · rw [us_s]
        by_cases c : g' = g
        · rw [c, upd_s]; rfl
        · rw [upd_n _ _ c]; exact hR g' h1' (by omega)
  exact b_X2_placeAll_0 _ (l1 63 1 σ (by omega) (by omega) (by omega) (fun _ _ _ => rfl) (fun g' h1 h2 => absurd h1 (by omega)))
theorem c_arrange (hs : Se F st A σ) (hex : ∃ t, Al F st t) (hP : ∀ σ' g v, (∀ j, j ≠ 52 → j ≠ 53 → j ≠ 10 → σ' j = σ j) → (∀ i, i ≠ 5 → σ' 10 i = σ 10 i) → σ' 10 5 = nI g → g ≤ 6 → σ' 52 (2 ^ F - 1) = nI v → v < IMP → Best F st A g v → P none σ') : Ev l 16 0 [some (.ref 10)] [] σ P := by
  have hF := hs.1
  have hp : 2 ^ F ≤ 64 := Nat.pow_le_pow_right (n := 2) (by omega) hs.1
  have hp0 := Nat.two_pow_pos F
  have loop : ∀ m g σ', F - g = m → g ≤ F → (∀ j, j ≠ 52 → j ≠ 53 → j ≠ 10 → σ' j = σ j) → (∀ i, i ≠ 5 → σ' 10 i = σ 10 i) → σ' 10 5 = nI g → Rt F st A g 8 σ' → (∀ t, Al F st t → g ≤ ms t F) → Ev l 16 10 [some (.ref 10)] [] σ' P := by
    intro m
    induction m with
    | zero =>
      intro g σ' hm hg fr fr10 h5 hR hlow
      have hs1 : Se F st A σ' := hs.fr (fr10 2 (by decide)) (fr 51 (by decide) (by decide) (by decide)) (fr 29 (by decide) (by decide) (by decide))
      obtain ⟨v, a1, a2, a3⟩ := hR (2 ^ F - 1) (by omega)
      have hne : v ≠ IMP := by
        intro e
        rcases a3 with ⟨_, h⟩ | ⟨h, _⟩
        · obtain ⟨t, ht⟩ := hex
          refine h t (wy_full.mpr ⟨ht, ?_⟩)
          have : g = F := by omega
          rw [this]
          exact (ms_le F).mpr (fun h' => cn_le _ _)
        · omega
      refine b_X2_arrange_10 (c_every hs1 ?_)
      show vp_in (nI (2 ^ F - 1)) 64 ∧ ax_br (σ' 52 (Int32.toNatClampNeg (nI (2 ^ F - 1))) = 1073741824) _ _
      rw [cl_nI (by omega), a2]
      refine ⟨in_nI (by omega) (by decide), br_f' (fun z => hne ((nI_eq (b := 1073741824) (by unfold IMP at a1; omega) (by omega)).mp z)) (hP σ' g v fr fr10 h5 (by omega) a2 (by omega) (best_of a3 hne hlow))⟩
    | succ m ih =>
      intro g σ' hm hg fr fr10 h5 hR hlow
      have hs1 : Se F st A σ' := hs.fr (fr10 2 (by decide)) (fr 51 (by decide) (by decide) (by decide)) (fr 29 (by decide) (by decide) (by decide))
      obtain ⟨v, a1, a2, a3⟩ := hR (2 ^ F - 1) (by omega)
      refine b_X2_arrange_10 (c_every hs1 ?_)
      show vp_in (nI (2 ^ F - 1)) 64 ∧ ax_br (σ' 52 (Int32.toNatClampNeg (nI (2 ^ F - 1))) = 1073741824) _ _
      rw [cl_nI (by omega), a2]
      refine ⟨in_nI (by omega) (by decide), br_i (fun z => br_t' ?_ ?_) (fun z => ?_)⟩
      · rw [h5, hs1.2.1]; exact nI_lt (by omega) (by omega)
      · have e : v = IMP := (nI_eq (b := 1073741824) (by unfold IMP at a1; omega) (by omega)).mp z
        rw [h5, nI_1]
        have hs2 : Se F st A (ax_us σ' 10 5 (nI (g + 1))) := hs1.fr rfl rfl rfl
        refine c_placeAll hs2 (by omega) (fun σ3 fr3 hR3 => ?_)
        refine ih (g + 1) σ3 (by omega) (by omega) (fun j h1 h2 h3 => ?_) (fun i hi => ?_) ?_ hR3 (fun t ht => ?_)
        · rw [fr3 j h1 h2, us_n _ _ _ h3]; exact fr j h1 h2 h3
        · rw [fr3 10 (by decide) (by decide), us_s, upd_n _ _ hi]; exact fr10 i hi
        · rw [fr3 10 (by decide) (by decide), us_s, upd_s]
        · have h1 := hlow t ht
          by_cases y : ms t F = g
          · exfalso
            rcases a3 with ⟨_, h⟩ | ⟨h, _⟩
            · exact h t (wy_full.mpr ⟨ht, by omega⟩)
            · omega
          · omega
      · have hne : v ≠ IMP := fun e => z (by rw [e]; rfl)
        exact hP σ' g v fr fr10 h5 (by omega) a2 (by omega) (best_of a3 hne hlow)
  have hs2 : Se F st A (ax_us σ 10 5 0) := hs.fr rfl rfl rfl
  refine b_X2_arrange_0 (c_placeAll (mo := 0) hs2 (by omega) (fun σ3 fr3 hR3 => ?_))
  refine loop F 0 σ3 (by omega) (by omega) (fun j h1 h2 h3 => ?_) (fun i hi => ?_) ?_ hR3 (fun t ht => Nat.zero_le _)
  · rw [fr3 j h1 h2, us_n _ _ _ h3]
  · rw [fr3 10 (by decide) (by decide), us_s, upd_n _ _ hi]
  · rw [fr3 10 (by decide) (by decide), us_s, upd_s]; rfl
end SpreadA
