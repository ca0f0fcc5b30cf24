/-! spreading, in the class: the hours after each other -/
def bcX (x0 : Int32) : Int32 := (((((((x0 - (((Int32.toUInt32 x0 >>> (Int32.toUInt32 1 &&& Int32.toUInt32 31)).toInt32) &&& 1431655765)) &&& 858993459) + (((Int32.toUInt32 (x0 - (((Int32.toUInt32 x0 >>> (Int32.toUInt32 1 &&& Int32.toUInt32 31)).toInt32) &&& 1431655765)) >>> (Int32.toUInt32 2 &&& Int32.toUInt32 31)).toInt32) &&& 858993459)) + ((Int32.toUInt32 (((x0 - (((Int32.toUInt32 x0 >>> (Int32.toUInt32 1 &&& Int32.toUInt32 31)).toInt32) &&& 1431655765)) &&& 858993459) + (((Int32.toUInt32 (x0 - (((Int32.toUInt32 x0 >>> (Int32.toUInt32 1 &&& Int32.toUInt32 31)).toInt32) &&& 1431655765)) >>> (Int32.toUInt32 2 &&& Int32.toUInt32 31)).toInt32) &&& 858993459)) >>> (Int32.toUInt32 4 &&& Int32.toUInt32 31)).toInt32)) &&& 252645135) + ((Int32.toUInt32 (((((x0 - (((Int32.toUInt32 x0 >>> (Int32.toUInt32 1 &&& Int32.toUInt32 31)).toInt32) &&& 1431655765)) &&& 858993459) + (((Int32.toUInt32 (x0 - (((Int32.toUInt32 x0 >>> (Int32.toUInt32 1 &&& Int32.toUInt32 31)).toInt32) &&& 1431655765)) >>> (Int32.toUInt32 2 &&& Int32.toUInt32 31)).toInt32) &&& 858993459)) + ((Int32.toUInt32 (((x0 - (((Int32.toUInt32 x0 >>> (Int32.toUInt32 1 &&& Int32.toUInt32 31)).toInt32) &&& 1431655765)) &&& 858993459) + (((Int32.toUInt32 (x0 - (((Int32.toUInt32 x0 >>> (Int32.toUInt32 1 &&& Int32.toUInt32 31)).toInt32) &&& 1431655765)) >>> (Int32.toUInt32 2 &&& Int32.toUInt32 31)).toInt32) &&& 858993459)) >>> (Int32.toUInt32 4 &&& Int32.toUInt32 31)).toInt32)) &&& 252645135) >>> (Int32.toUInt32 8 &&& Int32.toUInt32 31)).toInt32)) + ((Int32.toUInt32 ((((((x0 - (((Int32.toUInt32 x0 >>> (Int32.toUInt32 1 &&& Int32.toUInt32 31)).toInt32) &&& 1431655765)) &&& 858993459) + (((Int32.toUInt32 (x0 - (((Int32.toUInt32 x0 >>> (Int32.toUInt32 1 &&& Int32.toUInt32 31)).toInt32) &&& 1431655765)) >>> (Int32.toUInt32 2 &&& Int32.toUInt32 31)).toInt32) &&& 858993459)) + ((Int32.toUInt32 (((x0 - (((Int32.toUInt32 x0 >>> (Int32.toUInt32 1 &&& Int32.toUInt32 31)).toInt32) &&& 1431655765)) &&& 858993459) + (((Int32.toUInt32 (x0 - (((Int32.toUInt32 x0 >>> (Int32.toUInt32 1 &&& Int32.toUInt32 31)).toInt32) &&& 1431655765)) >>> (Int32.toUInt32 2 &&& Int32.toUInt32 31)).toInt32) &&& 858993459)) >>> (Int32.toUInt32 4 &&& Int32.toUInt32 31)).toInt32)) &&& 252645135) + ((Int32.toUInt32 (((((x0 - (((Int32.toUInt32 x0 >>> (Int32.toUInt32 1 &&& Int32.toUInt32 31)).toInt32) &&& 1431655765)) &&& 858993459) + (((Int32.toUInt32 (x0 - (((Int32.toUInt32 x0 >>> (Int32.toUInt32 1 &&& Int32.toUInt32 31)).toInt32) &&& 1431655765)) >>> (Int32.toUInt32 2 &&& Int32.toUInt32 31)).toInt32) &&& 858993459)) + ((Int32.toUInt32 (((x0 - (((Int32.toUInt32 x0 >>> (Int32.toUInt32 1 &&& Int32.toUInt32 31)).toInt32) &&& 1431655765)) &&& 858993459) + (((Int32.toUInt32 (x0 - (((Int32.toUInt32 x0 >>> (Int32.toUInt32 1 &&& Int32.toUInt32 31)).toInt32) &&& 1431655765)) >>> (Int32.toUInt32 2 &&& Int32.toUInt32 31)).toInt32) &&& 858993459)) >>> (Int32.toUInt32 4 &&& Int32.toUInt32 31)).toInt32)) &&& 252645135) >>> (Int32.toUInt32 8 &&& Int32.toUInt32 31)).toInt32)) >>> (Int32.toUInt32 16 &&& Int32.toUInt32 31)).toInt32)) &&& 63
theorem pc6 : ∀ j : Fin 64, bcX (nI j.val) = nI (pc 6 j.val) := by decide
section SpreadP
variable {l : Launch} {P : Option Value → ax_Sg → Prop} {σ : ax_Sg} {F : Nat} {st A : Nat → Nat}
theorem c_bits {s : Nat} (hF : F ≤ 6) (hs : s < 2 ^ F) (hP : P (some (.int (nI (pc F s)))) σ) : Ev l 173 0 [some (.int (nI s))] [] σ P := by
  have h64 : s < 64 := Nat.lt_of_lt_of_le hs (Nat.pow_le_pow_right (n := 2) (by omega) hF)
  have e6 : pc F s = pc 6 s := by
    have := cn_more (p := fun f => s.testBit f) (F := F) (6 - F) (fun x hx => Nat.testBit_lt_two_pow (Nat.lt_of_lt_of_le hs (Nat.pow_le_pow_right (by omega) hx)))
    rw [show F + (6 - F) = 6 by omega] at this
    exact this.symm
  rw [e6] at hP
  refine b_J6_bitCount_0f7a4_0 _ ?_
  show P (some (.int (bcX (nI s)))) σ
  rw [pc6 ⟨s, h64⟩]
  exact hP
/-- the ratings before an hour -/
def Rt (F : Nat) (st A : Nat → Nat) (mo i : Nat) (σ : ax_Sg) : Prop := ∀ g, g < 2 ^ F → ∃ v, v ≤ IMP ∧ σ 52 g = nI v ∧ Bd F st mo (rtf A) i g v
theorem c_place (hs : Se F st A σ) {i mo : Nat} (hi : i < 8) (hmo : mo ≤ 6) (h53 : ∀ g, g < 2 ^ F → σ 53 g = nI (ad F (rtf A) i g)) (hR : Rt F st A mo i σ) (hP : ∀ σ', (∀ j, j ≠ 52 → σ' j = σ j) → Rt F st A mo (i + 1) σ' → P none σ') : Ev l 24 0 [some (.ref 10), some (.int (nI (tkr F st i))), some (.int (nI mo)), none, none, none, none] [] σ P := by
  have hs' := hs
  obtain ⟨h1, h2, h3, h4⟩ := hs
  have hp : 2 ^ F ≤ 64 := Nat.pow_le_pow_right (n := 2) (by omega) h1
  obtain ⟨old, hold⟩ : ∃ old : Nat → Nat, ∀ g, g < 2 ^ F → old g ≤ IMP ∧ σ 52 g = nI (old g) ∧ Bd F st mo (rtf A) i g (old g) := by
    refine ⟨fun g => tN (σ 52 g), fun g hg => ?_⟩
    obtain ⟨v, a1, a2, a3⟩ := hR g hg
    have : tN (σ 52 g) = v := by rw [a2]; exact cl_nI (by unfold IMP at a1; omega)
    show tN (σ 52 g) ≤ IMP ∧ σ 52 g = nI (tN (σ 52 g)) ∧ Bd F st mo (rtf A) i g (tN (σ 52 g))
    rw [this]
    exact ⟨a1, a2, a3⟩
  have hbound : ∀ g t, Wy F st mo (i + 1) g t → Sg F (rtf A) g t < IMP := by
    intro g t ht
    have := sm_le (u := fun f => if g.testBit f = true then rtf A f (t f) else 0) (b := 26443776) F (fun f hf => by
      show (if g.testBit f = true then rtf A f (t f) else 0) ≤ 26443776
      by_cases c : g.testBit f = true
      · rw [if_pos c]
        have := (ht.1 f hf c).1
        exact rtf_le (hs'.A_le (by omega)) (by omega)
      · rw [if_neg c]; omega)
    have h6 : F * 26443776 ≤ 6 * 26443776 := Nat.mul_le_mul_right _ h1
    show sm _ F < 1073741824
    omega
  have hstep : ∀ g v, g < 2 ^ F → (v = old g ∨ ∃ s, s ≠ 0 ∧ Cd F st mo i g old s ∧ v = old (g ^^^ s) + ad F (rtf A) i s) → v ≤ old g → (∀ s, s ≠ 0 → Cd F st mo i g old s → v ≤ old (g ^^^ s) + ad F (rtf A) i s) → Bd F st mo (rtf A) (i + 1) g v := fun g v hg a b c => Bd_step (fun g' hg' => (hold g' (by omega)).2.2) (hbound g) a b c
  have tk_bit : ∀ f, f < F → (tkr F st i).testBit f = (st f).testBit i := by
    intro f hf
    unfold tkr
    rw [mk_bit, decide_eq_true hf, Bool.true_and]
  have htl : tkr F st i < 2 ^ F := mk_lt _ _
  have outer : ∀ g σ', g < 2 ^ F → (∀ j, j ≠ 52 → σ' j = σ j) → (∀ g', g' ≤ g → σ' 52 g' = nI (old g')) → (∀ g', g < g' → g' < 2 ^ F → ∃ v, v ≤ IMP ∧ σ' 52 g' = nI v ∧ Bd F st mo (rtf A) (i + 1) g' v) → Ev l 24 5 [some (.ref 10), some (.int (nI (tkr F st i))), some (.int (nI mo)), some (.int (nI g)), none, none, none] [] σ' P := by
    intro g
    induction g with
    | zero =>
      intro σ' hg fr hlo hhi
      refine b_X2_placeHour_5 _ _ _ (br_f' (nI_nlt (a := 0) (b := 0) (Nat.le_refl _) (by omega)) (hP σ' fr (fun g' hg' => ?_)))
      by_cases c : g' = 0
      · subst c
        refine ⟨old 0, (hold 0 hg').1, hlo 0 (Nat.le_refl _), hstep 0 (old 0) hg' (Or.inl rfl) (Nat.le_refl _) (fun s hs0 hc => ?_)⟩
        have := hc.1
        rw [Nat.and_zero] at this
        exact absurd this.symm hs0
      · exact hhi g' (by omega) hg'
    | succ g iho =>
      intro σ' hg fr hlo hhi
      refine b_X2_placeHour_5 _ _ _ (br_t' (nI_lt (a := 0) (b := g + 1) (by omega) (by omega)) ?_)
      rw [nI_and]
      have hable : (g + 1) &&& tkr F st i < 2 ^ F := Nat.and_lt_two_pow _ htl
      have inner : ∀ n cur σ2 v, cur ≤ n → cur &&& ((g + 1) &&& tkr F st i) = cur → (∀ j, j ≠ 52 → σ2 j = σ j) → (∀ g', g' ≤ g → σ2 52 g' = nI (old g')) → (∀ g', g + 1 < g' → g' < 2 ^ F → ∃ v, v ≤ IMP ∧ σ2 52 g' = nI v ∧ Bd F st mo (rtf A) (i + 1) g' v) → σ2 52 (g + 1) = nI v → (v = old (g + 1) ∨ ∃ s, s ≠ 0 ∧ Cd F st mo i (g + 1) old s ∧ v = old ((g + 1) ^^^ s) + ad F (rtf A) i s) → v ≤ old (g + 1) → (∀ s, s ≠ 0 → cur < s → Cd F st mo i (g + 1) old s → v ≤ old ((g + 1) ^^^ s) + ad F (rtf A) i s) → Ev l 24 18 [some (.ref 10), some (.int (nI (tkr F st i))), some (.int (nI mo)), some (.int (nI (g + 1))), some (.int (nI ((g + 1) &&& tkr F st i))), some (.int (nI cur)), none] [] σ2 P := by
        intro n
        induction n with
        | zero =>
          intro cur σ2 v hn hsub fr2 hlo2 hhi2 hv hs1 hc1 hc2
          have : cur = 0 := by omega
          subst this
          refine b_X2_placeHour_18 _ _ _ _ _ (br_f' (nI_nlt (a := 0) (b := 0) (Nat.le_refl _) (by omega)) ?_)
          rw [add_m1]
          refine iho σ2 (by omega) fr2 hlo2 (fun g' h1' h2' => ?_)
          by_cases c : g' = g + 1
          · subst c
            exact ⟨v, Nat.le_trans hc1 (hold _ hg).1, hv, hstep _ v hg hs1 hc1 (fun s hs0 hc => hc2 s hs0 (by omega) hc)⟩
          · exact hhi2 g' (by omega) h2'
        | succ n ih =>
          intro cur σ2 v hn hsub fr2 hlo2 hhi2 hv hs1 hc1 hc2
          by_cases hz : cur = 0
          · exact ih cur σ2 v (by omega) hsub fr2 hlo2 hhi2 hv hs1 hc1 hc2
          · have hcl : cur < 2 ^ F := by rw [← hsub]; exact Nat.and_lt_two_pow _ hable
            have hcg : cur &&& (g + 1) = cur := and_iff.mpr (fun f hf => by
              have := and_iff.mp hsub f hf
              rw [Nat.testBit_and, Bool.and_eq_true] at this
              exact this.1)
            have hct : ∀ f, cur.testBit f = true → (tkr F st i).testBit f = true := fun f hf => by
              have := and_iff.mp hsub f hf
              rw [Nat.testBit_and, Bool.and_eq_true] at this
              exact this.2
            have hx := xor_lt hcg hz
            obtain ⟨o1, o2, o3⟩ := hold ((g + 1) ^^^ cur) (by omega)
            obtain ⟨p1, p2, p3⟩ := hold (g + 1) hg
            have hnext : ∀ σ3 v3, (∀ j, j ≠ 52 → σ3 j = σ j) → (∀ g', g' ≤ g → σ3 52 g' = nI (old g')) → (∀ g', g + 1 < g' → g' < 2 ^ F → ∃ v, v ≤ IMP ∧ σ3 52 g' = nI v ∧ Bd F st mo (rtf A) (i + 1) g' v) → σ3 52 (g + 1) = nI v3 → (v3 = old (g + 1) ∨ ∃ s, s ≠ 0 ∧ Cd F st mo i (g + 1) old s ∧ v3 = old ((g + 1) ^^^ s) + ad F (rtf A) i s) → v3 ≤ v → (Cd F st mo i (g + 1) old cur → v3 ≤ old ((g + 1) ^^^ cur) + ad F (rtf A) i cur) → Ev l 24 18 [some (.ref 10), some (.int (nI (tkr F st i))), some (.int (nI mo)), some (.int (nI (g + 1))), some (.int (nI ((g + 1) &&& tkr F st i))), some (.int ((nI cur - 1) &&& nI ((g + 1) &&& tkr F st i))), none] [] σ3 P := by
              intro σ3 v3 fr3 hlo3 hhi3 hv3 hs3 hle3 hcur
              rw [show (1 : Int32) = nI 1 from rfl, nI_subn (by omega) (by omega), nI_and]
              refine ih _ σ3 v3 ?_ ?_ fr3 hlo3 hhi3 hv3 hs3 (by omega) (fun s hs0 hlt hc => ?_)
              · have := Nat.and_le_left (n := cur - 1) (m := (g + 1) &&& tkr F st i)
                omega
              · exact and_iff.mpr (fun f hf => by
                  rw [Nat.testBit_and, Bool.and_eq_true] at hf
                  exact hf.2)
              · by_cases e : s = cur
                · rw [e] at hc ⊢
                  exact hcur hc
                · by_cases e2 : cur < s
                  · exact Nat.le_trans hle3 (hc2 s hs0 e2 hc)
                  · exfalso
                    have hsa : s &&& ((g + 1) &&& tkr F st i) = s := and_iff.mpr (fun f hf => by
                      rw [Nat.testBit_and, and_iff.mp hc.1 f hf, Bool.true_and]
                      have hfF : f < F := by
                        by_cases y : f < F
                        · exact y
                        · rw [Nat.testBit_lt_two_pow (Nat.lt_of_lt_of_le hc.2.2.1 (Nat.pow_le_pow_right (by omega) (by omega)))] at hf
                          exact absurd hf (by decide)
                      rw [tk_bit f hfF]
                      exact hc.2.1 f hfF hf)
                    have := sub_next cur cur _ s (Nat.le_refl _) hsub hsa (by omega)
                    omega
            refine b_X2_placeHour_18 _ _ _ _ _ (br_t' (nI_lt (a := 0) (b := cur) (by omega) (by omega)) ?_)
            rw [nI_xor, cl_nI (n := (g + 1) ^^^ cur) (by omega), hlo2 _ (by omega)]
            refine ⟨in_nI (by omega) (by decide), br_i (fun e => ?_) (fun e => ?_)⟩
            · have e' : old ((g + 1) ^^^ cur) = IMP := (nI_eq (b := 1073741824) (by unfold IMP at o1; omega) (by omega)).mp e
              exact hnext σ2 v fr2 hlo2 hhi2 hv hs1 (Nat.le_refl _) (fun hc => absurd e' hc.2.2.2.2)
            · have e' : old ((g + 1) ^^^ cur) ≠ IMP := fun z => e (by rw [z]; rfl)
              refine c_bits h1 hcl ?_
              have hpcl : pc F cur ≤ F := cn_le _ _
              show ax_br (nI mo < nI (pc F cur)) _ _
              refine br_i (fun z => ?_) (fun z => ?_)
              · refine hnext σ2 v fr2 hlo2 hhi2 hv hs1 (Nat.le_refl _) (fun hc => ?_)
                exact absurd z (nI_nlt hc.2.2.2.1 (by omega))
              · have hpm : pc F cur ≤ mo := by
                  by_cases y : mo < pc F cur
                  · exact absurd (nI_lt y (by omega)) z
                  · omega
                have hCd : Cd F st mo i (g + 1) old cur := ⟨hcg, fun f hf hb => by rw [← tk_bit f hf]; exact hct f hb, hcl, hpm, e'⟩
                have hadl := ad_le hs' hi cur
                rw [cl_nI (n := g + 1) (by omega), cl_nI (n := cur) (by omega), hv, fr2 53 (by decide), h53 cur hcl, nI_add]
                refine ⟨in_nI (by omega) (by decide), in_nI (by omega) (by decide), c_min _ _ ?_⟩
                have hvb : v ≤ IMP := Nat.le_trans hc1 p1
                rw [nI_min (by unfold IMP at hvb; omega) (by unfold IMP at o1; omega)]
                refine ⟨in_nI (by omega) (by decide), hnext _ (min v (old ((g + 1) ^^^ cur) + ad F (rtf A) i cur)) (fun j hj => ?_) (fun g' hg' => ?_) (fun g' h1' h2' => ?_) ?_ ?_ (Nat.min_le_left _ _) (fun _ => Nat.min_le_right _ _)⟩
                · rw [us_n _ _ _ hj]; exact fr2 j hj
                · rw [us_s, upd_n _ _ (by omega)]; exact hlo2 g' hg'
                · rw [us_s, upd_n _ _ (by omega)]; exact hhi2 g' h1' h2'
                · rw [us_s, upd_s]
                · by_cases y : v ≤ old ((g + 1) ^^^ cur) + ad F (rtf A) i cur
                  · rw [Nat.min_eq_left y]; exact hs1
                  · rw [Nat.min_eq_right (by omega)]; exact Or.inr ⟨cur, hz, hCd, rfl⟩
      exact inner _ _ σ' (old (g + 1)) (Nat.le_refl _) (and_iff.mpr (fun f hf => hf)) fr (fun g' hg' => hlo g' (by omega)) hhi (hlo _ (Nat.le_refl _)) (Or.inl rfl) (Nat.le_refl _) (fun s hs0 hlt hc => by
        exfalso
        have hsa : s &&& ((g + 1) &&& tkr F st i) = s := and_iff.mpr (fun f hf => by
          rw [Nat.testBit_and, and_iff.mp hc.1 f hf, Bool.true_and]
          have hfF : f < F := by
            by_cases y : f < F
            · exact y
            · rw [Nat.testBit_lt_two_pow (Nat.lt_of_lt_of_le hc.2.2.1 (Nat.pow_le_pow_right (by omega) (by omega)))] at hf
              exact absurd hf (by decide)
          rw [tk_bit f hfF]
          exact hc.2.1 f hfF hf)
        have : s ≤ (g + 1) &&& tkr F st i := by rw [← hsa]; exact Nat.and_le_right
        omega)
  have hp0 := Nat.two_pow_pos F
  exact b_X2_placeHour_0 _ _ (c_every hs' (outer (2 ^ F - 1) σ (by omega) (fun _ _ => rfl) (fun g' hg' => (hold g' (by omega)).2.1) (fun g' h1' h2' => absurd h1' (by omega))))
end SpreadP
