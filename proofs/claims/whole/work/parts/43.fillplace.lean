/-! filling: a place after the other, in the class -/
section FillPl
variable {l : Launch} {P : Option Value → ax_Sg → Prop} {ti wi : Nat → Nat} {S D d : Nat} {pl dl : Nat → Nat} {a : Nat → Int32} {e : ax_Sg}
/-- what stays while places are filled -/
def Fe (e : ax_Sg) (ti wi : Nat → Nat) (S D : Nat) (pl dl : Nat → Nat) : Prop := S ≤ 10 ∧ D ≤ 10 ∧ e 2 6 = nI S ∧ e 2 7 = nI D ∧ (∀ i, i < S → e 20 i = nI (pl i) ∧ pl i < 24 ∧ ti i = pl i % 2) ∧ ∀ j, j < D → e 21 j = nI (dl j) ∧ dl j < 16 ∧ wi j < 3 ∧ e 18 (dl j) = nI (wi j)
def Gc (e : ax_Sg) (ti wi : Nat → Nat) (S D : Nat) (A : Nat → Int32) (i m : Nat) (σ : ax_Sg) : Prop := (∀ j, j ≠ 19 → j ≠ 22 → j ≠ 23 → j ≠ 24 → σ j = e j) ∧ σ 19 = A ∧ (∀ j, j < D → σ 22 j = if m.testBit j = true then 1 else 0) ∧ (∀ t, t < 2 → σ 23 t = nI (sl ti S i t)) ∧ ∀ w, w < 3 → σ 24 w = nI (dlf wi D m w)
theorem Gc.most {A : Nat → Int32} {i m : Nat} {σ : ax_Sg} (hS : S ≤ 10) (hD : D ≤ 10) (h : Gc e ti wi S D A i m σ) (hP : P (some (.int (nI (Vv ti wi S D i m)))) σ) : Ev l 61 0 [some (.ref 2), none, none, none] [] σ P := by
  have sle : ∀ t, sl ti S i t ≤ 10 := fun t => Nat.le_trans (cn_le _ _) hS
  have dle : ∀ w, dlf wi D m w ≤ 10 := fun w => Nat.le_trans (cn_le _ _) hD
  exact c_most (sle 0) (sle 1) (dle 0) (dle 1) (dle 2) (h.2.2.2.1 0 (by decide)) (h.2.2.2.1 1 (by decide)) (h.2.2.2.2 0 (by decide)) (h.2.2.2.2 1 (by decide)) (h.2.2.2.2 2 (by decide)) hP
theorem c_fillPlace {A : Nat → Int32} {i m : Nat} {σ : ax_Sg} (hF : Fe e ti wi S D pl dl) (hi : i < S) (h : Gc e ti wi S D A i m σ) (hP : ∀ σ', Gc e ti wi S D (if pf ti wi S D i m = D then A else upd A (pl i) (nI (dl (pf ti wi S D i m)))) (i + 1) (if pf ti wi S D i m = D then m else m ||| 2 ^ pf ti wi S D i m) σ' → P (some (.int (nI (gw ti wi S D i m)))) σ') : Ev l 60 0 [some (.ref 2), some (.int (nI (pl i))), none, none, none, none, none] [] σ P := by
  obtain ⟨hS, hD, f1, f2, f3, f4⟩ := hF
  obtain ⟨p1, p2, p3⟩ := f3 i hi
  have hV1 : ∀ i' m', Vv ti wi S D i' m' ≤ 40 := fun i' m' => Nat.le_trans (Vv_le _ _ _ _ _ _) (by omega)
  have loop : ∀ k j σ', D - j = k → j ≤ D → ffd (gdb ti wi S D i m) (D - j) j = pf ti wi S D i m → Gc e ti wi S D A (i + 1) m σ' → Ev l 60 22 [some (.ref 2), some (.int (nI (pl i))), some (.int (nI (ti i))), some (.int (nI (Vv ti wi S D i m))), some (.int (nI j)), none, none] [] σ' P := by
    intro k
    induction k with
    | zero =>
      intro j σ' hk hj hff G
      have : j = D := by omega
      subst this
      rw [Nat.sub_self] at hff
      have hpf : pf ti wi S j i m = j := hff.symm
      have e7 : σ' 2 7 = nI j := by rw [G.1 2 (by decide) (by decide) (by decide) (by decide)]; exact f2
      refine b_X8_fillPlace_22 _ _ _ _ (br_f' (by rw [e7]; exact nI_nlt (Nat.le_refl _) (by omega)) ?_)
      have hP' := hP σ'
      unfold gw at hP'
      rw [if_pos hpf, if_pos hpf, if_pos hpf] at hP'
      exact hP' G
    | succ k ih =>
      intro j σ' hk hj hff G
      have G0 := G
      obtain ⟨g1, g2, g3, g4, g5⟩ := G
      have e7 : σ' 2 7 = nI D := by rw [g1 2 (by decide) (by decide) (by decide) (by decide)]; exact f2
      obtain ⟨q1, q2, q3, q4⟩ := f4 j (by omega)
      have e21 : σ' 21 j = nI (dl j) := by rw [g1 21 (by decide) (by decide) (by decide) (by decide)]; exact q1
      have e18 : σ' 18 (dl j) = nI (wi j) := by rw [g1 18 (by decide) (by decide) (by decide) (by decide)]; exact q4
      rw [show D - j = (D - (j + 1)) + 1 by omega] at hff
      unfold ffd at hff
      have hij : vp_in (nI j) 10 := in_nI (by omega) (by decide)
      refine b_X8_fillPlace_22 _ _ _ _ (br_t' (by rw [e7]; exact nI_lt (by omega) (by omega)) ⟨hij, ?_⟩)
      rw [cl_nI (n := j) (by omega), e21, cl_nI (n := dl j) (by omega), e18, cl_nI (n := wi j) (by omega), g3 j (by omega), nI_1]
      have next : ∀ σ2, gdb ti wi S D i m j = false → Gc e ti wi S D A (i + 1) m σ2 → Ev l 60 22 [some (.ref 2), some (.int (nI (pl i))), some (.int (nI (ti i))), some (.int (nI (Vv ti wi S D i m))), some (.int (nI (j + 1))), none, none] [] σ2 P := by
        intro σ2 hg G2
        rw [hg, if_neg (by decide)] at hff
        exact ih (j + 1) σ2 (by omega) (by omega) hff G2
      by_cases hb : m.testBit j = true
      · rw [if_pos hb]
        refine br_f' (by decide) (next σ' ?_ G0)
        unfold gdb
        rw [hb]; rfl
      · rw [if_neg hb]
        have hb' : m.testBit j = false := by
          cases hq : m.testBit j
          · rfl
          · exact absurd hq hb
        refine br_t' rfl ⟨hij, in_nI (by omega) (by decide), ?_⟩
        have hiw : vp_in (nI (wi j)) 3 := in_nI q3 (by decide)
        have key : ∀ W : Int32, W = nI (wo (ti i) (wi j)) → Ev l 61 0 [some (.ref 2), none, none, none] [] (ax_us σ' 24 (wi j) ((σ' 24 (wi j)) - 1)) (fun o1 σ2 => ax_oi o1 (fun v3 => ax_br (W + v3 = nI (Vv ti wi S D i m)) ((vp_in (nI j) 10 ∧ (vp_in (nI j) 10 ∧ (vp_in (nI (pl i)) 24 ∧ P (some (.int W)) (ax_us (ax_us σ2 22 j (vp_nar .boolean 1)) 19 (Int32.toNatClampNeg (nI (pl i))) (σ2 21 j)))))) ((vp_in (nI (wi j)) 3 ∧ (vp_in (nI (wi j)) 3 ∧ Ev l 60 22 [some (.ref 2), some (.int (nI (pl i))), some (.int (nI (ti i))), some (.int (nI (Vv ti wi S D i m))), some (.int (nI (j + 1))), none, none] [] (ax_us σ2 24 (wi j) ((σ2 24 (wi j)) + 1)) P))))) := by
          intro W hW
          have hstep := fun w => dl_step wi (D := D) (m := m) (j := j) w (by omega) hb'
          have hself : dlf wi D m (wi j) = dlf wi D (m ||| 2 ^ j) (wi j) + 1 := by
            have := hstep (wi j)
            rw [beq_self_eq_true] at this
            exact this
          have hoth : ∀ w, w ≠ wi j → dlf wi D m w = dlf wi D (m ||| 2 ^ j) w := by
            intro w hw
            have := hstep w
            rw [beq_eq_false_iff_ne.mpr (fun z => hw z.symm)] at this
            exact this
          have G1 : Gc e ti wi S D A (i + 1) (m ||| 2 ^ j) (ax_us (ax_us σ' 24 (wi j) ((σ' 24 (wi j)) - 1)) 22 j 1) := by
            refine ⟨fun j' h1 h2 h3 h4 => ?_, ?_, fun j' hj' => ?_, fun t ht => ?_, fun w hw => ?_⟩
            · rw [us_n _ _ _ h2, us_n _ _ _ h4]; exact g1 j' h1 h2 h3 h4
            · rw [us_n _ _ _ (by decide), us_n _ _ _ (by decide)]; exact g2
            · rw [us_s, us_n _ _ _ (by decide), or_bit]
              by_cases ej : j' = j
              · rw [ej, upd_s, decide_eq_true rfl, Bool.or_true, if_pos rfl]
              · rw [upd_n _ _ ej, decide_eq_false (fun z => ej z.symm), Bool.or_false]; exact g3 j' hj'
            · rw [us_n _ _ _ (by decide), us_n _ _ _ (by decide)]; exact g4 t ht
            · rw [us_n _ _ _ (by decide), us_s]
              by_cases ew : w = wi j
              · rw [ew, upd_s, g5 _ q3, hself]; exact nI_pred _
              · rw [upd_n _ _ ew, g5 w hw, hoth w ew]
          have sle : ∀ t, sl ti S (i + 1) t ≤ 10 := fun t => Nat.le_trans (cn_le _ _) hS
          have dle : ∀ w, dlf wi D (m ||| 2 ^ j) w ≤ 10 := fun w => Nat.le_trans (cn_le _ _) hD
          have u24 : ∀ w, w < 3 → ax_us σ' 24 (wi j) ((σ' 24 (wi j)) - 1) 24 w = nI (dlf wi D (m ||| 2 ^ j) w) := fun w hw => G1.2.2.2.2 w hw
          have u23 : ∀ t, t < 2 → ax_us σ' 24 (wi j) ((σ' 24 (wi j)) - 1) 23 t = nI (sl ti S (i + 1) t) := fun t ht => g4 t ht
          refine c_most (sle 0) (sle 1) (dle 0) (dle 1) (dle 2) (u23 0 (by decide)) (u23 1 (by decide)) (u24 0 (by decide)) (u24 1 (by decide)) (u24 2 (by decide)) ?_
          show ax_br (W + nI (Vv ti wi S D (i + 1) (m ||| 2 ^ j)) = nI (Vv ti wi S D i m)) _ _
          have hwo : wo (ti i) (wi j) ≤ 2 := by
            unfold wo
            by_cases c : wi j = 2 ∨ wi j = ti i
            · rw [if_pos c]; omega
            · rw [if_neg c]; omega
          have hv1 := hV1 (i + 1) (m ||| 2 ^ j)
          have hv2 := hV1 i m
          rw [hW, nI_add]
          refine br_i (fun c => ⟨hij, hij, in_nI p2 (by decide), ?_⟩) (fun c => ⟨hiw, hiw, next _ ?_ ?_⟩)
          · have c' := (nI_eq (by omega) (by omega)).mp c
            have hg : gdb ti wi S D i m j = true := by
              unfold gdb
              rw [hb', Bool.not_false, Bool.true_and, beq_iff_eq]
              exact c'
            rw [hg, if_pos rfl] at hff
            have hne : ¬ pf ti wi S D i m = D := by omega
            have hP' := hP (ax_us (ax_us (ax_us σ' 24 (wi j) ((σ' 24 (wi j)) - 1)) 22 j (vp_nar .boolean 1)) 19 (Int32.toNatClampNeg (nI (pl i))) ((ax_us σ' 24 (wi j) ((σ' 24 (wi j)) - 1)) 21 j))
            unfold gw at hP'
            rw [if_neg hne, if_neg hne, if_neg hne, ← hff] at hP'
            refine hP' ?_
            rw [nar1, cl_nI (by omega), us_n _ _ _ (by decide), e21]
            obtain ⟨r1, r2, r3, r4, r5⟩ := G1
            refine ⟨fun j' h1 h2 h3 h4 => ?_, ?_, fun j' hj' => ?_, fun t ht => ?_, fun w hw => ?_⟩
            · rw [us_n _ _ _ h1]; exact r1 j' h1 h2 h3 h4
            · rw [us_s, r2]
            · rw [us_n _ _ _ (by decide)]; exact r3 j' hj'
            · rw [us_n _ _ _ (by decide)]; exact r4 t ht
            · rw [us_n _ _ _ (by decide)]; exact r5 w hw
          · unfold gdb
            rw [hb', Bool.not_false, Bool.true_and, beq_eq_false_iff_ne]
            exact fun z => c (by rw [z])
          · refine ⟨fun j' h1 h2 h3 h4 => ?_, ?_, fun j' hj' => ?_, fun t ht => ?_, fun w hw => ?_⟩
            · rw [us_n _ _ _ h4, us_n _ _ _ h4]; exact g1 j' h1 h2 h3 h4
            · rw [us_n _ _ _ (by decide), us_n _ _ _ (by decide)]; exact g2
            · rw [us_n _ _ _ (by decide), us_n _ _ _ (by decide)]; exact g3 j' hj'
            · rw [us_n _ _ _ (by decide), us_n _ _ _ (by decide)]; exact g4 t ht
            · rw [us_s]
              by_cases ew : w = wi j
              · rw [ew, upd_s, u24 _ q3, hself, nI_1]
              · rw [upd_n _ _ ew, u24 w hw, hoth w ew]
        have ht2 : ti i < 2 := by rw [p3]; exact Nat.mod_lt _ (by omega)
        refine br_i (fun c => ⟨hiw, hiw, key 2 ?_⟩) (fun c => br_i (fun c2 => ⟨hiw, hiw, key 2 ?_⟩) (fun c2 => ⟨hiw, hiw, key 1 ?_⟩))
        · have : wi j = 2 := (nI_eq (b := 2) (by omega) (by omega)).mp c
          unfold wo
          rw [if_pos (Or.inl this)]; rfl
        · have : wi j = ti i := (nI_eq (by omega) (by omega)).mp c2
          unfold wo
          rw [if_pos (Or.inr this)]; rfl
        · unfold wo
          rw [if_neg (fun z => z.elim (fun z => c (by rw [z]; rfl)) (fun z => c2 (by rw [z])))]; rfl
  refine b_X8_fillPlace_0 _ ⟨by decide, h.most hS hD ?_⟩
  have ht2 : ti i < 2 := by rw [p3]; exact Nat.mod_lt _ (by omega)
  have htt : nI (pl i) - nI (pl i) / 2 * 2 = nI (ti i) := by rw [m2_nI (by omega), p3]
  refine ⟨by rw [htt]; exact in_nI ht2 (by decide), by rw [htt]; exact in_nI ht2 (by decide), ?_⟩
  rw [htt, cl_nI (by omega)]
  refine loop D 0 _ (by omega) (by omega) rfl ?_
  obtain ⟨g1, g2, g3, g4, g5⟩ := h
  refine ⟨fun j' h1 h2 h3 h4 => ?_, ?_, fun j' hj' => ?_, fun t ht => ?_, fun w hw => ?_⟩
  · rw [us_n _ _ _ h3]; exact g1 j' h1 h2 h3 h4
  · rw [us_n _ _ _ (by decide)]; exact g2
  · rw [us_n _ _ _ (by decide)]; exact g3 j' hj'
  · rw [us_s]
    have hstep := sl_step ti (S := S) (i := i) t hi
    by_cases et : t = ti i
    · rw [et] at hstep ⊢
      rw [beq_self_eq_true] at hstep
      rw [upd_s, g4 _ ht2, hstep]
      exact nI_pred _
    · rw [beq_eq_false_iff_ne.mpr (fun z => et z.symm)] at hstep
      rw [upd_n _ _ et, g4 t ht, hstep]; rfl
  · rw [us_n _ _ _ (by decide)]; exact g5 w hw
theorem c_fillAll {σ : ax_Sg} (hF : Fe e ti wi S D pl dl) (h : Gc e ti wi S D a 0 0 σ) (hP : ∀ σ', Gc e ti wi S D (ga ti wi S D pl dl a S) S (gm ti wi S D S) σ' → P (some (.int (nI (gs ti wi S D S)))) σ') : Ev l 57 13 [some (.ref 2), none, some (.int 0), some (.int 0)] [] σ P := by
  have hF' := hF
  obtain ⟨hS, hD, f1, f2, f3, f4⟩ := hF
  have loop : ∀ k i σ', S - i = k → i ≤ S → Gc e ti wi S D (ga ti wi S D pl dl a i) i (gm ti wi S D i) σ' → Ev l 57 13 [some (.ref 2), none, some (.int (nI (gs ti wi S D i))), some (.int (nI i))] [] σ' P := by
    intro k
    induction k with
    | zero =>
      intro i σ' hk hi G
      have : i = S := by omega
      subst this
      exact b_X8_fillFree_13 _ _ (br_f' (by rw [G.1 2 (by decide) (by decide) (by decide) (by decide), f1]; exact nI_nlt (Nat.le_refl _) (by omega)) (hP σ' G))
    | succ k ih =>
      intro i σ' hk hi G
      refine b_X8_fillFree_13 _ _ (br_t' (by rw [G.1 2 (by decide) (by decide) (by decide) (by decide), f1]; exact nI_lt (by omega) (by omega)) ⟨in_nI (by omega) (by decide), ?_⟩)
      rw [cl_nI (by omega), G.1 20 (by decide) (by decide) (by decide) (by decide), (f3 i (by omega)).1, nI_1]
      refine c_fillPlace hF' (by omega) G (fun σ2 G2 => ?_)
      show Ev l 57 13 [some (.ref 2), none, some (.int (nI (gs ti wi S D i) + nI (gw ti wi S D i (gm ti wi S D i)))), some (.int (nI (i + 1)))] [] σ2 P
      rw [nI_add]
      exact ih (i + 1) σ2 (by omega) (by omega) G2
  exact loop S 0 σ (by omega) (by omega) h
end FillPl
