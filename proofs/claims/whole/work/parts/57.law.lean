/-! the law's text, in the reference: clauses; law, the pair -/
section LawG
variable {l : Launch} {P : Option Value → ax_Sg → Prop} {σ : ax_Sg} {T : Nat} {s : Nat → Int32}
/-- only what a clause may change -/
def Mf (e : ax_Sg) (i : Nat) (σ : ax_Sg) : Prop := (∀ j, j ≠ 13 → j ≠ 80 → j ≠ 81 → j ≠ 82 → σ j = e j) ∧ (∀ j, j ≠ 36 → σ 13 j = e 13 j) ∧ ∀ q, q ≠ i → σ 80 q = e 80 q ∧ σ 81 q = e 81 q ∧ σ 82 q = e 82 q
theorem Mf.rfl' {i : Nat} (e : ax_Sg) : Mf e i e := ⟨fun _ _ _ _ _ => rfl, fun _ _ => rfl, fun _ _ => ⟨rfl, rfl, rfl⟩⟩
theorem Mf.at_ {e : ax_Sg} {i : Nat} (h : Mf e i σ) (x : Int32) : Mf e i (ax_us σ 13 36 x) := by
  obtain ⟨h1, h2, h3⟩ := h
  refine ⟨fun j a b c d => ?_, fun j hj => ?_, h3⟩
  · rw [us_n _ _ _ a]; exact h1 j a b c d
  · rw [us_s, upd_n _ _ hj]; exact h2 j hj
theorem Mf.up {e : ax_Sg} {i k : Nat} (h : Mf e i σ) (hk : k = 80 ∨ k = 81 ∨ k = 82) (x : Int32) : Mf e i (ax_us σ k i x) := by
  obtain ⟨h1, h2, h3⟩ := h
  refine ⟨fun j a b c d => ?_, fun j hj => ?_, fun q hq => ?_⟩
  · rw [us_n _ _ _ (by omega)]; exact h1 j a b c d
  · rw [us_n _ _ _ (by omega)]; exact h2 j hj
  · have h4 := h3 q hq
    rcases hk with rfl | rfl | rfl
    · rw [us_s, upd_n _ _ hq, us_n _ _ _ (by decide), us_n _ _ _ (by decide)]; exact h4
    · rw [us_s, upd_n _ _ hq, us_n _ _ _ (by decide), us_n _ _ _ (by decide)]; exact h4
    · rw [us_s, upd_n _ _ hq, us_n _ _ _ (by decide), us_n _ _ _ (by decide)]; exact h4
theorem m_num {e : ax_Sg} (hT : Tq T s e) {b i : Nat} (hb : b ≤ 150) (hi : i < 6) (hM : Mf e i σ) (e36 : σ 13 36 = nI b) (hz : ¬ nd s b = 0) (hP : ∀ σ', Mf e i σ' → σ' 13 36 = nI (b + nd s b) → σ' 80 = σ 80 → σ' 81 = σ 81 → σ' 82 i = nv s b (nd s b) → P (some (.int 1)) σ') : Ev l 129 109 [some (.ref 13), some (.int (nI i)), none, some (.int 0), some (.int 0)] [] σ P := by
  have hii : vp_in (nI i) 6 := in_nI hi (by decide)
  have loop : ∀ m n σ', 4 - n = m → n ≤ 4 → Mf e i σ' → σ' 13 36 = nI (b + n) → σ' 80 = σ 80 → σ' 81 = σ 81 → ffd (fun i => !(decide (dgt s 9 (b + i)))) (4 - n) n = nd s b → Ev l 129 109 [some (.ref 13), some (.int (nI i)), none, some (.int (nv s b n)), some (.int (nI n))] [] σ' P := by
    intro m
    induction m with
    | zero =>
      intro n σ' hm hn M h36 h80 h81 hff
      have : n = 4 := by omega
      subst this
      have hnd : nd s b = 4 := hff.symm
      rw [hnd] at hP
      refine b_X11_clause_109 _ _ _ (br_f' (nI_nlt (a := 4) (b := 4) (Nat.le_refl _) (by omega)) ⟨hii, nar1, ?_⟩)
      rw [cl_nI (by omega)]
      exact hP _ (M.up (Or.inr (Or.inr rfl)) _) h36 h80 h81 (by rw [us_s, upd_s])
    | succ m ih =>
      intro n σ' hm hn M h36 h80 h81 hff
      rw [show 4 - n = (4 - (n + 1)) + 1 by omega] at hff
      unfold ffd at hff
      have hT1 : Tq T s σ' := hT.fr (M.2.1 34 (by decide)) (M.1 76 (by decide) (by decide) (by decide) (by decide))
      refine b_X11_clause_109 _ _ _ (br_t' (nI_lt (b := 4) (by omega) (by omega)) (m_sign (a := b + n) hT1 (by omega) h36 (m_isDigit (fun y => ?_) (fun y => ?_))))
      · have y' : dgt s 9 (b + n) := y
        rw [decide_eq_true y', if_neg (by decide)] at hff
        refine br_f' (by decide) (m_sign (a := b + n) hT1 (by omega) h36 ?_)
        show Ev l 129 109 [some (.ref 13), some (.int (nI i)), none, some (.int (((10 * nv s b n) + s (b + n)) - 48)), some (.int (nI n + 1))] [] (ax_us σ' 13 36 ((σ' 13 36) + 1)) P
        rw [h36, nI_1, nI_1]
        have ev : ((10 * nv s b n) + s (b + n)) - 48 = nv s b (n + 1) := by
          show _ = nv s b n * 10 + (s (b + n) - 48)
          rw [Int32.mul_comm 10, Int32.sub_eq_add_neg, Int32.add_assoc, ← Int32.sub_eq_add_neg]
        rw [ev]
        exact ih (n + 1) _ (by omega) (by omega) (M.at_ _) (by rw [us_s, upd_s]; rfl) (by rw [us_n _ _ _ (by decide)]; exact h80) (by rw [us_n _ _ _ (by decide)]; exact h81) hff
      · have y' : ¬ dgt s 9 (b + n) := y
        rw [decide_eq_false y', if_pos (by decide)] at hff
        refine br_t' rfl ⟨hii, nar1, ?_⟩
        rw [cl_nI (by omega)]
        rw [← hff] at hP
        exact hP _ (M.up (Or.inr (Or.inr rfl)) _) h36 h80 h81 (by rw [us_s, upd_s])
  exact loop 4 0 σ (by omega) (by omega) hM e36 rfl rfl rfl
theorem nd_0 {b : Nat} : nd s b = 0 ↔ ¬ dgt s 9 b := by
  have hff0 : ffd (fun i => !(decide (dgt s 9 (b + i)))) (3 + 1) 0 = nd s b := rfl
  unfold ffd at hff0
  by_cases y : dgt s 9 (b + 0)
  · rw [decide_eq_true y, if_neg (by decide)] at hff0
    have := (ffd_min (fun i => !(decide (dgt s 9 (b + i)))) 3 1).1
    constructor
    · intro z
      exfalso
      rw [hff0] at this
      omega
    · intro z
      exact absurd y z
  · rw [decide_eq_false y, if_pos (by decide)] at hff0
    exact ⟨fun _ => y, fun _ => hff0.symm⟩
theorem m_clause {e : ax_Sg} (hT : Tq T s e) {a i : Nat} (ha : a ≤ 100) (hi : i < 6) (hM : Mf e i σ) (e36 : σ 13 36 = nI a) (hN : ∀ e', clo s a = (none, e') → ∀ σ', Mf e i σ' → σ' 13 36 = nI e' → P (some (.int 0)) σ') (hY : ∀ κ w v e', clo s a = (some (κ, w, v), e') → ∀ σ', Mf e i σ' → σ' 13 36 = nI e' → σ' 80 i = nI κ → σ' 82 i = v → (κ = 3 → σ' 81 i = w) → P (some (.int 1)) σ') : Ev l 129 0 [some (.ref 13), some (.int (nI i)), none, none, none] [] σ P := by
  have hwp := wp_le (s := s) a
  have hii : vp_in (nI i) 6 := in_nI hi (by decide)
  have hTm : ∀ σ', Mf e i σ' → Tq T s σ' := fun σ' M => hT.fr (M.2.1 34 (by decide)) (M.1 76 (by decide) (by decide) (by decide) (by decide))
  refine b_X11_clause_0 _ (m_word (hTm σ hM) (a := a) (by omega) e36 (fun w n hw hn hl => ?_) (fun h6 => ?_))
  · refine br_f' (nI_nn (by omega)) ?_
    have htl := tl_le hw
    refine m_takesB (a := a + n) (hTm _ (hM.at_ _)) (by omega) (by rw [us_s, upd_s]) (fun y => ?_) (fun y => ?_)
    · have hbl := tx_bl ⟨w, hw⟩
      have hbl' : tx w (tl w - 1) = 32 := hbl
      have hfull : Lc s a w = tl w := by
        have h1 := (Lc_spec (s := s) a w).1
        have h2 : tl w ≤ Lc s a w := Lc_ge (Nat.le_refl _) (fun j hj => by
          by_cases c : j = n
          · rw [c, y, ← hbl', show tl w - 1 = n by omega]
          · exact (Lc_spec (s := s) a w).2.1 j (by omega))
        omega
      have hwk : wk s a = w := wk_some hw hfull
      have hwpe : wp s a = a + n + 1 := by
        unfold wp
        rw [if_neg (by omega), hwk]; omega
      have hclo : clo s a = if w = 3 then (if dgt s 4 (wp s a) then (if s (wp s a + 1) = 32 then nmo s 3 (s (wp s a) - 48) (wp s a + 2) else (none, wp s a + 1)) else (none, wp s a)) else nmo s w 0 (wp s a) := by
        unfold clo
        rw [if_neg (by omega), hwk]
      rw [hclo] at hN hY
      rw [us_us, show a + n + 1 = wp s a from hwpe.symm]
      have M1 : Mf e i (ax_us (ax_us (ax_us σ 13 36 (nI (wp s a))) 80 i (nI w)) 81 i 0) := ((hM.at_ _).up (Or.inl rfl) _).up (Or.inr (Or.inl rfl)) _
      refine br_f' (by decide) ⟨hii, hii, ?_⟩
      rw [cl_nI (by omega)]
      have num : ∀ (b : Nat) (w' : Int32) (σ2 : ax_Sg), b ≤ 120 → Mf e i σ2 → σ2 13 36 = nI b → σ2 80 i = nI w → (w = 3 → σ2 81 i = w') → (∀ e', nmo s w w' b = (none, e') → ∀ σ', Mf e i σ' → σ' 13 36 = nI e' → P (some (.int 0)) σ') → (∀ κ u v e', nmo s w w' b = (some (κ, u, v), e') → ∀ σ', Mf e i σ' → σ' 13 36 = nI e' → σ' 80 i = nI κ → σ' 82 i = v → (κ = 3 → σ' 81 i = u) → P (some (.int 1)) σ') → Ev l 124 0 [some (.ref 13)] [] σ2 (fun o25 σ26 => ax_oi o25 (fun v27 => Ev l 127 0 [some (.int v27)] [] σ26 (fun o28 σ29 => ax_oi o28 (fun v30 => ax_br (v30 = 0) ((vp_nar .boolean 0 = 0 ∧ P (some (.int 0)) σ29)) (Ev l 129 109 [some (.ref 13), some (.int (nI i)), none, some (.int 0), some (.int 0)] [] σ29 P))))) := by
        intro b w' σ2 hb M2 h36 h80 h81 kN kY
        unfold nmo at kN kY
        refine m_sign (a := b) (hTm _ M2) (by omega) h36 (m_isDigit (fun z => br_f' (by decide) ?_) (fun z => br_t' rfl ⟨nar0, ?_⟩))
        · have hz : ¬ nd s b = 0 := fun q => (nd_0.mp q) z
          rw [if_neg hz] at kY
          refine m_num hT (by omega) hi M2 h36 hz (fun σ3 M3 b36 b80 b81 b82 => kY _ _ _ _ rfl σ3 M3 b36 (by rw [b80]; exact h80) b82 (fun q => by rw [b81]; exact h81 q))
        · have hz : nd s b = 0 := nd_0.mpr z
          rw [if_pos hz] at kN
          exact kN _ rfl σ2 M2 h36
      by_cases c3 : w = 3
      · rw [if_pos c3] at hN hY
        have hs1 : ∀ {Q : Option Value → ax_Sg → Prop}, Q (some (.int (s (wp s a)))) (ax_us (ax_us (ax_us σ 13 36 (nI (wp s a))) 80 i (nI w)) 81 i 0) → Ev l 124 0 [some (.ref 13)] [] (ax_us (ax_us (ax_us σ 13 36 (nI (wp s a))) 80 i (nI w)) 81 i 0) Q := fun h => m_sign (a := wp s a) (hTm _ M1) (by omega) rfl h
        refine br_t' (by rw [c3]; rfl) (hs1 (c_isInI _ _ _ (fun y2 => br1 (hs1 ⟨hii, ?_⟩)) (fun y2 => br0 ⟨nar0, ?_⟩)))
        · have yd : dgt s 4 (wp s a) := y2
          rw [if_pos yd] at hN hY
          have e1 : (ax_us (ax_us (ax_us σ 13 36 (nI (wp s a))) 80 i (nI w)) 81 i 0) 13 36 = nI (wp s a) := rfl
          rw [e1, nI_1]
          have M2 : Mf e i (ax_us (ax_us (ax_us (ax_us (ax_us σ 13 36 (nI (wp s a))) 80 i (nI w)) 81 i 0) 81 i (s (wp s a) - 48)) 13 36 (nI (wp s a + 1))) := (M1.up (Or.inr (Or.inl rfl)) _).at_ _
          refine m_takesB (a := wp s a + 1) (hTm _ M2) (by omega) rfl (fun y3 => br_f' (by decide) ?_) (fun y3 => br_t' rfl ⟨nar0, ?_⟩)
          · rw [if_pos y3] at hN hY
            refine num (wp s a + 2) (s (wp s a) - 48) _ (by omega) (M2.at_ _) rfl ?_ (fun _ => ?_) (fun e' h => hN e' (by rw [c3] at h; exact h)) (fun κ u v e' h => hY κ u v e' (by rw [c3] at h; exact h))
            · rw [us_n _ _ _ (by decide), us_n _ _ _ (by decide), us_n _ _ _ (by decide), us_n _ _ _ (by decide), us_s, upd_s]
            · rw [us_n _ _ _ (by decide), us_n _ _ _ (by decide), us_s, upd_s]
          · rw [if_neg y3] at hN
            exact hN _ rfl _ M2 rfl
        · have yd : ¬ dgt s 4 (wp s a) := y2
          rw [if_neg yd] at hN
          exact hN _ rfl _ M1 rfl
      · rw [if_neg c3] at hN hY
        refine br_f' (fun z => c3 ((nI_eq (b := 3) (by omega) (by omega)).mp z)) ?_
        refine num (wp s a) 0 _ (by omega) M1 rfl ?_ (fun z => absurd z c3) hN hY
        rw [us_n _ _ _ (by decide), us_s, upd_s]
    · have hlt : Lc s a w = n := by
        by_cases c : n + 1 ≤ Lc s a w
        · exfalso
          have h1 := (Lc_spec (s := s) a w).2.1 n (by omega)
          have hbl := tx_bl ⟨w, hw⟩
          have hbl' : tx w (tl w - 1) = 32 := hbl
          rw [show tl w - 1 = n by omega] at hbl'
          exact y (h1.trans hbl')
        · omega
      have hoth : ∀ v, v < 6 → v ≠ w → Lc s a v < n ∧ Lc s a v < tl v := by
        intro v hv hne
        have := Lc_other (s := s) (a := a) hw hv (fun z => hne z.symm) (by omega)
        omega
      have hw6 : wk s a = 6 := wk_none (fun v hv => by
        by_cases c : v = w
        · rw [c]; omega
        · have := hoth v hv c; omega)
      have hm6 : mL s a 6 = n := mL_eq (fun v hv => by
        by_cases c : v = w
        · rw [c]; omega
        · have := hoth v hv c; omega) ⟨w, hw, hlt⟩
      have hwpe : wp s a = a + n := by
        unfold wp
        rw [if_pos hw6, hm6]
      refine br_t' rfl ⟨nar0, hN (a + n) ?_ _ (hM.at_ _) (by rw [us_s, upd_s])⟩
      unfold clo
      rw [if_pos hw6, hwpe]
  · refine br_t' (by decide) ⟨nar0, hN (wp s a) ?_ _ (hM.at_ _) (by rw [us_s, upd_s])⟩
    unfold clo
    rw [if_pos h6]
/-- what the reference read so far -/
def Mr (e : ax_Sg) (s : Nat → Int32) (i : Nat) (σ : ax_Sg) : Prop := (∀ j, j ≠ 13 → j ≠ 80 → j ≠ 81 → j ≠ 82 → σ j = e j) ∧ (∀ j, j ≠ 36 → σ 13 j = e 13 j) ∧ ∀ q, q < i → ∃ κ w v, (clo s (pa s q)).1 = some (κ, w, v) ∧ σ 80 q = nI κ ∧ σ 82 q = v ∧ (κ = 3 → σ 81 q = w)
theorem m_parses {e : ax_Sg} (hT : Tq T s e) (hN : ∀ e', out s T 6 0 = (none, e') → ∀ σ', Mr e s 0 σ' → σ' 13 36 = nI e' → P (some (.int 0)) σ') (hY : ∀ n e', out s T 6 0 = (some n, e') → ∀ σ', n ≤ 6 → 1 ≤ n → Mr e s n σ' → P (some (.int (nI n))) σ') : Ev l 130 0 [some (.ref 13), none] [] e P := by
  have w0 : ∀ {σ' : ax_Sg} {i : Nat}, Mr e s i σ' → Mr e s 0 σ' := fun M => ⟨M.1, M.2.1, fun q hq => absurd hq (by omega)⟩
  have loop : ∀ f i σ', i + f = 6 → 1 ≤ f → σ' 13 36 = nI (pa s i) → Mr e s i σ' → out s T f i = out s T 6 0 → Ev l 130 7 [some (.ref 13), some (.int (nI i))] [] σ' P := by
    intro f
    induction f with
    | zero => intro i σ' hf hf1; omega
    | succ f ih =>
      intro i σ' hf hf1 e36 M ho
      have hpa := pa_le (s := s) i
      have hcl := clo_le (s := s) (pa s i)
      have hT1 : Tq T s σ' := hT.fr (M.2.1 34 (by decide)) (M.1 76 (by decide) (by decide) (by decide) (by decide))
      have keep : ∀ {σ2 : ax_Sg}, Mf σ' i σ2 → Mr e s i σ2 := by
        intro σ2 F
        refine ⟨fun j a b c d => (F.1 j a b c d).trans (M.1 j a b c d), fun j hj => (F.2.1 j hj).trans (M.2.1 j hj), fun q hq => ?_⟩
        obtain ⟨k1, k2, k3⟩ := F.2.2 q (by omega)
        rw [k1, k2, k3]
        exact M.2.2 q hq
      unfold out at ho
      refine b_X11_parses_7 _ (br_t' (nI_lt (a := i) (b := 6) (by omega) (by omega)) (m_clause hT1 (a := pa s i) (by omega) (by omega) (Mf.rfl' σ') e36 (fun e' hcl' σ2 F h36 => ?_) (fun κ w v e' hcl' σ2 F h36 h80 h82 h81 => ?_)))
      · rw [hcl', if_pos rfl] at ho
        exact br_t' rfl (hN e' ho.symm σ2 (w0 (keep F)) h36)
      · have h1 : (clo s (pa s i)).1 = some (κ, w, v) := by rw [hcl']
        have h2 : (clo s (pa s i)).2 = e' := by rw [hcl']
        rw [h1, h2, if_neg so_ne] at ho
        rw [h2] at hcl
        have M2 : Mr e s (i + 1) σ2 := by
          have K := keep F
          refine ⟨K.1, K.2.1, fun q hq => ?_⟩
          by_cases c : q = i
          · rw [c]; exact ⟨κ, w, v, h1, h80, h82, h81⟩
          · exact K.2.2 q (by omega)
        have e34 : σ2 13 34 = nI T := by rw [M2.2.1 34 (by decide)]; exact hT.2.1
        have hT120 := hT.1
        refine br_f' (by decide) ?_
        rw [e34, h36]
        refine br_i (fun z => ?_) (fun z => ?_)
        · have z' := (nI_eq (by omega) (by omega)).mp z
          rw [if_pos z'] at ho
          rw [nI_1]
          exact hY (i + 1) e' ho.symm σ2 (by omega) (by omega) M2
        · have z' : ¬ e' = T := fun y => z (by rw [y])
          rw [if_neg z'] at ho
          refine br_i (fun z2 => ?_) (fun z2 => ?_)
          · have z2' := (nI_eq (a := i) (b := 5) (by omega) (by omega)).mp z2
            rw [if_pos z2'] at ho
            exact hN e' ho.symm σ2 (w0 M2) h36
          · have z2' : ¬ i = 5 := fun y => z2 (by rw [y]; rfl)
            rw [if_neg z2'] at ho
            have hT2 : Tq T s σ2 := hT.fr (M2.2.1 34 (by decide)) (M2.1 76 (by decide) (by decide) (by decide) (by decide))
            refine m_takesB hT2 (a := e') (by omega) h36 (fun y => br_f' (by decide) ?_) (fun y => br_t' rfl ?_)
            · rw [if_pos y] at ho
              rw [nI_1]
              refine ih (i + 1) _ (by omega) (by omega) ?_ ⟨fun j a b c d => ?_, fun j hj => ?_, M2.2.2⟩ ho
              · rw [us_s, upd_s]
                show nI (e' + 1) = nI ((clo s (pa s i)).2 + 1)
                rw [h2]
              · rw [us_n _ _ _ a]; exact M2.1 j a b c d
              · rw [us_s, upd_n _ _ hj]; exact M2.2.1 j hj
            · rw [if_neg y] at ho
              exact hN e' ho.symm σ2 (w0 M2) h36
  refine b_X11_parses_0 (loop 6 0 _ rfl (by omega) rfl ⟨fun j a b c d => ?_, fun j hj => ?_, fun q hq => absurd hq (by omega)⟩ rfl)
  · rw [us_n _ _ _ a]
  · rw [us_s, upd_n _ _ hj]
end LawG
