/-! the law's text, in the class: clauses -/
theorem on_ne {α : Type} {x : α} : ¬ (none : Option α) = some x := fun h => nomatch h
theorem so_ne {α : Type} {x : α} : ¬ some x = (none : Option α) := fun h => nomatch h
theorem dg_ne {s : Nat → Int32} {m : Int} {a : Nat} (hm : m ≤ 9) (y : dgt s m a) : ¬ s a - 48 = -1 := by
  intro z
  have h48 : (48 : Int32).toInt = 48 := by decide
  have y1 := y.1
  have y2 := y.2
  have es : (s a - 48).toInt = (s a).toInt - 48 := by
    rw [sub_toInt (by rw [h48]; omega) (by rw [h48]; omega), h48]
  rw [z] at es
  have e1 : (-1 : Int32).toInt = -1 := by decide
  rw [e1] at es
  omega
theorem nv_ne {s : Nat → Int32} {b n : Nat} (hn : n ≤ nd s b) : ¬ nv s b n = -1 := by
  intro z
  have h := nd_spec (s := s) b
  have := (nv_rg (s := s) (b := b) n (by omega) (fun i hi => h.2 i (by omega))).1
  rw [z] at this
  exact absurd this (by decide)
theorem clo_rg {s : Nat → Int32} {a κ e : Nat} {w v : Int32} (h : clo s a = (some (κ, w, v), e)) : κ < 6 ∧ rg 0 9999 v := by
  have key : ∀ k w' b, nmo s k w' b = (some (κ, w, v), e) → κ = k ∧ rg 0 9999 v := by
    intro k w' b hh
    unfold nmo at hh
    by_cases c : nd s b = 0
    · rw [if_pos c] at hh
      exact absurd (show (none : Option (Nat × Int32 × Int32)) = some (κ, w, v) from congrArg Prod.fst hh) on_ne
    · rw [if_neg c] at hh
      have h1 := congrArg Prod.fst hh
      have h2 : (k, w', nv s b (nd s b)) = (κ, w, v) := Option.some.inj h1
      have h3 : k = κ := congrArg Prod.fst h2
      have h4 : nv s b (nd s b) = v := congrArg (fun x => x.2.2) h2
      refine ⟨h3.symm, ?_⟩
      have h5 := nd_spec (s := s) b
      have h6 := nv_rg (s := s) (b := b) (nd s b) h5.1 h5.2
      rw [← h4]
      have h7 : (10 : Int) ^ nd s b ≤ 10000 := by
        rcases (show nd s b = 0 ∨ nd s b = 1 ∨ nd s b = 2 ∨ nd s b = 3 ∨ nd s b = 4 by omega) with z | z | z | z | z <;> rw [z] <;> decide
      unfold rg
      omega
  unfold clo at h
  by_cases c : wk s a = 6
  · rw [if_pos c] at h
    exact absurd (show (none : Option (Nat × Int32 × Int32)) = some (κ, w, v) from congrArg Prod.fst h) on_ne
  · rw [if_neg c] at h
    have := wk_le (s := s) a
    by_cases c2 : wk s a = 3
    · rw [if_pos c2] at h
      by_cases c3 : dgt s 4 (wp s a)
      · rw [if_pos c3] at h
        by_cases c4 : s (wp s a + 1) = 32
        · rw [if_pos c4] at h
          obtain ⟨k1, k2⟩ := key _ _ _ h
          exact ⟨by omega, k2⟩
        · rw [if_neg c4] at h
          exact absurd (show (none : Option (Nat × Int32 × Int32)) = some (κ, w, v) from congrArg Prod.fst h) on_ne
      · rw [if_neg c3] at h
        exact absurd (show (none : Option (Nat × Int32 × Int32)) = some (κ, w, v) from congrArg Prod.fst h) on_ne
    · rw [if_neg c2] at h
      obtain ⟨k1, k2⟩ := key _ _ _ h
      exact ⟨by omega, k2⟩
section LawR
variable {l : Launch} {P : Option Value → ax_Sg → Prop} {σ : ax_Sg} {T : Nat} {s : Nat → Int32}
def dAdd (σ : ax_Sg) (D κ : Nat) (w v : Int32) : ax_Sg := ax_us (ax_us (ax_us (ax_us σ 55 D (nI κ)) 56 D w) 57 D v) 12 3 (nI (D + 1))
theorem c_dadd {D κ : Nat} (hD : D < 6) (e : σ 12 3 = nI D) (w v : Int32) (hP : P none (dAdd σ D κ w v)) : Ev l 37 0 [some (.ref 12), some (.int (nI κ)), some (.int w), some (.int v)] [] σ P := by
  refine b_X5_add_0 _ _ _ ?_
  rw [e, cl_nI (by omega), nI_1]
  exact ⟨in_nI hD (by decide), in_nI hD (by decide), in_nI hD (by decide), hP⟩
theorem c_clause (hT : Tp T s σ) {a D : Nat} (ha : a ≤ 100) (e : σ 3 3 = nI a) (hD : D < 6) (e12 : σ 12 3 = nI D) (hN : ∀ e', clo s a = (none, e') → P (some (.int 0)) (ax_us σ 3 3 (nI e'))) (hY : ∀ κ w v e', clo s a = (some (κ, w, v), e') → P (some (.int 1)) (dAdd (ax_us σ 3 3 (nI e')) D κ (if κ = 3 then w else -1) v)) : Ev l 65 0 [some (.ref 3), none, none, none] [] σ P := by
  have hwp := wp_le (s := s) a
  have hwk := wk_le (s := s) a
  have hT2 : ∀ v, Tp T s (ax_us σ 3 3 v) := fun v => hT.fr rfl rfl
  refine b_X9_readClause_0 (c_readWord hT (by omega) e ?_)
  unfold clo at hN hY
  by_cases c : wk s a = 6
  · rw [if_pos c] at hN ⊢
    exact br_t' rfl ⟨nar0, hN _ rfl⟩
  · rw [if_neg c] at hN hY ⊢
    refine br_f' (nI_nm1 (by omega)) ?_
    have num : ∀ (b : Nat) (w w' : Int32), b ≤ 120 → w' = (if wk s a = 3 then w else -1) → (∀ e', nmo s (wk s a) w b = (none, e') → P (some (.int 0)) (ax_us σ 3 3 (nI e'))) → (∀ κ u v e', nmo s (wk s a) w b = (some (κ, u, v), e') → P (some (.int 1)) (dAdd (ax_us σ 3 3 (nI e')) D κ (if κ = 3 then u else -1) v)) → Ev l 71 0 [some (.ref 3), none, none, none] [] (ax_us σ 3 3 (nI b)) (fun o15 σ16 => ax_oi o15 (fun v17 => ax_br (v17 = (-1)) ((vp_nar .boolean 0 = 0 ∧ P (some (.int 0)) σ16)) (Ev l 37 0 [some (.ref 12), some (.int (nI (wk s a))), some (.int w'), some (.int v17)] [] σ16 (fun o18 σ19 => ax_ov o18 ((vp_nar .boolean 1 = 1 ∧ P (some (.int 1)) σ19)))))) := by
      intro b w w' hb hw' kN kY
      unfold nmo at kN kY
      refine c_number (a := b) (hT2 _) (by omega) (by rw [us_s, upd_s]) (fun z => ?_) (fun z => ?_)
      · rw [us_us]
        rw [if_neg z] at kY
        refine br_f' (nv_ne (Nat.le_refl _)) (c_dadd (D := D) hD (by rw [us_n _ _ _ (by decide)]; exact e12) _ _ ⟨nar1, ?_⟩)
        rw [hw']
        exact kY _ _ _ _ rfl
      · rw [if_pos z] at kN
        exact br_t' rfl ⟨nar0, kN _ rfl⟩
    by_cases c2 : wk s a = 3
    · rw [if_pos c2] at hN hY
      refine br_t' (by rw [c2]; rfl) (c_digit (m := 4) (hT2 _) (a := wp s a) (by omega) (by rw [us_s, upd_s]) (by decide) (fun y => ?_) (fun y => ?_))
      · rw [if_pos y] at hN hY
        rw [us_us]
        refine br_f' (dg_ne (by omega) y) (c_byte (hT2 _) (a := wp s a + 1) (by omega) (by rw [us_s, upd_s]) (by decide) (fun z => ?_) (fun z => ?_))
        · rw [if_pos z] at hN hY
          rw [us_us]
          refine br_f' (by decide) ?_
          exact num (wp s a + 2) (s (wp s a) - 48) _ (by omega) (by rw [if_pos c2]) (fun e' h => hN e' (by rw [c2] at h; exact h)) (fun κ u v e' h => hY κ u v e' (by rw [c2] at h; exact h))
        · rw [if_neg z] at hN
          exact br_t' rfl ⟨nar0, hN _ rfl⟩
      · rw [if_neg y] at hN
        exact br_t' rfl ⟨nar0, hN _ rfl⟩
    · rw [if_neg c2] at hN hY
      refine br_f' (fun z => c2 ((nI_eq (b := 3) (by omega) (by omega)).mp z)) ?_
      exact num (wp s a) 0 _ (by omega) (by rw [if_neg c2]) hN hY
/-- what was read so far -/
def Cr (e : ax_Sg) (s : Nat → Int32) (i : Nat) (σ : ax_Sg) : Prop := (∀ j, j ≠ 3 → j ≠ 12 → j ≠ 55 → j ≠ 56 → j ≠ 57 → σ j = e j) ∧ (∀ j, j ≠ 3 → σ 3 j = e 3 j) ∧ σ 12 3 = nI i ∧ ∀ q, q < i → ∃ κ w v, (clo s (pa s q)).1 = some (κ, w, v) ∧ σ 55 q = nI κ ∧ σ 57 q = v ∧ (κ = 3 → σ 56 q = w)
theorem Cr.at_ {e : ax_Sg} {i : Nat} (h : Cr e s i σ) (x : Int32) : Cr e s i (ax_us σ 3 3 x) := by
  obtain ⟨h1, h2, h3, h4⟩ := h
  refine ⟨fun j a b c d f => ?_, fun j hj => ?_, h3, h4⟩
  · rw [us_n _ _ _ a]; exact h1 j a b c d f
  · rw [us_s, upd_n _ _ hj]; exact h2 j hj
theorem pair_eta {α β : Type} {x : α × β} {a : α} (h : x.1 = a) : x = (a, x.2) := by
  rw [← h]
theorem c_clauses {e : ax_Sg} (hT : Tp T s e) (e3 : σ 3 3 = 0) (hC : Cr e s 0 σ) (hN : ∀ e', out s T 6 0 = (none, e') → ∀ σ', Cr e s (tN (σ' 12 3)) σ' → σ' 3 3 = nI e' → P (some (.int 0)) σ') (hY : ∀ n e', out s T 6 0 = (some n, e') → ∀ σ', n ≤ 6 → 1 ≤ n → Cr e s n σ' → P (some (.int 1)) σ') : Ev l 64 0 [some (.ref 3), none] [] σ P := by
  have loop : ∀ f i σ', i + f = 6 → 1 ≤ f → σ' 3 3 = nI (pa s i) → Cr e s i σ' → out s T f i = out s T 6 0 → Ev l 64 2 [some (.ref 3), some (.int (nI (i + 1)))] [] σ' P := by
    intro f
    induction f with
    | zero => intro i σ' hf hf1; omega
    | succ f ih =>
      intro i σ' hf hf1 e33 C ho
      have hpa := pa_le (s := s) i
      have hcl := clo_le (s := s) (pa s i)
      have hT1 : Tp T s σ' := hT.fr (C.2.1 2 (by decide)) (C.1 25 (by decide) (by decide) (by decide) (by decide) (by decide))
      unfold out at ho
      refine b_X9_readClauses_2 _ (br_f' (nI_nlt (a := 6) (b := i + 1) (by omega) (by omega)) (c_clause (D := i) hT1 (a := pa s i) (by omega) e33 (by omega) C.2.2.1 (fun e' hcl' => ?_) (fun κ w v e' hcl' => ?_)))
      · rw [hcl', if_pos rfl] at ho
        refine br_t' rfl ⟨nar0, hN e' ho.symm _ ?_ (by rw [us_s, upd_s])⟩
        rw [us_n _ _ _ (by decide), C.2.2.1, show tN (nI i) = i from cl_nI (by omega)]
        exact C.at_ _
      · have h1 : (clo s (pa s i)).1 = some (κ, w, v) := by rw [hcl']
        have h2 : (clo s (pa s i)).2 = e' := by rw [hcl']
        rw [h1, h2, if_neg so_ne] at ho
        rw [h2] at hcl
        have C2 : Cr e s (i + 1) (dAdd (ax_us σ' 3 3 (nI e')) i κ (if κ = 3 then w else -1) v) := by
          obtain ⟨q1, q2, q3, q4⟩ := C
          unfold dAdd
          refine ⟨fun j a b c d f' => ?_, fun j hj => ?_, rfl, fun q hq => ?_⟩
          · rw [us_n _ _ _ b, us_n _ _ _ f', us_n _ _ _ d, us_n _ _ _ c, us_n _ _ _ a]; exact q1 j a b c d f'
          · rw [us_n _ _ _ (by decide), us_n _ _ _ (by decide), us_n _ _ _ (by decide), us_n _ _ _ (by decide), us_s, upd_n _ _ hj]; exact q2 j hj
          · show ∃ κ' w' v', (clo s (pa s q)).1 = some (κ', w', v') ∧ upd (σ' 55) i (nI κ) q = nI κ' ∧ upd (σ' 57) i v q = v' ∧ (κ' = 3 → upd (σ' 56) i (if κ = 3 then w else -1) q = w')
            by_cases c : q = i
            · rw [c, upd_s, upd_s, upd_s]
              exact ⟨κ, w, v, h1, rfl, rfl, fun z => if_pos z⟩
            · rw [upd_n _ _ c, upd_n _ _ c, upd_n _ _ c]
              exact q4 q (by omega)
        have e32 : (dAdd (ax_us σ' 3 3 (nI e')) i κ (if κ = 3 then w else -1) v) 3 2 = nI T := by
          rw [C2.2.1 2 (by decide)]; exact hT.2.1
        have e33' : (dAdd (ax_us σ' 3 3 (nI e')) i κ (if κ = 3 then w else -1) v) 3 3 = nI e' := rfl
        revert C2 e32 e33'
        generalize dAdd (ax_us σ' 3 3 (nI e')) i κ (if κ = 3 then w else -1) v = σ2
        intro C2 e32 e33'
        refine br_f' (by decide) ?_
        rw [e32, e33']
        have hT120 := hT.1
        refine br_i (fun z => ⟨nar1, ?_⟩) (fun z => ?_)
        · have z' := (nI_eq (by omega) (by omega)).mp z
          rw [if_pos z'] at ho
          exact hY (i + 1) e' ho.symm σ2 (by omega) (by omega) C2
        · have z' : ¬ e' = T := fun y => z (by rw [y])
          rw [if_neg z'] at ho
          refine br_i (fun z2 => ⟨nar0, ?_⟩) (fun z2 => ?_)
          · have z2' := (nI_eq (a := i + 1) (b := 6) (by omega) (by omega)).mp z2
            rw [if_pos (show i = 5 by omega)] at ho
            refine hN e' ho.symm σ2 ?_ e33'
            rw [C2.2.2.1, show tN (nI (i + 1)) = i + 1 from cl_nI (by omega)]
            exact C2
          · have z2' : ¬ i = 5 := fun y => z2 (by rw [y]; rfl)
            rw [if_neg z2'] at ho
            have hT2 : Tp T s σ2 := hT.fr (C2.2.1 2 (by decide)) (C2.1 25 (by decide) (by decide) (by decide) (by decide) (by decide))
            refine c_byte hT2 (a := e') (by omega) e33' (by decide) (fun y => br_f' (by decide) ?_) (fun y => br_t' rfl ⟨nar0, ?_⟩)
            · rw [if_pos y] at ho
              rw [nI_1]
              refine ih (i + 1) _ (by omega) (by omega) ?_ (C2.at_ _) ho
              rw [us_s, upd_s]
              show nI (e' + 1) = nI ((clo s (pa s i)).2 + 1)
              rw [h2]
            · rw [if_neg y] at ho
              refine hN e' ho.symm σ2 ?_ e33'
              rw [C2.2.2.1, show tN (nI (i + 1)) = i + 1 from cl_nI (by omega)]
              exact C2
  exact b_X9_readClauses_0 (loop 6 0 σ rfl (by omega) e3 hC rfl)
end LawR
