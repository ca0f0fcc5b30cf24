/-! a sum parted: the reference's side; part -/
section PartsM
variable {l : Launch} {σ : ax_Sg} {P : Option Value → ax_Sg → Prop}
theorem j_of {j : Int64} {a : Nat} (h : j.toInt = (a : Int)) (ha : a < 2 ^ 31) : j = Int32.toInt64 (nI a) := Int64.toInt_inj.mp (by rw [h, Int32.toInt_toInt64, nI_toInt ha])
theorem m_parts {q L : Nat} (hq : q ≤ 30) (hs : σ 13 42 = nI q) (hr : ∀ i, i < q → rg 0 99999 (σ 86 i)) (x : Int32) (hL : L ≤ 999999) (h : P none (ax_uc σ 87 (dvA (σ 84) (σ 85) (σ 86) q x L (σ 87) 10))) : Ev l 155 0 [some (.ref 13), some (.int x), some (.int (nI L)), none, none, none, none, none, none, none, none, none] [] σ P := by
  have z64 : (0 : Int64).toInt = 0 := by decide
  have o64 : (1 : Int64).toInt = 1 := by decide
  -- the outer loop, over ranks
  have loop : ∀ m k (j3 : Int64), 10 - k = m → k ≤ 10 → j3.toInt = (dvL (σ 84) (σ 85) (σ 86) q x L k : Int) → Ev l 155 6 [some (.ref 13), some (.int x), none, some (.long j3), none, some (.int (nI k)), none, none, none, none, none, none] [] (ax_uc σ 87 (dvA (σ 84) (σ 85) (σ 86) q x L (σ 87) k)) P := by
    intro m
    induction m with
    | zero =>
      intro k j3 hk hk10 e3
      have : k = 10 := by omega
      subst this
      exact b_X11_parts_6 _ _ _ (br_f' (by decide) h)
    | succ m ih =>
      intro k j3 hk hk10 e3
      have ih' := ih (k + 1)
      have hdb := due_le (pl := σ 84) (rk := σ 85) (x := x) (r := nI k) hr
      have hLb := dvL_le (σ 84) (σ 85) (σ 86) q x L k
      generalize hA : dvA (σ 84) (σ 85) (σ 86) q x L (σ 87) k = A at *
      generalize hLk : dvL (σ 84) (σ 85) (σ 86) q x L k = Lk at *
      have ih' : ∀ j3' : Int64, j3'.toInt = (rkL (σ 84) (σ 85) (σ 86) q x (nI k) Lk : Int) → Ev l 155 6 [some (.ref 13), some (.int x), none, some (.long j3'), none, some (.int (nI (k + 1))), none, none, none, none, none, none] [] (ax_uc σ 87 (rkA (σ 84) (σ 85) (σ 86) q x (nI k) Lk A)) P := by
        intro j3' e
        have := ih' j3' (by omega) (by omega) (by simp only [dvL]; rw [hLk]; exact e)
        simp only [dvA] at this
        rw [hLk, hA] at this
        exact this
      generalize hDD : due (σ 84) (σ 85) (σ 86) x (nI k) q = D at hdb
      have s42 : ∀ g : Fn, (ax_uc σ 87 g) 13 42 = nI q := fun g => hs
      refine b_X11_parts_6 _ _ _ (br_t' (nI_lt (a := k) (b := 10) (by omega) (by omega)) ?_)
      -- the third loop: one more each
      have loop3 : Lk < D → ∀ m' i (j : Int64), q - i = m' → i ≤ q → j.toInt = (rmn (σ 84) (σ 85) (σ 86) x (nI k) Lk D (Lk - qs (σ 84) (σ 85) (σ 86) x (nI k) Lk D q) i : Int) → Ev l 155 192 [some (.ref 13), some (.int x), none, some (.long j), none, some (.int (nI k)), none, none, some (.int 0), none, none, some (.int (nI i))] [] (ax_uc σ 87 (upk (σ 84) (σ 85) x (nI k) (fun i => nI (shr (σ 84) (σ 85) (σ 86) x (nI k) Lk D (Lk - qs (σ 84) (σ 85) (σ 86) x (nI k) Lk D q) i)) i (upk (σ 84) (σ 85) x (nI k) (fun i => nI (q1 (σ 86) Lk D i)) q A))) P := by
        intro hLD
        have hD0 : 0 < D := by omega
        have hnle : ¬ due (σ 84) (σ 85) (σ 86) x (nI k) q ≤ Lk := by rw [hDD]; omega
        generalize hR0 : Lk - qs (σ 84) (σ 85) (σ 86) x (nI k) Lk D q = R0
        have r0 : rmn (σ 84) (σ 85) (σ 86) x (nI k) Lk D R0 q = 0 := by rw [← hR0]; exact rmn_0 hD0 hLD hDD
        have hfin : ∀ j : Int64, j.toInt = 0 → Ev l 155 6 [some (.ref 13), some (.int x), none, some (.long j), none, some (.int (nI (k + 1))), none, none, none, none, none, none] [] (ax_uc σ 87 (upk (σ 84) (σ 85) x (nI k) (fun i => nI (shr (σ 84) (σ 85) (σ 86) x (nI k) Lk D R0 i)) q A)) P := by
          intro j ej
          have := ih' j (by unfold rkL; rw [if_neg hnle]; exact ej)
          rw [rkA_upk, if_neg hnle, hDD, hR0] at this
          exact this
        have stay : ∀ i, i ≤ q → rmn (σ 84) (σ 85) (σ 86) x (nI k) Lk D R0 i = 0 → upk (σ 84) (σ 85) x (nI k) (fun i => nI (shr (σ 84) (σ 85) (σ 86) x (nI k) Lk D R0 i)) i (upk (σ 84) (σ 85) x (nI k) (fun i => nI (q1 (σ 86) Lk D i)) q A) = upk (σ 84) (σ 85) x (nI k) (fun i => nI (shr (σ 84) (σ 85) (σ 86) x (nI k) Lk D R0 i)) q A := by
          intro i0 hi0 h0
          funext i
          unfold upk
          by_cases c : i < i0 ∧ σ 84 i = x ∧ σ 85 i = nI k
          · rw [if_pos c, if_pos ⟨by omega, c.2⟩]
          · rw [if_neg c]
            by_cases c2 : i < q ∧ σ 84 i = x ∧ σ 85 i = nI k
            · rw [if_pos c2, if_pos c2]
              have hz : rmn (σ 84) (σ 85) (σ 86) x (nI k) Lk D R0 i = 0 := by
                have hki : i0 ≤ i := Nat.le_of_not_lt (fun z => c ⟨z, c2.2⟩)
                rw [rmn_eq] at h0 ⊢
                have mono : ∀ a b, a ≤ b → cnt (σ 84) (σ 85) (σ 86) x (nI k) Lk D a ≤ cnt (σ 84) (σ 85) (σ 86) x (nI k) Lk D b := by
                  intro a b hab
                  induction b with
                  | zero => rw [show a = 0 by omega]; exact Nat.le_refl _
                  | succ b ih9 =>
                    by_cases e : a = b + 1
                    · subst e; exact Nat.le_refl _
                    · have := ih9 (by omega)
                      simp only [cnt]; omega
                have := mono i0 i hki
                omega
              show nI (q1 (σ 86) Lk D i) = nI (shr (σ 84) (σ 85) (σ 86) x (nI k) Lk D R0 i)
              unfold shr
              rw [hz, if_neg (fun z => absurd z.1 (by omega))]
              rfl
            · rw [if_neg c2, if_neg c2]
        intro m'
        induction m' with
        | zero =>
          intro i j hi hiq ej
          have : i = q := by omega
          subst this
          refine b_X11_parts_192 _ _ _ _ _ (br_f' (by rw [s42]; exact nI_nlt (Nat.le_refl _) (by omega)) ?_)
          rw [stay i (Nat.le_refl _) r0, nI_1]
          exact hfin j (by rw [ej, r0]; rfl)
        | succ m' ih2 =>
          intro i j hi hiq ej
          have hil : nI i < (ax_uc σ 87 (upk (σ 84) (σ 85) x (nI k) (fun i => nI (shr (σ 84) (σ 85) (σ 86) x (nI k) Lk D R0 i)) i (upk (σ 84) (σ 85) x (nI k) (fun i => nI (q1 (σ 86) Lk D i)) q A))) 13 42 := by rw [s42]; exact nI_lt (by omega) (by omega)
          by_cases hz : rmn (σ 84) (σ 85) (σ 86) x (nI k) Lk D R0 i = 0
          · refine b_X11_parts_192 _ _ _ _ _ (br_t' hil (br_t' rfl (br_f' (by rw [lcmp_gt, ej, hz, z64]; decide) ?_)))
            rw [stay i (by omega) hz, nI_1]
            exact hfin j (by rw [ej, hz]; rfl)
          · have hin : vp_in (nI i) 30 := in_nI (by omega) (by decide)
            refine b_X11_parts_192 _ _ _ _ _ (br_t' hil (br_t' rfl (br_t' (by rw [lcmp_gt, ej, z64]; omega) ⟨hin, ?_⟩)))
            rw [cl_nI (by omega), nI_1 i]
            have rest : ¬ (σ 84 i = x ∧ σ 85 i = nI k) → Ev l 155 192 [some (.ref 13), some (.int x), none, some (.long j), none, some (.int (nI k)), none, none, some (.int 0), none, none, some (.int (nI (i + 1)))] [] (ax_uc σ 87 (upk (σ 84) (σ 85) x (nI k) (fun i => nI (shr (σ 84) (σ 85) (σ 86) x (nI k) Lk D R0 i)) i (upk (σ 84) (σ 85) x (nI k) (fun i => nI (q1 (σ 86) Lk D i)) q A))) P := by
              intro e
              have er : rmn (σ 84) (σ 85) (σ 86) x (nI k) Lk D R0 (i + 1) = rmn (σ 84) (σ 85) (σ 86) x (nI k) Lk D R0 i := by simp only [rmn]; rw [if_neg (fun z => e z.1)]
              have := ih2 (i + 1) j (by omega) (by omega) (by rw [er]; exact ej)
              rw [← upk_n e] at this
              exact this
            refine br_i (fun e1 => ⟨hin, br_i (fun e2 => ⟨hin, hin, ?_⟩) (fun e2 => rest (fun z => e2 z.2))⟩) (fun e1 => rest (fun z => e1 z.1))
            have e : σ 84 i = x ∧ σ 85 i = nI k := ⟨e1, e2⟩
            obtain ⟨s1, s2⟩ := nn_eq (hr i (by omega)) (Int.le_refl 0)
            have hsk := (hr i (by omega)).2
            have hq1 := q1_le (sm := σ 86) (i := i) hD0 hLD
            have e87 : (ax_uc σ 87 (upk (σ 84) (σ 85) x (nI k) (fun i => nI (shr (σ 84) (σ 85) (σ 86) x (nI k) Lk D R0 i)) i (upk (σ 84) (σ 85) x (nI k) (fun i => nI (q1 (σ 86) Lk D i)) q A))) 87 i = nI (q1 (σ 86) Lk D i) := by
              rw [uc_s, upk_at]
              unfold upk
              rw [if_pos ⟨by omega, e⟩]
            rw [e87]
            show ax_br (nI (q1 (σ 86) Lk D i) = σ 86 i) _ _
            refine br_i (fun e2' => ?_) (fun e2' => ⟨hin, hin, ?_⟩)
            · rw [s1] at e2'
              have e2' : q1 (σ 86) Lk D i = nn (σ 86 i) := (nI_eq (by omega) (by omega)).mp e2'
              have er : rmn (σ 84) (σ 85) (σ 86) x (nI k) Lk D R0 (i + 1) = rmn (σ 84) (σ 85) (σ 86) x (nI k) Lk D R0 i := by simp only [rmn]; rw [if_neg (fun z => absurd z.2.2 (by omega))]
              have es : shr (σ 84) (σ 85) (σ 86) x (nI k) Lk D R0 i = q1 (σ 86) Lk D i := by unfold shr; rw [if_neg (fun z => absurd z.2 (by omega))]; rfl
              have eu : upk (σ 84) (σ 85) x (nI k) (fun i => nI (shr (σ 84) (σ 85) (σ 86) x (nI k) Lk D R0 i)) (i + 1) (upk (σ 84) (σ 85) x (nI k) (fun i => nI (q1 (σ 86) Lk D i)) q A) = upk (σ 84) (σ 85) x (nI k) (fun i => nI (shr (σ 84) (σ 85) (σ 86) x (nI k) Lk D R0 i)) i (upk (σ 84) (σ 85) x (nI k) (fun i => nI (q1 (σ 86) Lk D i)) q A) := by
                rw [← upk_s (v := fun i => nI (shr (σ 84) (σ 85) (σ 86) x (nI k) Lk D R0 i)) e rfl]
                funext u
                by_cases ei : u = i
                · subst ei
                  rw [upd_s, upk_at]
                  unfold upk
                  rw [if_pos ⟨by omega, e⟩, es]
                · rw [upd_n _ _ ei]
              have := ih2 (i + 1) j (by omega) (by omega) (by rw [er]; exact ej)
              rw [eu] at this
              exact this
            · rw [s1] at e2'
              have e2' : q1 (σ 86) Lk D i < nn (σ 86 i) := by
                have : q1 (σ 86) Lk D i ≠ nn (σ 86 i) := fun z => e2' (by rw [z])
                omega
              have er : rmn (σ 84) (σ 85) (σ 86) x (nI k) Lk D R0 (i + 1) = rmn (σ 84) (σ 85) (σ 86) x (nI k) Lk D R0 i - 1 := by simp only [rmn]; rw [if_pos ⟨e, by omega, e2'⟩]
              have es : shr (σ 84) (σ 85) (σ 86) x (nI k) Lk D R0 i = q1 (σ 86) Lk D i + 1 := by unfold shr; rw [if_pos ⟨by omega, e2'⟩]
              rw [us_uc, upk_s (v := fun i => nI (shr (σ 84) (σ 85) (σ 86) x (nI k) Lk D R0 i)) e (by rw [es, nI_1])]
              refine ih2 (i + 1) (j - 1) (by omega) (by omega) ?_
              have hle : rmn (σ 84) (σ 85) (σ 86) x (nI k) Lk D R0 i ≤ Lk := by rw [rmn_eq]; omega
              rw [sub64 (by rw [ej, o64]; omega) (by rw [ej, o64]; omega), ej, o64, er]
              omega
      -- the second loop: the parts
      have loop2 : ∀ (x8 : Int32) (v g : Nat → Nat), (x8 = 0 → Lk < D) → (x8 = 0 ∨ x8 = 1) → (∀ i, i < q → (x8 = 0 → v i = q1 (σ 86) Lk D i) ∧ (x8 = 1 → v i = nn (σ 86 i))) → g 0 = 0 → (∀ i, i < q → g (i + 1) = g i + (if σ 84 i = x ∧ σ 85 i = nI k then v i else 0)) → (∀ i, i ≤ q → g i ≤ 2999970) →
          (∀ j : Int64, j.toInt = (Lk : Int) - g q → Ev l 155 192 [some (.ref 13), some (.int x), none, some (.long j), none, some (.int (nI k)), none, none, some (.int x8), none, none, some (.int 0)] [] (ax_uc σ 87 (upk (σ 84) (σ 85) x (nI k) (fun i => nI (v i)) q A)) P) →
          ∀ j6 : Int64, j6.toInt = (D : Int) → ∀ m' i (j9 : Int64), q - i = m' → i ≤ q → j9.toInt = (g i : Int) → Ev l 155 94 [some (.ref 13), some (.int x), none, some (.long j3), none, some (.int (nI k)), some (.long j6), none, some (.int x8), some (.long j9), none, some (.int (nI i))] [] (ax_uc σ 87 (upk (σ 84) (σ 85) x (nI k) (fun i => nI (v i)) i A)) P := by
        intro x8 v g h8 h801 hv g0 gs gb hend j6 e6 m'
        induction m' with
        | zero =>
          intro i j9 hi hiq e9
          have : i = q := by omega
          subst this
          refine b_X11_parts_94 _ _ _ _ _ _ _ (br_f' (by rw [s42]; exact nI_nlt (Nat.le_refl _) (by omega)) (hend _ ?_))
          have := gb i (Nat.le_refl _)
          rw [sub64 (by omega) (by omega), e3, e9]
        | succ m' ih2 =>
          intro i j9 hi hiq e9
          have hin : vp_in (nI i) 30 := in_nI (by omega) (by decide)
          obtain ⟨s1, s2⟩ := nn_eq (hr i (by omega)) (Int.le_refl 0)
          have hsk := (hr i (by omega)).2
          have hgb := gb i (by omega)
          have hgb1 := gb (i + 1) (by omega)
          refine b_X11_parts_94 _ _ _ _ _ _ _ (br_t' (by rw [s42]; exact nI_lt (by omega) (by omega)) ⟨hin, ?_⟩)
          rw [cl_nI (by omega), nI_1]
          have rest : ¬ (σ 84 i = x ∧ σ 85 i = nI k) → Ev l 155 94 [some (.ref 13), some (.int x), none, some (.long j3), none, some (.int (nI k)), some (.long j6), none, some (.int x8), some (.long j9), none, some (.int (nI (i + 1)))] [] (ax_uc σ 87 (upk (σ 84) (σ 85) x (nI k) (fun i => nI (v i)) i A)) P := by
            intro e
            have eg := gs i (by omega)
            rw [if_neg e, Nat.add_zero] at eg
            have := ih2 (i + 1) j9 (by omega) (by omega) (by rw [eg]; exact e9)
            rw [← upk_n e] at this
            exact this
          refine br_i (fun e1 => ⟨hin, br_i (fun e2 => ?_) (fun e2 => rest (fun z => e2 z.2))⟩) (fun e1 => rest (fun z => e1 z.1))
          have e : σ 84 i = x ∧ σ 85 i = nI k := ⟨e1, e2⟩
          have eg := gs i (by omega)
          rw [if_pos e] at eg
          have step : ∀ w : Int32, w = nI (v i) → Ev l 155 94 [some (.ref 13), some (.int x), none, some (.long j3), none, some (.int (nI k)), some (.long j6), none, some (.int x8), some (.long (j9 + Int32.toInt64 (upd ((ax_uc σ 87 (upk (σ 84) (σ 85) x (nI k) (fun i => nI (v i)) i A)) 87) i w i))), none, some (.int (nI (i + 1)))] [] (ax_us (ax_uc σ 87 (upk (σ 84) (σ 85) x (nI k) (fun i => nI (v i)) i A)) 87 i w) P := by
            intro w hw
            rw [upd_s, us_uc, upk_s (v := fun i => nI (v i)) e hw]
            have hwi : (Int32.toInt64 w).toInt = (v i : Int) := by rw [Int32.toInt_toInt64, hw, nI_toInt (by omega)]
            exact ih2 (i + 1) _ (by omega) (by omega) (by rw [add64 (by omega) (by omega), e9, hwi, eg]; omega)
          refine br_i (fun e8 => ⟨hin, ?_, hin, hin, step _ ?_⟩) (fun e8 => ⟨hin, hin, hin, step _ ?_⟩)
          · intro z
            have := h8 e8
            rw [z, z64] at e6
            omega
          · have hLD := h8 e8
            rw [j_of e3 (by omega), j_of e6 (by omega), ((hv i (by omega)).1 e8)]
            exact q1_val (by omega) hLD (by omega) (hr i (by omega))
          · have e81 : x8 = 1 := h801.resolve_left e8
            rw [((hv i (by omega)).2 e81)]
            exact s1
      -- the first loop: all sums of the rank
      have loop1 : ∀ m' i (j6 : Int64), q - i = m' → i ≤ q → j6.toInt = (due (σ 84) (σ 85) (σ 86) x (nI k) i : Int) → Ev l 155 19 [some (.ref 13), some (.int x), none, some (.long j3), none, some (.int (nI k)), some (.long j6), none, some (.int (nI i)), none, none, none] [] (ax_uc σ 87 A) P := by
        intro m'
        induction m' with
        | zero =>
          intro i j6 hi hiq e6
          have : i = q := by omega
          subst this
          rw [hDD] at e6
          refine b_X11_parts_19 _ _ _ _ _ (br_f' (by rw [s42]; exact nI_nlt (Nat.le_refl _) (by omega)) (br_i (fun e => ?_) (fun e => ?_)))
          · rw [lcmp_gt, e3, e6] at e
            have hLD : Lk < D := by omega
            have hQ := qs_le (L := Lk) (by omega) hDD
            have := loop2 0 (q1 (σ 86) Lk D) (qs (σ 84) (σ 85) (σ 86) x (nI k) Lk D) (fun _ => hLD) (Or.inl rfl) (fun i _ => ⟨fun _ => rfl, fun z => absurd z (by decide)⟩) rfl (fun i _ => rfl) (fun i hi => by
              have := qs_mono (pl := σ 84) (rk := σ 85) (sm := σ 86) (x := x) (r := nI k) (L := Lk) (D := D) hi
              omega) (fun j ej => by
              have h3 := loop3 hLD i 0 j (by omega) (by omega) (by rw [ej]; simp only [rmn]; omega)
              rw [upk_0] at h3
              exact h3) j6 e6 i 0 0 (by omega) (by omega) rfl
            rw [upk_0] at this
            exact this
          · rw [lcmp_gt, e3, e6] at e
            have hDL : D ≤ Lk := by omega
            have hle : due (σ 84) (σ 85) (σ 86) x (nI k) i ≤ Lk := by rw [hDD]; exact hDL
            have := loop2 1 (fun i => nn (σ 86 i)) (due (σ 84) (σ 85) (σ 86) x (nI k)) (fun z => absurd z (by decide)) (Or.inr rfl) (fun i _ => ⟨fun z => absurd z (by decide), fun _ => rfl⟩) rfl (fun i _ => rfl) (fun u hu => by
              have := due_le (pl := σ 84) (rk := σ 85) (sm := σ 86) (x := x) (r := nI k) (q := u) (fun w hw => hr w (by omega))
              omega) (fun j ej => by
              have ev : upk (σ 84) (σ 85) x (nI k) (fun i => nI (nn (σ 86 i))) i A = upk (σ 84) (σ 85) x (nI k) (σ 86) i A := by
                funext u
                unfold upk
                by_cases c : u < i ∧ σ 84 u = x ∧ σ 85 u = nI k
                · rw [if_pos c, if_pos c]; exact (nn_eq (hr u c.1) (Int.le_refl 0)).1.symm
                · rw [if_neg c, if_neg c]
              have hf := ih' j (by unfold rkL; rw [if_pos hle, ej, hDD]; omega)
              rw [rkA_upk, if_pos hle] at hf
              rw [ev]
              rw [← nI_1] at hf
              exact b_X11_parts_192 _ _ _ _ _ (br_i (fun _ => br_f' (by decide) hf) (fun _ => hf))) j6 e6 i 0 0 (by omega) (by omega) rfl
            rw [upk_0] at this
            exact this
        | succ m' ih2 =>
          intro i j6 hi hiq e6
          have hin : vp_in (nI i) 30 := in_nI (by omega) (by decide)
          obtain ⟨s1, s2⟩ := nn_eq (hr i (by omega)) (Int.le_refl 0)
          have hsk := (hr i (by omega)).2
          have hb := due_le (pl := σ 84) (rk := σ 85) (sm := σ 86) (x := x) (r := nI k) (q := i) (fun w hw => hr w (by omega))
          refine b_X11_parts_19 _ _ _ _ _ (br_t' (by rw [s42]; exact nI_lt (by omega) (by omega)) ⟨hin, ?_⟩)
          rw [cl_nI (by omega), nI_1]
          have rest : ¬ (σ 84 i = x ∧ σ 85 i = nI k) → Ev l 155 19 [some (.ref 13), some (.int x), none, some (.long j3), none, some (.int (nI k)), some (.long (j6 + 0)), none, some (.int (nI (i + 1))), none, none, none] [] (ax_uc σ 87 A) P := by
            intro e
            refine ih2 (i + 1) _ (by omega) (by omega) ?_
            simp only [due, if_neg e, Nat.add_zero]
            rw [add64 (by rw [z64]; omega) (by rw [z64]; omega), z64, e6]
            omega
          refine br_i (fun e1 => ⟨hin, br_i (fun e2 => ⟨hin, ih2 (i + 1) _ (by omega) (by omega) ?_⟩) (fun e2 => rest (fun z => e2 z.2))⟩) (fun e1 => rest (fun z => e1 z.1))
          have h86 : (Int32.toInt64 ((ax_uc σ 87 A) 86 i)).toInt = (nn (σ 86 i) : Int) := by rw [Int32.toInt_toInt64]; exact s2.symm
          simp only [due, if_pos (show σ 84 i = x ∧ σ 85 i = nI k from ⟨e1, e2⟩)]
          rw [add64 (by rw [h86]; omega) (by rw [h86]; omega), h86, e6]
          omega
      exact loop1 q 0 0 (by omega) (by omega) rfl
  have := loop 10 0 (Int32.toInt64 (nI L)) (by omega) (by omega) (by rw [Int32.toInt_toInt64, nI_toInt (by omega)]; rfl)
  simp only [dvA] at this
  rw [uc_id] at this
  exact b_X11_parts_0 _ _ this
end PartsM
