/-! law, the pair -/
section LawP
variable {l : Launch} {P : Option Value → ax_Sg → Prop} {σ : ax_Sg}
theorem c_mcopy {n : Nat} (hn : n ≤ 6) (e : σ 12 3 = nI n) (hP : ∀ σ', (∀ j, j ≠ 26 → j ≠ 27 → j ≠ 28 → j ≠ 4 → σ' j = σ j) → σ' 4 3 = nI n → (∀ q, q < n → σ' 26 q = σ 55 q ∧ σ' 27 q = σ 56 q ∧ σ' 28 q = σ 57 q) → P none σ') : Ev l 38 0 [some (.ref 4), some (.ref 12), none] [] σ P := by
  have loop : ∀ m k σ', n - k = m → k ≤ n → (∀ j, j ≠ 26 → j ≠ 27 → j ≠ 28 → σ' j = σ j) → (∀ q, q < k → σ' 26 q = σ 55 q ∧ σ' 27 q = σ 56 q ∧ σ' 28 q = σ 57 q) → Ev l 38 2 [some (.ref 4), some (.ref 12), some (.int (nI k))] [] σ' P := by
    intro m
    induction m with
    | zero =>
      intro k σ' hm hk fr hc
      have : k = n := by omega
      subst this
      have e12 : σ' 12 3 = nI k := by rw [fr 12 (by decide) (by decide) (by decide)]; exact e
      refine b_X5_copy_2 _ (br_f' (by rw [e12]; exact nI_nlt (Nat.le_refl _) (by omega)) (hP _ (fun j a b c d => ?_) ?_ (fun q hq => ?_)))
      · rw [us_n _ _ _ d]; exact fr j a b c
      · rw [us_s, upd_s]; exact e12
      · rw [us_n _ _ _ (by decide), us_n _ _ _ (by decide), us_n _ _ _ (by decide)]; exact hc q hq
    | succ m ih =>
      intro k σ' hm hk fr hc
      have e12 : σ' 12 3 = nI n := by rw [fr 12 (by decide) (by decide) (by decide)]; exact e
      have hin : vp_in (nI k) 6 := in_nI (by omega) (by decide)
      refine b_X5_copy_2 _ (br_t' (by rw [e12]; exact nI_lt (by omega) (by omega)) ⟨hin, hin, hin, hin, hin, hin, ?_⟩)
      rw [cl_nI (by omega), nI_1, fr 55 (by decide) (by decide) (by decide), fr 56 (by decide) (by decide) (by decide), fr 57 (by decide) (by decide) (by decide)]
      refine ih (k + 1) _ (by omega) (by omega) (fun j a b c => ?_) (fun q hq => ?_)
      · rw [us_n _ _ _ c, us_n _ _ _ b, us_n _ _ _ a]; exact fr j a b c
      · show upd (σ' 26) k (σ 55 k) q = _ ∧ upd (σ' 27) k (σ 56 k) q = _ ∧ upd (σ' 28) k (σ 57 k) q = _
        by_cases c : q = k
        · rw [c, upd_s, upd_s, upd_s]; exact ⟨rfl, rfl, rfl⟩
        · rw [upd_n _ _ c, upd_n _ _ c, upd_n _ _ c]; exact hc q (by omega)
  exact b_X5_copy_0 (loop n 0 σ (by omega) (by omega) (fun _ _ _ _ => rfl) (fun q hq => absurd hq (by omega)))
theorem m_lcopy {n : Nat} (hn : n ≤ 6) (hP : ∀ σ', (∀ j, j ≠ 77 → j ≠ 78 → j ≠ 79 → σ' j = σ j) → (∀ q, q < n → σ' 77 q = σ 80 q ∧ σ' 78 q = σ 81 q ∧ σ' 79 q = σ 82 q) → P (some (.int (nI n))) σ') : Ev l 131 29 [some (.ref 13), some (.int (nI n)), some (.int 0)] [] σ P := by
  have loop : ∀ m k σ', n - k = m → k ≤ n → (∀ j, j ≠ 77 → j ≠ 78 → j ≠ 79 → σ' j = σ j) → (∀ q, q < k → σ' 77 q = σ 80 q ∧ σ' 78 q = σ 81 q ∧ σ' 79 q = σ 82 q) → Ev l 131 29 [some (.ref 13), some (.int (nI n)), some (.int (nI k))] [] σ' P := by
    intro m
    induction m with
    | zero =>
      intro k σ' hm hk fr hc
      have : k = n := by omega
      subst this
      exact b_X11_law_29 _ _ (br_f' (nI_nlt (Nat.le_refl _) (by omega)) (hP σ' fr hc))
    | succ m ih =>
      intro k σ' hm hk fr hc
      have hin : vp_in (nI k) 6 := in_nI (by omega) (by decide)
      refine b_X11_law_29 _ _ (br_t' (nI_lt (by omega) (by omega)) ⟨hin, hin, hin, hin, hin, hin, ?_⟩)
      rw [cl_nI (by omega), nI_1, fr 80 (by decide) (by decide) (by decide), fr 81 (by decide) (by decide) (by decide), fr 82 (by decide) (by decide) (by decide)]
      refine ih (k + 1) _ (by omega) (by omega) (fun j a b c => ?_) (fun q hq => ?_)
      · rw [us_n _ _ _ c, us_n _ _ _ b, us_n _ _ _ a]; exact fr j a b c
      · show upd (σ' 77) k (σ 80 k) q = _ ∧ upd (σ' 78) k (σ 81 k) q = _ ∧ upd (σ' 79) k (σ 82 k) q = _
        by_cases c : q = k
        · rw [c, upd_s, upd_s, upd_s]; exact ⟨rfl, rfl, rfl⟩
        · rw [upd_n _ _ c, upd_n _ _ c, upd_n _ _ c]; exact hc q (by omega)
  exact loop n 0 σ (by omega) (by omega) (fun _ _ _ _ => rfl) (fun q hq => absurd hq (by omega))
theorem pr_law (hI : Inv σ) : Pr l 79 [some (.ref 0), none] 131 [some (.ref 13), none, none] σ := by
  obtain ⟨n, d, T, c, h, r, q, f, y, hpl, hdr, hsh, htp, hmt, has, hct, hrd, hln, hfl, hli⟩ := hI
  obtain ⟨s, hs⟩ : ∃ s : Nat → Int32, s = fun i => if i < T then σ 25 i else -1 := ⟨_, rfl⟩
  have hs1 : ∀ i, i < T → σ 25 i = s i ∧ rg 0 255 (s i) := by
    intro i hi
    have e1 : s i = σ 25 i := by rw [hs]; exact if_pos hi
    rw [e1]; exact ⟨rfl, (htp.2.2.2 i hi).2⟩
  have hs2 : ∀ i, T ≤ i → s i = -1 := by
    intro i hi
    rw [hs]; exact if_neg (by omega)
  have hTp : Tp T s σ := ⟨htp.1, htp.2.1, hs1, hs2⟩
  have hC0 : Cr σ s 0 (ax_us (ax_us σ 3 3 0) 12 3 0) := by
    refine ⟨fun j a b c' d' f' => ?_, fun j hj => ?_, rfl, fun q hq => absurd hq (by omega)⟩
    · rw [us_n _ _ _ b, us_n _ _ _ a]
    · rw [us_n _ _ _ (by decide), us_s, upd_n _ _ hj]
  have hout : ∀ f i, i + f ≤ 6 → (out s T f i).2 ≤ 200 := by
    intro f
    induction f with
    | zero =>
      intro i hi
      have := pa_le (s := s) i
      show pa s i ≤ 200
      omega
    | succ f ih =>
      intro i hi
      have h1 := pa_le (s := s) i
      have h2 := clo_le (s := s) (pa s i)
      unfold out
      by_cases c1 : (clo s (pa s i)).1 = none
      · rw [if_pos c1]; show (clo s (pa s i)).2 ≤ 200; omega
      · rw [if_neg c1]
        by_cases c2 : (clo s (pa s i)).2 = T
        · rw [if_pos c2]; show (clo s (pa s i)).2 ≤ 200; omega
        · rw [if_neg c2]
          by_cases c3 : i = 5
          · rw [if_pos c3]; show (clo s (pa s i)).2 ≤ 200; omega
          · rw [if_neg c3]
            by_cases c4 : s (clo s (pa s i)).2 = 59
            · rw [if_pos c4]
              exact ih (i + 1) (by omega)
            · rw [if_neg c4]; show (clo s (pa s i)).2 ≤ 200; omega
  have hTq : ∀ σ1 : ax_Sg, σ1 13 34 = σ 13 34 → σ1 76 = σ 76 → Tq T s σ1 := by
    intro σ1 e1 e2
    refine ⟨htp.1, e1.trans htp.2.2.1, fun i hi => ?_, hs2⟩
    rw [e2, ← (htp.2.2.2 i hi).1]; exact hs1 i hi
  refine b_X10_law_0 (b_X9_read_0 (c_clauses hTp (by rfl) hC0 (fun e' ho σ2 C h3 => ?_) (fun m e' ho σ2 hm6 hm1 C => ?_)))
  · have he' : e' ≤ 200 := by
      have := hout 6 0 (by omega)
      rw [ho] at this
      exact this
    refine br_t' rfl ?_
    rw [h3]
    refine br_f' (nI_nm1 (by omega)) ?_
    obtain ⟨q1, q2, q3, q4⟩ := C
    show Ev l 131 0 [some (.ref 13), none, none] [] (ax_us σ2 3 2 0) (fun o2 σ2 => ax_oi o2 fun w => (-10) - nI e' = w ∧ Inv σ2)
    have k13 : (ax_us σ2 3 2 0) 13 = σ 13 := q1 13 (by decide) (by decide) (by decide) (by decide) (by decide)
    have k76 : (ax_us σ2 3 2 0) 76 = σ 76 := q1 76 (by decide) (by decide) (by decide) (by decide) (by decide)
    refine b_X11_law_0 (m_parses (hTq _ (by rw [k13]) k76) (fun e2 ho2 σ3 M h36 => br_t' rfl (fin ?_ ?_)) (fun m e2 ho2 => ?_))
    · rw [ho] at ho2
      have : e' = e2 := congrArg Prod.snd ho2
      rw [h36, this]
    · obtain ⟨m1, m2, m3⟩ := M
      have t : ∀ j, (j ≠ 3 ∧ j ≠ 12 ∧ j ≠ 55 ∧ j ≠ 56 ∧ j ≠ 57) ∧ (j ≠ 13 ∧ j ≠ 80 ∧ j ≠ 81 ∧ j ≠ 82) → ax_us σ3 13 34 0 j = σ j := fun j hj => by
        rw [us_n _ _ _ hj.2.1, m1 j hj.2.1 hj.2.2.1 hj.2.2.2.1 hj.2.2.2.2, us_n _ _ _ hj.1.1]
        exact q1 j hj.1.1 hj.1.2.1 hj.1.2.2.1 hj.1.2.2.2.1 hj.1.2.2.2.2
      have t13 : ∀ j, j ≠ 36 → j ≠ 34 → ax_us σ3 13 34 0 13 j = σ 13 j := fun j a b => by
        rw [us_s, upd_n _ _ b, m2 j a, k13]
      refine ⟨n, d, 0, c, h, r, q, f, y, hpl.fr (congrFun (t 1 (by decide)) 4) (t13 7 (by decide) (by decide)) (t 14 (by decide)) (t 15 (by decide)) (t 16 (by decide)) (t 17 (by decide)) (t 58 (by decide)) (t 59 (by decide)) (t 60 (by decide)) (t 61 (by decide)), hdr.fr (congrFun (t 2 (by decide)) 2) (t13 8 (by decide) (by decide)) (t 18 (by decide)) (t 62 (by decide)), hsh.fr (t 19 (by decide)) (t 63 (by decide)) (t 64 (by decide)), ?_, hmt.fr (congrFun (t 4 (by decide)) 3) (t13 35 (by decide) (by decide)) (t 26 (by decide)) (t 27 (by decide)) (t 28 (by decide)) (t 77 (by decide)) (t 78 (by decide)) (t 79 (by decide)), has.fr (t 29 (by decide)) (t 72 (by decide)), hct.fr (congrFun (t 7 (by decide)) 13) (t13 14 (by decide) (by decide)) (congrFun (t 7 (by decide)) 14) (t13 11 (by decide) (by decide)) (congrFun (t 7 (by decide)) 15) (t13 12 (by decide) (by decide)) (congrFun (t 7 (by decide)) 16) (t13 13 (by decide) (by decide)) (t 31 (by decide)) (t 32 (by decide)) (t 33 (by decide)) (t 34 (by decide)) (t 35 (by decide)) (t 36 (by decide)) (t 37 (by decide)) (t 65 (by decide)), hrd.fr (congrFun (t 6 (by decide)) 1) (t13 15 (by decide) (by decide)) (t 30 (by decide)) (t 67 (by decide)) (t 68 (by decide)) (t 69 (by decide)) (t 70 (by decide)) (t 71 (by decide)), hln.fr (congrFun (t 9 (by decide)) 4) (t13 42 (by decide) (by decide)) (t 47 (by decide)) (t 48 (by decide)) (t 49 (by decide)) (t 84 (by decide)) (t 85 (by decide)) (t 86 (by decide)), hfl.fr (congrFun (t 10 (by decide)) 2) (t13 47 (by decide) (by decide)) (t 51 (by decide)) (t 88 (by decide)), hli.fr (congrFun (t 11 (by decide)) 1) (t13 51 (by decide) (by decide)) (t 54 (by decide)) (t 92 (by decide))⟩
      refine ⟨by omega, ?_, rfl, fun i hi => absurd hi (by omega)⟩
      rw [us_n _ _ _ (by decide), m1 3 (by decide) (by decide) (by decide) (by decide)]; rfl
    · rw [ho] at ho2
      exact absurd (show (none : Option Nat) = some m from congrArg Prod.fst ho2) on_ne
  · refine br_f' (by decide) (br_t' rfl ?_)
    obtain ⟨q1, q2, q3, q4⟩ := C
    refine c_mcopy (n := m) hm6 q3 (fun σ4 fr4 e43 hc4 => ?_)
    show Ev l 131 0 [some (.ref 13), none, none] [] σ4 (fun o2 σ2 => ax_oi o2 fun w => σ4 4 3 = w ∧ Inv σ2)
    have t4 : ∀ j, (j ≠ 3 ∧ j ≠ 12 ∧ j ≠ 55 ∧ j ≠ 56 ∧ j ≠ 57) ∧ (j ≠ 26 ∧ j ≠ 27 ∧ j ≠ 28 ∧ j ≠ 4) → σ4 j = σ j := fun j hj => by
      rw [fr4 j hj.2.1 hj.2.2.1 hj.2.2.2.1 hj.2.2.2.2, us_n _ _ _ hj.1.1]
      exact q1 j hj.1.1 hj.1.2.1 hj.1.2.2.1 hj.1.2.2.2.1 hj.1.2.2.2.2
    have k13 : σ4 13 = σ 13 := t4 13 (by decide)
    refine b_X11_law_0 (m_parses (hTq _ (by rw [k13]) (t4 76 (by decide))) (fun e2 ho2 => ?_) (fun m2 e2 ho2 σ3 hm2 hm21 M => ?_))
    · rw [ho] at ho2
      exact absurd (show some m = (none : Option Nat) from congrArg Prod.fst ho2) so_ne
    · rw [ho] at ho2
      have em : m = m2 := Option.some.inj (congrArg Prod.fst ho2)
      subst em
      refine br_f' (fun z => ?_) (m_lcopy hm6 (fun σ5 fr5 hc5 => fin e43 ?_))
      · have := (nI_eq (a := m) (b := 0) (by omega) (by omega)).mp z
        omega
      · obtain ⟨m1, m2', m3⟩ := M
        have t : ∀ j, ((j ≠ 3 ∧ j ≠ 12 ∧ j ≠ 55 ∧ j ≠ 56 ∧ j ≠ 57) ∧ (j ≠ 26 ∧ j ≠ 27 ∧ j ≠ 28 ∧ j ≠ 4)) ∧ (j ≠ 13 ∧ j ≠ 80 ∧ j ≠ 81 ∧ j ≠ 82) ∧ (j ≠ 77 ∧ j ≠ 78 ∧ j ≠ 79) → σ5 j = σ j := fun j hj => by
          rw [fr5 j hj.2.2.1 hj.2.2.2.1 hj.2.2.2.2, us_n _ _ _ hj.2.1.1, us_n _ _ _ hj.2.1.1, m1 j hj.2.1.1 hj.2.1.2.1 hj.2.1.2.2.1 hj.2.1.2.2.2]
          exact t4 j hj.1
        have s513 : σ5 13 = (ax_us (ax_us σ3 13 34 0) 13 35 (nI m)) 13 := fr5 13 (by decide) (by decide) (by decide)
        have t13 : ∀ j, j ≠ 36 → j ≠ 34 → j ≠ 35 → σ5 13 j = σ 13 j := fun j a b c' => by
          rw [s513, us_s, upd_n _ _ c', us_s, upd_n _ _ b, m2' j a, k13]
        refine ⟨n, d, 0, m, h, r, q, f, y, hpl.fr (congrFun (t 1 (by decide)) 4) (t13 7 (by decide) (by decide) (by decide)) (t 14 (by decide)) (t 15 (by decide)) (t 16 (by decide)) (t 17 (by decide)) (t 58 (by decide)) (t 59 (by decide)) (t 60 (by decide)) (t 61 (by decide)), hdr.fr (congrFun (t 2 (by decide)) 2) (t13 8 (by decide) (by decide) (by decide)) (t 18 (by decide)) (t 62 (by decide)), hsh.fr (t 19 (by decide)) (t 63 (by decide)) (t 64 (by decide)), ?_, ?_, has.fr (t 29 (by decide)) (t 72 (by decide)), hct.fr (congrFun (t 7 (by decide)) 13) (t13 14 (by decide) (by decide) (by decide)) (congrFun (t 7 (by decide)) 14) (t13 11 (by decide) (by decide) (by decide)) (congrFun (t 7 (by decide)) 15) (t13 12 (by decide) (by decide) (by decide)) (congrFun (t 7 (by decide)) 16) (t13 13 (by decide) (by decide) (by decide)) (t 31 (by decide)) (t 32 (by decide)) (t 33 (by decide)) (t 34 (by decide)) (t 35 (by decide)) (t 36 (by decide)) (t 37 (by decide)) (t 65 (by decide)), hrd.fr (congrFun (t 6 (by decide)) 1) (t13 15 (by decide) (by decide) (by decide)) (t 30 (by decide)) (t 67 (by decide)) (t 68 (by decide)) (t 69 (by decide)) (t 70 (by decide)) (t 71 (by decide)), hln.fr (congrFun (t 9 (by decide)) 4) (t13 42 (by decide) (by decide) (by decide)) (t 47 (by decide)) (t 48 (by decide)) (t 49 (by decide)) (t 84 (by decide)) (t 85 (by decide)) (t 86 (by decide)), hfl.fr (congrFun (t 10 (by decide)) 2) (t13 47 (by decide) (by decide) (by decide)) (t 51 (by decide)) (t 88 (by decide)), hli.fr (congrFun (t 11 (by decide)) 1) (t13 51 (by decide) (by decide) (by decide)) (t 54 (by decide)) (t 92 (by decide))⟩
        · refine ⟨by omega, ?_, ?_, fun i hi => absurd hi (by omega)⟩
          · rw [fr5 3 (by decide) (by decide) (by decide), us_n _ _ _ (by decide), us_n _ _ _ (by decide), m1 3 (by decide) (by decide) (by decide) (by decide), fr4 3 (by decide) (by decide) (by decide) (by decide)]; rfl
          · rw [s513]; rfl
        · have g5 : ∀ j, j ≠ 13 → j ≠ 80 → j ≠ 81 → j ≠ 82 → j ≠ 77 → j ≠ 78 → j ≠ 79 → σ5 j = σ4 j := fun j a b c' d' e1 e2 e3 => by
            rw [fr5 j e1 e2 e3, us_n _ _ _ a, us_n _ _ _ a, m1 j a b c' d']
          refine ⟨hm6, ?_, ?_, fun i hi => ?_⟩
          · rw [g5 4 (by decide) (by decide) (by decide) (by decide) (by decide) (by decide) (by decide)]; exact e43
          · rw [s513]; rfl
          · obtain ⟨a1, a2, a3⟩ := hc4 i hi
            obtain ⟨b1, b2, b3⟩ := hc5 i hi
            obtain ⟨κ, w, v, z1, z2, z3, z4⟩ := q4 i hi
            obtain ⟨κ', w', v', z1', z2', z3', z4'⟩ := m3 i hi
            rw [z1] at z1'
            have ez := Option.some.inj z1'
            have ek : κ = κ' := congrArg Prod.fst ez
            have ew : w = w' := congrArg (fun x => x.2.1) ez
            have ev : v = v' := congrArg (fun x => x.2.2) ez
            subst ek ew ev
            obtain ⟨k6, kr⟩ := clo_rg (pair_eta z1)
            have n5 : ∀ j, 26 ≤ j ∧ j ≤ 28 → σ5 j = σ4 j := fun j hj => g5 j (by omega) (by omega) (by omega) (by omega) (by omega) (by omega) (by omega)
            rw [n5 26 (by decide), n5 27 (by decide), n5 28 (by decide), a1, a2, a3, b1, b2, b3]
            show σ2 55 i = σ3 80 i ∧ rg 0 5 (σ2 55 i) ∧ σ2 57 i = σ3 82 i ∧ rg 0 9999 (σ2 57 i) ∧ (σ2 55 i = 3 → σ2 56 i = σ3 81 i)
            rw [z2, z2', z3, z3']
            refine ⟨rfl, ?_, rfl, kr, fun z => ?_⟩
            · unfold rg
              rw [nI_toInt (by omega)]
              omega
            · have k3 : κ = 3 := (nI_eq (b := 3) (by omega) (by omega)).mp z
              rw [z4 k3, z4' k3]
end LawP
