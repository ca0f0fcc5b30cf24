/-! the law's text, in the reference: words -/
def Tq (T : Nat) (s : Nat → Int32) (σ : ax_Sg) : Prop := T ≤ 120 ∧ σ 13 34 = nI T ∧ (∀ i, i < T → σ 76 i = s i ∧ rg 0 255 (s i)) ∧ ∀ i, T ≤ i → s i = -1
def sg (w n : Nat) : Int32 := if n + 1 < tl w then tx w n else 0
theorem tx_nz : ∀ k : Fin 6, ∀ i : Fin 6, i.val < tl k.val → ¬ tx k.val i.val = 0 := by decide
theorem mk_all {p : Nat → Bool} {N : Nat} (h : ∀ v, v < N → p v = true) : mk p N = 2 ^ N - 1 := by
  apply Nat.eq_of_testBit_eq
  intro f
  rw [mk_bit, full_bit]
  by_cases c : f < N
  · rw [decide_eq_true c, h f c]; rfl
  · rw [decide_eq_false c, Bool.false_and]
section LawF
variable {l : Launch} {P : Option Value → ax_Sg → Prop} {σ : ax_Sg} {T : Nat} {s : Nat → Int32}
theorem Tq.fr {σ' : ax_Sg} (h : Tq T s σ) (e1 : σ' 13 34 = σ 13 34) (e2 : σ' 76 = σ 76) : Tq T s σ' := by
  unfold Tq at h ⊢
  rw [e1, e2]
  exact h
theorem m_sign (hT : Tq T s σ) {a : Nat} (ha : a ≤ 200) (e : σ 13 36 = nI a) (hP : P (some (.int (s a))) σ) : Ev l 124 0 [some (.ref 13)] [] σ P := by
  obtain ⟨t1, t2, t3, t4⟩ := hT
  refine b_X11_sign_0 ?_
  rw [e, t2]
  refine br_i (fun z => ?_) (fun z => ?_)
  · have hlt : a < T := by
      by_cases y : a < T
      · exact y
      · exact absurd z (nI_nlt (by omega) (by omega))
    rw [cl_nI (by omega), (t3 a hlt).1]
    exact ⟨in_nI (by omega) (by decide), hP⟩
  · have hge : T ≤ a := by
      by_cases y : a < T
      · exact absurd (nI_lt y (by omega)) z
      · omega
    rw [t4 a hge] at hP
    exact hP
theorem m_takesB (hT : Tq T s σ) {a : Nat} (ha : a ≤ 200) (e : σ 13 36 = nI a) {x : Int32} (hY : s a = x → P (some (.int 1)) (ax_us σ 13 36 (nI (a + 1)))) (hN : ¬ s a = x → P (some (.int 0)) σ) : Ev l 128 0 [some (.ref 13), some (.int x)] [] σ P := by
  refine b_X11_takes_0 _ (m_sign hT ha e ?_)
  rw [e, nI_1]
  exact br_i (fun w => ⟨nar1, hY w⟩) (fun w => ⟨nar0, hN w⟩)
theorem m_isDigit {x : Int32} (hY : 48 ≤ x.toInt ∧ x.toInt ≤ 48 + 9 → P (some (.int 1)) σ) (hN : ¬ (48 ≤ x.toInt ∧ x.toInt ≤ 48 + 9) → P (some (.int 0)) σ) : Ev l 127 0 [some (.int x)] [] σ P := by
  have h48 : (48 : Int32).toInt = 48 := by decide
  have h57 : (57 : Int32).toInt = 57 := by decide
  refine b_X11_isDigit_0 _ (br_i (fun z => ⟨nar0, hN ?_⟩) (fun z => br_i (fun z2 => ⟨nar0, hN ?_⟩) (fun z2 => ⟨nar1, hY ?_⟩)))
  · rw [lt_toInt, h48] at z; omega
  · rw [lt_toInt, h57] at z2; omega
  · rw [lt_toInt, h48] at z
    rw [lt_toInt, h57] at z2
    omega
theorem m_signOf {w n : Nat} (hw : w < 6) (hn : n < 6) (hP : P (some (.int (sg w n))) σ) : Ev l 125 0 [some (.int (nI w)), some (.int (nI n))] [] σ P := by
  refine b_X11_signOf_0 _ _ ?_
  have g : ∀ k : Nat, k < 6 → nI n = nI k → n = k := fun k hk z => (nI_eq (by omega) (by omega)).mp z
  rcases (show w = 0 ∨ w = 1 ∨ w = 2 ∨ w = 3 ∨ w = 4 ∨ w = 5 by omega) with rfl | rfl | rfl | rfl | rfl | rfl
  · refine ⟨fun _ => br_i (fun z => ?_) (fun z0 => br_i (fun z => ?_) (fun z1 => br_i (fun z => ?_) (fun z2 => br_i (fun z => ?_) (fun z3 => ?_)))), fun e => absurd rfl e⟩
    · rw [g 0 (by omega) z] at hP; exact hP
    · rw [g 1 (by omega) z] at hP; exact hP
    · rw [g 2 (by omega) z] at hP; exact hP
    · rw [g 3 (by omega) z] at hP; exact hP
    · rcases (show n = 0 ∨ n = 1 ∨ n = 2 ∨ n = 3 ∨ n = 4 ∨ n = 5 by omega) with rfl | rfl | rfl | rfl | rfl | rfl
      · exact absurd rfl z0
      · exact absurd rfl z1
      · exact absurd rfl z2
      · exact absurd rfl z3
      · exact hP
      · exact hP
  · refine ⟨fun e => absurd e (by decide), fun _ => ⟨fun _ => br_i (fun z => ?_) (fun z0 => br_i (fun z => ?_) (fun z1 => br_i (fun z => ?_) (fun z2 => br_i (fun z => ?_) (fun z3 => ?_)))), fun e => absurd rfl e⟩⟩
    · rw [g 0 (by omega) z] at hP; exact hP
    · rw [g 1 (by omega) z] at hP; exact hP
    · rw [g 2 (by omega) z] at hP; exact hP
    · rw [g 3 (by omega) z] at hP; exact hP
    · rcases (show n = 0 ∨ n = 1 ∨ n = 2 ∨ n = 3 ∨ n = 4 ∨ n = 5 by omega) with rfl | rfl | rfl | rfl | rfl | rfl
      · exact absurd rfl z0
      · exact absurd rfl z1
      · exact absurd rfl z2
      · exact absurd rfl z3
      · exact hP
      · exact hP
  · refine ⟨fun e => absurd e (by decide), fun _ => ⟨fun e => absurd e (by decide), fun _ => ⟨fun _ => br_i (fun z => ?_) (fun z0 => br_i (fun z => ?_) (fun z1 => br_i (fun z => ?_) (fun z2 => br_i (fun z => ?_) (fun z3 => br_i (fun z => ?_) (fun z4 => ?_))))), fun e => absurd rfl e⟩⟩⟩
    · rw [g 0 (by omega) z] at hP; exact hP
    · rw [g 1 (by omega) z] at hP; exact hP
    · rw [g 2 (by omega) z] at hP; exact hP
    · rw [g 3 (by omega) z] at hP; exact hP
    · rw [g 4 (by omega) z] at hP; exact hP
    · rcases (show n = 0 ∨ n = 1 ∨ n = 2 ∨ n = 3 ∨ n = 4 ∨ n = 5 by omega) with rfl | rfl | rfl | rfl | rfl | rfl
      · exact absurd rfl z0
      · exact absurd rfl z1
      · exact absurd rfl z2
      · exact absurd rfl z3
      · exact absurd rfl z4
      · exact hP
  · refine ⟨fun e => absurd e (by decide), fun _ => ⟨fun e => absurd e (by decide), fun _ => ⟨fun e => absurd e (by decide), fun _ => ⟨fun _ => br_i (fun z => ?_) (fun z0 => br_i (fun z => ?_) (fun z1 => br_i (fun z => ?_) (fun z2 => br_i (fun z => ?_) (fun z3 => ?_)))), fun e => absurd rfl e⟩⟩⟩⟩
    · rw [g 0 (by omega) z] at hP; exact hP
    · rw [g 1 (by omega) z] at hP; exact hP
    · rw [g 2 (by omega) z] at hP; exact hP
    · rw [g 3 (by omega) z] at hP; exact hP
    · rcases (show n = 0 ∨ n = 1 ∨ n = 2 ∨ n = 3 ∨ n = 4 ∨ n = 5 by omega) with rfl | rfl | rfl | rfl | rfl | rfl
      · exact absurd rfl z0
      · exact absurd rfl z1
      · exact absurd rfl z2
      · exact absurd rfl z3
      · exact hP
      · exact hP
  · refine ⟨fun e => absurd e (by decide), fun _ => ⟨fun e => absurd e (by decide), fun _ => ⟨fun e => absurd e (by decide), fun _ => ⟨fun e => absurd e (by decide), fun _ => ⟨fun _ => br_i (fun z => ?_) (fun z0 => br_i (fun z => ?_) (fun z1 => br_i (fun z => ?_) (fun z2 => br_i (fun z => ?_) (fun z3 => ?_)))), fun e => absurd rfl e⟩⟩⟩⟩⟩
    · rw [g 0 (by omega) z] at hP; exact hP
    · rw [g 1 (by omega) z] at hP; exact hP
    · rw [g 2 (by omega) z] at hP; exact hP
    · rw [g 3 (by omega) z] at hP; exact hP
    · rcases (show n = 0 ∨ n = 1 ∨ n = 2 ∨ n = 3 ∨ n = 4 ∨ n = 5 by omega) with rfl | rfl | rfl | rfl | rfl | rfl
      · exact absurd rfl z0
      · exact absurd rfl z1
      · exact absurd rfl z2
      · exact absurd rfl z3
      · exact hP
      · exact hP
  · refine ⟨fun e => absurd e (by decide), fun _ => ⟨fun e => absurd e (by decide), fun _ => ⟨fun e => absurd e (by decide), fun _ => ⟨fun e => absurd e (by decide), fun _ => ⟨fun e => absurd e (by decide), fun _ => br_i (fun z => ?_) (fun z0 => br_i (fun z => ?_) (fun z1 => br_i (fun z => ?_) (fun z2 => ?_)))⟩⟩⟩⟩⟩
    · rw [g 0 (by omega) z] at hP; exact hP
    · rw [g 1 (by omega) z] at hP; exact hP
    · rw [g 2 (by omega) z] at hP; exact hP
    · rcases (show n = 0 ∨ n = 1 ∨ n = 2 ∨ n = 3 ∨ n = 4 ∨ n = 5 by omega) with rfl | rfl | rfl | rfl | rfl | rfl
      · exact absurd rfl z0
      · exact absurd rfl z1
      · exact absurd rfl z2
      · exact hP
      · exact hP
      · exact hP
theorem m_word (hT : Tq T s σ) {a : Nat} (ha : a ≤ 150) (e : σ 13 36 = nI a) (hY : ∀ w n, w < 6 → n + 1 = tl w → n ≤ Lc s a w → P (some (.int (nI w))) (ax_us σ 13 36 (nI (a + n)))) (hN : wk s a = 6 → P (some (.int (-1))) (ax_us σ 13 36 (nI (wp s a)))) : Ev l 126 0 [some (.ref 13), none, none, none, none] [] σ P := by
  have outer : ∀ f n, n + f = 6 → (∀ w, w < 6 → (Lc s a w < n → Lc s a w < tl w) ∧ (n ≤ Lc s a w → n + 1 ≤ tl w)) → (∃ w, w < 6 ∧ n ≤ Lc s a w) → Ev l 126 5 [some (.ref 13), some (.int (nI (mk (fun v => decide (n ≤ Lc s a v)) 6))), some (.int (nI n)), none, none] [] (ax_us σ 13 36 (nI (a + n))) P := by
    intro f
    induction f with
    | zero =>
      intro n hf hinv hex
      obtain ⟨w, hw, hl⟩ := hex
      have h1 := (hinv w hw).2 hl
      have h2 := tl_le hw
      omega
    | succ f iho =>
      intro n hf hinv hex
      have hC : mk (fun v => decide (n ≤ Lc s a v)) 6 < 64 := mk_lt _ 6
      have hT2 : Tq T s (ax_us σ 13 36 (nI (a + n))) := hT.fr rfl rfl
      have inner : ∀ m w, 6 - w = m → w ≤ 6 → (∀ v, v < w → n ≤ Lc s a v → n + 2 ≤ tl v) → Ev l 126 10 [some (.ref 13), some (.int (nI (mk (fun v => decide (n ≤ Lc s a v)) 6))), some (.int (nI n)), some (.int (nI (mk (fun v => decide (n + 1 ≤ Lc s a v)) w))), some (.int (nI w))] [] (ax_us σ 13 36 (nI (a + n))) P := by
        intro m
        induction m with
        | zero =>
          intro w hm hw hlen
          have : w = 6 := by omega
          subst this
          have hX : mk (fun v => decide (n + 1 ≤ Lc s a v)) 6 < 64 := mk_lt _ 6
          refine b_X11_word_10 _ _ _ _ (br_f' (nI_nlt (a := 6) (b := 6) (Nat.le_refl _) (by omega)) (br_i (fun z => ?_) (fun z => ?_)))
          · have z' : mk (fun v => decide (n + 1 ≤ Lc s a v)) 6 = 0 := (nI_eq (b := 0) (by omega) (by omega)).mp z
            have hall : ∀ v, v < 6 → Lc s a v ≤ n := by
              intro v hv
              have h1 := mk_bit (fun v => decide (n + 1 ≤ Lc s a v)) 6 v
              rw [z', Nat.zero_testBit, decide_eq_true hv, Bool.true_and] at h1
              have := of_decide_eq_false h1.symm
              omega
            have hw6 : wk s a = 6 := wk_none (fun v hv => by
              have h1 := hinv v hv
              have h2 := hall v hv
              by_cases c : Lc s a v < n
              · have := h1.1 c; omega
              · have := h1.2 (by omega); omega)
            have hm6 : mL s a 6 = n := mL_eq hall (by
              obtain ⟨w, hw, hl⟩ := hex
              have := hall w hw
              exact ⟨w, hw, by omega⟩)
            have := hN hw6
            unfold wp at this
            rw [if_pos hw6, hm6] at this
            exact this
          · have z' : mk (fun v => decide (n + 1 ≤ Lc s a v)) 6 ≠ 0 := fun y => z (by rw [y]; rfl)
            rw [us_us, us_s, upd_s, nI_1, nI_1]
            refine iho (n + 1) (by omega) (fun w hw => ⟨fun hl => ?_, fun hl => ?_⟩) ?_
            · have h1 := hinv w hw
              by_cases c : Lc s a w < n
              · exact h1.1 c
              · have := h1.2 (by omega); omega
            · have := hlen w hw (by omega)
              omega
            · obtain ⟨v, hv⟩ := Nat.exists_testBit_of_ne_zero z'
              rw [mk_bit, Bool.and_eq_true, decide_eq_true_iff, decide_eq_true_iff] at hv
              exact ⟨v, hv.1, hv.2⟩
        | succ m ih =>
          intro w hm hw hlen
          have hw6 : w < 6 := by omega
          have htl := tl_le hw6
          obtain ⟨x, hx, hxl⟩ := hex
          have hn6 : n < 6 := by
            have h1 := (hinv x hx).2 hxl
            have h2 := tl_le hx
            omega
          have hbit : (mk (fun v => decide (n ≤ Lc s a v)) 6).testBit w = decide (n ≤ Lc s a w) := by
            rw [mk_bit, decide_eq_true hw6, Bool.true_and]
          have hXw : mk (fun v => decide (n + 1 ≤ Lc s a v)) w < 64 := Nat.lt_of_lt_of_le (mk_lt _ w) (Nat.pow_le_pow_right (n := 2) (by omega) (show w ≤ 6 by omega))
          refine b_X11_word_10 _ _ _ _ (br_t' (nI_lt (b := 6) hw6 (by omega)) ?_)
          rw [nI_bit1 (by omega) (by omega), hbit, nI_1]
          by_cases c : n ≤ Lc s a w
          · rw [decide_eq_true c]
            refine br_f' (by decide) ?_
            have cmp : n + 2 ≤ tl w → Ev l 125 0 [some (.int (nI w)), some (.int (nI n))] [] (ax_us σ 13 36 (nI (a + n))) (fun o4 σ5 => ax_oi o4 (fun v6 => Ev l 124 0 [some (.ref 13)] [] σ5 (fun o7 σ8 => ax_oi o7 (fun v9 => ax_br (v6 = v9) (Ev l 126 10 [some (.ref 13), some (.int (nI (mk (fun v => decide (n ≤ Lc s a v)) 6))), some (.int (nI n)), some (.int (nI (mk (fun v => decide (n + 1 ≤ Lc s a v)) w) ||| ((1 : Int32) <<< (nI w &&& 31)))), some (.int (nI (w + 1)))] [] σ8 P) (Ev l 126 10 [some (.ref 13), some (.int (nI (mk (fun v => decide (n ≤ Lc s a v)) 6))), some (.int (nI n)), some (.int (nI (mk (fun v => decide (n + 1 ≤ Lc s a v)) w))), some (.int (nI (w + 1)))] [] σ8 P))))) := by
              intro hlt
              refine m_signOf hw6 hn6 (m_sign (a := a + n) hT2 (by omega) (by rw [us_s, upd_s]) ?_)
              have esg : sg w n = tx w n := if_pos (by omega)
              have hl' : ∀ v, v < w + 1 → n ≤ Lc s a v → n + 2 ≤ tl v := by
                intro v hv hvl
                by_cases ev : v = w
                · rw [ev]; exact hlt
                · exact hlen v (by omega) hvl
              have ih' := ih (w + 1) (by omega) (by omega) hl'
              show ax_br (sg w n = s (a + n)) _ _
              rw [esg]
              refine br_i (fun y => ?_) (fun y => ?_)
              · have hge : n + 1 ≤ Lc s a w := Lc_ge (by omega) (fun i hi => by
                  by_cases ei : i = n
                  · rw [ei]; exact y.symm
                  · exact (Lc_spec (s := s) a w).2.1 i (by omega))
                have em : mk (fun v => decide (n + 1 ≤ Lc s a v)) (w + 1) = mk (fun v => decide (n + 1 ≤ Lc s a v)) w ||| 2 ^ w := if_pos (decide_eq_true hge)
                rw [nI_pow (by omega), nI_or, ← em]
                exact ih'
              · have hlt2 : ¬ n + 1 ≤ Lc s a w := fun z => y ((Lc_spec (s := s) a w).2.1 n (by omega)).symm
                have em : mk (fun v => decide (n + 1 ≤ Lc s a v)) (w + 1) = mk (fun v => decide (n + 1 ≤ Lc s a v)) w := if_neg (fun z => hlt2 (of_decide_eq_true z))
                rw [← em]
                exact ih'
            have hle := (hinv w hw6).2 c
            refine br_i (fun z => m_signOf hw6 hn6 ?_) (fun z => ?_)
            · refine br_i (fun y => hY w n hw6 ?_ c) (fun y => cmp ?_)
              · by_cases d : n + 1 < tl w
                · exfalso
                  have y' : sg w n = 0 := y
                  unfold sg at y'
                  rw [if_pos d] at y'
                  exact tx_nz ⟨w, hw6⟩ ⟨n, hn6⟩ (by show n < tl w; omega) y'
                · omega
              · by_cases d : n + 1 < tl w
                · omega
                · exfalso
                  exact y (if_neg d)
            · have hn0 : n = 0 := by
                by_cases d : n = 0
                · exact d
                · exact absurd (nI_lt (a := 0) (b := n) (by omega) (by omega)) z
              exact cmp (by omega)
          · rw [decide_eq_false c]
            have em : mk (fun v => decide (n + 1 ≤ Lc s a v)) (w + 1) = mk (fun v => decide (n + 1 ≤ Lc s a v)) w := if_neg (fun z => absurd (of_decide_eq_true z) (show ¬ n + 1 ≤ Lc s a w by omega))
            have ih' := ih (w + 1) (by omega) (by omega) (fun v hv hvl => by
              by_cases ev : v = w
              · rw [ev] at hvl; exact absurd hvl c
              · exact hlen v (by omega) hvl)
            rw [em] at ih'
            exact br_t' rfl ih'
      exact b_X11_word_5 _ _ (inner 6 0 (by omega) (by omega) (fun v hv => absurd hv (by omega)))
  have := outer 6 0 (by omega) (fun w hw => ⟨fun h => absurd h (by omega), fun _ => by have := tl_le hw; omega⟩) ⟨0, by omega, Nat.zero_le _⟩
  rw [mk_all (fun v _ => decide_eq_true (Nat.zero_le _)), show a + 0 = a from rfl, us_id e] at this
  exact b_X11_word_0 this
end LawF
