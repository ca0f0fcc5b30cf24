/-! the law's text, in the class -/
def Tp (T : Nat) (s : Nat → Int32) (σ : ax_Sg) : Prop := T ≤ 120 ∧ σ 3 2 = nI T ∧ (∀ i, i < T → σ 25 i = s i ∧ rg 0 255 (s i)) ∧ ∀ i, T ≤ i → s i = -1
theorem us_us (σ : ax_Sg) (k i : Nat) (v w : Int32) : ax_us (ax_us σ k i v) k i w = ax_us σ k i w := by
  funext j
  by_cases h : j = k
  · subst h
    rw [us_s, us_s, us_s, upd_upd]
  · rw [us_n _ _ _ h, us_n _ _ _ h, us_n _ _ _ h]
theorem us_id {σ : ax_Sg} {k i : Nat} {v : Int32} (h : σ k i = v) : ax_us σ k i v = σ := by
  funext j
  by_cases e : j = k
  · subst e
    rw [us_s, ← h, upd_id]
  · rw [us_n _ _ _ e]
theorem nv_rg {s : Nat → Int32} {b : Nat} : ∀ n, n ≤ 4 → (∀ i, i < n → dgt s 9 (b + i)) → 0 ≤ (nv s b n).toInt ∧ (nv s b n).toInt < 10 ^ n
  | 0, _, _ => by show 0 ≤ (0 : Int32).toInt ∧ (0 : Int32).toInt < 10 ^ 0; decide
  | n + 1, hn, h => by
    have ih := nv_rg n (by omega) (fun i hi => h i (by omega))
    have hd := h n (by omega)
    have h10 : (10 : Int32).toInt = 10 := by decide
    have h48 : (48 : Int32).toInt = 48 := by decide
    have hp : (10 : Int) ^ n ≤ 1000 := by
      rcases (show n = 0 ∨ n = 1 ∨ n = 2 ∨ n = 3 by omega) with rfl | rfl | rfl | rfl <;> decide
    have e1 : (nv s b n * 10).toInt = (nv s b n).toInt * 10 := by
      rw [mul_toInt (by rw [h10]; omega) (by rw [h10]; omega), h10]
    have e2 : (s (b + n) - 48).toInt = (s (b + n)).toInt - 48 := by
      rw [sub_toInt (by rw [h48]; omega) (by rw [h48]; omega), h48]
    have e3 : (nv s b (n + 1)).toInt = (nv s b n).toInt * 10 + ((s (b + n)).toInt - 48) := by
      show (nv s b n * 10 + (s (b + n) - 48)).toInt = _
      rw [add_toInt (by rw [e1, e2]; omega) (by rw [e1, e2]; omega), e1, e2]
    rw [e3, Int.pow_succ]
    omega
section LawC
variable {l : Launch} {P : Option Value → ax_Sg → Prop} {σ : ax_Sg} {T : Nat} {s : Nat → Int32}
theorem Tp.fr {σ' : ax_Sg} (h : Tp T s σ) (e1 : σ' 3 2 = σ 3 2) (e2 : σ' 25 = σ 25) : Tp T s σ' := by
  unfold Tp at h ⊢
  rw [e1, e2]
  exact h
theorem c_wordOf {k : Nat} (hk : k < 6) (hP : P (some (.ref (1000 + k))) σ) : Ev l 67 0 [some (.int (nI k))] [] σ P := by
  refine b_X9_wordOf_0 _ ?_
  rcases (show k = 0 ∨ k = 1 ∨ k = 2 ∨ k = 3 ∨ k = 4 ∨ k = 5 by omega) with rfl | rfl | rfl | rfl | rfl | rfl
  · exact ⟨fun _ => hP, fun e => absurd rfl e⟩
  · exact ⟨fun e => absurd e (by decide), fun _ => ⟨fun _ => hP, fun e => absurd rfl e⟩⟩
  · exact ⟨fun e => absurd e (by decide), fun _ => ⟨fun e => absurd e (by decide), fun _ => ⟨fun _ => hP, fun e => absurd rfl e⟩⟩⟩
  · exact ⟨fun e => absurd e (by decide), fun _ => ⟨fun e => absurd e (by decide), fun _ => ⟨fun e => absurd e (by decide), fun _ => ⟨fun _ => hP, fun e => absurd rfl e⟩⟩⟩⟩
  · exact ⟨fun e => absurd e (by decide), fun _ => ⟨fun e => absurd e (by decide), fun _ => ⟨fun e => absurd e (by decide), fun _ => ⟨fun e => absurd e (by decide), fun _ => ⟨fun _ => hP, fun e => absurd rfl e⟩⟩⟩⟩⟩
  · exact ⟨fun e => absurd e (by decide), fun _ => ⟨fun e => absurd e (by decide), fun _ => ⟨fun e => absurd e (by decide), fun _ => ⟨fun e => absurd e (by decide), fun _ => ⟨fun e => absurd e (by decide), fun _ => hP⟩⟩⟩⟩⟩
theorem tx_some {k : Nat} (hk : k < 6) : ax_tx[1000 + k - 1000]? = some (ax_tx.getD k []) := by
  rcases (show k = 0 ∨ k = 1 ∨ k = 2 ∨ k = 3 ∨ k = 4 ∨ k = 5 by omega) with rfl | rfl | rfl | rfl | rfl | rfl <;> rfl
theorem tx_ble (k : Nat) : Nat.ble 1000 (1000 + k) = true := Nat.ble_eq_true_of_le (Nat.le_add_right _ _)
theorem tx_pos : ∀ k : Fin 6, ∀ i : Fin 6, i.val < tl k.val → ¬ (-1 : Int32) = tx k.val i.val := by decide
theorem c_same (hT : Tp T s σ) {a k : Nat} (ha : a ≤ 200) (hk : k < 6) (e : σ 3 3 = nI a) (hP : P (some (.int (nI (Lc s a k)))) σ) : Ev l 68 0 [some (.ref 3), some (.ref (1000 + k)), none] [] σ P := by
  obtain ⟨t1, t2, t3, t4⟩ := hT
  have htl := tl_le hk
  have loop : ∀ m i, tl k - i = m → i ≤ tl k → ffd (fun i => !(decide (s (a + i) = tx k i))) (tl k - i) i = Lc s a k → Ev l 68 2 [some (.ref 3), some (.ref (1000 + k)), some (.int (nI i))] [] σ P := by
    intro m
    induction m with
    | zero =>
      intro i hm hi hff
      rw [show tl k - i = 0 by omega] at hff
      have hL : Lc s a k = i := hff.symm
      rw [hL] at hP
      refine b_X9_sameBytes_2 _ _ ?_
      rw [tx_some hk, tx_ble]
      show ax_br (nI i < Int32.ofNat (tl k)) _ _
      exact br_f' (nI_nlt (b := tl k) (by omega) (by omega)) hP
    | succ m ih =>
      intro i hm hi hff
      rw [show tl k - i = (tl k - (i + 1)) + 1 by omega] at hff
      unfold ffd at hff
      refine b_X9_sameBytes_2 _ _ ?_
      rw [tx_some hk, tx_ble]
      show ax_br (nI i < Int32.ofNat (tl k)) _ _
      refine br_t' (nI_lt (b := tl k) (by omega) (by omega)) ?_
      rw [e, nI_add, t2]
      refine br_i (fun z => ?_) (fun z => ?_)
      · have hlt : a + i < T := by
          by_cases y : a + i < T
          · exact y
          · exact absurd z (nI_nlt (by omega) (by omega))
        rw [cl_nI (n := a + i) (by omega), (t3 _ hlt).1, nI_1]
        refine ⟨in_nI (by omega) (by decide), ?_⟩
        show vp_in (nI i) (tl k) ∧ ax_br (s (a + i) = (ax_tx.getD k []).getD (Int32.toNatClampNeg (nI i)) 0) _ _
        rw [cl_nI (by omega)]
        refine ⟨in_nI (by omega) (by omega), br_i (fun w => ?_) (fun w => ?_)⟩
        · have w' : s (a + i) = tx k i := w
          rw [decide_eq_true w', if_neg (by decide)] at hff
          exact ih (i + 1) (by omega) (by omega) hff
        · have w' : ¬ s (a + i) = tx k i := w
          rw [decide_eq_false w', if_pos (by decide)] at hff
          rw [← hff] at hP
          exact hP
      · have hge : T ≤ a + i := by
          by_cases y : a + i < T
          · exact absurd (nI_lt y (by omega)) z
          · omega
        have w' : ¬ s (a + i) = tx k i := by
          rw [t4 _ hge]
          exact tx_pos ⟨k, hk⟩ ⟨i, by omega⟩ (by show i < tl k; omega)
        rw [decide_eq_false w', if_pos (by decide)] at hff
        rw [← hff] at hP
        exact hP
  exact b_X9_sameBytes_0 _ (loop (tl k) 0 (by omega) (by omega) rfl)
theorem c_readWord (hT : Tp T s σ) {a : Nat} (ha : a ≤ 200) (e : σ 3 3 = nI a) (hP : P (some (.int (if wk s a = 6 then -1 else nI (wk s a)))) (ax_us σ 3 3 (nI (wp s a)))) : Ev l 66 0 [some (.ref 3), none, none, none, none] [] σ P := by
  have loop : ∀ m k, 6 - k = m → k ≤ 6 → ffd (fun k => Lc s a k == tl k) (6 - k) k = wk s a → Ev l 66 4 [some (.ref 3), some (.int (nI (mL s a k))), some (.int (nI k)), none, none] [] σ P := by
    intro m
    induction m with
    | zero =>
      intro k hm hk hff
      have : k = 6 := by omega
      subst this
      have hw : wk s a = 6 := hff.symm
      unfold wp at hP
      rw [if_pos hw, if_pos hw] at hP
      refine b_X9_readWord_4 _ _ (br_t' (nI_lt (a := 5) (b := 6) (by omega) (by omega)) ?_)
      rw [e, nI_add]
      exact hP
    | succ m ih =>
      intro k hm hk hff
      have htl := tl_le (k := k) (by omega)
      have hLl := (Lc_spec (s := s) a k).1
      have hmL : mL s a k ≤ 6 := by
        rcases (mL_spec (s := s) a k).2 with h | ⟨j, hj, h⟩
        · rw [h]; exact Nat.zero_le _
        · have h1 := (Lc_spec (s := s) a j).1
          have h2 := tl_le (k := j) (by omega)
          omega
      rw [show 6 - k = (6 - (k + 1)) + 1 by omega] at hff
      unfold ffd at hff
      refine b_X9_readWord_4 _ _ (br_f' (nI_nlt (a := 5) (b := k) (by omega) (by omega)) (c_wordOf (by omega) (c_same hT ha (by omega) e ?_)))
      rw [tx_some (by omega), tx_ble]
      show ax_br (nI (Lc s a k) = nI (tl k)) _ _
      refine br_i (fun z => ?_) (fun z => ?_)
      · have z' := (nI_eq (by omega) (by omega)).mp z
        rw [z', beq_self_eq_true, if_pos rfl] at hff
        have hw : ¬ wk s a = 6 := by omega
        unfold wp at hP
        rw [if_neg hw, if_neg hw, ← hff] at hP
        rw [e, nI_add, z']
        exact hP
      · have z' : ¬ Lc s a k = tl k := fun y => z (by rw [y])
        rw [beq_eq_false_iff_ne.mpr z', if_neg (by decide)] at hff
        refine c_max _ _ ?_
        have emax : (if nI (mL s a k) < nI (Lc s a k) then nI (Lc s a k) else nI (mL s a k)) = nI (mL s a (k + 1)) := by
          show _ = nI (max (mL s a k) (Lc s a k))
          by_cases c : mL s a k < Lc s a k
          · rw [if_pos (nI_lt c (by omega)), Nat.max_eq_right (by omega)]
          · rw [if_neg (nI_nlt (by omega) (by omega)), Nat.max_eq_left (by omega)]
        rw [emax, nI_1]
        exact ih (k + 1) (by omega) (by omega) hff
  exact b_X9_readWord_0 (loop 6 0 (by omega) (by omega) rfl)
theorem c_byte (hT : Tp T s σ) {a : Nat} (ha : a ≤ 200) (e : σ 3 3 = nI a) {x : Int32} (hx : 0 ≤ x.toInt) (hY : s a = x → P (some (.int 1)) (ax_us σ 3 3 (nI (a + 1)))) (hN : ¬ s a = x → P (some (.int 0)) σ) : Ev l 69 0 [some (.ref 3), some (.int x)] [] σ P := by
  obtain ⟨t1, t2, t3, t4⟩ := hT
  refine b_X9_readByte_0 _ ?_
  rw [e, t2]
  refine br_i (fun z => ?_) (fun z => ⟨nar0, hN ?_⟩)
  · have hlt : a < T := by
      by_cases y : a < T
      · exact y
      · exact absurd z (nI_nlt (by omega) (by omega))
    rw [cl_nI (by omega), (t3 a hlt).1, nI_1]
    exact ⟨in_nI (by omega) (by decide), br_i (fun w => ⟨nar1, hY w⟩) (fun w => ⟨nar0, hN w⟩)⟩
  · have hge : T ≤ a := by
      by_cases y : a < T
      · exact absurd (nI_lt y (by omega)) z
      · omega
    rw [t4 a hge]
    intro y
    rw [← y] at hx
    exact absurd hx (by decide)
theorem c_digit (hT : Tp T s σ) {a : Nat} (ha : a ≤ 200) (e : σ 3 3 = nI a) {x : Int32} {m : Int} (hx : x.toInt = m) (hY : dgt s m a → P (some (.int (s a - 48))) (ax_us σ 3 3 (nI (a + 1)))) (hN : ¬ dgt s m a → P (some (.int (-1))) σ) : Ev l 70 0 [some (.ref 3), some (.int x)] [] σ P := by
  obtain ⟨t1, t2, t3, t4⟩ := hT
  have h48 : (48 : Int32).toInt = 48 := by decide
  have h0 : (0 : Int32).toInt = 0 := by decide
  refine b_X9_readDigit_0 _ ?_
  rw [e, t2]
  refine br_i (fun z => ?_) (fun z => hN ?_)
  · have hlt : a < T := by
      by_cases y : a < T
      · exact y
      · exact absurd z (nI_nlt (by omega) (by omega))
    obtain ⟨q1, q2⟩ := t3 a hlt
    unfold rg at q2
    have es : (s a - 48).toInt = (s a).toInt - 48 := by
      rw [sub_toInt (by rw [h48]; omega) (by rw [h48]; omega), h48]
    rw [cl_nI (by omega), q1]
    refine ⟨in_nI (by omega) (by decide), c_within _ _ _ (fun w => br1 ?_) (fun w => br0 (hN (fun y => w ?_)))⟩
    · rw [es, h0, hx] at w
      rw [e, nI_inc, cl_nI (by omega), q1, nI_1]
      exact ⟨in_nI (by omega) (by decide), hY ⟨by omega, by omega⟩⟩
    · rw [es, h0, hx]
      have := y.1
      have := y.2
      omega
  · have hge : T ≤ a := by
      by_cases y : a < T
      · exact absurd (nI_lt y (by omega)) z
      · omega
    intro y
    have y1 := y.1
    rw [t4 a hge] at y1
    exact absurd y1 (by decide)
theorem c_number (hT : Tp T s σ) {a : Nat} (ha : a ≤ 190) (e : σ 3 3 = nI a) (hY : ¬ nd s a = 0 → P (some (.int (nv s a (nd s a)))) (ax_us σ 3 3 (nI (a + nd s a)))) (hN : nd s a = 0 → P (some (.int (-1))) σ) : Ev l 71 0 [some (.ref 3), none, none, none] [] σ P := by
  have hne : ∀ n, n ≤ 4 → (∀ i, i < n → dgt s 9 (a + i)) → ¬ nv s a n = -1 := by
    intro n hn hd z
    have := (nv_rg (s := s) (b := a) n hn hd).1
    rw [z] at this
    exact absurd this (by decide)
  have loop : ∀ m n, 4 - n = m → 1 ≤ n → n ≤ 4 → (∀ i, i < n → dgt s 9 (a + i)) → ffd (fun i => !(decide (dgt s 9 (a + i)))) (4 - n) n = nd s a → Ev l 71 9 [some (.ref 3), some (.int (nv s a n)), some (.int (nI n)), none] [] (ax_us σ 3 3 (nI (a + n))) P := by
    intro m
    induction m with
    | zero =>
      intro n hm h1 hn hd hff
      have : n = 4 := by omega
      subst this
      have hnd : nd s a = 4 := hff.symm
      rw [hnd] at hY
      exact b_X9_readNumber_9 _ _ (br_f' (nI_nlt (a := 4) (b := 4) (Nat.le_refl _) (by omega)) (hY (by omega)))
    | succ m ih =>
      intro n hm h1 hn hd hff
      rw [show 4 - n = (4 - (n + 1)) + 1 by omega] at hff
      unfold ffd at hff
      have hT2 : Tp T s (ax_us σ 3 3 (nI (a + n))) := hT.fr rfl rfl
      refine b_X9_readNumber_9 _ _ (br_t' (nI_lt (b := 4) (by omega) (by omega)) (br_f' (hne n hn hd) (c_digit (m := 9) (a := a + n) hT2 (by omega) (by rw [us_s, upd_s]) (by decide) (fun y => ?_) (fun y => ?_))))
      · rw [decide_eq_true y, if_neg (by decide)] at hff
        rw [us_us]
        refine br_f' (fun z => ?_) ?_
        · have h48 : (48 : Int32).toInt = 48 := by decide
          have es : (s (a + n) - 48).toInt = (s (a + n)).toInt - 48 := by
            rw [sub_toInt (by rw [h48]; have := y.1; omega) (by rw [h48]; have := y.1; have := y.2; omega), h48]
          rw [z] at es
          have e1 : (-1 : Int32).toInt = -1 := by decide
          rw [e1] at es
          have := y.1
          omega
        · show Ev l 71 9 [some (.ref 3), some (.int (nv s a n * 10 + (s (a + n) - 48))), some (.int (nI n + 1)), none] [] (ax_us σ 3 3 (nI (a + n + 1))) P
          rw [nI_1]
          exact ih (n + 1) (by omega) (by omega) (by omega) (fun i hi => by
            by_cases c : i = n
            · rw [c]; exact y
            · exact hd i (by omega)) hff
      · rw [decide_eq_false y, if_pos (by decide)] at hff
        rw [← hff] at hY
        exact br_t' rfl (hY (by omega))
  have hff0 : ffd (fun i => !(decide (dgt s 9 (a + i)))) (3 + 1) 0 = nd s a := rfl
  unfold ffd at hff0
  refine b_X9_readNumber_0 (c_digit (m := 9) hT (by omega) e (by decide) (fun y => ?_) (fun y => ?_))
  · have y0 : dgt s 9 (a + 0) := y
    rw [decide_eq_true y0, if_neg (by decide)] at hff0
    have := loop 3 1 (by omega) (by omega) (by omega) (fun i hi => by rw [show i = 0 by omega]; exact y) hff0
    have e1 : nv s a 1 = s a - 48 := by
      show (0 : Int32) * 10 + (s (a + 0) - 48) = s a - 48
      rw [show (0 : Int32) * 10 = 0 from by decide, Int32.zero_add]; rfl
    rw [e1] at this
    exact this
  · have y0 : ¬ dgt s 9 (a + 0) := y
    rw [decide_eq_false y0, if_pos (by decide)] at hff0
    have hz : nd s a = 0 := hff0.symm
    refine b_X9_readNumber_9 _ _ (br_t' (nI_lt (a := 1) (b := 4) (by omega) (by omega)) (br_t' rfl (hN hz)))
end LawC
