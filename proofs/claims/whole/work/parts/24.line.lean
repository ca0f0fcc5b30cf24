/-! the line at the airport: join, call, leave -/
theorem us_uc (σ : ax_Sg) (k i : Nat) (g : Nat → Int32) (v : Int32) : ax_us (ax_uc σ k g) k i v = ax_uc σ k (upd g i v) := by
  funext k'
  by_cases h : k' = k
  · subst h; rw [us_s, uc_s, uc_s]
  · rw [us_n _ _ _ h, uc_n _ _ h, uc_n _ _ h]
theorem uc_id (σ : ax_Sg) (k : Nat) : ax_uc σ k (σ k) = σ := by
  funext k'
  by_cases h : k' = k
  · subst h; rw [uc_s]
  · rw [uc_n _ _ h]
theorem uc_uc (σ : ax_Sg) (k : Nat) (f g : Nat → Int32) : ax_uc (ax_uc σ k f) k g = ax_uc σ k g := by
  funext k'
  by_cases h : k' = k
  · subst h; rw [uc_s, uc_s]
  · rw [uc_n _ _ h, uc_n _ _ h, uc_n _ _ h]
theorem us_comm (σ : ax_Sg) {k k' : Nat} (h : k ≠ k') (g : Nat → Int32) (i : Nat) (v : Int32) : ax_uc (ax_us σ k' i v) k g = ax_us (ax_uc σ k g) k' i v := by
  funext j
  by_cases h1 : j = k
  · subst h1; rw [uc_s, us_n _ _ _ h, uc_s]
  · rw [uc_n _ _ h1]
    by_cases h2 : j = k'
    · subst h2; rw [us_s, us_s, uc_n _ _ h1]
    · rw [us_n _ _ _ h2, us_n _ _ _ h2, uc_n _ _ h1]
/-- pigeons -/
theorem php : ∀ (n y : Nat) (f : Nat → Nat), (∀ i, i < y → f i < n) → (∀ i j, i < y → j < y → f i = f j → i = j) → y ≤ n
  | 0, y, f, h, _ => by
    rcases Nat.eq_zero_or_pos y with h0 | h0
    · omega
    · exact absurd (h 0 h0) (by omega)
  | n + 1, y, f, h, hi => by
    rcases Nat.eq_zero_or_pos y with h0 | h0
    · omega
    · by_cases hx : ∃ i0, i0 < y ∧ f i0 = n
      · obtain ⟨i0, hi0, hf0⟩ := hx
        have := php n (y - 1) (fun i => if i = i0 then f (y - 1) else f i) (fun i hlt => by
          by_cases e : i = i0
          · simp only [if_pos e]
            have h1 := h (y - 1) (by omega)
            have h2 : f (y - 1) ≠ n := fun e2 => by
              have := hi (y - 1) i0 (by omega) hi0 (by rw [e2, hf0])
              omega
            omega
          · simp only [if_neg e]
            have h1 := h i (by omega)
            have h2 : f i ≠ n := fun e2 => e (hi i i0 (by omega) hi0 (by rw [e2, hf0]))
            omega) (fun i j hI hJ e => by
          by_cases e1 : i = i0
          · by_cases e2 : j = i0
            · omega
            · simp only [if_pos e1, if_neg e2] at e
              have := hi (y - 1) j (by omega) (by omega) e
              omega
          · by_cases e2 : j = i0
            · simp only [if_neg e1, if_pos e2] at e
              have := hi i (y - 1) (by omega) (by omega) e
              omega
            · simp only [if_neg e1, if_neg e2] at e
              exact hi i j (by omega) (by omega) e)
        omega
      · have := php n y f (fun i hlt => by
          have h1 := h i hlt
          have h2 : f i ≠ n := fun e => hx ⟨i, hlt, e⟩
          omega) hi
        omega
/-- the row without the place i -/
def rmv (i y : Nat) (a : Nat → Int32) : Nat → Int32 := fun j => if i ≤ j ∧ j + 1 < y then a (j + 1) else a j
section Line
variable {l : Launch} {σ : ax_Sg} {P : Option Value → ax_Sg → Prop}
theorem c_placeOf {y : Nat} (hy : y ≤ 12) (hs : σ 11 1 = nI y) (x : Int32) (hF : ∀ i, i < y → σ 54 i = x → (∀ j, j < i → ¬ σ 54 j = x) → P (some (.int (nI i))) σ) (hN : (∀ j, j < y → ¬ σ 54 j = x) → P (some (.int (-1))) σ) : Ev l 25 0 [some (.ref 11), some (.int x), none] [] σ P := by
  have loop : ∀ m k, y - k = m → k ≤ y → (∀ j, j < k → ¬ σ 54 j = x) → Ev l 25 2 [some (.ref 11), some (.int x), some (.int (nI k))] [] σ P := by
    intro m
    induction m with
    | zero =>
      intro k hk hky hpre
      have : k = y := by omega
      subst this
      refine b_X3_placeOf_2 x _ (br_f' ?_ (hN hpre))
      rw [hs]; exact nI_nlt (Nat.le_refl _) (by omega)
    | succ m ih =>
      intro k hk hky hpre
      refine b_X3_placeOf_2 x _ (br_t' ?_ ⟨in_nI (by omega) (by decide), ?_⟩)
      · rw [hs]; exact nI_lt (by omega) (by omega)
      · rw [cl_nI (by omega), nI_1]
        exact br_i (fun e => hF k (by omega) e hpre) (fun e => ih (k + 1) (by omega) (by omega) (fun j hj => by
          by_cases e2 : j = k
          · subst e2; exact e
          · exact hpre j (by omega)))
  exact b_X3_placeOf_0 x (loop y 0 (by omega) (by omega) (fun j hj => absurd hj (by omega)))
theorem m_placeOf {y : Nat} (hy : y ≤ 12) (hs : σ 13 51 = nI y) (x : Int32) (hF : ∀ i, i < y → σ 92 i = x → (∀ j, j < i → ¬ σ 92 j = x) → P (some (.int (nI i))) σ) (hN : (∀ j, j < y → ¬ σ 92 j = x) → P (some (.int (-1))) σ) : Ev l 167 0 [some (.ref 13), some (.int x), none] [] σ P := by
  have loop : ∀ m k, y - k = m → k ≤ y → (∀ j, j < k → ¬ σ 92 j = x) → Ev l 167 2 [some (.ref 13), some (.int x), some (.int (nI k))] [] σ P := by
    intro m
    induction m with
    | zero =>
      intro k hk hky hpre
      have : k = y := by omega
      subst this
      refine b_X11_placeOf_2 x _ (br_f' ?_ (hN hpre))
      rw [hs]; exact nI_nlt (Nat.le_refl _) (by omega)
    | succ m ih =>
      intro k hk hky hpre
      refine b_X11_placeOf_2 x _ (br_t' ?_ ⟨in_nI (by omega) (by decide), ?_⟩)
      · rw [hs]; exact nI_lt (by omega) (by omega)
      · rw [cl_nI (by omega), nI_1]
        exact br_i (fun e => hF k (by omega) e hpre) (fun e => ih (k + 1) (by omega) (by omega) (fun j hj => by
          by_cases e2 : j = k
          · subst e2; exact e
          · exact hpre j (by omega)))
  exact b_X11_placeOf_0 x (loop y 0 (by omega) (by omega) (fun j hj => absurd hj (by omega)))
theorem c_removeAt {y i : Nat} (hy : y ≤ 12) (hs : σ 11 1 = nI y) (hi : i < y) (h : P none (ax_us (ax_uc σ 54 (rmv i y (σ 54))) 11 1 (nI (y - 1)))) : Ev l 27 0 [some (.ref 11), some (.int (nI i)), none] [] σ P := by
  have loop : ∀ m k, y - k = m → k ≤ y → i + 1 ≤ k → Ev l 27 4 [some (.ref 11), none, some (.int (nI k))] [] (ax_uc σ 54 (rmv i k (σ 54))) P := by
    intro m
    induction m with
    | zero =>
      intro k hk hky hik
      have : k = y := by omega
      subst this
      have hs' : (ax_uc σ 54 (rmv i k (σ 54))) 11 1 = nI k := hs
      refine b_X3_removeAt_4 _ (br_f' ?_ ?_)
      · rw [hs']; exact nI_nlt (Nat.le_refl _) (by omega)
      · rw [hs', show (1 : Int32) = nI 1 from rfl, pk_sub (by omega)]
        exact h
    | succ m ih =>
      intro k hk hky hik
      have hs' : (ax_uc σ 54 (rmv i k (σ 54))) 11 1 = nI y := hs
      refine b_X3_removeAt_4 _ (br_t' ?_ ?_)
      · rw [hs']; exact nI_lt (by omega) (by omega)
      · rw [show (1 : Int32) = nI 1 from rfl, pk_sub (by omega), cl_nI (by omega), cl_nI (by omega), nI_add]
        refine ⟨in_nI (by omega) (by decide), in_nI (by omega) (by decide), ?_⟩
        have e : ax_us (ax_uc σ 54 (rmv i k (σ 54))) 54 (k - 1) ((ax_uc σ 54 (rmv i k (σ 54))) 54 k) = ax_uc σ 54 (rmv i (k + 1) (σ 54)) := by
          rw [us_uc, uc_s]
          congr 1
          funext j
          by_cases hj : j = k - 1
          · subst hj
            rw [upd_s]
            unfold rmv
            rw [if_neg (by omega), if_pos (by omega)]
            congr 1; omega
          · rw [upd_n _ _ hj]
            unfold rmv
            by_cases hc : i ≤ j ∧ j + 1 < k
            · rw [if_pos hc, if_pos (by omega)]
            · rw [if_neg hc, if_neg (by omega)]
        rw [e]
        exact ih (k + 1) (by omega) (by omega) (by omega)
  refine b_X3_removeAt_0 _ ?_
  rw [nI_1]
  have e0 : ax_uc σ 54 (rmv i (i + 1) (σ 54)) = σ := by
    have : rmv i (i + 1) (σ 54) = σ 54 := by
      funext j
      unfold rmv
      rw [if_neg (by omega)]
    rw [this, uc_id]
  have := loop (y - (i + 1)) (i + 1) rfl (by omega) (Nat.le_refl _)
  rw [e0] at this
  exact this
theorem m_goesFrom {y i : Nat} (hy : y ≤ 12) (hs : σ 13 51 = nI y) (hi : i < y) (h : P none (ax_us (ax_uc σ 92 (rmv i y (σ 92))) 13 51 (nI (y - 1)))) : Ev l 168 0 [some (.ref 13), some (.int (nI i)), none] [] σ P := by
  have loop : ∀ m k, y - 1 - k = m → k ≤ y - 1 → i ≤ k → Ev l 168 12 [some (.ref 13), none, some (.int (nI k))] [] (ax_us (ax_uc σ 92 (rmv i (k + 1) (σ 92))) 13 51 (nI (y - 1))) P := by
    intro m
    induction m with
    | zero =>
      intro k hk hky hik
      have : k = y - 1 := by omega
      subst this
      refine b_X11_goesFrom_12 _ (br_f' ?_ ?_)
      · show ¬ nI (y - 1) < nI (y - 1); exact nI_nlt (Nat.le_refl _) (by omega)
      · rw [show y - 1 + 1 = y by omega]; exact h
    | succ m ih =>
      intro k hk hky hik
      refine b_X11_goesFrom_12 _ (br_t' ?_ ?_)
      · show nI k < nI (y - 1); exact nI_lt (by omega) (by omega)
      · rw [nI_1, cl_nI (by omega), cl_nI (by omega)]
        refine ⟨in_nI (by omega) (by decide), in_nI (by omega) (by decide), ?_⟩
        have e : ax_us (ax_us (ax_uc σ 92 (rmv i (k + 1) (σ 92))) 13 51 (nI (y - 1))) 92 k ((ax_us (ax_uc σ 92 (rmv i (k + 1) (σ 92))) 13 51 (nI (y - 1))) 92 (k + 1)) = ax_us (ax_uc σ 92 (rmv i (k + 1 + 1) (σ 92))) 13 51 (nI (y - 1)) := by
          rw [ax_us_uc, us_comm _ (by decide), uc_uc, us_n _ _ _ (by decide), uc_s]
          congr 2
          funext j
          by_cases hj : j = k
          · subst hj
            rw [upd_s]
            unfold rmv
            rw [if_neg (by omega), if_pos (by omega)]
          · rw [upd_n _ _ hj]
            unfold rmv
            by_cases hc : i ≤ j ∧ j + 1 < k + 1
            · rw [if_pos hc, if_pos (by omega)]
            · rw [if_neg hc, if_neg (by omega)]
        rw [e]
        exact ih (k + 1) (by omega) (by omega) (by omega)
  refine b_X11_goesFrom_0 _ ?_
  have e0 : ax_uc σ 92 (rmv i (i + 1) (σ 92)) = σ := by
    have : rmv i (i + 1) (σ 92) = σ 92 := by
      funext j
      unfold rmv
      rw [if_neg (by omega)]
    rw [this, uc_id]
  have := loop (y - 1 - i) i rfl (by omega) (Nat.le_refl _)
  rw [e0] at this
  rw [hs, show (1 : Int32) = nI 1 from rfl, pk_sub (by omega)]
  exact this
/-- the line less one place -/
theorem li_rmv {n y i : Nat} (hli : iv_li n y σ) (hi : i < y) (σ' : ax_Sg) (h1 : σ' 11 1 = nI (y - 1)) (h2 : σ' 13 51 = nI (y - 1)) (h3 : σ' 54 = rmv i y (σ 54)) (h4 : σ' 92 = rmv i y (σ 92)) : iv_li n (y - 1) σ' := by
  obtain ⟨g1, g2, g3, g4, g5⟩ := hli
  refine ⟨by omega, h1, h2, fun j hj => ?_, fun a b ha hb e => ?_⟩
  · rw [h3, h4]
    unfold rmv
    by_cases hc : i ≤ j ∧ j + 1 < y
    · rw [if_pos hc, if_pos hc]; exact g4 _ (by omega)
    · rw [if_neg hc, if_neg hc]; exact g4 _ (by omega)
  · rw [h3] at e
    unfold rmv at e
    by_cases ca : i ≤ a ∧ a + 1 < y
    · rw [if_pos ca] at e
      by_cases cb : i ≤ b ∧ b + 1 < y
      · rw [if_pos cb] at e
        have := g5 _ _ (by omega) (by omega) e
        omega
      · rw [if_neg cb] at e
        have := g5 _ _ (by omega) (by omega) e
        omega
    · rw [if_neg ca] at e
      by_cases cb : i ≤ b ∧ b + 1 < y
      · rw [if_pos cb] at e
        have := g5 _ _ (by omega) (by omega) e
        omega
      · rw [if_neg cb] at e
        exact g5 _ _ (by omega) (by omega) e
theorem pr_join (hI : Inv σ) (x : Int32) : Pr l 98 [some (.ref 0), some (.int x)] 169 [some (.ref 13), some (.int x)] σ := by
  have hI0 := hI
  obtain ⟨n, d, t, c, h, r, q, f, y, hpl, hdr, hsh, htp, hmt, has, hct, hrd, hln, hfl, hli⟩ := hI
  have hpl0 := hpl
  obtain ⟨hn, hs, hm, hp⟩ := hpl
  obtain ⟨hy, hys, hym, hyp, hyi⟩ := hli
  rcases nI_case x n (by omega) with ⟨p, hpn, rfl⟩ | hx
  · refine b_X10_join_0 _ (pl_t hn hs hpn (br1 (c_placeOf hy hys _ (fun i hi hie hpre => ?_) (fun hnone => ?_))))
    · refine br_f' (fun e => nI_pos (n := i) (by omega) (by rw [e]; decide)) ?_
      refine b_X11_join_0 _ (mpl_t hn hm hpn (br1 (m_placeOf hy hym _ (fun j hj hje hpre' => ?_) (fun hn' => absurd (by rw [← (hyp i hi).1]; exact hie) (hn' i hi)))))
      exact br_f' (nI_pos (by omega)) (fin rfl hI0)
    · have hyn : y + 1 ≤ n := by
        refine php n (y + 1) (fun i => if i = y then p else (σ 54 i).toNatClampNeg) (fun i hi => ?_) (fun i j hi hj e => ?_)
        · by_cases e : i = y
          · simp only [if_pos e]; exact hpn
          · simp only [if_neg e]
            obtain ⟨-, p', hp', e'⟩ := hyp i (by omega)
            rw [e', cl_nI (by omega)]; exact hp'
        · by_cases e1 : i = y
          · by_cases e2 : j = y
            · omega
            · simp only [if_pos e1, if_neg e2] at e
              obtain ⟨-, p', hp', e'⟩ := hyp j (by omega)
              rw [e', cl_nI (by omega)] at e
              exact absurd (by rw [e', e]) (hnone j (by omega))
          · by_cases e2 : j = y
            · simp only [if_neg e1, if_pos e2] at e
              obtain ⟨-, p', hp', e'⟩ := hyp i (by omega)
              rw [e', cl_nI (by omega)] at e
              exact absurd (by rw [e', e]) (hnone i (by omega))
            · simp only [if_neg e1, if_neg e2] at e
              obtain ⟨-, p', hp', e'⟩ := hyp i (by omega)
              obtain ⟨-, p2, hp2, e2'⟩ := hyp j (by omega)
              rw [e', e2', cl_nI (by omega), cl_nI (by omega)] at e
              exact hyi i j (by omega) (by omega) (by rw [e', e2', e])
      refine br_t' rfl (b_X3_append_0 _ ?_)
      rw [hys, cl_nI (by omega)]
      refine br_t' (nI_lt (b := 12) (by omega) (by omega)) ⟨in_nI (by omega) (by decide), ?_⟩
      have hym1 : (ax_us (ax_us σ 54 y (nI p)) 11 1 (nI y + 1)) 13 51 = nI y := hym
      refine b_X11_join_0 _ (mpl_t (n := n) hn hm hpn (br1 (m_placeOf hy hym1 _ (fun j hj hje hpre' => absurd (by rw [(hyp j hj).1]; exact hje) (hnone j hj)) (fun hn' => br_t' (by decide) ?_))))
      rw [hym1, cl_nI (by omega)]
      refine ⟨in_nI (by omega) (by decide), fin rfl ?_⟩
      refine ⟨n, d, t, c, h, r, q, f, y + 1, hpl0.fr, hdr.fr, hsh.fr, htp.fr, hmt.fr, has.fr, hct.fr, hrd.fr, hln.fr, hfl.fr, ⟨by omega, nI_1 y, nI_1 y, fun i hi => ?_, fun i j hi hj e => ?_⟩⟩
      · show upd (σ 54) y (nI p) i = upd (σ 92) y (nI p) i ∧ ∃ p', p' < n ∧ upd (σ 54) y (nI p) i = nI p'
        by_cases e : i = y
        · subst e; simp only [upd_s]; exact ⟨trivial, p, hpn, rfl⟩
        · simp only [upd_n _ _ e]; exact hyp i (by omega)
      · have e : upd (σ 54) y (nI p) i = upd (σ 54) y (nI p) j := e
        by_cases e1 : i = y
        · by_cases e2 : j = y
          · omega
          · rw [e1, upd_s, upd_n _ _ e2] at e
            exact absurd e.symm (hnone j (by omega))
        · by_cases e2 : j = y
          · rw [e2, upd_s, upd_n _ _ e1] at e
            exact absurd e (hnone i (by omega))
          · rw [upd_n _ _ e1, upd_n _ _ e2] at e
            exact hyi i j (by omega) (by omega) e
  · refine b_X10_join_0 _ (pl_f hn hs hx (br0 ?_))
    exact b_X11_join_0 _ (mpl_f hn hm hx (br0 (fin rfl hI0)))
theorem pr_leave (hI : Inv σ) (x : Int32) : Pr l 100 [some (.ref 0), some (.int x), none] 171 [some (.ref 13), some (.int x), none] σ := by
  have hI0 := hI
  obtain ⟨n, d, t, c, h, r, q, f, y, hpl, hdr, hsh, htp, hmt, has, hct, hrd, hln, hfl, hli⟩ := hI
  have hpl0 := hpl
  have hli0 := hli
  obtain ⟨hn, hs, hm, hp⟩ := hpl
  obtain ⟨hy, hys, hym, hyp, hyi⟩ := hli
  rcases nI_case x n (by omega) with ⟨p, hpn, rfl⟩ | hx
  · refine b_X10_leave_0 _ (pl_t hn hs hpn (br1 (c_placeOf hy hys _ (fun i hi hie hpre => ?_) (fun hnone => ?_))))
    · refine br_f' (fun e => nI_pos (n := i) (by omega) (by rw [e]; decide)) (c_removeAt hy hys hi ?_)
      have hym1 : (ax_us (ax_uc σ 54 (rmv i y (σ 54))) 11 1 (nI (y - 1))) 13 51 = nI y := hym
      refine b_X11_leave_0 _ (mpl_t (n := n) hn hm hpn (br1 (m_placeOf hy hym1 _ (fun j hj hje hpre' => ?_) (fun hn' => absurd (by show σ 92 i = _; rw [← (hyp i hi).1]; exact hie) (hn' i hi)))))
      have hij : i = j := hyi i j hi hj (by rw [hie, (hyp j hj).1]; exact hje.symm)
      subst hij
      refine br_f' (nI_pos (by omega)) (m_goesFrom hy hym1 hi ?_)
      refine fin rfl ?_
      exact ⟨n, d, t, c, h, r, q, f, y - 1, hpl0.fr, hdr.fr, hsh.fr, htp.fr, hmt.fr, has.fr, hct.fr, hrd.fr, hln.fr, hfl.fr, li_rmv hli0 hi _ rfl rfl rfl rfl⟩
    · refine br_t' rfl ?_
      refine b_X11_leave_0 _ (mpl_t (n := n) hn hm hpn (br1 (m_placeOf hy hym _ (fun j hj hje hpre' => absurd (by rw [(hyp j hj).1]; exact hje) (hnone j hj)) (fun hn' => br_t' (by decide) (fin rfl hI0)))))
  · refine b_X10_leave_0 _ (pl_f hn hs hx (br0 ?_))
    exact b_X11_leave_0 _ (mpl_f hn hm hx (br0 (fin rfl hI0)))
theorem pr_call (hI : Inv σ) (w : Int32) : Pr l 99 [some (.ref 0), some (.int w), none, none] 170 [some (.ref 13), some (.int w), none, none] σ := by
  have hI0 := hI
  obtain ⟨n, d, t, c, h, r, q, f, y, hpl, hdr, hsh, htp, hmt, has, hct, hrd, hln, hfl, hli⟩ := hI
  have hpl0 := hpl
  have hli0 := hli
  obtain ⟨hn, hs, hm, hp⟩ := hpl
  obtain ⟨hy, hys, hym, hyp, hyi⟩ := hli
  by_cases hw : 0 ≤ w.toInt ∧ w.toInt ≤ 1
  · have hw01 : w = 0 ∨ w = 1 := by
      have h0 : (0 : Int32).toInt = 0 := by decide
      have h1 : (1 : Int32).toInt = 1 := by decide
      rcases (show w.toInt = 0 ∨ w.toInt = 1 by omega) with e | e
      · exact Or.inl (eq_toInt.mpr (by rw [e, h0]))
      · exact Or.inr (eq_toInt.mpr (by rw [e, h1]))
    have gone : ∀ k, k < y → Inv (ax_us (ax_uc (ax_us (ax_uc σ 54 (rmv k y (σ 54))) 11 1 (nI (y - 1))) 92 (rmv k y (σ 92))) 13 51 (nI (y - 1))) := fun k hk =>
      ⟨n, d, t, c, h, r, q, f, y - 1, hpl0.fr, hdr.fr, hsh.fr, htp.fr, hmt.fr, has.fr, hct.fr, hrd.fr, hln.fr, hfl.fr, li_rmv hli0 hk _ rfl rfl rfl rfl⟩
    -- the reference's search, in the world behind the class's removal (or in σ)
    have mloop : ∀ (σ1 : ax_Sg) (K : Nat) (Q : Option Value → ax_Sg → Prop), σ1 13 51 = nI y → σ1 92 = σ 92 → σ1 58 = σ 58 → K ≤ y → (∀ j, j < K → ¬ (w = 0 ∨ σ 58 (σ 92 j).toNatClampNeg = 2)) → (K < y → (w = 0 ∨ σ 58 (σ 92 K).toNatClampNeg = 2) ∧ Q (some (.int (σ 92 K))) (ax_us (ax_uc σ1 92 (rmv K y (σ 92))) 13 51 (nI (y - 1)))) → (K = y → Q (some (.int (-1))) σ1) → ∀ m k, K - k = m → k ≤ K → Ev l 170 15 [some (.ref 13), some (.int w), some (.int (nI k)), none] [] σ1 Q := by
      intro σ1 K Q e51 e92 e58 hK hpre hhit hend m
      induction m with
      | zero =>
        intro k hk hkK
        have : k = K := by omega
        subst this
        by_cases hky : k < y
        · obtain ⟨hw2, hQ⟩ := hhit hky
          refine b_X11_call_15 _ _ (br_t' (by rw [e51]; exact nI_lt hky (by omega)) ⟨in_nI (by omega) (by decide), ?_⟩)
          rw [cl_nI (by omega), e92, e58]
          have hgo : Ev l 168 0 [some (.ref 13), some (.int (nI k)), none] [] σ1 (fun o1 σ2 => ax_ov o1 (Q (some (.int (σ 92 k))) σ2)) := by
            refine m_goesFrom hy e51 hky ?_
            rw [e92]
            exact hQ
          refine br_i (fun e1 => ?_) (fun _ => hgo)
          obtain ⟨a1, p', hp', e'⟩ := hyp k hky
          refine ⟨by rw [← a1, e']; exact in_nI (by omega) (by decide), br_t' ?_ hgo⟩
          rcases hw2 with h0 | h2
          · rw [h0] at e1; exact absurd e1 (by decide)
          · exact h2
        · have hky2 : k = y := by omega
          exact b_X11_call_15 _ _ (br_f' (by rw [e51, hky2]; exact nI_nlt (Nat.le_refl _) (by omega)) (hend hky2))
      | succ m ih =>
        intro k hk hkK
        have hno := hpre k (by omega)
        refine b_X11_call_15 _ _ (br_t' (by rw [e51]; exact nI_lt (by omega) (by omega)) ⟨in_nI (by omega) (by decide), ?_⟩)
        rw [cl_nI (by omega), e92, e58, nI_1]
        obtain ⟨a1, p', hp', e'⟩ := hyp k (by omega)
        refine br_t' (hw01.resolve_left (fun e => hno (Or.inl e))) ⟨by rw [← a1, e']; exact in_nI (by omega) (by decide), br_f' (fun e => hno (Or.inr e)) (ih (k + 1) (by omega) (by omega))⟩
    have cloop : ∀ m k, y - k = m → k ≤ y → (∀ j, j < k → ¬ (w = 0 ∨ σ 58 (σ 92 j).toNatClampNeg = 2)) → Ev l 99 14 [some (.ref 0), some (.int w), some (.int (nI k)), none] [] σ (fun o σ1 => ax_oi o fun v => Ev l 170 0 [some (.ref 13), some (.int w), none, none] [] σ1 (fun o2 σ2 => ax_oi o2 fun w' => v = w' ∧ Inv σ2)) := by
      intro m
      induction m with
      | zero =>
        intro k hk hky hpre
        have : k = y := by omega
        subst this
        refine b_X10_call_14 _ _ (br_f' (by rw [hys]; exact nI_nlt (Nat.le_refl _) (by omega)) ?_)
        refine b_X11_call_0 _ (ni_t hw (br1 (mloop σ k _ hym rfl rfl (Nat.le_refl _) hpre (fun hlt => absurd hlt (by omega)) (fun _ => fin rfl hI0) k 0 (by omega) (by omega))))
      | succ m ih =>
        intro k hk hky hpre
        have hky : k < y := by omega
        obtain ⟨a1, p', hp', e'⟩ := hyp k hky
        have hpk : (σ 54 k).toNatClampNeg = p' := by rw [e', cl_nI (by omega)]
        have h14 : σ 14 p' = σ 58 p' := (hp p' hp').1
        have hgo : (w = 0 ∨ σ 58 (σ 92 k).toNatClampNeg = 2) → Ev l 27 0 [some (.ref 11), some (.int (nI k)), none] [] σ (fun o1 σ2 => ax_ov o1 ((fun o σ1 => ax_oi o fun v => Ev l 170 0 [some (.ref 13), some (.int w), none, none] [] σ1 (fun o2 σ2 => ax_oi o2 fun w' => v = w' ∧ Inv σ2)) (some (.int (σ 54 k))) σ2)) := by
          intro hhit
          refine c_removeAt hy hys hky ?_
          refine b_X11_call_0 _ (ni_t hw (br1 (mloop (ax_us (ax_uc σ 54 (rmv k y (σ 54))) 11 1 (nI (y - 1))) k _ hym rfl rfl (by omega) hpre (fun _ => ⟨hhit, fin a1 (gone k hky)⟩) (fun e => absurd e (by omega)) k 0 (by omega) (by omega))))
        refine b_X10_call_14 _ _ (br_t' (by rw [hys]; exact nI_lt hky (by omega)) ⟨in_nI (by omega) (by decide), ?_⟩)
        rw [cl_nI (by omega), hpk, nI_1]
        refine br_i (fun e0 => hgo (Or.inl e0)) (fun e0 => ⟨by rw [e']; exact in_nI (by omega) (by decide), br_i (fun e2 => hgo (Or.inr (by rw [← a1, hpk, ← h14]; exact e2))) (fun e2 => ih (k + 1) (by omega) (by omega) (fun j hj => ?_))⟩)
        by_cases ej : j = k
        · subst ej
          rintro (z | z)
          · exact e0 z
          · exact e2 (by rw [h14, ← hpk, a1]; exact z)
        · exact hpre j (by omega)
    exact b_X10_call_0 _ (wt hw (br1 (cloop y 0 (by omega) (by omega) (fun j hj => absurd hj (by omega)))))
  · refine b_X10_call_0 _ (wf hw (br0 ?_))
    exact b_X11_call_0 _ (ni_f hw (br0 (fin rfl hI0)))
end Line
