/-! filling, in the reference: its lists -/
theorem dv_nI {a b : Nat} (ha : a < 2 ^ 31) (hb0 : 0 < b) (hb : b < 2 ^ 31) : nI a / nI b = nI (a / b) := by
  apply Int32.toInt_inj.mp
  rw [div32 (by rw [nI_toInt hb]; omega), nI_toInt ha, nI_toInt hb, nI_toInt (by have := Nat.div_le_self a b; omega)]
  rw [← Int.ofNat_tdiv]
theorem nI_nn {k : Nat} (h : k < 2 ^ 31) : ¬ nI k < 0 := nI_pos h
section FillR
variable {l : Launch} {P : Option Value → ax_Sg → Prop} {σ e : ax_Sg} {a : Nat → Int32} {n d : Nat}
/-- the reference's shifts are those of the row -/
def Sa (n d : Nat) (a : Nat → Int32) (σ : ax_Sg) : Prop := n ≤ 12 ∧ d ≤ 16 ∧ σ 13 7 = nI n ∧ σ 13 8 = nI d ∧ (∀ p, p < n → σ 63 p = a (2 * p) ∧ σ 64 p = a (2 * p + 1)) ∧ (∀ x, 2 * n ≤ x → x < 24 → a x = -1) ∧ ∀ x, x < 24 → a x = -1 ∨ ∃ k, k < d ∧ a x = nI k
theorem m_drives (hs : Sa n d a σ) {k : Nat} (hk : k < d) (hT : ¬ okD a k = true → P (some (.int 1)) σ) (hF : okD a k = true → P (some (.int 0)) σ) : Ev l 120 0 [some (.ref 13), some (.int (nI k)), none, none] [] σ P := by
  obtain ⟨hn, hd, s7, s8, s63, s2n, sv⟩ := hs
  have l1 : ∀ m p, n - p = m → p ≤ n → (¬ okD a k = true) → Ev l 120 4 [some (.ref 13), some (.int (nI k)), some (.int 1), some (.int (nI p))] [] σ P := by
    intro m
    induction m with
    | zero =>
      intro p hm hp hno
      have : p = n := by omega
      subst this
      exact b_X11_drives_4 _ _ _ (br_f' (by rw [s7]; exact nI_nlt (Nat.le_refl _) (by omega)) ⟨nar1, hT hno⟩)
    | succ m ih =>
      intro p hm hp hno
      refine b_X11_drives_4 _ _ _ (br_t' (by rw [s7]; exact nI_lt (by omega) (by omega)) (br_f' (by decide) ?_))
      rw [nI_1]
      exact ih (p + 1) (by omega) (by omega) hno
  have l0 : ∀ m p, n - p = m → p ≤ n → (∀ x, x < 2 * p → ¬ a x = nI k) → Ev l 120 4 [some (.ref 13), some (.int (nI k)), some (.int 0), some (.int (nI p))] [] σ P := by
    intro m
    induction m with
    | zero =>
      intro p hm hp hno
      have : p = n := by omega
      subst this
      refine b_X11_drives_4 _ _ _ (br_f' (by rw [s7]; exact nI_nlt (Nat.le_refl _) (by omega)) ⟨nar0, hF ((okD_iff _ _).mpr (fun j hj => ?_))⟩)
      by_cases c : j < 2 * p
      · exact hno j c
      · rw [s2n j (by omega) hj]
        exact fun z => nI_nm1 (k := k) (by omega) z.symm
    | succ m ih =>
      intro p hm hp hno
      obtain ⟨q1, q2⟩ := s63 p (by omega)
      refine b_X11_drives_4 _ _ _ (br_t' (by rw [s7]; exact nI_lt (by omega) (by omega)) (br_t' rfl ⟨in_nI (by omega) (by decide), ?_⟩))
      rw [nI_1, cl_nI (by omega), q1, q2]
      refine br_i (fun z => l1 (n - (p + 1)) (p + 1) rfl (by omega) (fun y => (okD_iff _ _).mp y _ (by omega) z)) (fun z => ⟨in_nI (by omega) (by decide), br_i (fun z2 => l1 (n - (p + 1)) (p + 1) rfl (by omega) (fun y => (okD_iff _ _).mp y _ (by omega) z2)) (fun z2 => ih (p + 1) (by omega) (by omega) (fun x hx => ?_))⟩)
      by_cases e1 : x = 2 * p
      · rw [e1]; exact z
      · by_cases e2 : x = 2 * p + 1
        · rw [e2]; exact z2
        · exact hno x (by omega)
  exact b_X11_drives_0 _ (l0 n 0 (by omega) (by omega) (fun x hx => absurd hx (by omega)))
theorem m_drOf (hs : Sa n d a σ) {k : Nat} (hk : k < 2 * n) (hP : P (some (.int (a k))) σ) : Ev l 115 0 [some (.ref 13), some (.int (nI (k / 2))), some (.int (nI (k % 2)))] [] σ P := by
  obtain ⟨hn, hd, s7, s8, s63, s2n, sv⟩ := hs
  obtain ⟨q1, q2⟩ := s63 (k / 2) (by omega)
  refine b_X11_driverOf_0 _ _ ?_
  rw [cl_nI (by omega), q1, q2]
  refine br_i (fun z => ⟨in_nI (by omega) (by decide), ?_⟩) (fun z => ⟨in_nI (by omega) (by decide), ?_⟩)
  · have : k % 2 = 0 := (nI_eq (b := 0) (by omega) (by omega)).mp z
    rw [show 2 * (k / 2) = k by omega]; exact hP
  · have : ¬ k % 2 = 0 := fun y => z (by rw [y]; rfl)
    rw [show 2 * (k / 2) + 1 = k by omega]; exact hP
/-- the reference's list of free shifts, and of free drivers -/
def Mp (e : ax_Sg) (a : Nat → Int32) (k : Nat) (σ : ax_Sg) : Prop := (∀ j, j ≠ 13 → j ≠ 73 → σ j = e j) ∧ (∀ i, i ≠ 25 → i ≠ 26 → σ 13 i = e 13 i) ∧ σ 13 26 = nI 0 ∧ σ 13 25 = nI (sn (okP a) k) ∧ ∀ i, i < sn (okP a) k → σ 73 i = nI (sf (okP a) k i)
def Md (e : ax_Sg) (a : Nat → Int32) (n k : Nat) (σ : ax_Sg) : Prop := (∀ j, j ≠ 13 → j ≠ 73 → j ≠ 74 → σ j = e j) ∧ (∀ i, i ≠ 25 → i ≠ 26 → σ 13 i = e 13 i) ∧ σ 13 25 = nI (sn (okP a) (2 * n)) ∧ (∀ i, i < sn (okP a) (2 * n) → σ 73 i = nI (sf (okP a) (2 * n) i)) ∧ σ 13 26 = nI (sn (okD a) k) ∧ ∀ i, i < sn (okD a) k → σ 74 i = nI (sf (okD a) k i)
theorem m_lists (hs : Sa n d a e) (hP : ∀ σ', Md e a n d σ' → Ev l 122 141 [some (.ref 13), some (.int (nI (2 ^ sn (okD a) d))), some (.int (nI (sn (okP a) (2 * n)))), none, none, none, none] [] σ' P) : Ev l 122 0 [some (.ref 13), none, none, none, none, none, none] [] e P := by
  have hs' := hs
  obtain ⟨hn, hd, s7, s8, s63, s2n, sv⟩ := hs
  have e2 : 2 * nI n = nI (2 * n) := pk_mul 2 n
  have l2 : ∀ m k σ', d - k = m → k ≤ d → Md e a n k σ' → Ev l 122 75 [some (.ref 13), some (.int (nI k)), none, none, none, none, none] [] σ' P := by
    intro m
    induction m with
    | zero =>
      intro k σ' hk hkn M
      have : k = d := by omega
      subst this
      have hsn := sn_le (okD a) k
      refine b_X11_fill_75 _ (br_f' (by rw [M.2.1 8 (by decide) (by decide), s8]; exact nI_nlt (Nat.le_refl _) (by omega)) ?_)
      rw [M.2.2.2.2.1, M.2.2.1, nI_pow (by omega)]
      exact hP σ' M
    | succ m ih =>
      intro k σ' hk hkn M
      have M' := M
      obtain ⟨q1, q2, q3, q4, q5, q6⟩ := M
      have hsn := sn_le (okD a) k
      refine b_X11_fill_75 _ (br_t' (by rw [q2 8 (by decide) (by decide), s8]; exact nI_lt (by omega) (by omega)) ?_)
      have hs2 : Sa n d a σ' := by
        unfold Sa
        rw [q2 7 (by decide) (by decide), q2 8 (by decide) (by decide), q1 63 (by decide) (by decide) (by decide), q1 64 (by decide) (by decide) (by decide)]
        exact hs'
      have no : ¬ (okD a k = true ∧ sn (okD a) k < 10) → Ev l 122 75 [some (.ref 13), some (.int (nI (k + 1))), none, none, none, none, none] [] σ' P := by
        intro hok
        refine ih (k + 1) σ' (by omega) (by omega) ?_
        unfold Md
        rw [sn_n hok, sf_n hok]
        exact M'
      rw [nI_1]
      refine m_drives hs2 (by omega) (fun z => br_f' (by decide) (no (fun y => z y.1))) (fun z => br_t' rfl ?_)
      rw [q5]
      refine br_i (fun c => no (fun y => ?_)) (fun c => ?_)
      · have := (nI_eq (b := 10) (by omega) (by omega)).mp c
        omega
      · have hlt : sn (okD a) k < 10 := by
          by_cases z : sn (okD a) k < 10
          · exact z
          · exact absurd (by rw [show sn (okD a) k = 10 by omega]; rfl) c
        rw [cl_nI (by omega), nI_1]
        refine ⟨in_nI hlt (by decide), ih (k + 1) _ (by omega) (by omega) ?_⟩
        refine ⟨fun j h1 h2 h3 => ?_, fun i h1 h2 => ?_, ?_, fun i hi => ?_, ?_, fun i hi => ?_⟩
        · rw [us_n _ _ _ h1, us_n _ _ _ h3]; exact q1 j h1 h2 h3
        · rw [us_s, upd_n _ _ h2, us_n _ _ _ (by decide)]; exact q2 i h1 h2
        · rw [us_s, upd_n _ _ (by decide), us_n _ _ _ (by decide)]; exact q3
        · rw [us_n _ _ _ (by decide), us_n _ _ _ (by decide)]; exact q4 i hi
        · rw [us_s, upd_s, sn_y z hlt]
        · rw [us_n _ _ _ (by decide), us_s, sf_y z hlt]
          show upd (σ' 74) (sn (okD a) k) (nI k) i = nI (if i = sn (okD a) k then k else sf (okD a) k i)
          by_cases ei : i = sn (okD a) k
          · rw [if_pos ei, ei, upd_s]
          · rw [if_neg ei, upd_n _ _ ei]
            rw [sn_y z hlt] at hi
            exact q6 i (by omega)
  have l1 : ∀ m k σ', 2 * n - k = m → k ≤ 2 * n → Mp e a k σ' → Ev l 122 12 [some (.ref 13), some (.int (nI k)), none, none, none, none, none] [] σ' P := by
    intro m
    induction m with
    | zero =>
      intro k σ' hk hkn M
      have : k = 2 * n := by omega
      subst this
      obtain ⟨q1, q2, q3, q4, q5⟩ := M
      refine b_X11_fill_12 _ (br_f' (by rw [q2 7 (by decide) (by decide), s7, e2]; exact nI_nlt (Nat.le_refl _) (by omega)) ?_)
      exact l2 d 0 σ' (by omega) (by omega) ⟨fun j h1 h2 _ => q1 j h1 h2, q2, q4, q5, q3, fun i hi => absurd hi (by show ¬ i < 0; omega)⟩
    | succ m ih =>
      intro k σ' hk hkn M
      have M' := M
      obtain ⟨q1, q2, q3, q4, q5⟩ := M
      have hsn := sn_le (okP a) k
      refine b_X11_fill_12 _ (br_t' (by rw [q2 7 (by decide) (by decide), s7, e2]; exact nI_lt (by omega) (by omega)) ⟨by decide, by decide, ?_⟩)
      have hs2 : Sa n d a σ' := by
        unfold Sa
        rw [q2 7 (by decide) (by decide), q2 8 (by decide) (by decide), q1 63 (by decide) (by decide), q1 64 (by decide) (by decide)]
        exact hs'
      have no : ¬ (okP a k = true ∧ sn (okP a) k < 10) → Ev l 122 12 [some (.ref 13), some (.int (nI (k + 1))), none, none, none, none, none] [] σ' P := by
        intro hok
        refine ih (k + 1) σ' (by omega) (by omega) ?_
        unfold Mp
        rw [sn_n hok, sf_n hok]
        exact M'
      rw [m2_nI (by omega), show nI k / 2 = nI (k / 2) from dv_nI (b := 2) (by omega) (by omega) (by omega), nI_1]
      refine m_drOf hs2 (by omega) ?_
      show ax_br (a k < 0) _ _
      refine br_i (fun z => ?_) (fun z => no (fun y => z ?_))
      · have hok : okP a k = true := by
          refine decide_eq_true ?_
          rcases sv k (by omega) with h | ⟨k', hk', h⟩
          · exact h
          · rw [h] at z; exact absurd z (nI_nn (by omega))
        rw [q4]
        refine br_i (fun c => no (fun y => ?_)) (fun c => ?_)
        · have := (nI_eq (b := 10) (by omega) (by omega)).mp c
          omega
        · have hlt : sn (okP a) k < 10 := by
            by_cases z : sn (okP a) k < 10
            · exact z
            · exact absurd (by rw [show sn (okP a) k = 10 by omega]; rfl) c
          rw [cl_nI (by omega), nI_1]
          refine ⟨in_nI hlt (by decide), ih (k + 1) _ (by omega) (by omega) ?_⟩
          refine ⟨fun j h1 h2 => ?_, fun i h1 h2 => ?_, ?_, ?_, fun i hi => ?_⟩
          · rw [us_n _ _ _ h1, us_n _ _ _ h2]; exact q1 j h1 h2
          · rw [us_s, upd_n _ _ h1, us_n _ _ _ (by decide)]; exact q2 i h1 h2
          · rw [us_s, upd_n _ _ (by decide), us_n _ _ _ (by decide)]; exact q3
          · rw [us_s, upd_s, sn_y hok hlt]
          · rw [us_n _ _ _ (by decide), us_s, sf_y hok hlt]
            show upd (σ' 73) (sn (okP a) k) (nI k) i = nI (if i = sn (okP a) k then k else sf (okP a) k i)
            by_cases ei : i = sn (okP a) k
            · rw [if_pos ei, ei, upd_s]
            · rw [if_neg ei, upd_n _ _ ei]
              rw [sn_y hok hlt] at hi
              exact q5 i (by omega)
      · have : a k = -1 := of_decide_eq_true y.1
        rw [this]; decide
  refine b_X11_fill_0 (l1 (2 * n) 0 _ (by omega) (by omega) ?_)
  refine ⟨fun j h1 h2 => ?_, fun i h1 h2 => ?_, rfl, rfl, fun i hi => absurd hi (by show ¬ i < 0; omega)⟩
  · rw [us_n _ _ _ h1, us_n _ _ _ h1]
  · rw [us_s, upd_n _ _ h2, us_s, upd_n _ _ h1]
end FillR
