/-! filling, in the class -/
theorem v02 : vp_in 0 2 := in_nI (n := 0) (by decide) (by decide)
theorem v12 : vp_in 1 2 := in_nI (n := 1) (by decide) (by decide)
theorem v03 : vp_in 0 3 := in_nI (n := 0) (by decide) (by decide)
theorem v13 : vp_in 1 3 := in_nI (n := 1) (by decide) (by decide)
theorem v23 : vp_in 2 3 := in_nI (n := 2) (by decide) (by decide)
section FillC
variable {l : Launch} {σ : ax_Sg} {P : Option Value → ax_Sg → Prop}
theorem nI_min {a b : Nat} (ha : a < 2 ^ 31) (hb : b < 2 ^ 31) : (if nI b < nI a then nI b else nI a) = nI (min a b) := by
  by_cases h : b < a
  · rw [if_pos (nI_lt h ha), Nat.min_eq_right (by omega)]
  · rw [if_neg (nI_nlt (by omega) hb), Nat.min_eq_left (by omega)]
theorem c_most {s0 s1 d0 d1 d2 : Nat} (hs0 : s0 ≤ 10) (hs1 : s1 ≤ 10) (hd0 : d0 ≤ 10) (hd1 : d1 ≤ 10) (hd2 : d2 ≤ 10) (e0 : σ 23 0 = nI s0) (e1 : σ 23 1 = nI s1) (f0 : σ 24 0 = nI d0) (f1 : σ 24 1 = nI d1) (f2 : σ 24 2 = nI d2) (h : P (some (.int (nI (Fm s0 s1 d0 d1 d2)))) σ) : Ev l 61 0 [some (.ref 2), none, none, none] [] σ P := by
  have t0 : Int32.toNatClampNeg 0 = 0 := by decide
  have t1 : Int32.toNatClampNeg 1 = 1 := by decide
  have t2 : Int32.toNatClampNeg 2 = 2 := by decide
  refine b_X8_mostWorths_0 ⟨v02, v12, v03, v13, v23, ?_⟩
  rw [t0, t1, t2, e0, e1, f0, f1, f2, nI_add, nI_add, nI_add]
  refine c_min _ _ ⟨v02, v03, ?_⟩
  rw [e0, f0]
  refine c_min _ _ ⟨v12, v13, ?_⟩
  rw [e1, f1]
  refine c_min _ _ ⟨v23, ?_⟩
  rw [f2, nI_min (by omega) (by omega), nI_min (by omega) (by omega), nI_add, nI_subn (by omega) (by omega)]
  refine c_min _ _ ?_
  rw [nI_min (by omega) (by omega), nI_min (by omega) (by omega), nI_add]
  show P (some (.int (nI (min (s0 + s1) (d0 + d1 + d2) + (min s0 d0 + min s1 d1)) + nI (min d2 (s0 + s1 - (min s0 d0 + min s1 d1)))))) σ
  rw [nI_add]
  exact h
def okP (a : Nat → Int32) (k : Nat) : Bool := decide (a k = -1)
def okD (a : Nat → Int32) (k : Nat) : Bool := cn (fun j => decide (a j = nI k)) 24 == 0
theorem okD_iff (a : Nat → Int32) (k : Nat) : okD a k = true ↔ ∀ j, j < 24 → ¬ a j = nI k := by
  unfold okD
  rw [beq_iff_eq]
  constructor
  · intro h j hj e
    have h1 := cn_one (p := fun j => decide (a j = nI k)) (q := fun x => if x = j then false else decide (a x = nI k)) (x0 := j) (fun x hx => by rw [if_neg hx]) (if_pos rfl) 24 hj
    rw [h, decide_eq_true e] at h1
    exact absurd h1 (by show ¬ 0 = _ + 1; omega)
  · intro h
    exact cn_zero 24 (fun x hx => decide_eq_false (h x hx))
/-- the list of the free places -/
def Lp (e : ax_Sg) (k : Nat) (σ : ax_Sg) : Prop := (∀ j, j ≠ 2 → j ≠ 20 → j ≠ 23 → σ j = e j) ∧ (∀ i, i ≠ 6 → σ 2 i = e 2 i) ∧ σ 2 6 = nI (sn (okP (e 19)) k) ∧ (∀ i, i < sn (okP (e 19)) k → σ 20 i = nI (sf (okP (e 19)) k i)) ∧ ∀ t, t < 2 → σ 23 t = nI (cn (fun x => sf (okP (e 19)) k x % 2 == t) (sn (okP (e 19)) k))
theorem m2_nI {k : Nat} (h : k < 2 ^ 31) : nI k - nI k / 2 * 2 = nI (k % 2) := md_nI (b := 2) h (by omega) (by omega)
theorem c_places {n : Nat} (hn : n ≤ 12) (h : ∀ σ', Lp σ (2 * n) σ' → P none σ') : Ev l 58 0 [some (.ref 2), some (.int (nI n)), none] [] σ P := by
  have e2 : nI n * 2 = nI (2 * n) := by rw [Nat.mul_comm]; exact pk_mul n 2
  have loop : ∀ m k σ', 2 * n - k = m → k ≤ 2 * n → Lp σ k σ' → Ev l 58 21 [some (.ref 2), some (.int (nI n)), some (.int (nI k))] [] σ' P := by
    intro m
    induction m with
    | zero =>
      intro k σ' hk hkn L
      have : k = 2 * n := by omega
      subst this
      exact b_X8_listFreePlaces_21 _ _ (br_f' (by rw [e2]; exact nI_nlt (Nat.le_refl _) (by omega)) (h σ' L))
    | succ m ih =>
      intro k σ' hk hkn L
      have L' := L
      obtain ⟨q1, q2, q3, q4, q5⟩ := L
      have hsn := sn_le (okP (σ 19)) k
      refine b_X8_listFreePlaces_21 _ _ (br_t' (by rw [e2]; exact nI_lt (by omega) (by omega)) ?_)
      rw [q3]
      refine br_i (fun c => ?_) (fun c => ?_)
      · have hlt : sn (okP (σ 19)) k < 10 := by
          by_cases z : sn (okP (σ 19)) k < 10
          · exact z
          · exact absurd c (nI_nlt (a := sn (okP (σ 19)) k) (b := 10) (by omega) (by omega))
        refine ⟨in_nI (by omega) (by decide), ?_⟩
        rw [cl_nI (by omega), q1 19 (by decide) (by decide) (by decide), nI_1]
        refine br_i (fun z => ⟨in_nI hlt (by decide), by decide, ?_⟩) (fun z => ?_)
        · have hok : okP (σ 19) k = true := decide_eq_true z
          rw [m2_nI (by omega), cl_nI (by omega), cl_nI (n := k % 2) (by omega), nI_1]
          refine ⟨in_nI (by omega) (by decide), in_nI (by omega) (by decide), ih (k + 1) _ (by omega) (by omega) ?_⟩
          refine ⟨fun j h1 h2 h3 => ?_, fun i hi => ?_, ?_, fun i hi => ?_, fun t ht => ?_⟩
          · rw [us_n _ _ _ h3, us_n _ _ _ h1, us_n _ _ _ h2]; exact q1 j h1 h2 h3
          · rw [us_n _ _ _ (by decide), us_s, upd_n _ _ hi, us_n _ _ _ (by decide)]; exact q2 i hi
          · rw [us_n _ _ _ (by decide), us_s, upd_s, sn_y hok hlt]
          · rw [us_n _ _ _ (by decide), us_n _ _ _ (by decide), us_s, sf_y hok hlt]
            show upd (σ' 20) (sn (okP (σ 19)) k) (nI k) i = nI (if i = sn (okP (σ 19)) k then k else sf (okP (σ 19)) k i)
            by_cases ei : i = sn (okP (σ 19)) k
            · rw [if_pos ei, ei, upd_s]
            · rw [if_neg ei, upd_n _ _ ei]
              rw [sn_y hok hlt] at hi
              exact q4 i (by omega)
          · rw [us_s, cn_sf_y hok hlt (fun x => x % 2) t]
            by_cases et : t = k % 2
            · rw [et, upd_s, q5 _ (by omega), nI_1]
              congr 2
              show 1 = (k % 2 == k % 2).toNat
              rw [beq_self_eq_true]; rfl
            · rw [upd_n _ _ et, us_n _ _ _ (by decide), us_n _ _ _ (by decide), q5 t ht]
              congr 1
              have : (k % 2 == t) = false := beq_eq_false_iff_ne.mpr (fun z => et z.symm)
              show _ = _ + (k % 2 == t).toNat
              rw [this]; rfl
        · have hok : ¬ (okP (σ 19) k = true ∧ sn (okP (σ 19)) k < 10) := fun y => z (of_decide_eq_true y.1)
          refine ih (k + 1) σ' (by omega) (by omega) ?_
          unfold Lp
          rw [sn_n hok, sf_n hok]
          exact L'
      · have hfull : sn (okP (σ 19)) k = 10 := by
          by_cases z : sn (okP (σ 19)) k < 10
          · exact absurd (nI_lt (b := 10) z (by omega)) c
          · omega
        refine h σ' ?_
        have := sn_full (okP (σ 19)) hfull (2 * n - k)
        rw [show k + (2 * n - k) = 2 * n by omega] at this
        unfold Lp
        rw [this.1, this.2, ← hfull]
        exact L'
  refine b_X8_listFreePlaces_0 _ ⟨v02, v12, loop (2 * n) 0 _ (by omega) (by omega) ?_⟩
  refine ⟨fun j h1 h2 h3 => ?_, fun i hi => ?_, rfl, fun i hi => absurd hi (by show ¬ i < 0; omega), fun t ht => ?_⟩
  · rw [us_n _ _ _ h3, us_n _ _ _ h3, us_n _ _ _ h1]
  · rw [us_n _ _ _ (by decide), us_n _ _ _ (by decide), us_s, upd_n _ _ hi]
  · rcases (show t = 0 ∨ t = 1 by omega) with rfl | rfl <;> rfl
/-- the list of the free drivers -/
def Ld (e : ax_Sg) (wN : Nat → Nat) (k : Nat) (σ : ax_Sg) : Prop := (∀ j, j ≠ 2 → j ≠ 21 → j ≠ 22 → j ≠ 24 → σ j = e j) ∧ (∀ i, i ≠ 7 → σ 2 i = e 2 i) ∧ σ 2 7 = nI (sn (okD (e 19)) k) ∧ (∀ i, i < sn (okD (e 19)) k → σ 21 i = nI (sf (okD (e 19)) k i) ∧ σ 22 i = 0) ∧ ∀ t, t < 3 → σ 24 t = nI (cn (fun x => wN (sf (okD (e 19)) k x) == t) (sn (okD (e 19)) k))
theorem c_drivers {d : Nat} {wN : Nat → Nat} (hd : d ≤ 16) (hs : σ 2 2 = nI d) (hw : ∀ k, k < d → wN k < 3 ∧ σ 18 k = nI (wN k)) (h : ∀ σ', Ld σ wN d σ' → P none σ') : Ev l 59 0 [some (.ref 2), none] [] σ P := by
  have loop : ∀ m k σ', d - k = m → k ≤ d → Ld σ wN k σ' → Ev l 59 28 [some (.ref 2), some (.int (nI k))] [] σ' P := by
    intro m
    induction m with
    | zero =>
      intro k σ' hk hkn L
      have : k = d := by omega
      subst this
      exact b_X8_listFreeDrivers_28 _ (br_f' (by rw [L.2.1 2 (by decide), hs]; exact nI_nlt (Nat.le_refl _) (by omega)) (h σ' L))
    | succ m ih =>
      intro k σ' hk hkn L
      have L' := L
      obtain ⟨q1, q2, q3, q4, q5⟩ := L
      have hsn := sn_le (okD (σ 19)) k
      refine b_X8_listFreeDrivers_28 _ (br_t' (by rw [q2 2 (by decide), hs]; exact nI_lt (by omega) (by omega)) ?_)
      have k19 : σ' 19 = σ 19 := q1 19 (by decide) (by decide) (by decide) (by decide)
      have no : ¬ okD (σ 19) k = true → Ev l 59 28 [some (.ref 2), some (.int (nI k + 1))] [] σ' P := by
        intro z
        have hok : ¬ (okD (σ 19) k = true ∧ sn (okD (σ 19)) k < 10) := fun y => z y.1
        rw [nI_1]
        refine ih (k + 1) σ' (by omega) (by omega) ?_
        unfold Ld
        rw [sn_n hok, sf_n hok]
        exact L'
      refine br_i (fun c => c_placeD _ (fun i hi hie hpre => ?_) (fun hno => ?_)) (fun c => ?_)
      · refine br_f' (nI_nm1 (by omega)) (no (fun z => ?_))
        rw [k19] at hie
        exact (okD_iff _ _).mp z i hi hie
      · rw [k19] at hno
        have hok : okD (σ 19) k = true := (okD_iff _ _).mpr hno
        have hlt : sn (okD (σ 19)) k < 10 := by
          by_cases z : sn (okD (σ 19)) k < 10
          · exact z
          · rw [q3] at c
            exact absurd c (nI_nlt (a := sn (okD (σ 19)) k) (b := 10) (by omega) (by omega))
        obtain ⟨w3, we⟩ := hw k (by omega)
        refine br_t' rfl ?_
        rw [q3, cl_nI (n := k) (by omega), q1 18 (by decide) (by decide) (by decide) (by decide), we, cl_nI (n := wN k) (by omega), cl_nI (n := sn (okD (σ 19)) k) (by omega), nI_1]
        refine ⟨in_nI hlt (by decide), in_nI hlt (by decide), in_nI (by omega) (by decide), in_nI w3 (by decide), in_nI w3 (by decide), ih (k + 1) _ (by omega) (by omega) ?_⟩
        refine ⟨fun j h1 h2 h3 h4 => ?_, fun i hi => ?_, ?_, fun i hi => ?_, fun t ht => ?_⟩
        · rw [us_n _ _ _ h4, us_n _ _ _ h1, us_n _ _ _ h3, us_n _ _ _ h2]; exact q1 j h1 h2 h3 h4
        · rw [us_n _ _ _ (by decide), us_s, upd_n _ _ hi, us_n _ _ _ (by decide), us_n _ _ _ (by decide)]; exact q2 i hi
        · rw [us_n _ _ _ (by decide), us_s, upd_s, sn_y hok hlt, nI_1]
        · rw [us_n _ _ _ (by decide), us_n _ _ _ (by decide), us_n _ _ _ (by decide), us_s, us_n _ _ _ (by decide), us_n _ _ _ (by decide), us_s, us_n _ _ _ (by decide), sf_y hok hlt]
          show upd (σ' 21) (sn (okD (σ 19)) k) (nI k) i = nI (if i = sn (okD (σ 19)) k then k else sf (okD (σ 19)) k i) ∧ upd (σ' 22) (sn (okD (σ 19)) k) (vp_nar .boolean 0) i = 0
          by_cases ei : i = sn (okD (σ 19)) k
          · rw [if_pos ei, ei, upd_s, upd_s]; exact ⟨rfl, nar0⟩
          · rw [if_neg ei, upd_n _ _ ei, upd_n _ _ ei]
            rw [sn_y hok hlt] at hi
            exact q4 i (by omega)
        · rw [us_s, cn_sf_y hok hlt wN t]
          by_cases et : t = wN k
          · rw [et, upd_s, q5 _ (by omega), nI_1]
            congr 2
            show 1 = (wN k == wN k).toNat
            rw [beq_self_eq_true]; rfl
          · rw [upd_n _ _ et, us_n _ _ _ (by decide), us_n _ _ _ (by decide), us_n _ _ _ (by decide), q5 t ht]
            congr 1
            have : (wN k == t) = false := beq_eq_false_iff_ne.mpr (fun z => et z.symm)
            show _ = _ + (wN k == t).toNat
            rw [this]; rfl
      · have hfull : sn (okD (σ 19)) k = 10 := by
          by_cases z : sn (okD (σ 19)) k < 10
          · rw [q3] at c
            exact absurd (nI_lt (b := 10) z (by omega)) c
          · omega
        refine h σ' ?_
        have := sn_full (okD (σ 19)) hfull (d - k)
        rw [show k + (d - k) = d by omega] at this
        unfold Ld
        rw [this.1, this.2, ← hfull]
        exact L'
  refine b_X8_listFreeDrivers_0 ⟨v03, v13, v23, loop d 0 _ (by omega) (by omega) ?_⟩
  refine ⟨fun j h1 h2 h3 h4 => ?_, fun i hi => ?_, rfl, fun i hi => absurd hi (by show ¬ i < 0; omega), fun t ht => ?_⟩
  · rw [us_n _ _ _ h4, us_n _ _ _ h4, us_n _ _ _ h4, us_n _ _ _ h1]
  · rw [us_n _ _ _ (by decide), us_n _ _ _ (by decide), us_n _ _ _ (by decide), us_s, upd_n _ _ hi]
  · rcases (show t = 0 ∨ t = 1 ∨ t = 2 by omega) with rfl | rfl | rfl <;> rfl
end FillC
