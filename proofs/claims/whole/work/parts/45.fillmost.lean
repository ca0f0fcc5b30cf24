/-! filling, in the reference: the most, and who gets what -/
theorem add_m1 (k : Nat) : nI (k + 1) + (-1) = nI k := by
  rw [← Int32.sub_eq_add_neg]; exact nI_pred k
section FillT
variable {l : Launch} {P : Option Value → ax_Sg → Prop} {ti wi : Nat → Nat} {S D d n : Nat} {pl dl : Nat → Nat} {a : Nat → Int32} {e : ax_Sg}
def Fr (e : ax_Sg) (n : Nat) (ti wi : Nat → Nat) (S D : Nat) (pl dl : Nat → Nat) : Prop := S ≤ 10 ∧ D ≤ 10 ∧ n ≤ 12 ∧ e 13 7 = nI n ∧ e 13 25 = nI S ∧ e 13 26 = nI D ∧ (∀ i, i < S → e 73 i = nI (pl i) ∧ pl i < 2 * n ∧ ti i = pl i % 2) ∧ ∀ j, j < D → e 74 j = nI (dl j) ∧ dl j < 16 ∧ wi j < 3 ∧ e 62 (dl j) = nI (wi j)
theorem m_wrth {σ : ax_Sg} (hF : Fr e n ti wi S D pl dl) (h62 : σ 62 = e 62) (h73 : σ 73 = e 73) (h74 : σ 74 = e 74) {i j : Nat} (hi : i < S) (hj : j < D) (hP : P (some (.int (nI (wo (ti i) (wi j))))) σ) : Ev l 121 0 [some (.ref 13), some (.int (nI i)), some (.int (nI j))] [] σ P := by
  obtain ⟨hS, hD, hn, f0, f1, f2, f3, f4⟩ := hF
  obtain ⟨p1, p2, p3⟩ := f3 i hi
  obtain ⟨q1, q2, q3, q4⟩ := f4 j hj
  refine b_X11_worthOf_0 _ _ ?_
  rw [cl_nI (n := j) (by omega), cl_nI (n := i) (by omega), h62, h73, h74, q1, p1, cl_nI (n := dl j) (by omega), q4, m2_nI (by omega), ← p3]
  have ht2 : ti i < 2 := by rw [p3]; exact Nat.mod_lt _ (by omega)
  unfold wo at hP
  refine ⟨in_nI (by omega) (by decide), in_nI q2 (by decide), br_i (fun c => ?_) (fun c => ⟨in_nI (by omega) (by decide), in_nI q2 (by decide), in_nI (by omega) (by decide), by decide, br_i (fun c2 => ?_) (fun c2 => ?_)⟩)⟩
  · have : wi j = 2 := (nI_eq (b := 2) (by omega) (by omega)).mp c
    rw [if_pos (Or.inl this)] at hP; exact hP
  · have : wi j = ti i := (nI_eq (by omega) (by omega)).mp c2
    rw [if_pos (Or.inr this)] at hP; exact hP
  · rw [if_neg (fun z => z.elim (fun z => c (by rw [z]; rfl)) (fun z => c2 (by rw [z])))] at hP; exact hP
theorem wo_le (t w : Nat) : wo t w ≤ 2 := by
  unfold wo
  by_cases c : w = 2 ∨ w = t
  · rw [if_pos c]; omega
  · rw [if_neg c]; omega
def Dq (e : ax_Sg) (ti wi : Nat → Nat) (S D i m : Nat) (σ : ax_Sg) : Prop := (∀ j, j ≠ 75 → σ j = e j) ∧ (∀ i', i < i' → i' ≤ S → ∀ m', m' < 2 ^ D → σ 75 (1024 * i' + m') = nI (Vv ti wi S D i' m')) ∧ ∀ m', m' < m → σ 75 (1024 * i + m') = nI (Vv ti wi S D i m')
theorem p2_le {D : Nat} (h : D ≤ 10) : 2 ^ D ≤ 1024 := Nat.pow_le_pow_right (n := 2) (by omega) h
theorem ix24 (i m : Nat) : 1024 * nI i + nI m = nI (1024 * i + m) := by
  rw [show (1024 : Int32) = nI 1024 from rfl, pk_mul, nI_add]
theorem ix24' (i m : Nat) : 1024 * (nI i + 1) + nI m = nI (1024 * (i + 1) + m) := by
  rw [nI_1, ix24]
theorem bit_tf {m j : Nat} (h : ¬ m.testBit j = true) : m.testBit j = false := by
  cases hq : m.testBit j
  · rfl
  · exact absurd hq h
theorem dq_us {i m : Nat} {σ : ax_Sg} (hm : m < 2 ^ D) (hD : D ≤ 10) (h : Dq e ti wi S D i m σ) : Dq e ti wi S D i (m + 1) (ax_us σ 75 (1024 * i + m) (nI (Vv ti wi S D i m))) := by
  obtain ⟨q1, q2, q3⟩ := h
  have hp := p2_le hD
  refine ⟨fun j hj => ?_, fun i' h1 h2 m' hm' => ?_, fun m' hm' => ?_⟩
  · rw [us_n _ _ _ hj]; exact q1 j hj
  · rw [us_s, upd_n _ _ (by omega)]; exact q2 i' h1 h2 m' hm'
  · rw [us_s]
    by_cases c : m' = m
    · rw [c, upd_s]
    · rw [upd_n _ _ (by omega)]; exact q3 m' (by omega)
theorem m_cell (hF : Fr e n ti wi S D pl dl) {i m : Nat} {σ : ax_Sg} (hi : i ≤ S) (hm : m < 2 ^ D) (hq : Dq e ti wi S D i m σ) (hP : Ev l 122 147 [some (.ref 13), some (.int (nI (2 ^ D))), some (.int (nI i)), some (.int (nI (m + 1))), none, none, none] [] (ax_us σ 75 (1024 * i + m) (nI (Vv ti wi S D i m))) P) : Ev l 122 147 [some (.ref 13), some (.int (nI (2 ^ D))), some (.int (nI i)), some (.int (nI m)), none, none, none] [] σ P := by
  have hF' := hF
  obtain ⟨hS, hD, hn, f0, f1, f2, f3, f4⟩ := hF
  have hp := p2_le hD
  obtain ⟨q1, q2, q3⟩ := hq
  have k13 : σ 13 = e 13 := q1 13 (by decide)
  refine b_X11_fill_147 _ _ _ (br_t' (nI_lt hm (by omega)) ?_)
  rw [k13, f1]
  by_cases c : i = S
  · subst c
    rw [V_end] at hP
    refine br_t' rfl (b_X11_fill_183 _ _ _ _ _ ?_)
    rw [k13, f1, f2, ix24, cl_nI (by omega), nI_1 m]
    exact br_i (fun _ => br_f' (nI_nlt (Nat.le_refl _) (by omega)) ⟨in_nI (by omega) (by decide), hP⟩) (fun _ => ⟨in_nI (by omega) (by decide), hP⟩)
  · have hiS : i < S := by omega
    obtain ⟨p1, p2, p3⟩ := f3 i hiS
    have ht2 : ti i < 2 := by rw [p3]; exact Nat.mod_lt _ (by omega)
    have hV : ∀ i' m', Vv ti wi S D i' m' ≤ 40 := fun i' m' => Nat.le_trans (Vv_le _ _ _ _ _ _) (by omega)
    refine br_f' (fun z => c ((nI_eq (by omega) (by omega)).mp z)) ?_
    rw [ix24', cl_nI (by omega), q2 (i + 1) (by omega) (by omega) m hm]
    refine ⟨in_nI (by omega) (by decide), ?_⟩
    have loop : ∀ k j b, D - j = k → j ≤ D → b ≤ Vv ti wi S D i m → Vv ti wi S D (i + 1) m ≤ b → (∀ j', j' < j → m.testBit j' = false → wo (ti i) (wi j') + Vv ti wi S D (i + 1) (m ||| 2 ^ j') ≤ b) → Ev l 122 183 [some (.ref 13), some (.int (nI (2 ^ D))), some (.int (nI i)), some (.int (nI m)), some (.int (nI b)), some (.int (nI j)), none] [] σ P := by
      intro k
      induction k with
      | zero =>
        intro j b hk hj h1 h2 h3
        have : j = D := by omega
        subst this
        have hb : b = Vv ti wi S j i m := by
          rcases V_att (ti := ti) (wi := wi) (D := j) (m := m) hiS ht2 with h | ⟨j', hj', hm', h⟩
          · omega
          · have := h3 j' hj' hm'
            omega
        refine b_X11_fill_183 _ _ _ _ _ ?_
        rw [k13, f1, f2, ix24, cl_nI (n := 1024 * i + m) (by omega), nI_1 m, hb]
        exact br_f' (nI_nlt (Nat.le_refl _) (by omega)) ⟨in_nI (by omega) (by decide), hP⟩
      | succ k ih =>
        intro j b hk hj h1 h2 h3
        have hv := hV i m
        refine b_X11_fill_183 _ _ _ _ _ ?_
        rw [k13, f1, f2]
        refine br_t' (nI_lt (by omega) (by omega)) (br_t' (nI_lt hiS (by omega)) ?_)
        rw [nI_1 j]
        by_cases hb : m.testBit j = true
        · refine br_t' ((nI_bit (by omega) (by omega)).mpr hb) (br_f' (nI_nn (by omega)) (ih (j + 1) b (by omega) (by omega) h1 h2 (fun j' hj' hm' => ?_)))
          by_cases ej : j' = j
          · rw [ej, hb] at hm'; exact absurd hm' (by decide)
          · exact h3 j' (by omega) hm'
        · have hb' := bit_tf hb
          refine br_f' (fun z => hb ((nI_bit (by omega) (by omega)).mp z)) (m_wrth hF' (q1 62 (by decide)) (q1 73 (by decide)) (q1 74 (by decide)) hiS (show j < D by omega) ?_)
          have hor : m ||| 2 ^ j < 2 ^ D := or_lt hm (by omega)
          show vp_in (1024 * (nI i + 1) + (nI m ||| (1 : Int32) <<< (nI j &&& 31))) 11264 ∧ ax_br (nI b < nI (wo (ti i) (wi j)) + σ 75 (Int32.toNatClampNeg (1024 * (nI i + 1) + (nI m ||| (1 : Int32) <<< (nI j &&& 31))))) (Ev l 122 183 [some (.ref 13), some (.int (nI (2 ^ D))), some (.int (nI i)), some (.int (nI m)), some (.int (nI (wo (ti i) (wi j)) + σ 75 (Int32.toNatClampNeg (1024 * (nI i + 1) + (nI m ||| (1 : Int32) <<< (nI j &&& 31)))))), some (.int (nI (j + 1))), none] [] σ P) _
          rw [nI_pow (by omega), nI_or, ix24', cl_nI (by omega), q2 (i + 1) (by omega) (by omega) _ hor, nI_add]
          have hu := V_use (ti := ti) (wi := wi) (D := D) (m := m) hiS ht2 (show j < D by omega) hb' (f4 j (by omega)).2.2.1
          refine ⟨in_nI (by omega) (by decide), br_i (fun z => ih (j + 1) _ (by omega) (by omega) hu ?_ (fun j' hj' hm' => ?_)) (fun z => ih (j + 1) b (by omega) (by omega) h1 h2 (fun j' hj' hm' => ?_))⟩
          · have z' : b < wo (ti i) (wi j) + Vv ti wi S D (i + 1) (m ||| 2 ^ j) := by
              by_cases y : b < wo (ti i) (wi j) + Vv ti wi S D (i + 1) (m ||| 2 ^ j)
              · exact y
              · exact absurd z (nI_nlt (by omega) (by omega))
            omega
          · have z' : b < wo (ti i) (wi j) + Vv ti wi S D (i + 1) (m ||| 2 ^ j) := by
              by_cases y : b < wo (ti i) (wi j) + Vv ti wi S D (i + 1) (m ||| 2 ^ j)
              · exact y
              · exact absurd z (nI_nlt (by omega) (by omega))
            by_cases ej : j' = j
            · rw [ej]; exact Nat.le_refl _
            · have := h3 j' (by omega) hm'
              omega
          · by_cases ej : j' = j
            · rw [ej]
              by_cases y : b < wo (ti i) (wi j) + Vv ti wi S D (i + 1) (m ||| 2 ^ j)
              · exact absurd (nI_lt y (by omega)) z
              · omega
            · exact h3 j' (by omega) hm'
    exact loop D 0 _ (by omega) (by omega) (V_skip hiS ht2) (Nat.le_refl _) (fun j' hj' => absurd hj' (by omega))
theorem m_most (hF : Fr e n ti wi S D pl dl) (hP : ∀ σ', (∀ j, j ≠ 75 → σ' j = e j) → (∀ i', i' ≤ S → ∀ m', m' < 2 ^ D → σ' 75 (1024 * i' + m') = nI (Vv ti wi S D i' m')) → Ev l 122 290 [some (.ref 13), none, some (.int 0), some (.int 0), none, none, none] [] σ' P) : Ev l 122 141 [some (.ref 13), some (.int (nI (2 ^ D))), some (.int (nI S)), none, none, none, none] [] e P := by
  have hF' := hF
  obtain ⟨hS, hD, hn, f0, f1, f2, f3, f4⟩ := hF
  have hp := p2_le hD
  have outer : ∀ i σ', i ≤ S → Dq e ti wi S D i 0 σ' → Ev l 122 141 [some (.ref 13), some (.int (nI (2 ^ D))), some (.int (nI i)), none, none, none, none] [] σ' P := by
    intro i
    induction i with
    | zero =>
      intro σ' hi hq
      have mid : ∀ k m σ2, 2 ^ D - m = k → m ≤ 2 ^ D → Dq e ti wi S D 0 m σ2 → Ev l 122 147 [some (.ref 13), some (.int (nI (2 ^ D))), some (.int (nI 0)), some (.int (nI m)), none, none, none] [] σ2 P := by
        intro k
        induction k with
        | zero =>
          intro m σ2 hk hm hq2
          have : m = 2 ^ D := by omega
          subst this
          refine b_X11_fill_147 _ _ _ (br_f' (nI_nlt (Nat.le_refl _) (by omega)) (b_X11_fill_141 _ _ (br_t' (by decide) (hP σ2 hq2.1 (fun i' hi' m' hm' => ?_)))))
          by_cases c : i' = 0
          · rw [c]; exact hq2.2.2 m' hm'
          · exact hq2.2.1 i' (by omega) hi' m' hm'
        | succ k ih =>
          intro m σ2 hk hm hq2
          exact m_cell hF' hi (by omega) hq2 (ih (m + 1) _ (by omega) (by omega) (dq_us (by omega) hD hq2))
      exact b_X11_fill_141 _ _ (br_f' (nI_nn (by omega)) (mid (2 ^ D) 0 σ' rfl (Nat.zero_le _) hq))
    | succ i iho =>
      intro σ' hi hq
      have mid : ∀ k m σ2, 2 ^ D - m = k → m ≤ 2 ^ D → Dq e ti wi S D (i + 1) m σ2 → Ev l 122 147 [some (.ref 13), some (.int (nI (2 ^ D))), some (.int (nI (i + 1))), some (.int (nI m)), none, none, none] [] σ2 P := by
        intro k
        induction k with
        | zero =>
          intro m σ2 hk hm hq2
          have : m = 2 ^ D := by omega
          subst this
          refine b_X11_fill_147 _ _ _ (br_f' (nI_nlt (Nat.le_refl _) (by omega)) ?_)
          rw [add_m1]
          refine iho σ2 (by omega) ⟨hq2.1, fun i' h1 h2 m' hm' => ?_, fun m' hm' => absurd hm' (by omega)⟩
          by_cases c : i' = i + 1
          · rw [c]; exact hq2.2.2 m' hm'
          · exact hq2.2.1 i' (by omega) h2 m' hm'
        | succ k ih =>
          intro m σ2 hk hm hq2
          exact m_cell hF' hi (by omega) hq2 (ih (m + 1) _ (by omega) (by omega) (dq_us (by omega) hD hq2))
      exact b_X11_fill_141 _ _ (br_f' (nI_nn (by omega)) (mid (2 ^ D) 0 σ' rfl (Nat.zero_le _) hq))
  exact outer S e (Nat.le_refl _) ⟨fun _ _ => rfl, fun i' h1 h2 => absurd h1 (by omega), fun m' hm' => absurd hm' (by omega)⟩
/-- the reference gives the shifts out -/
theorem m_give (hF : Fr e n ti wi S D pl dl) (hdl : ∀ j, j < D → dl j < d) (hd : d ≤ 16) (h75 : ∀ i', i' ≤ S → ∀ m', m' < 2 ^ D → e 75 (1024 * i' + m') = nI (Vv ti wi S D i' m')) (h0 : ∀ p, p < n → e 63 p = a (2 * p) ∧ e 64 p = a (2 * p + 1)) (hnu : ∀ i, i ≤ S → ∀ j, j < D → (gm ti wi S D i).testBit j = false → ∀ x, x < 24 → ¬ ga ti wi S D pl dl a i x = nI (dl j)) (hP : ∀ σ', (∀ j, j ≠ 63 → j ≠ 64 → σ' j = e j) → (∀ p, p < n → σ' 63 p = ga ti wi S D pl dl a S (2 * p) ∧ σ' 64 p = ga ti wi S D pl dl a S (2 * p + 1)) → P (some (.int (nI (Vv ti wi S D 0 0)))) σ') : Ev l 122 290 [some (.ref 13), none, some (.int 0), some (.int 0), none, none, none] [] e P := by
  have hF' := hF
  obtain ⟨hS, hD, hn, f0, f1, f2, f3, f4⟩ := hF
  have hp := p2_le hD
  have hV : ∀ i' m', Vv ti wi S D i' m' ≤ 40 := fun i' m' => Nat.le_trans (Vv_le _ _ _ _ _ _) (by omega)
  have outer : ∀ k i σ', S - i = k → i ≤ S → (∀ j, j ≠ 63 → j ≠ 64 → σ' j = e j) → (∀ p, p < n → σ' 63 p = ga ti wi S D pl dl a i (2 * p) ∧ σ' 64 p = ga ti wi S D pl dl a i (2 * p + 1)) → Ev l 122 290 [some (.ref 13), none, some (.int (nI (gm ti wi S D i))), some (.int (nI i)), none, none, none] [] σ' P := by
    intro k
    induction k with
    | zero =>
      intro i σ' hk hi fr hg
      have : i = S := by omega
      subst this
      refine b_X11_fill_290 _ _ (br_f' (by rw [fr 13 (by decide) (by decide), f1]; exact nI_nlt (Nat.le_refl _) (by omega)) ⟨in_nI (n := 0) (by decide) (by decide), ?_⟩)
      have t0 : Int32.toNatClampNeg 0 = 1024 * 0 + 0 := by decide
      rw [fr 75 (by decide) (by decide), t0, h75 0 (by omega) 0 (Nat.two_pow_pos D)]
      exact hP σ' fr hg
    | succ k iho =>
      intro i σ' hk hi fr hg
      have hml := gm_lt (ti := ti) (wi := wi) (S := S) (D := D) i
      have k13 : σ' 13 = e 13 := fr 13 (by decide) (by decide)
      obtain ⟨p1, p2, p3⟩ := f3 i (by omega)
      refine b_X11_fill_290 _ _ (br_t' (by rw [k13, f1]; exact nI_lt (by omega) (by omega)) ?_)
      have inner : ∀ k2 j, D - j = k2 → j ≤ D → ffd (gdb ti wi S D i (gm ti wi S D i)) (D - j) j = pf ti wi S D i (gm ti wi S D i) → Ev l 122 301 [some (.ref 13), none, some (.int (nI (gm ti wi S D i))), some (.int (nI i)), some (.int (nI j)), none, none] [] σ' P := by
        intro k2
        induction k2 with
        | zero =>
          intro j hk2 hj hff
          have : j = D := by omega
          subst this
          rw [Nat.sub_self] at hff
          have hpf : pf ti wi S j i (gm ti wi S j i) = j := hff.symm
          refine b_X11_fill_301 _ _ _ ?_
          rw [k13, f2]
          refine br_f' (nI_nlt (Nat.le_refl _) (by omega)) (br_t' rfl ?_)
          rw [nI_1]
          have ih := iho (i + 1) σ' (by omega) (by omega) fr
          rw [ga_y hpf, gm_y hpf] at ih
          exact ih hg
        | succ k2 ih2 =>
          intro j hk2 hj hff
          rw [show D - j = (D - (j + 1)) + 1 by omega] at hff
          unfold ffd at hff
          refine b_X11_fill_301 _ _ _ ?_
          rw [k13, f2]
          refine br_t' (nI_lt (by omega) (by omega)) ?_
          rw [nI_1 j, nI_1 i]
          have next : gdb ti wi S D i (gm ti wi S D i) j = false → Ev l 122 301 [some (.ref 13), none, some (.int (nI (gm ti wi S D i))), some (.int (nI i)), some (.int (nI (j + 1))), none, none] [] σ' P := by
            intro hg'
            rw [hg', if_neg (by decide)] at hff
            exact ih2 (j + 1) (by omega) (by omega) hff
          by_cases hb : (gm ti wi S D i).testBit j = true
          · refine br_t' ((nI_bit (by omega) (by omega)).mpr hb) (next ?_)
            unfold gdb
            rw [hb]; rfl
          · have hb' := bit_tf hb
            refine br_f' (fun z => hb ((nI_bit (by omega) (by omega)).mp z)) (m_wrth hF' (fr 62 (by decide) (by decide)) (fr 73 (by decide) (by decide)) (fr 74 (by decide) (by decide)) (show i < S by omega) (show j < D by omega) ?_)
            have hor : gm ti wi S D i ||| 2 ^ j < 2 ^ D := or_lt hml (by omega)
            obtain ⟨q1, q2, q3, q4⟩ := f4 j (by omega)
            refine (show _ ∧ _ ∧ ax_br (_ = _) (ax_br (_ = σ' 13 26) _ _) _ from ?_)
            rw [nI_pow (by omega), nI_or, ix24, ix24, cl_nI (n := 1024 * (i + 1) + (gm ti wi S D i ||| 2 ^ j)) (by omega), cl_nI (n := 1024 * i + gm ti wi S D i) (by omega), fr 75 (by decide) (by decide), h75 (i + 1) (by omega) _ hor, h75 i (by omega) _ hml, nI_add, k13, f2, cl_nI (n := i) (by omega), cl_nI (n := j) (by omega), fr 73 (by decide) (by decide), fr 74 (by decide) (by decide), p1, q1, m2_nI (by omega), show nI (pl i) / 2 = nI (pl i / 2) from dv_nI (b := 2) (by omega) (by omega) (by omega)]
            have hv1 := hV (i + 1) (gm ti wi S D i ||| 2 ^ j)
            have hv2 := hV i (gm ti wi S D i)
            have hw := wo_le (ti i) (wi j)
            refine ⟨in_nI (by omega) (by decide), in_nI (by omega) (by decide), br_i (fun c => br_f' (fun z => ?_) ⟨in_nI (by omega) (by decide), by decide, in_nI (by omega) (by decide), by decide, in_nI (by omega) (by decide), ?_⟩) (fun c => next ?_)⟩
            · have := (nI_eq (by omega) (by omega)).mp z
              omega
            · have c' := (nI_eq (by omega) (by omega)).mp c
              have hgd : gdb ti wi S D i (gm ti wi S D i) j = true := by
                unfold gdb
                rw [hb', Bool.not_false, Bool.true_and, beq_iff_eq]
                exact c'
              rw [hgd, if_pos rfl] at hff
              have hne : ¬ pf ti wi S D i (gm ti wi S D i) = D := by omega
              have hn2 := hnu i (by omega) j (by omega) hb'
              refine m_gives hn (by rw [k13]; exact f0) (show pl i / 2 < n by omega) _ _ (Or.inr (by rw [nI_toInt (by omega)]; omega)) ?_
              have ih := iho (i + 1) (gvd σ' n (pl i / 2) (nI (pl i % 2)) (nI (dl j))) (by omega) (by omega)
              rw [ga_n hne, gm_n hne, ← hff] at ih
              have r63 : ∀ p, p < n → frd (σ' 63) n (nI (dl j)) p = σ' 63 p := by
                intro p hp'
                unfold frd
                rw [if_neg]
                intro z
                rw [(hg p hp').1] at z
                exact hn2 _ (by omega) z.2
              have r64 : ∀ p, p < n → frd (σ' 64) n (nI (dl j)) p = σ' 64 p := by
                intro p hp'
                unfold frd
                rw [if_neg]
                intro z
                rw [(hg p hp').2] at z
                exact hn2 _ (by omega) z.2
              refine ih ?_ ?_
              · intro j' h1 h2
                unfold gvd st2
                by_cases c0 : nI (pl i % 2) = 0
                · rw [if_pos c0, uc_n _ _ h2, uc_n _ _ h1]; exact fr j' h1 h2
                · rw [if_neg c0, uc_n _ _ h2, uc_n _ _ h1]; exact fr j' h1 h2
              · intro p hp'
                unfold gvd st2
                by_cases c0 : nI (pl i % 2) = 0
                · have c1 : pl i % 2 = 0 := (nI_eq (b := 0) (by omega) (by omega)).mp c0
                  rw [if_pos c0, uc_s, uc_n _ _ (by decide), uc_s, r64 p hp', (hg p hp').2, upd_n _ _ (show ¬ 2 * p + 1 = pl i by omega)]
                  refine ⟨?_, rfl⟩
                  by_cases ep : p = pl i / 2
                  · rw [ep, upd_s, show 2 * (pl i / 2) = pl i by omega, upd_s]
                  · rw [upd_n _ _ ep, upd_n _ _ (by omega), r63 p hp']; exact (hg p hp').1
                · have c1 : ¬ pl i % 2 = 0 := fun z => c0 (by rw [z]; rfl)
                  rw [if_neg c0, uc_s, uc_n _ _ (by decide), uc_s, r63 p hp', (hg p hp').1, upd_n _ _ (show ¬ 2 * p = pl i by omega)]
                  refine ⟨rfl, ?_⟩
                  by_cases ep : p = pl i / 2
                  · rw [ep, upd_s, show 2 * (pl i / 2) + 1 = pl i by omega, upd_s]
                  · rw [upd_n _ _ ep, upd_n _ _ (by omega), r64 p hp']; exact (hg p hp').2
            · unfold gdb
              rw [hb', Bool.not_false, Bool.true_and, beq_eq_false_iff_ne]
              exact fun z => c (by rw [z])
      exact inner D 0 (by omega) (by omega) rfl
  exact outer S 0 e (by omega) (by omega) (fun _ _ _ => rfl) h0
end FillT
