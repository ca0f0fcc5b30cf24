/-! spreading, in the reference: on to the next way; spread, the pair -/
section SpreadG
variable {l : Launch} {P : Option Value → ax_Sg → Prop} {σ : ax_Sg} {F : Nat} {st A t : Nat → Nat}
theorem al_lo (hs : Sr F st A σ) {t' : Nat → Nat} (ht' : Al F st t') {f : Nat} (hf' : f < F) : hf st f 0 ≤ t' f := by
  obtain ⟨a1, a2, a3, a4⟩ := hf_spec (st := st) (f := f) (i := 0) (by omega)
  obtain ⟨b1, b2⟩ := ht' f hf'
  by_cases c : t' f < hf st f 0
  · rw [a4 (t' f) (by omega) c] at b2
    exact absurd b2 (by decide)
  · omega
theorem m_goesOn (hs : Sr F st A σ) (ht : Al F st t) (hT : Tk F t σ) (hY : ∀ σ' t', (∀ j, j ≠ 89 → σ' j = σ j) → Tk F t' σ' → Al F st t' → cd t F < cd t' F → (∀ u, Al F st u → cd t F < cd u F → cd t' F ≤ cd u F) → P (some (.int 1)) σ') (hN : ∀ σ', (∀ j, j ≠ 89 → σ' j = σ j) → (∀ u, Al F st u → ¬ cd t F < cd u F) → P (some (.int 0)) σ') : Ev l 164 0 [some (.ref 13), none] [] σ P := by
  have hs' := hs
  obtain ⟨h1, h2, h3, h4⟩ := hs
  have loop : ∀ k σ', k ≤ F → (∀ j, j ≠ 89 → σ' j = σ j) → (∀ f, f < F → σ' 89 f = nI (if f < k then t f else hf st f 0)) → (∀ u, Al F st u → cd t F < cd u F → cd t k < cd u k) → Ev l 164 7 [some (.ref 13), some (.int (nI k - 1))] [] σ' P := by
    intro k
    induction k with
    | zero =>
      intro σ' hk fr h89 hinv
      exact b_X11_goesOn_7 _ (br_t' (by decide) ⟨nar0, hN σ' fr (fun u hu hlt => absurd (hinv u hu hlt) (by show ¬ 0 < 0; omega))⟩)
    | succ k ih =>
      intro σ' hk fr h89 hinv
      obtain ⟨t8, tb⟩ := ht k (by omega)
      have hs1 : Sr F st A σ' := hs'.fr (by rw [fr 13 (by decide)]) (fr 88 (by decide)) (fr 72 (by decide))
      obtain ⟨q1, q2, q3⟩ := h3 k (by omega)
      obtain ⟨a1, a2, a3, a4⟩ := hf_spec (st := st) (f := k) (i := t k + 1) (by omega)
      rw [show nI (k + 1) - 1 = nI k from nI_pred k]
      refine b_X11_goesOn_7 _ (br_f' (nI_nn (by omega)) ?_)
      rw [cl_nI (by omega), h89 k (by omega), if_pos (show k < k + 1 by omega), nI_1]
      refine ⟨in_nI (by omega) (by decide), m_from hs1 (by omega) (by omega) ⟨in_nI (by omega) (by decide), in_nI (by omega) (by decide), ?_⟩⟩
      rw [upd_s]
      refine br_i (fun z => ⟨nar1, ?_⟩) (fun z => ?_)
      · have y : hf st k (t k + 1) < 8 := by
          by_cases y : hf st k (t k + 1) < 8
          · exact y
          · exact absurd z (nI_nlt (a := hf st k (t k + 1)) (b := 8) (by omega) (by omega))
        obtain ⟨t2, ht2⟩ : ∃ t2 : Nat → Nat, t2 = fun f => if f < k then t f else if f = k then hf st k (t k + 1) else hf st f 0 := ⟨_, rfl⟩
        have e1 : ∀ f, f < k → t2 f = t f := fun f hf' => by rw [ht2]; exact if_pos hf'
        have e2 : t2 k = hf st k (t k + 1) := by
          rw [ht2]
          show (if k < k then t k else if k = k then hf st k (t k + 1) else hf st k 0) = _
          rw [if_neg (by omega), if_pos rfl]
        have e3 : ∀ f, k < f → t2 f = hf st f 0 := fun f hf' => by
          rw [ht2]
          show (if f < k then t f else if f = k then hf st k (t k + 1) else hf st f 0) = _
          rw [if_neg (by omega), if_neg (by omega)]
        have hAl : Al F st t2 := by
          intro f hf'
          by_cases c1 : f < k
          · rw [e1 f c1]; exact ht f hf'
          · by_cases c2 : f = k
            · rw [c2, e2]; exact ⟨y, a3 y⟩
            · rw [e3 f (by omega)]
              have q := (h3 f hf').2.2
              exact ⟨q, (hf_spec (st := st) (f := f) (i := 0) (by omega)).2.2.1 q⟩
        have hck : cd t2 k = cd t k := cd_congr k e1
        have hck1 : cd t2 (k + 1) = cd t k * 8 + hf st k (t k + 1) := by
          show cd t2 k * 8 + t2 k = _
          rw [hck, e2]
        have hck2 : cd t (k + 1) = cd t k * 8 + t k := rfl
        refine hY _ t2 (fun j hj => ?_) (fun f hf' => ?_) hAl ?_ (fun u hu hlt => ?_)
        · rw [us_n _ _ _ hj]; exact fr j hj
        · rw [us_s]
          by_cases c2 : f = k
          · rw [c2, upd_s, e2]
          · rw [upd_n _ _ c2, h89 f hf']
            by_cases c1 : f < k
            · rw [if_pos (by omega), e1 f c1]
            · rw [if_neg (by omega), e3 f (by omega)]
        · have := cd_smono (t := t) (u := t2) (k := k + 1) (by omega) (F - (k + 1)) (fun f hf' => (ht f (by omega)).1)
          rw [show k + 1 + (F - (k + 1)) = F by omega] at this
          exact this
        · have hu1 := hinv u hu hlt
          have hu2 : cd u (k + 1) = cd u k * 8 + u k := rfl
          obtain ⟨u8, ub⟩ := hu k (by omega)
          have hge : cd t2 (k + 1) ≤ cd u (k + 1) := by
            by_cases c : cd t k < cd u k
            · omega
            · have hlt2 : t k < u k := by omega
              by_cases c3 : u k < hf st k (t k + 1)
              · rw [a4 (u k) (by omega) c3] at ub
                exact absurd ub (by decide)
              · omega
          have := cd_mono (t := t2) (u := u) (k := k + 1) hge (F - (k + 1)) (fun f b1 b2 => by
            rw [e3 f (by omega)]
            exact al_lo hs' hu (by omega))
          rw [show k + 1 + (F - (k + 1)) = F by omega] at this
          exact this
      · have y : hf st k (t k + 1) = 8 := by
          by_cases y : hf st k (t k + 1) < 8
          · exact absurd (nI_lt (b := 8) y (by omega)) z
          · omega
        have hs2 : Sr F st A (ax_us σ' 89 k (nI (hf st k (t k + 1)))) := hs1.fr rfl rfl rfl
        refine m_from (i := 0) hs2 (by omega) (by omega) ⟨in_nI (by omega) (by decide), ?_⟩
        rw [← Int32.sub_eq_add_neg]
        refine ih _ (by omega) (fun j hj => ?_) (fun f hf' => ?_) (fun u hu hlt => ?_)
        · rw [us_n _ _ _ hj, us_n _ _ _ hj]; exact fr j hj
        · rw [us_s]
          by_cases c2 : f = k
          · rw [c2, upd_s, if_neg (by omega)]
          · rw [upd_n _ _ c2, us_s, upd_n _ _ c2, h89 f hf']
            by_cases c1 : f < k
            · rw [if_pos c1, if_pos (by omega)]
            · rw [if_neg c1, if_neg (by omega)]
        · have hu1 := hinv u hu hlt
          have hu2 : cd u (k + 1) = cd u k * 8 + u k := rfl
          have hu3 : cd t (k + 1) = cd t k * 8 + t k := rfl
          obtain ⟨u8, ub⟩ := hu k (by omega)
          by_cases c : cd t k < cd u k
          · exact c
          · exfalso
            have hlt2 : t k < u k := by omega
            rw [a4 (u k) (by omega) (by omega)] at ub
            exact absurd ub (by decide)
  refine b_X11_goesOn_0 ?_
  rw [h2]
  refine loop F σ (Nat.le_refl _) (fun _ _ => rfl) (fun f hf' => ?_) (fun u hu hlt => hlt)
  rw [if_pos hf']; exact hT f hf'
theorem m_spreads (hs : Sr F st A σ) (e48 : σ 13 48 = 100) (e49 : σ 13 49 = 0) (hP : ∀ σ' tb, (∀ j, j ≠ 89 → j ≠ 90 → j ≠ 91 → j ≠ 13 → σ' j = σ j) → (∀ i, i ≠ 48 → i ≠ 49 → σ' 13 i = σ 13 i) → Al F st tb → Best F st A (ms tb F) (Rr A tb F) → σ' 13 48 = nI (ms tb F) → σ' 13 49 = nI (sm (fun f => A (tb f)) F) → (∀ f, f < F → σ' 90 f = nI (tb f)) → P none σ') : Ev l 165 0 [some (.ref 13), none] [] σ P := by
  have hs' := hs
  obtain ⟨h1, h2, h3, h4⟩ := hs
  have fuel : ∀ m t σ', 8 ^ F - cd t F ≤ m → Al F st t → Tk F t σ' → (∀ j, j ≠ 89 → j ≠ 90 → j ≠ 91 → j ≠ 13 → σ' j = σ j) → (∀ i, i ≠ 48 → i ≠ 49 → σ' 13 i = σ 13 i) → ((σ' 13 48 = 100 ∧ σ' 13 49 = 0 ∧ ∀ u, Al F st u → cd t F ≤ cd u F) ∨ ∃ tb, Bsf F st A (cd t F) tb ∧ σ' 13 48 = nI (ms tb F) ∧ σ' 13 49 = nI (sm (fun f => A (tb f)) F) ∧ ∀ f, f < F → σ' 90 f = nI (tb f)) → Ev l 165 30 [some (.ref 13), some (.int 1)] [] σ' P := by
    intro m
    induction m with
    | zero =>
      intro t σ' hm ht hT fr fr13 hb
      have := cd_lt F (fun f hf' => (ht f hf').1)
      omega
    | succ m ih =>
      intro t σ' hm ht hT fr fr13 hb
      have hs1 : Sr F st A σ' := hs'.fr (fr13 47 (by decide) (by decide)) (fr 88 (by decide) (by decide) (by decide) (by decide)) (fr 72 (by decide) (by decide) (by decide) (by decide))
      have hmsF : ∀ u : Nat → Nat, ms u F ≤ F := fun u => (ms_le F).mpr (fun h => cn_le _ _)
      have hasF : ∀ u, Al F st u → sm (fun f => A (u f)) F ≤ 600 := by
        intro u hu
        have := sm_le (u := fun f => A (u f)) (b := 100) F (fun f hf' => (h4 (u f) (hu f hf').1).1)
        have h6 : F * 100 ≤ 6 * 100 := Nat.mul_le_mul_right _ h1
        omega
      have after : ∀ σ2, (∀ j, j ≠ 89 → j ≠ 90 → j ≠ 91 → j ≠ 13 → σ2 j = σ j) → (∀ i, i ≠ 48 → i ≠ 49 → σ2 13 i = σ 13 i) → Tk F t σ2 → (∃ tb, Bsf F st A (cd t F + 1) tb ∧ σ2 13 48 = nI (ms tb F) ∧ σ2 13 49 = nI (sm (fun f => A (tb f)) F) ∧ ∀ f, f < F → σ2 90 f = nI (tb f)) → Ev l 164 0 [some (.ref 13), none] [] σ2 (fun o3 σ4 => ax_oi o3 (fun v5 => Ev l 165 30 [some (.ref 13), some (.int v5)] [] σ4 P)) := by
        intro σ2 fr2 fr213 hT2 ⟨tb, hbs, c48, c49, c90⟩
        have hs2 : Sr F st A σ2 := hs'.fr (fr213 47 (by decide) (by decide)) (fr2 88 (by decide) (by decide) (by decide) (by decide)) (fr2 72 (by decide) (by decide) (by decide) (by decide))
        refine m_goesOn hs2 ht hT2 (fun σ3 t3 fr3 hT3 hAl3 hgt hmin => ?_) (fun σ3 fr3 hno => ?_)
        · have k13 : σ3 13 = σ2 13 := fr3 13 (by decide)
          refine ih t3 σ3 (by omega) hAl3 hT3 (fun j b1 b2 b3 b4 => (fr3 j b1).trans (fr2 j b1 b2 b3 b4)) (fun i b1 b2 => by rw [k13]; exact fr213 i b1 b2) (Or.inr ⟨tb, bsf_skip hbs (by omega) (fun u hu hlt => ?_), by rw [k13]; exact c48, by rw [k13]; exact c49, fun f hf' => by rw [fr3 90 (by decide)]; exact c90 f hf'⟩)
          by_cases y : cd t F < cd u F
          · have := hmin u hu y
            omega
          · omega
        · have k13 : σ3 13 = σ2 13 := fr3 13 (by decide)
          refine b_X11_spreads_30 _ (br_t' rfl (hP σ3 tb (fun j b1 b2 b3 b4 => (fr3 j b1).trans (fr2 j b1 b2 b3 b4)) (fun i b1 b2 => by rw [k13]; exact fr213 i b1 b2) hbs.1 (best_bsf hbs (fun u hu => ?_)) (by rw [k13]; exact c48) (by rw [k13]; exact c49) (fun f hf' => by rw [fr3 90 (by decide)]; exact c90 f hf')))
          have := hno u hu
          omega
      refine b_X11_spreads_30 _ (br_f' (by decide) ?_)
      have taken : ∀ σ2, (∀ j, j ≠ 91 → j ≠ 90 → j ≠ 13 → σ2 j = σ' j) → (∀ i, i ≠ 48 → i ≠ 49 → σ2 13 i = σ' 13 i) → (∀ j, j ≠ 89 → j ≠ 90 → j ≠ 91 → j ≠ 13 → σ2 j = σ j) ∧ (∀ i, i ≠ 48 → i ≠ 49 → σ2 13 i = σ 13 i) ∧ Tk F t σ2 := fun σ2 fr2 fr213 => ⟨fun j b1 b2 b3 b4 => (fr2 j b3 b2 b4).trans (fr j b1 b2 b3 b4), fun i b1 b2 => (fr213 i b1 b2).trans (fr13 i b1 b2), fun f hf' => by rw [fr2 89 (by decide) (by decide) (by decide)]; exact hT f hf'⟩
      rcases hb with ⟨b48, b49, hfirst⟩ | ⟨tb, hbs, b48, b49, b90⟩
      · refine m_looks hs1 ht hT (bM := 100) (bA := 0) (by omega) (by omega) b48 b49 (fun _ σ2 fr2 fr213 c48 c49 c90 => ?_) (fun z => absurd (Or.inl (by have := hmsF t; omega)) z)
        obtain ⟨w1, w2, w3⟩ := taken σ2 fr2 fr213
        exact after σ2 w1 w2 w3 ⟨t, bsf_first ht hfirst (fun u hu e => same_of_cd ht hu e.symm), c48, c49, c90⟩
      · have m1 := hmsF tb
        have m2 := hasF tb hbs.1
        refine m_looks hs1 ht hT (bM := ms tb F) (bA := sm (fun f => A (tb f)) F) (by omega) m2 b48 b49 (fun hy σ2 fr2 fr213 c48 c49 c90 => ?_) (fun hn σ2 fr2 => ?_)
        · obtain ⟨w1, w2, w3⟩ := taken σ2 fr2 fr213
          exact after σ2 w1 w2 w3 ⟨t, bsf_take h1 ht rfl hbs hy, c48, c49, c90⟩
        · obtain ⟨w1, w2, w3⟩ := taken σ2 (fun j b1 b2 b3 => fr2 j b1) (fun i b1 b2 => by rw [fr2 13 (by decide)])
          refine after σ2 w1 w2 w3 ⟨tb, bsf_keep h1 ht rfl hbs (by omega), by rw [fr2 13 (by decide)]; exact b48, by rw [fr2 13 (by decide)]; exact b49, fun f hf' => by rw [fr2 90 (by decide)]; exact b90 f hf'⟩
  have l1 : ∀ m k σ', F - k = m → k ≤ F → (∀ j, j ≠ 89 → σ' j = σ j) → (∀ f, f < k → σ' 89 f = nI (hf st f 0)) → Ev l 165 2 [some (.ref 13), some (.int (nI k))] [] σ' P := by
    intro m
    induction m with
    | zero =>
      intro k σ' hm hk fr h89
      have : k = F := by omega
      subst this
      have hAl : Al k st (fun f => hf st f 0) := fun f hf' => ⟨(h3 f hf').2.2, (hf_spec (st := st) (f := f) (i := 0) (by omega)).2.2.1 (h3 f hf').2.2⟩
      have k13 : σ' 13 = σ 13 := fr 13 (by decide)
      refine b_X11_spreads_2 _ (br_f' (by rw [k13, h2]; exact nI_nlt (Nat.le_refl _) (by omega)) (fuel (8 ^ k) (fun f => hf st f 0) σ' (Nat.sub_le _ _) hAl h89 (fun j b1 _ _ _ => fr j b1) (fun i _ _ => by rw [k13]) (Or.inl ⟨by rw [k13]; exact e48, by rw [k13]; exact e49, fun u hu => ?_⟩)))
      have := cd_mono (t := fun f => hf st f 0) (u := u) (k := 0) (Nat.le_refl _) k (fun f _ b2 => al_lo hs' hu (by omega))
      rw [Nat.zero_add] at this
      exact this
    | succ m ih =>
      intro k σ' hm hk fr h89
      have hs1 : Sr F st A σ' := hs'.fr (by rw [fr 13 (by decide)]) (fr 88 (by decide)) (fr 72 (by decide))
      refine b_X11_spreads_2 _ (br_t' (by rw [fr 13 (by decide), h2]; exact nI_lt (by omega) (by omega)) (m_from (i := 0) hs1 (by omega) (by omega) ?_))
      refine ⟨in_nI (by omega) (by decide), ?_⟩
      rw [cl_nI (by omega), nI_1]
      refine ih (k + 1) _ (by omega) (by omega) (fun j hj => ?_) (fun f hf' => ?_)
      · rw [us_n _ _ _ hj]; exact fr j hj
      · rw [us_s]
        by_cases e : f = k
        · rw [e, upd_s]
        · rw [upd_n _ _ e]; exact h89 f (by omega)
  exact b_X11_spreads_0 (l1 F 0 σ (by omega) (by omega) (fun _ _ => rfl) (fun f hf' => absurd hf' (by omega)))
theorem bit8 {s : Nat} (h1 : 1 ≤ s) (h2 : s < 256) : ∃ h, h < 8 ∧ s.testBit h = true := by
  obtain ⟨f, hf'⟩ := Nat.exists_testBit_of_ne_zero (show s ≠ 0 by omega)
  refine ⟨f, ?_, hf'⟩
  by_cases y : f < 8
  · exact y
  · rw [Nat.testBit_lt_two_pow (Nat.lt_of_lt_of_le h2 (Nat.pow_le_pow_right (n := 2) (i := 8) (by omega) (by omega)))] at hf'
    exact absurd hf' (by decide)
theorem pr_spread (hI : Inv σ) (x : Int32) : Pr l 97 [some (.ref 0), some (.int x)] 166 [some (.ref 13), some (.int x)] σ := by
  have hI0 := hI
  obtain ⟨n, d, t, c, h, r, q, F, y, hpl, hdr, hsh, htp, hmt, has, hct, hrd, hln, hfl, hli⟩ := hI
  have hF := hfl.1
  have hb1 : (σ 10 2 + 1).toInt = ((F + 1 : Nat) : Int) := by rw [hfl.2.1, nI_1, nI_toInt (by omega)]
  have hb2 : (Int32.toInt64 (1 + σ 13 47)).toInt = ((F + 1 : Nat) : Int) := by rw [Int32.toInt_toInt64, hfl.2.2.1, show (1 : Int32) + nI F = nI (1 + F) from nI_add 1 F, nI_toInt (by omega)]; omega
  by_cases hx : 0 ≤ x.toInt ∧ x.toInt ≤ ((F + 1 : Nat) : Int)
  · obtain ⟨st, hst⟩ : ∃ st : Nat → Nat, st = fun f => tN (σ 51 f) := ⟨_, rfl⟩
    obtain ⟨A, hA⟩ : ∃ A : Nat → Nat, A = fun h => sm (fun w => tN (σ 29 ((12 + h) * 5 + w))) 5 := ⟨_, rfl⟩
    have hset : ∀ f, f < F → σ 51 f = nI (st f) ∧ 1 ≤ st f ∧ st f < 256 := by
      intro f hf'
      have h1 := (hfl.2.2.2 f hf').2
      obtain ⟨w, hw, hwe⟩ := nat_of (x := σ 51 f) (b := 255) (by have := h1.1; omega) h1.2
      have e : st f = w := by rw [hst]; show tN (σ 51 f) = w; rw [hwe]; exact cl_nI (by omega)
      rw [e]
      have h2 := h1.1
      rw [hwe, nI_toInt (by omega)] at h2
      exact ⟨hwe, by omega, by omega⟩
    have hask : ∀ i, i < 120 → σ 29 i = nI (tN (σ 29 i)) ∧ tN (σ 29 i) ≤ 20 := by
      intro i hi
      have h1 := (has i hi).2
      obtain ⟨w, hw, hwe⟩ := nat_of (x := σ 29 i) (b := 20) h1.1 h1.2
      have e : tN (σ 29 i) = w := by rw [hwe]; exact cl_nI (by omega)
      rw [e]; exact ⟨hwe, hw⟩
    have hSe : Se F st A σ := ⟨hF, hfl.2.1, fun f hf' => ⟨(hset f hf').1, (hset f hf').2.2⟩, fun h' hh => ⟨by rw [hA], fun w hw => hask _ (by omega)⟩⟩
    have hlo : ∀ f, f < F → hf st f 0 < 8 := by
      intro f hf'
      obtain ⟨h', b1, b2⟩ := bit8 (hset f hf').2.1 (hset f hf').2.2
      obtain ⟨a1, a2, a3, a4⟩ := hf_spec (st := st) (f := f) (i := 0) (by omega)
      by_cases z : hf st f 0 < 8
      · exact z
      · rw [a4 h' (by omega) (by omega)] at b2
        exact absurd b2 (by decide)
    have hex : ∃ t, Al F st t := ⟨fun f => hf st f 0, fun f hf' => ⟨hlo f hf', (hf_spec (st := st) (f := f) (i := 0) (by omega)).2.2.1 (hlo f hf')⟩⟩
    refine b_X10_spread_0 _ (wt hx (br1 (c_arrange hSe hex (fun σ1 g v fr1 fr10 k5 hg6 k52 hv hBest => ?_))) (by decide) hb1)
    have hSe1 : Se F st A σ1 := hSe.fr (fr10 2 (by decide)) (fr1 51 (by decide) (by decide) (by decide)) (fr1 29 (by decide) (by decide) (by decide))
    have k13 : σ1 13 = σ 13 := fr1 13 (by decide) (by decide) (by decide)
    have hp : 2 ^ F ≤ 64 := Nat.pow_le_pow_right (n := 2) (by omega) hF
    have hp0 := Nat.two_pow_pos F
    unfold IMP at hv
    have kR : ∀ w : Int32, (∀ tb, Al F st tb → v = Rr A tb F → (x = 0 → w = nI g) ∧ (x = 1 → w = nI (sm (fun f => A (tb f)) F)) ∧ ∀ f, f < F → x = nI (f + 2) → w = 12 + nI (tb f)) → Ev l 166 0 [some (.ref 13), some (.int x)] [] σ1 (fun o2 σ2 => ax_oi o2 fun u => w = u ∧ Inv σ2) := by
      intro w hw
      have hb3 : (Int32.toInt64 (1 + σ1 13 47)).toInt = ((F + 1 : Nat) : Int) := by rw [k13]; exact hb2
      have hSr : Sr F st A (ax_us (ax_us σ1 13 48 100) 13 49 0) := by
        have k88 : σ1 88 = σ 88 := fr1 88 (by decide) (by decide) (by decide)
        have k72 : σ1 72 = σ 72 := fr1 72 (by decide) (by decide) (by decide)
        have k47 : σ1 13 47 = nI F := by rw [k13]; exact hfl.2.2.1
        refine ⟨hF, k47, fun f hf' => ⟨?_, (hset f hf').2.2, hlo f hf'⟩, fun h' hh => ⟨hSe.A_le hh, ?_, fun u hu => ?_⟩⟩
        · show σ1 88 f = nI (st f)
          rw [k88, ← (hfl.2.2.2 f hf').1]; exact (hset f hf').1
        · show A h' = sm (fun w => tN (σ1 72 ((12 + h') * 5 + w))) 5
          rw [hA, k72]
          exact sm_congr 5 (fun w' hw' => by rw [(has _ (by omega)).1])
        · show σ1 72 ((12 + h') * 5 + u) = nI (tN (σ1 72 ((12 + h') * 5 + u)))
          rw [k72, ← (has _ (by omega)).1]
          exact (hask _ (by omega)).1
      refine b_X11_spread_0 _ (ni_t hx (br1 (m_spreads hSr rfl rfl (fun σ2 tb fr2 fr213 hAl hB2 c48 c49 c90 => ?_))) (by decide) hb3)
      obtain ⟨u1, u2⟩ := hBest.uniq hB2
      obtain ⟨w1, w2, w3⟩ := hw tb hAl u2
      have t2 : ∀ j, (j ≠ 52 ∧ j ≠ 53 ∧ j ≠ 10) ∧ (j ≠ 89 ∧ j ≠ 90 ∧ j ≠ 91 ∧ j ≠ 13) → σ2 j = σ j := fun j hj => by
        rw [fr2 j hj.2.1 hj.2.2.1 hj.2.2.2.1 hj.2.2.2.2, us_n _ _ _ hj.2.2.2.2, us_n _ _ _ hj.2.2.2.2]
        exact fr1 j hj.1.1 hj.1.2.1 hj.1.2.2
      have t213 : ∀ i, i ≠ 48 → i ≠ 49 → σ2 13 i = σ 13 i := fun i b1 b2 => by
        rw [fr213 i b1 b2, us_s, upd_n _ _ b2, us_s, upd_n _ _ b1, k13]
      have t210 : ∀ i, i ≠ 5 → σ2 10 i = σ 10 i := fun i hi => by
        rw [fr2 10 (by decide) (by decide) (by decide) (by decide), us_n _ _ _ (by decide), us_n _ _ _ (by decide)]
        exact fr10 i hi
      have hInv : Inv σ2 := ⟨n, d, t, c, h, r, q, F, y, hpl.fr (congrFun (t2 1 (by decide)) 4) (t213 7 (by decide) (by decide)) (t2 14 (by decide)) (t2 15 (by decide)) (t2 16 (by decide)) (t2 17 (by decide)) (t2 58 (by decide)) (t2 59 (by decide)) (t2 60 (by decide)) (t2 61 (by decide)), hdr.fr (congrFun (t2 2 (by decide)) 2) (t213 8 (by decide) (by decide)) (t2 18 (by decide)) (t2 62 (by decide)), hsh.fr (t2 19 (by decide)) (t2 63 (by decide)) (t2 64 (by decide)), htp.fr (congrFun (t2 3 (by decide)) 2) (t213 34 (by decide) (by decide)) (t2 25 (by decide)) (t2 76 (by decide)), hmt.fr (congrFun (t2 4 (by decide)) 3) (t213 35 (by decide) (by decide)) (t2 26 (by decide)) (t2 27 (by decide)) (t2 28 (by decide)) (t2 77 (by decide)) (t2 78 (by decide)) (t2 79 (by decide)), has.fr (t2 29 (by decide)) (t2 72 (by decide)), hct.fr (congrFun (t2 7 (by decide)) 13) (t213 14 (by decide) (by decide)) (congrFun (t2 7 (by decide)) 14) (t213 11 (by decide) (by decide)) (congrFun (t2 7 (by decide)) 15) (t213 12 (by decide) (by decide)) (congrFun (t2 7 (by decide)) 16) (t213 13 (by decide) (by decide)) (t2 31 (by decide)) (t2 32 (by decide)) (t2 33 (by decide)) (t2 34 (by decide)) (t2 35 (by decide)) (t2 36 (by decide)) (t2 37 (by decide)) (t2 65 (by decide)), hrd.fr (congrFun (t2 6 (by decide)) 1) (t213 15 (by decide) (by decide)) (t2 30 (by decide)) (t2 67 (by decide)) (t2 68 (by decide)) (t2 69 (by decide)) (t2 70 (by decide)) (t2 71 (by decide)), hln.fr (congrFun (t2 9 (by decide)) 4) (t213 42 (by decide) (by decide)) (t2 47 (by decide)) (t2 48 (by decide)) (t2 49 (by decide)) (t2 84 (by decide)) (t2 85 (by decide)) (t2 86 (by decide)), hfl.fr (t210 2 (by decide)) (t213 47 (by decide) (by decide)) (t2 51 (by decide)) (t2 88 (by decide)), hli.fr (congrFun (t2 11 (by decide)) 1) (t213 51 (by decide) (by decide)) (t2 54 (by decide)) (t2 92 (by decide))⟩
      refine br_i (fun z => fin ?_ hInv) (fun z => br_i (fun z2 => fin ?_ hInv) (fun z2 => ?_))
      · rw [w1 z, c48, u1]
      · rw [w2 z2, c49]
      · obtain ⟨k, hk, rfl⟩ := nat_of (x := x) (b := F + 1) hx.1 hx.2
        have hk2 : 2 ≤ k := by
          have a0 : k ≠ 0 := fun e => z (by rw [e]; rfl)
          have a1 : k ≠ 1 := fun e => z2 (by rw [e]; rfl)
          omega
        have es : nI k - 2 = nI (k - 2) := nI_subn (q := 2) hk2 (by omega)
        rw [es, cl_nI (by omega), c90 (k - 2) (by omega)]
        exact ⟨in_nI (by omega) (by decide), fin (w3 (k - 2) (by omega) (by rw [show k - 2 + 2 = k by omega])) hInv⟩
    refine ⟨fun z => ?_, fun z => ⟨fun z2 => ?_, fun z2 => ?_⟩⟩
    · refine kR _ (fun tb hAl hR => ⟨fun _ => k5, fun z2 => absurd (z.symm.trans z2) (by decide), fun f hf' z2 => ?_⟩)
      exact absurd (z.symm.trans z2) (fun e => by
        have := (nI_eq (a := 0) (b := f + 2) (by omega) (by omega)).mp e
        omega)
    · refine b_X2_asksTogether_0 (c_every hSe1 ⟨in_nI (by omega) (by decide), ?_⟩)
      refine kR _ (fun tb hAl hR => ⟨fun z3 => absurd z3 z, fun _ => ?_, fun f hf' z3 => ?_⟩)
      · rw [cl_nI (by omega), k52, show nI v >>> ((18 : Int32) &&& 31) = nI (v >>> 18) from nI_shr (k := 18) (by omega) (by omega), Nat.shiftRight_eq_div_pow, hR]
        congr 1
        exact dec_a hF (fun f hf' => (hAl f hf').1)
      · exact absurd (z2.symm.trans z3) (fun e => by
          have := (nI_eq (a := 1) (b := f + 2) (by omega) (by omega)).mp e
          omega)
    · obtain ⟨k, hk, rfl⟩ := nat_of (x := x) (b := F + 1) hx.1 hx.2
      have hk2 : 2 ≤ k := by
        have a0 : k ≠ 0 := fun e => z (by rw [e]; rfl)
        have a1 : k ≠ 1 := fun e => z2 (by rw [e]; rfl)
        omega
      have es : nI k - 2 = nI (k - 2) := nI_subn (q := 2) hk2 (by omega)
      rw [es]
      refine b_X2_hourOf_0 _ (c_every hSe1 ⟨in_nI (by omega) (by decide), b_X2_lowestBit_0 _ ?_⟩)
      refine kR _ (fun tb hAl hR => ⟨fun z3 => absurd z3 z, fun z3 => absurd z3 z2, fun f hf' z3 => ?_⟩)
      have ef : f = k - 2 := by
        have := (nI_eq (by omega) (by omega)).mp z3
        omega
      subst ef
      have e3 : (3 : Int32) * (5 - nI (k - 2)) = nI (3 * (5 - (k - 2))) := by
        rw [show (5 : Int32) = nI 5 from rfl, nI_subn (by omega) (by omega), show (3 : Int32) = nI 3 from rfl, pk_mul]
      rw [cl_nI (by omega), k52, e3, nI_shr (by omega) (by omega), show (7 : Int32) = nI 7 from rfl, nI_and, Nat.shiftRight_eq_div_pow, pw8]
      congr 2
      rw [show (7 : Nat) = 2 ^ 3 - 1 from rfl, Nat.and_two_pow_sub_one_eq_mod, hR]
      exact dec_t hF hf' (fun f hf' => (hAl f hf').1)
  · refine b_X10_spread_0 _ (wf hx (br0 ?_) (by decide) hb1)
    exact b_X11_spread_0 _ (ni_f hx (br0 (fin rfl hI0)) (by decide) hb2)
end SpreadG
