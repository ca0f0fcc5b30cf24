/-! spreading, in the reference -/
theorem ffd_min (g : Nat → Bool) : ∀ f k, k ≤ ffd g f k ∧ ffd g f k ≤ k + f ∧ ∀ j, k ≤ j → j < ffd g f k → g j = false
  | 0, k => ⟨Nat.le_refl _, Nat.le_refl _, fun j h1 h2 => absurd h2 (by show ¬ j < k; omega)⟩
  | f + 1, k => by
    unfold ffd
    by_cases c : g k = true
    · rw [if_pos c]; exact ⟨Nat.le_refl _, by omega, fun j h1 h2 => by omega⟩
    · rw [if_neg c]
      obtain ⟨h1, h2, h3⟩ := ffd_min g f (k + 1)
      refine ⟨by omega, by omega, fun j h4 h5 => ?_⟩
      by_cases e : j = k
      · rw [e]
        cases hq : g k
        · rfl
        · exact absurd hq c
      · exact h3 j (by omega) h5
/-- the first hour from one on that a fleet can have, or 8 -/
def hf (st : Nat → Nat) (f i : Nat) : Nat := ffd (fun h => (st f).testBit h) (8 - i) i
theorem hf_spec {st : Nat → Nat} {f i : Nat} (hi : i ≤ 8) : i ≤ hf st f i ∧ hf st f i ≤ 8 ∧ (hf st f i < 8 → (st f).testBit (hf st f i) = true) ∧ ∀ h, i ≤ h → h < hf st f i → (st f).testBit h = false := by
  obtain ⟨h1, h2, h3⟩ := ffd_min (fun h => (st f).testBit h) (8 - i) i
  refine ⟨h1, by show ffd _ _ _ ≤ 8; omega, fun h => ?_, h3⟩
  rcases ffd_spec (fun h => (st f).testBit h) (8 - i) i with ⟨h4, _⟩ | ⟨_, h5⟩
  · have : hf st f i = i + (8 - i) := h4
    omega
  · exact h5
def Sr (F : Nat) (st A : Nat → Nat) (σ : ax_Sg) : Prop := F ≤ 6 ∧ σ 13 47 = nI F ∧ (∀ f, f < F → σ 88 f = nI (st f) ∧ st f < 256 ∧ hf st f 0 < 8) ∧ ∀ h, h < 8 → A h ≤ 100 ∧ A h = sm (fun w => tN (σ 72 ((12 + h) * 5 + w))) 5 ∧ ∀ w, w < 5 → σ 72 ((12 + h) * 5 + w) = nI (tN (σ 72 ((12 + h) * 5 + w)))
section SpreadR
variable {l : Launch} {P : Option Value → ax_Sg → Prop} {σ : ax_Sg} {F : Nat} {st A t : Nat → Nat}
theorem Sr.fr {σ' : ax_Sg} (hs : Sr F st A σ) (e13 : σ' 13 47 = σ 13 47) (e88 : σ' 88 = σ 88) (e72 : σ' 72 = σ 72) : Sr F st A σ' := by
  unfold Sr at hs ⊢
  rw [e13, e88, e72]
  exact hs
theorem m_asksAt (hs : Sr F st A σ) {i : Nat} (hi : i < 8) (hP : P (some (.int (nI (A i)))) σ) : Ev l 161 0 [some (.ref 13), some (.int (nI i)), none, none] [] σ P := by
  obtain ⟨_, _, _, h4⟩ := hs
  obtain ⟨_, hA, hw⟩ := h4 i hi
  have loop : ∀ m w, 5 - w = m → w ≤ 5 → Ev l 161 4 [some (.ref 13), some (.int (nI i)), some (.int (nI (sm (fun w => tN (σ 72 ((12 + i) * 5 + w))) w))), some (.int (nI w))] [] σ P := by
    intro m
    induction m with
    | zero =>
      intro w hm hw5
      have : w = 5 := by omega
      subst this
      rw [hA] at hP
      exact b_X11_asksAt_4 _ _ _ (br_f' (nI_nlt (a := 5) (b := 5) (Nat.le_refl _) (by omega)) hP)
    | succ m ih =>
      intro w hm hw5
      refine b_X11_asksAt_4 _ _ _ (br_t' (nI_lt (b := 5) (by omega) (by omega)) ?_)
      rw [show (5 : Int32) * (12 + nI i) + nI w = nI ((12 + i) * 5 + w) by rw [show (12 : Int32) = nI 12 from rfl, nI_add, show (5 : Int32) = nI 5 from rfl, pk_mul, nI_add, Nat.mul_comm], cl_nI (by omega), hw w (by omega), nI_1, nI_add]
      exact ⟨in_nI (by omega) (by decide), ih (w + 1) (by omega) (by omega)⟩
  exact b_X11_asksAt_0 _ (loop 5 0 (by omega) (by omega))
theorem m_from (hs : Sr F st A σ) {f i : Nat} (hf' : f < F) (hi : i ≤ 8) (hP : P (some (.int (nI (hf st f i)))) σ) : Ev l 163 0 [some (.ref 13), some (.int (nI f)), some (.int (nI i)), none] [] σ P := by
  obtain ⟨h1, _, h3, _⟩ := hs
  obtain ⟨q1, q2, _⟩ := h3 f hf'
  have loop : ∀ m k, 8 - k = m → k ≤ 8 → ffd (fun h => (st f).testBit h) (8 - k) k = hf st f i → Ev l 163 2 [some (.ref 13), some (.int (nI f)), none, some (.int (nI k))] [] σ P := by
    intro m
    induction m with
    | zero =>
      intro k hm hk hff
      have : k = 8 := by omega
      subst this
      have : hf st f i = 8 := hff.symm
      rw [this] at hP
      exact b_X11_hourFrom_2 _ _ (br_f' (nI_nlt (a := 8) (b := 8) (Nat.le_refl _) (by omega)) hP)
    | succ m ih =>
      intro k hm hk hff
      rw [show 8 - k = (8 - (k + 1)) + 1 by omega] at hff
      unfold ffd at hff
      refine b_X11_hourFrom_2 _ _ (br_t' (nI_lt (b := 8) (by omega) (by omega)) ⟨in_nI (by omega) (by decide), ?_⟩)
      rw [cl_nI (by omega), q1, nI_bit1 (by omega) (by omega), nI_1]
      by_cases c : (st f).testBit k = true
      · rw [if_pos c] at hff
        rw [c]
        rw [← hff] at hP
        exact br_f' (by decide) hP
      · rw [if_neg c] at hff
        rw [bit_tf c]
        exact br_t' rfl (ih (k + 1) (by omega) (by omega) hff)
  exact b_X11_hourFrom_0 _ _ (loop (8 - i) i rfl hi rfl)
def Tk (F : Nat) (t : Nat → Nat) (σ : ax_Sg) : Prop := ∀ f, f < F → σ 89 f = nI (t f)
theorem m_looks (hs : Sr F st A σ) (ht : Al F st t) (hT : Tk F t σ) {bM bA : Nat} (hbM : bM ≤ 100) (hbA : bA ≤ 600) (e48 : σ 13 48 = nI bM) (e49 : σ 13 49 = nI bA) (hY : (ms t F < bM ∨ (ms t F = bM ∧ sm (fun f => A (t f)) F < bA)) → ∀ σ', (∀ j, j ≠ 91 → j ≠ 90 → j ≠ 13 → σ' j = σ j) → (∀ i, i ≠ 48 → i ≠ 49 → σ' 13 i = σ 13 i) → σ' 13 48 = nI (ms t F) → σ' 13 49 = nI (sm (fun f => A (t f)) F) → (∀ f, f < F → σ' 90 f = nI (t f)) → P none σ') (hN : ¬ (ms t F < bM ∨ (ms t F = bM ∧ sm (fun f => A (t f)) F < bA)) → ∀ σ', (∀ j, j ≠ 91 → σ' j = σ j) → P none σ') : Ev l 162 0 [some (.ref 13), none, none, none] [] σ P := by
  have hs' := hs
  obtain ⟨h1, h2, h3, h4⟩ := hs
  have hms : ∀ k, ms t k ≤ k := fun k => (ms_le k).mpr (fun h => cn_le _ _)
  have has : ∀ k, k ≤ F → sm (fun f => A (t f)) k ≤ 600 := by
    intro k hk
    have := sm_le (u := fun f => A (t f)) (b := 100) k (fun f hf => (h4 (t f) (ht f (by omega)).1).1)
    have h6 : k * 100 ≤ 6 * 100 := Nat.mul_le_mul_right _ (by omega)
    omega
  have l3 : ∀ m k σ', F - k = m → k ≤ F → (∀ j, j ≠ 91 → j ≠ 90 → j ≠ 13 → σ' j = σ j) → (∀ i, i ≠ 48 → i ≠ 49 → σ' 13 i = σ 13 i) → σ' 13 48 = nI (ms t F) → σ' 13 49 = nI (sm (fun f => A (t f)) F) → (∀ f, f < k → σ' 90 f = nI (t f)) → (ms t F < bM ∨ (ms t F = bM ∧ sm (fun f => A (t f)) F < bA)) → Ev l 162 133 [some (.ref 13), none, none, some (.int (nI k))] [] σ' P := by
    intro m
    induction m with
    | zero =>
      intro k σ' hm hk fr fr13 a48 a49 h90 hy
      have : k = F := by omega
      subst this
      exact b_X11_looks_133 _ (br_f' (by rw [fr13 47 (by decide) (by decide), h2]; exact nI_nlt (Nat.le_refl _) (by omega)) (hY hy σ' fr fr13 a48 a49 h90))
    | succ m ih =>
      intro k σ' hm hk fr fr13 a48 a49 h90 hy
      refine b_X11_looks_133 _ (br_t' (by rw [fr13 47 (by decide) (by decide), h2]; exact nI_lt (by omega) (by omega)) ?_)
      rw [cl_nI (by omega), nI_1, fr 89 (by decide) (by decide) (by decide), hT k (by omega)]
      refine ⟨in_nI (by omega) (by decide), in_nI (by omega) (by decide), ih (k + 1) _ (by omega) (by omega) (fun j b1 b2 b3 => ?_) (fun i b1 b2 => ?_) ?_ ?_ (fun f hf' => ?_) hy⟩
      · rw [us_n _ _ _ b2]; exact fr j b1 b2 b3
      · rw [us_n _ _ _ (by decide)]; exact fr13 i b1 b2
      · rw [us_n _ _ _ (by decide)]; exact a48
      · rw [us_n _ _ _ (by decide)]; exact a49
      · rw [us_s]
        by_cases e : f = k
        · rw [e, upd_s]
        · rw [upd_n _ _ e]; exact h90 f (by omega)
  have l2 : ∀ m k σ', F - k = m → k ≤ F → (∀ j, j ≠ 91 → σ' j = σ j) → (∀ h, h < 8 → σ' 91 h = nI (cn (fun f => t f == h) k)) → Ev l 162 27 [some (.ref 13), some (.int (nI (ms t k))), some (.int (nI (sm (fun f => A (t f)) k))), some (.int (nI k))] [] σ' P := by
    intro m
    induction m with
    | zero =>
      intro k σ' hm hk fr h91
      have : k = F := by omega
      subst this
      have hm1 := hms k
      have ha1 := has k (Nat.le_refl _)
      have k13 : σ' 13 = σ 13 := fr 13 (by decide)
      refine b_X11_looks_27 _ _ _ (br_f' (by rw [k13, h2]; exact nI_nlt (Nat.le_refl _) (by omega)) ?_)
      rw [k13, e48, e49]
      have go : (ms t k < bM ∨ (ms t k = bM ∧ sm (fun f => A (t f)) k < bA)) → Ev l 162 133 [some (.ref 13), none, none, some (.int 0)] [] (ax_us (ax_us σ' 13 48 (nI (ms t k))) 13 49 (nI (sm (fun f => A (t f)) k))) P := by
        intro hy
        refine l3 k 0 _ (by omega) (by omega) (fun j b1 b2 b3 => ?_) (fun i b1 b2 => ?_) rfl rfl (fun f hf' => absurd hf' (by omega)) hy
        · rw [us_n _ _ _ b3, us_n _ _ _ b3]; exact fr j b1
        · rw [us_s, upd_n _ _ b2, us_s, upd_n _ _ b1, k13]
      refine br_i (fun z => hN ?_ σ' fr) (fun z => br_i (fun z2 => br_i (fun z3 => go ?_) (fun z3 => hN ?_ σ' fr)) (fun z2 => go ?_))
      · have : bM < ms t k := by
          by_cases y : bM < ms t k
          · exact y
          · exact absurd z (nI_nlt (by omega) (by omega))
        omega
      · have y2 := (nI_eq (by omega) (by omega)).mp z2
        have : sm (fun f => A (t f)) k < bA := by
          by_cases y : sm (fun f => A (t f)) k < bA
          · exact y
          · exact absurd z3 (nI_nlt (by omega) (by omega))
        omega
      · have y2 := (nI_eq (by omega) (by omega)).mp z2
        have : ¬ sm (fun f => A (t f)) k < bA := fun y => z3 (nI_lt y (by omega))
        omega
      · have y1 : ¬ bM < ms t k := fun y => z (nI_lt y (by omega))
        have y2 : ms t k ≠ bM := fun y => z2 (by rw [y])
        omega
    | succ m ih =>
      intro k σ' hm hk fr h91
      have k13 : σ' 13 = σ 13 := fr 13 (by decide)
      obtain ⟨t8, tb⟩ := ht k (by omega)
      have hck : cn (fun f => t f == t k) k ≤ k := cn_le _ _
      have hck1 : cn (fun f => t f == t k) (k + 1) = cn (fun f => t f == t k) k + 1 := by
        show cn (fun f => t f == t k) k + (t k == t k).toNat = _
        rw [beq_self_eq_true]; rfl
      have hs2 : Sr F st A (ax_us σ' 91 (t k) (nI (cn (fun f => t f == t k) (k + 1)))) := hs'.fr (by rw [us_n _ _ _ (by decide), k13]) (by rw [us_n _ _ _ (by decide)]; exact fr 88 (by decide)) (by rw [us_n _ _ _ (by decide)]; exact fr 72 (by decide))
      have h91' : ∀ h, h < 8 → (ax_us σ' 91 (t k) (nI (cn (fun f => t f == t k) (k + 1)))) 91 h = nI (cn (fun f => t f == h) (k + 1)) := by
        intro h hh
        rw [us_s]
        by_cases e : h = t k
        · rw [e, upd_s]
        · rw [upd_n _ _ e, h91 h hh]
          congr 1
          show _ = cn (fun f => t f == h) k + (t k == h).toNat
          rw [beq_eq_false_iff_ne.mpr (fun z => e z.symm)]; rfl
      have hm1 := hms k
      refine b_X11_looks_27 _ _ _ (br_t' (by rw [k13, h2]; exact nI_lt (by omega) (by omega)) ?_)
      rw [cl_nI (n := k) (by omega), fr 89 (by decide), hT k (by omega), cl_nI (n := t k) (by omega), h91 (t k) t8, nI_1, nI_1, upd_s, ← hck1]
      refine ⟨in_nI (by omega) (by decide), in_nI t8 (by decide), in_nI t8 (by decide), in_nI (by omega) (by decide), in_nI t8 (by decide), br_i (fun z => ⟨in_nI (by omega) (by decide), in_nI t8 (by decide), in_nI (by omega) (by decide), m_asksAt hs2 t8 ?_⟩) (fun z => ⟨in_nI (by omega) (by decide), m_asksAt hs2 t8 ?_⟩)⟩
      · have y : ms t k < cn (fun f => t f == t k) (k + 1) := by
          by_cases y : ms t k < cn (fun f => t f == t k) (k + 1)
          · exact y
          · exact absurd z (nI_nlt (by omega) (by omega))
        show Ev l 162 27 [some (.ref 13), some (.int (nI (cn (fun f => t f == t k) (k + 1)))), some (.int (nI (sm (fun f => A (t f)) k) + nI (A (t k)))), some (.int (nI (k + 1)))] [] _ P
        rw [nI_add]
        have ih' := ih (k + 1) _ (by omega) (by omega) (fun j hj => by rw [us_n _ _ _ hj]; exact fr j hj) h91'
        rw [show ms t (k + 1) = cn (fun f => t f == t k) (k + 1) from Nat.max_eq_right (by omega)] at ih'
        exact ih'
      · have y : ¬ ms t k < cn (fun f => t f == t k) (k + 1) := fun y => z (nI_lt y (by omega))
        show Ev l 162 27 [some (.ref 13), some (.int (nI (ms t k))), some (.int (nI (sm (fun f => A (t f)) k) + nI (A (t k)))), some (.int (nI (k + 1)))] [] _ P
        rw [nI_add]
        have ih' := ih (k + 1) _ (by omega) (by omega) (fun j hj => by rw [us_n _ _ _ hj]; exact fr j hj) h91'
        rw [show ms t (k + 1) = ms t k from Nat.max_eq_left (by omega)] at ih'
        exact ih'
  have l1 : ∀ m k σ', 8 - k = m → k ≤ 8 → (∀ j, j ≠ 91 → σ' j = σ j) → (∀ h, h < k → σ' 91 h = 0) → Ev l 162 6 [some (.ref 13), some (.int 0), some (.int 0), some (.int (nI k))] [] σ' P := by
    intro m
    induction m with
    | zero =>
      intro k σ' hm hk fr h91
      have : k = 8 := by omega
      subst this
      exact b_X11_looks_6 _ _ _ (br_f' (nI_nlt (a := 8) (b := 8) (Nat.le_refl _) (by omega)) (l2 F 0 σ' (by omega) (by omega) fr (fun h hh => h91 h hh)))
    | succ m ih =>
      intro k σ' hm hk fr h91
      refine b_X11_looks_6 _ _ _ (br_t' (nI_lt (b := 8) (by omega) (by omega)) ?_)
      rw [cl_nI (by omega), nI_1]
      refine ⟨in_nI (by omega) (by decide), ih (k + 1) _ (by omega) (by omega) (fun j hj => ?_) (fun h hh => ?_)⟩
      · rw [us_n _ _ _ hj]; exact fr j hj
      · rw [us_s]
        by_cases e : h = k
        · rw [e, upd_s]
        · rw [upd_n _ _ e]; exact h91 h (by omega)
  exact b_X11_looks_0 (l1 8 0 σ (by omega) (by omega) (fun _ _ => rfl) (fun h hh => absurd hh (by omega)))
end SpreadR
