/-! THE INVARIANT between the class's cells and the reference's, in parts; each part's frame -/
section AxWt
variable {l : Launch} {σ : ax_Sg} {P : Option Value → ax_Sg → Prop} {x a b : Int32} {j0 j1 j2 : Int64} {ai bi : Int}
theorem wt (h : ai ≤ x.toInt ∧ x.toInt ≤ bi) (k : P (some (.int 1)) σ) (ha : a.toInt = ai := by decide) (hb : b.toInt = bi := by decide) : Ev l 102 0 [some (.int x), some (.int a), some (.int b)] [] σ P := c_within x a b (fun _ => k) (fun n => absurd (by rw [ha, hb]; exact h) n)
theorem wf (h : ¬ (ai ≤ x.toInt ∧ x.toInt ≤ bi)) (k : P (some (.int 0)) σ) (ha : a.toInt = ai := by decide) (hb : b.toInt = bi := by decide) : Ev l 102 0 [some (.int x), some (.int a), some (.int b)] [] σ P := c_within x a b (fun n => absurd (by rw [ha, hb] at n; exact n) h) (fun _ => k)
theorem ni_t (h : ai ≤ x.toInt ∧ x.toInt ≤ bi) (k : P (some (.int 1)) σ) (ha : j1.toInt = ai := by decide) (hb : j2.toInt = bi := by decide) : Ev l 108 0 [some (.long (Int32.toInt64 x)), none, some (.long j1), none, some (.long j2), none] [] σ P := c_isInI x j1 j2 (fun _ => k) (fun n => absurd (by rw [ha, hb]; exact h) n)
theorem ni_f (h : ¬ (ai ≤ x.toInt ∧ x.toInt ≤ bi)) (k : P (some (.int 0)) σ) (ha : j1.toInt = ai := by decide) (hb : j2.toInt = bi := by decide) : Ev l 108 0 [some (.long (Int32.toInt64 x)), none, some (.long j1), none, some (.long j2), none] [] σ P := c_isInI x j1 j2 (fun n => absurd (by rw [ha, hb] at n; exact n) h) (fun _ => k)
theorem ward_t (h : 0 ≤ x.toInt ∧ x.toInt ≤ 4) (k : P (some (.int 1)) σ) : Ev l 103 0 [some (.int x)] [] σ P := b_X10_isWard_0 x (wt h ⟨nar1, k⟩)
theorem ward_f (h : ¬ (0 ≤ x.toInt ∧ x.toInt ≤ 4)) (k : P (some (.int 0)) σ) : Ev l 103 0 [some (.int x)] [] σ P := b_X10_isWard_0 x (wf h ⟨nar0, k⟩)
theorem mward_t (h : 0 ≤ x.toInt ∧ x.toInt ≤ 4) (k : P (some (.int 1)) σ) : Ev l 111 0 [some (.int x)] [] σ P := by
  have h5 : (5 : Int32).toInt = 5 := by decide
  have h0 : (0 : Int32).toInt = 0 := by decide
  refine b_X11_isWard_0 x (br_f' ?_ (br_t' ?_ ⟨nar1, k⟩))
  · rw [lt_toInt, h0]; omega
  · rw [lt_toInt, h5]; omega
theorem mward_f (h : ¬ (0 ≤ x.toInt ∧ x.toInt ≤ 4)) (k : P (some (.int 0)) σ) : Ev l 111 0 [some (.int x)] [] σ P := by
  have h5 : (5 : Int32).toInt = 5 := by decide
  have h0 : (0 : Int32).toInt = 0 := by decide
  refine b_X11_isWard_0 x (br_i (fun _ => ⟨nar0, k⟩) (fun h1 => br_f' ?_ ⟨nar0, k⟩))
  rw [lt_toInt, h0] at h1
  rw [lt_toInt, h5]; omega
theorem rent_t (h : 0 ≤ x.toInt ∧ x.toInt ≤ 9999) (h2 : 0 ≤ a.toInt ∧ a.toInt ≤ 9999) (k : P (some (.int 1)) σ) : Ev l 104 0 [some (.int x), some (.int a)] [] σ P := b_X10_isRent_0 x a (wt h (br1 (wt h2 (br1 ⟨nar1, k⟩))))
theorem rent_f (h : ¬ ((0 ≤ x.toInt ∧ x.toInt ≤ 9999) ∧ (0 ≤ a.toInt ∧ a.toInt ≤ 9999))) (k : P (some (.int 0)) σ) : Ev l 104 0 [some (.int x), some (.int a)] [] σ P := by
  refine b_X10_isRent_0 x a ?_
  by_cases h1 : 0 ≤ x.toInt ∧ x.toInt ≤ 9999
  · exact wt h1 (br1 (wf (ai := 0) (bi := 9999) (fun h2 => h ⟨h1, h2⟩) (br0 ⟨nar0, k⟩)))
  · exact wf h1 (br0 ⟨nar0, k⟩)
/-- a size less 1 -/
theorem sub1_toInt {n : Nat} (hn : n < 2 ^ 30) : (nI n - 1).toInt = (n : Int) - 1 := pk_sub_toInt (a := n) (b := 1) hn (by decide)
theorem pl_t {n p : Nat} (hn : n ≤ 12) (hs : σ 1 4 = nI n) (hp : p < n) (k : P (some (.int 1)) σ) : Ev l 41 0 [some (.ref 1), some (.int (nI p))] [] σ P := by
  refine b_X6_has_0 (nI p) ?_
  rw [hs]
  exact wt (ai := 0) (bi := (n : Int) - 1) (by rw [nI_toInt (by omega)]; omega) ⟨nar1, k⟩ (by decide) (sub1_toInt (by omega))
theorem pl_f {n : Nat} (hn : n ≤ 12) (hs : σ 1 4 = nI n) (hp : ¬ (0 ≤ x.toInt ∧ x.toInt < n)) (k : P (some (.int 0)) σ) : Ev l 41 0 [some (.ref 1), some (.int x)] [] σ P := by
  refine b_X6_has_0 x ?_
  rw [hs]
  exact wf (ai := 0) (bi := (n : Int) - 1) (by omega) ⟨nar0, k⟩ (by decide) (sub1_toInt (by omega))
theorem mpl_t {n p : Nat} (hn : n ≤ 12) (hs : σ 13 7 = nI n) (hp : p < n) (k : P (some (.int 1)) σ) : Ev l 109 0 [some (.ref 13), some (.int (nI p))] [] σ P := by
  refine b_X11_isPlate_0 (nI p) (br_f' (nI_pos (by omega)) (br_t' ?_ ⟨nar1, k⟩))
  rw [hs]; exact nI_lt hp (by omega)
theorem mpl_f {n : Nat} (hn : n ≤ 12) (hs : σ 13 7 = nI n) (hp : ¬ (0 ≤ x.toInt ∧ x.toInt < n)) (k : P (some (.int 0)) σ) : Ev l 109 0 [some (.ref 13), some (.int x)] [] σ P := by
  have h0 : (0 : Int32).toInt = 0 := by decide
  refine b_X11_isPlate_0 x (br_i (fun _ => ⟨nar0, k⟩) (fun h1 => br_f' ?_ ⟨nar0, k⟩))
  rw [lt_toInt, h0] at h1
  rw [hs, lt_toInt, nI_toInt (by omega)]
  omega
theorem dr_t {n p : Nat} (hn : n ≤ 16) (hs : σ 2 2 = nI n) (hp : p < n) (k : P (some (.int 1)) σ) : Ev l 53 0 [some (.ref 2), some (.int (nI p))] [] σ P := by
  refine b_X8_hasDriver_0 (nI p) ?_
  rw [hs]
  exact wt (ai := 0) (bi := (n : Int) - 1) (by rw [nI_toInt (by omega)]; omega) ⟨nar1, k⟩ (by decide) (sub1_toInt (by omega))
theorem dr_f {n : Nat} (hn : n ≤ 16) (hs : σ 2 2 = nI n) (hp : ¬ (0 ≤ x.toInt ∧ x.toInt < n)) (k : P (some (.int 0)) σ) : Ev l 53 0 [some (.ref 2), some (.int x)] [] σ P := by
  refine b_X8_hasDriver_0 x ?_
  rw [hs]
  exact wf (ai := 0) (bi := (n : Int) - 1) (by omega) ⟨nar0, k⟩ (by decide) (sub1_toInt (by omega))
theorem mdr_t {n p : Nat} (hn : n ≤ 16) (hs : σ 13 8 = nI n) (hp : p < n) (k : P (some (.int 1)) σ) : Ev l 110 0 [some (.ref 13), some (.int (nI p))] [] σ P := by
  refine b_X11_isDriver_0 (nI p) (br_f' (nI_pos (by omega)) (br_t' ?_ ⟨nar1, k⟩))
  rw [hs]; exact nI_lt hp (by omega)
theorem mdr_f {n : Nat} (hn : n ≤ 16) (hs : σ 13 8 = nI n) (hp : ¬ (0 ≤ x.toInt ∧ x.toInt < n)) (k : P (some (.int 0)) σ) : Ev l 110 0 [some (.ref 13), some (.int x)] [] σ P := by
  have h0 : (0 : Int32).toInt = 0 := by decide
  refine b_X11_isDriver_0 x (br_i (fun _ => ⟨nar0, k⟩) (fun h1 => br_f' ?_ ⟨nar0, k⟩))
  rw [lt_toInt, h0] at h1
  rw [hs, lt_toInt, nI_toInt (by omega)]
  omega
end AxWt
/-- a small number, or not -/
theorem nI_case (x : Int32) (n : Nat) (hn : n < 2 ^ 31) : (∃ p, p < n ∧ x = nI p) ∨ ¬ (0 ≤ x.toInt ∧ x.toInt < n) := by
  by_cases h : 0 ≤ x.toInt ∧ x.toInt < n
  · left
    refine ⟨x.toInt.toNat, by omega, ?_⟩
    apply Int32.toInt_inj.mp
    rw [nI_toInt (by omega)]
    omega
  · exact Or.inr h
def rg (a b : Int) (x : Int32) : Prop := a ≤ x.toInt ∧ x.toInt ≤ b
def iv_pl (n : Nat) (σ : ax_Sg) : Prop := n ≤ 12 ∧ σ 1 4 = nI n ∧ σ 13 7 = nI n ∧ ∀ p, p < n → σ 14 p = σ 58 p ∧ σ 15 p = σ 59 p ∧ σ 16 p = σ 60 p ∧ σ 17 p = σ 61 p ∧ rg 0 3 (σ 14 p) ∧ rg 0 9999 (σ 16 p) ∧ rg 0 9999 (σ 17 p)
theorem iv_pl.fr {n : Nat} {σ σ' : ax_Sg} (h : iv_pl n σ) (h1 : σ' 1 4 = σ 1 4 := by rfl) (h2 : σ' 13 7 = σ 13 7 := by rfl) (e1 : σ' 14 = σ 14 := by rfl) (e2 : σ' 15 = σ 15 := by rfl) (e3 : σ' 16 = σ 16 := by rfl) (e4 : σ' 17 = σ 17 := by rfl) (f1 : σ' 58 = σ 58 := by rfl) (f2 : σ' 59 = σ 59 := by rfl) (f3 : σ' 60 = σ 60 := by rfl) (f4 : σ' 61 = σ 61 := by rfl) : iv_pl n σ' := by
  unfold iv_pl at h ⊢
  rw [h1, h2, e1, e2, e3, e4, f1, f2, f3, f4]
  exact h
def iv_dr (d : Nat) (σ : ax_Sg) : Prop := d ≤ 16 ∧ σ 2 2 = nI d ∧ σ 13 8 = nI d ∧ ∀ k, k < d → σ 18 k = σ 62 k ∧ rg 0 2 (σ 18 k)
theorem iv_dr.fr {d : Nat} {σ σ' : ax_Sg} (h : iv_dr d σ) (h1 : σ' 2 2 = σ 2 2 := by rfl) (h2 : σ' 13 8 = σ 13 8 := by rfl) (e1 : σ' 18 = σ 18 := by rfl) (f1 : σ' 62 = σ 62 := by rfl) : iv_dr d σ' := by
  unfold iv_dr at h ⊢
  rw [h1, h2, e1, f1]
  exact h
def iv_sh (n d : Nat) (σ : ax_Sg) : Prop := (∀ p, p < n → σ 19 (2 * p) = σ 63 p ∧ σ 19 (2 * p + 1) = σ 64 p) ∧ (∀ i, 2 * n ≤ i → i < 24 → σ 19 i = -1) ∧ (∀ i, i < 24 → σ 19 i = -1 ∨ ∃ k, k < d ∧ σ 19 i = nI k) ∧ ∀ i j, i < 24 → j < 24 → σ 19 i = σ 19 j → ¬ σ 19 i = -1 → i = j
theorem iv_sh.fr {n d : Nat} {σ σ' : ax_Sg} (h : iv_sh n d σ) (e1 : σ' 19 = σ 19 := by rfl) (f1 : σ' 63 = σ 63 := by rfl) (f2 : σ' 64 = σ 64 := by rfl) : iv_sh n d σ' := by
  unfold iv_sh at h ⊢
  rw [e1, f1, f2]
  exact h
def iv_tp (t : Nat) (σ : ax_Sg) : Prop := t ≤ 120 ∧ σ 3 2 = nI t ∧ σ 13 34 = nI t ∧ ∀ i, i < t → σ 25 i = σ 76 i ∧ rg 0 255 (σ 25 i)
theorem iv_tp.fr {t : Nat} {σ σ' : ax_Sg} (h : iv_tp t σ) (h1 : σ' 3 2 = σ 3 2 := by rfl) (h2 : σ' 13 34 = σ 13 34 := by rfl) (e1 : σ' 25 = σ 25 := by rfl) (f1 : σ' 76 = σ 76 := by rfl) : iv_tp t σ' := by
  unfold iv_tp at h ⊢
  rw [h1, h2, e1, f1]
  exact h
def iv_mt (c : Nat) (σ : ax_Sg) : Prop := c ≤ 6 ∧ σ 4 3 = nI c ∧ σ 13 35 = nI c ∧ ∀ i, i < c → σ 26 i = σ 77 i ∧ rg 0 5 (σ 26 i) ∧ σ 28 i = σ 79 i ∧ rg 0 9999 (σ 28 i) ∧ (σ 26 i = 3 → σ 27 i = σ 78 i)
theorem iv_mt.fr {c : Nat} {σ σ' : ax_Sg} (h : iv_mt c σ) (h1 : σ' 4 3 = σ 4 3 := by rfl) (h2 : σ' 13 35 = σ 13 35 := by rfl) (e1 : σ' 26 = σ 26 := by rfl) (e2 : σ' 27 = σ 27 := by rfl) (e3 : σ' 28 = σ 28 := by rfl) (f1 : σ' 77 = σ 77 := by rfl) (f2 : σ' 78 = σ 78 := by rfl) (f3 : σ' 79 = σ 79 := by rfl) : iv_mt c σ' := by
  unfold iv_mt at h ⊢
  rw [h1, h2, e1, e2, e3, f1, f2, f3]
  exact h
def iv_as (σ : ax_Sg) : Prop := ∀ i, i < 120 → σ 29 i = σ 72 i ∧ rg 0 20 (σ 29 i)
theorem iv_as.fr {σ σ' : ax_Sg} (h : iv_as σ) (e1 : σ' 29 = σ 29 := by rfl) (f1 : σ' 72 = σ 72 := by rfl) : iv_as σ' := by
  unfold iv_as at h ⊢
  rw [e1, f1]
  exact h
/-- the city between hours -/
def iv_ct (n h : Nat) (σ : ax_Sg) : Prop := h ≤ 400 ∧ σ 7 13 = nI h ∧ σ 13 14 = nI h ∧ σ 7 14 = σ 13 11 ∧ σ 7 15 = σ 13 12 ∧ σ 7 16 = σ 13 13 ∧
  (∀ p, p < n → σ 31 p = σ 65 (24 + p) ∧ rg (-1) 4 (σ 31 p)) ∧ (∀ p, n ≤ p → p < 12 → σ 31 p = -1) ∧ (∀ p, p < 12 → σ 32 p = σ 65 p ∧ σ 33 p = σ 65 (12 + p) ∧ rg 0 (h : Int) (σ 32 p)) ∧ (∀ k, k < 16 → σ 34 k = σ 65 (36 + k) ∧ σ 35 k = σ 65 (52 + k)) ∧
  (∀ i, i < 15 → σ 36 i = σ 65 (68 + i) ∧ rg 0 20 (σ 36 i)) ∧ (∀ w, w < 5 → σ 36 (3 * w) = 0) ∧ ∀ w, w < 5 → ∃ t : Nat, t ≤ 12 * h ∧ σ 65 (83 + w) = nI t ∧ σ 37 w = nI (t % 5)
theorem iv_ct.fr {n h : Nat} {σ σ' : ax_Sg} (hh : iv_ct n h σ) (h1 : σ' 7 13 = σ 7 13 := by rfl) (h2 : σ' 13 14 = σ 13 14 := by rfl) (h3 : σ' 7 14 = σ 7 14 := by rfl) (h4 : σ' 13 11 = σ 13 11 := by rfl) (h5 : σ' 7 15 = σ 7 15 := by rfl) (h6 : σ' 13 12 = σ 13 12 := by rfl) (h7 : σ' 7 16 = σ 7 16 := by rfl) (h8 : σ' 13 13 = σ 13 13 := by rfl)
    (e1 : σ' 31 = σ 31 := by rfl) (e2 : σ' 32 = σ 32 := by rfl) (e3 : σ' 33 = σ 33 := by rfl) (e4 : σ' 34 = σ 34 := by rfl) (e5 : σ' 35 = σ 35 := by rfl) (e6 : σ' 36 = σ 36 := by rfl) (e7 : σ' 37 = σ 37 := by rfl) (f1 : σ' 65 = σ 65 := by rfl) : iv_ct n h σ' := by
  unfold iv_ct at hh ⊢
  rw [h1, h2, h3, h4, h5, h6, h7, h8, e1, e2, e3, e4, e5, e6, e7, f1]
  exact hh
def iv_rd (r : Nat) (σ : ax_Sg) : Prop := r ≤ 300 ∧ σ 6 1 = nI r ∧ σ 13 15 = nI r ∧ ∀ k, k < r → σ 30 (k * 5) = σ 67 k ∧ σ 30 (k * 5 + 1) = σ 68 k ∧ σ 30 (k * 5 + 2) = σ 69 k ∧ σ 30 (k * 5 + 3) = σ 70 k ∧ σ 30 (k * 5 + 4) = σ 71 k
theorem iv_rd.fr {r : Nat} {σ σ' : ax_Sg} (h : iv_rd r σ) (h1 : σ' 6 1 = σ 6 1 := by rfl) (h2 : σ' 13 15 = σ 13 15 := by rfl) (e1 : σ' 30 = σ 30 := by rfl) (f1 : σ' 67 = σ 67 := by rfl) (f2 : σ' 68 = σ 68 := by rfl) (f3 : σ' 69 = σ 69 := by rfl) (f4 : σ' 70 = σ 70 := by rfl) (f5 : σ' 71 = σ 71 := by rfl) : iv_rd r σ' := by
  unfold iv_rd at h ⊢
  rw [h1, h2, e1, f1, f2, f3, f4, f5]
  exact h
def iv_ln (n q : Nat) (σ : ax_Sg) : Prop := q ≤ 30 ∧ σ 9 4 = nI q ∧ σ 13 42 = nI q ∧ ∀ i, i < q → σ 47 i = σ 84 i ∧ (∃ p, p < n ∧ σ 47 i = nI p) ∧ σ 48 i = σ 85 i ∧ rg 0 9 (σ 48 i) ∧ σ 49 i = σ 86 i ∧ rg 0 99999 (σ 49 i)
theorem iv_ln.fr {n q : Nat} {σ σ' : ax_Sg} (h : iv_ln n q σ) (h1 : σ' 9 4 = σ 9 4 := by rfl) (h2 : σ' 13 42 = σ 13 42 := by rfl) (e1 : σ' 47 = σ 47 := by rfl) (e2 : σ' 48 = σ 48 := by rfl) (e3 : σ' 49 = σ 49 := by rfl) (f1 : σ' 84 = σ 84 := by rfl) (f2 : σ' 85 = σ 85 := by rfl) (f3 : σ' 86 = σ 86 := by rfl) : iv_ln n q σ' := by
  unfold iv_ln at h ⊢
  rw [h1, h2, e1, e2, e3, f1, f2, f3]
  exact h
def iv_fl (f : Nat) (σ : ax_Sg) : Prop := f ≤ 6 ∧ σ 10 2 = nI f ∧ σ 13 47 = nI f ∧ ∀ i, i < f → σ 51 i = σ 88 i ∧ rg 1 255 (σ 51 i)
theorem iv_fl.fr {f : Nat} {σ σ' : ax_Sg} (h : iv_fl f σ) (h1 : σ' 10 2 = σ 10 2 := by rfl) (h2 : σ' 13 47 = σ 13 47 := by rfl) (e1 : σ' 51 = σ 51 := by rfl) (f1 : σ' 88 = σ 88 := by rfl) : iv_fl f σ' := by
  unfold iv_fl at h ⊢
  rw [h1, h2, e1, f1]
  exact h
def iv_li (n y : Nat) (σ : ax_Sg) : Prop := y ≤ 12 ∧ σ 11 1 = nI y ∧ σ 13 51 = nI y ∧ (∀ i, i < y → σ 54 i = σ 92 i ∧ ∃ p, p < n ∧ σ 54 i = nI p) ∧ ∀ i j, i < y → j < y → σ 54 i = σ 54 j → i = j
theorem iv_li.fr {n y : Nat} {σ σ' : ax_Sg} (h : iv_li n y σ) (h1 : σ' 11 1 = σ 11 1 := by rfl) (h2 : σ' 13 51 = σ 13 51 := by rfl) (e1 : σ' 54 = σ 54 := by rfl) (f1 : σ' 92 = σ 92 := by rfl) : iv_li n y σ' := by
  unfold iv_li at h ⊢
  rw [h1, h2, e1, f1]
  exact h
def Inv (σ : ax_Sg) : Prop := ∃ n d t c h r q f y : Nat, iv_pl n σ ∧ iv_dr d σ ∧ iv_sh n d σ ∧ iv_tp t σ ∧ iv_mt c σ ∧ iv_as σ ∧ iv_ct n h σ ∧ iv_rd r σ ∧ iv_ln n q σ ∧ iv_fl f σ ∧ iv_li n y σ
/-- one step of the law: the class's answer is the reference's, and the invariant stays -/
def Pr (l : Launch) (k1 : Nat) (L1 : ax_Lc) (k2 : Nat) (L2 : ax_Lc) (σ : ax_Sg) : Prop := Ev l k1 0 L1 [] σ (fun o σ1 => ax_oi o fun v => Ev l k2 0 L2 [] σ1 (fun o2 σ2 => ax_oi o2 fun w => v = w ∧ Inv σ2))
