/-! helpers: branches, answers, small numbers, frames -/
theorem br1 {A B : Prop} (h : B) : ax_br ((1 : Int32) = 0) A B := ⟨fun e => absurd e (by decide), fun _ => h⟩
theorem br0 {A B : Prop} (h : A) : ax_br ((0 : Int32) = 0) A B := ⟨fun _ => h, fun e => absurd rfl e⟩
theorem br_t' {q A B : Prop} (hq : q) (h : A) : ax_br q A B := ⟨fun _ => h, fun e => absurd hq e⟩
theorem br_f' {q A B : Prop} (hq : ¬ q) (h : B) : ax_br q A B := ⟨fun e => absurd e hq, fun _ => h⟩
theorem br_i {q A B : Prop} (hA : q → A) (hB : ¬ q → B) : ax_br q A B := ⟨hA, hB⟩
theorem nar0 : vp_nar .boolean 0 = 0 := by decide
theorem nar1 : vp_nar .boolean 1 = 1 := by decide
theorem us_s (σ : ax_Sg) (k i : Nat) (v : Int32) : ax_us σ k i v k = upd (σ k) i v := if_pos rfl
theorem us_n (σ : ax_Sg) {k k' : Nat} (i : Nat) (v : Int32) (h : k' ≠ k) : ax_us σ k i v k' = σ k' := if_neg h
theorem uc_s (σ : ax_Sg) (k : Nat) (f : Nat → Int32) : ax_uc σ k f k = f := if_pos rfl
theorem uc_n (σ : ax_Sg) {k k' : Nat} (f : Nat → Int32) (h : k' ≠ k) : ax_uc σ k f k' = σ k' := if_neg h
theorem upd_s (f : Nat → Int32) (i : Nat) (v : Int32) : upd f i v i = v := if_pos rfl
theorem upd_n (f : Nat → Int32) {i j : Nat} (v : Int32) (h : j ≠ i) : upd f i v j = f j := if_neg h
theorem lt_toInt {x y : Int32} : x < y ↔ x.toInt < y.toInt := Int32.lt_iff_toInt_lt
theorem le_toInt {x y : Int32} : x ≤ y ↔ x.toInt ≤ y.toInt := Int32.le_iff_toInt_le
theorem eq_toInt {x y : Int32} : x = y ↔ x.toInt = y.toInt := Int32.toInt_inj.symm
/-- an int in a range is a small number -/
theorem nat_of {x : Int32} {b : Nat} (h0 : 0 ≤ x.toInt) (h1 : x.toInt ≤ (b : Int)) : ∃ n : Nat, n ≤ b ∧ x = nI n := by
  refine ⟨x.toInt.toNat, by omega, ?_⟩
  apply Int32.toInt_inj.mp
  have hb : x.toInt < 2 ^ 31 := by have := Int32.toInt_lt x; omega
  rw [nI_toInt (by omega)]
  omega
theorem in_nI {n N : Nat} (h : n < N) (hN : N < 2 ^ 31) : vp_in (nI n) N := vp_in_nI h hN
theorem cl_nI {n : Nat} (h : n < 2 ^ 31) : (nI n).toNatClampNeg = n := nI_clamp h
/-- within, isIn and their like -/
theorem c_within {l : Launch} {σ : ax_Sg} {P : Option Value → ax_Sg → Prop} (x a b : Int32) (hT : a.toInt ≤ x.toInt ∧ x.toInt ≤ b.toInt → P (some (.int 1)) σ) (hF : ¬ (a.toInt ≤ x.toInt ∧ x.toInt ≤ b.toInt) → P (some (.int 0)) σ) : Ev l 102 0 [some (.int x), some (.int a), some (.int b)] [] σ P := by
  refine b_X10_within_0 x a b (br_i (fun h => ⟨nar0, hF ?_⟩) (fun h => br_i (fun h2 => ⟨nar0, hF ?_⟩) (fun h2 => ⟨nar1, hT ?_⟩)))
  · rw [lt_toInt] at h; omega
  · rw [lt_toInt] at h h2; omega
  · rw [lt_toInt] at h h2; omega
theorem lcmp_lt (x y : Int64) : lg_cmp x y < 0 ↔ x.toInt < y.toInt := by
  unfold lg_cmp
  by_cases h1 : y < x
  · rw [if_pos h1]
    rw [Int64.lt_iff_toInt_lt] at h1
    constructor
    · intro h; exact absurd h (by decide)
    · intro h; omega
  · rw [if_neg h1]
    by_cases h2 : x = y
    · rw [if_pos h2]
      subst h2
      constructor
      · intro h; exact absurd h (by decide)
      · intro h; omega
    · rw [if_neg h2]
      rw [Int64.lt_iff_toInt_lt] at h1
      have : x.toInt ≠ y.toInt := fun e => h2 (Int64.toInt_inj.mp e)
      constructor
      · intro _; omega
      · intro _; decide
theorem lcmp_gt (x y : Int64) : 0 < lg_cmp x y ↔ y.toInt < x.toInt := by
  unfold lg_cmp
  by_cases h1 : y < x
  · rw [if_pos h1]
    rw [Int64.lt_iff_toInt_lt] at h1
    exact ⟨fun _ => h1, fun _ => by decide⟩
  · rw [if_neg h1]
    rw [Int64.lt_iff_toInt_lt] at h1
    by_cases h2 : x = y
    · rw [if_pos h2]
      exact ⟨fun h => absurd h (by decide), fun h => absurd h h1⟩
    · rw [if_neg h2]
      exact ⟨fun h => absurd h (by decide), fun h => absurd h h1⟩
theorem c_isIn {l : Launch} {σ : ax_Sg} {P : Option Value → ax_Sg → Prop} (x a b : Int64) (hT : a.toInt ≤ x.toInt ∧ x.toInt ≤ b.toInt → P (some (.int 1)) σ) (hF : ¬ (a.toInt ≤ x.toInt ∧ x.toInt ≤ b.toInt) → P (some (.int 0)) σ) : Ev l 108 0 [some (.long x), none, some (.long a), none, some (.long b), none] [] σ P := by
  refine b_X11_isIn_0 x a b (br_i (fun h => ⟨nar0, hF ?_⟩) (fun h => br_i (fun h2 => ⟨nar0, hF ?_⟩) (fun h2 => ⟨nar1, hT ?_⟩)))
  · rw [lcmp_lt] at h; omega
  · rw [lcmp_gt] at h2; omega
  · rw [lcmp_lt] at h; rw [lcmp_gt] at h2; omega
theorem c_isInI {l : Launch} {σ : ax_Sg} {P : Option Value → ax_Sg → Prop} (x : Int32) (a b : Int64) (hT : a.toInt ≤ x.toInt ∧ x.toInt ≤ b.toInt → P (some (.int 1)) σ) (hF : ¬ (a.toInt ≤ x.toInt ∧ x.toInt ≤ b.toInt) → P (some (.int 0)) σ) : Ev l 108 0 [some (.long (Int32.toInt64 x)), none, some (.long a), none, some (.long b), none] [] σ P := by
  refine c_isIn _ a b ?_ ?_
  · rw [Int32.toInt_toInt64]; exact hT
  · rw [Int32.toInt_toInt64]; exact hF
