/-! a sum parted among a plate's loans: the mathematics, and the class's side -/
abbrev Fn : Type := Nat → Int32
def due (pl rk sm : Fn) (x r : Int32) : Nat → Nat
  | 0 => 0
  | k + 1 => due pl rk sm x r k + (if pl k = x ∧ rk k = r then nn (sm k) else 0)
def q1 (sm : Fn) (L D : Nat) (i : Nat) : Nat := L * nn (sm i) / D
def qs (pl rk sm : Fn) (x r : Int32) (L D : Nat) : Nat → Nat
  | 0 => 0
  | k + 1 => qs pl rk sm x r L D k + (if pl k = x ∧ rk k = r then q1 sm L D k else 0)
def rmn (pl rk sm : Fn) (x r : Int32) (L D R0 : Nat) : Nat → Nat
  | 0 => R0
  | k + 1 => if (pl k = x ∧ rk k = r) ∧ 0 < rmn pl rk sm x r L D R0 k ∧ q1 sm L D k < nn (sm k) then rmn pl rk sm x r L D R0 k - 1 else rmn pl rk sm x r L D R0 k
def cnt (pl rk sm : Fn) (x r : Int32) (L D : Nat) : Nat → Nat
  | 0 => 0
  | k + 1 => cnt pl rk sm x r L D k + (if (pl k = x ∧ rk k = r) ∧ q1 sm L D k < nn (sm k) then 1 else 0)
def shr (pl rk sm : Fn) (x r : Int32) (L D R0 : Nat) (i : Nat) : Nat := q1 sm L D i + (if 0 < rmn pl rk sm x r L D R0 i ∧ q1 sm L D i < nn (sm i) then 1 else 0)
theorem rmn_eq (pl rk sm : Fn) (x r : Int32) (L D R0 : Nat) : ∀ k, rmn pl rk sm x r L D R0 k = R0 - cnt pl rk sm x r L D k
  | 0 => rfl
  | k + 1 => by
    simp only [rmn, cnt]
    rw [rmn_eq pl rk sm x r L D R0 k]
    by_cases h1 : pl k = x ∧ rk k = r
    · by_cases h2 : q1 sm L D k < nn (sm k)
      · rw [if_pos (show (pl k = x ∧ rk k = r) ∧ q1 sm L D k < nn (sm k) from ⟨h1, h2⟩)]
        by_cases h3 : 0 < R0 - cnt pl rk sm x r L D k
        · rw [if_pos ⟨h1, h3, h2⟩]; omega
        · rw [if_neg (fun z => h3 z.2.1)]; omega
      · rw [if_neg (fun z => h2 z.2.2), if_neg (show ¬ ((pl k = x ∧ rk k = r) ∧ q1 sm L D k < nn (sm k)) from fun z => h2 z.2)]; omega
    · rw [if_neg (fun z => h1 z.1), if_neg (show ¬ ((pl k = x ∧ rk k = r) ∧ q1 sm L D k < nn (sm k)) from fun z => h1 z.1)]; omega
theorem q1_step {sm : Fn} {L D i : Nat} (hD : 0 < D) (hL : L < D) : L * nn (sm i) ≤ D * q1 sm L D i + (if q1 sm L D i < nn (sm i) then D else 0) := by
  unfold q1
  by_cases hs : nn (sm i) = 0
  · rw [hs]; simp
  · have hlt : L * nn (sm i) / D < nn (sm i) := by
      rw [Nat.div_lt_iff_lt_mul hD]
      rw [Nat.mul_comm]
      exact Nat.mul_lt_mul_of_pos_left hL (by omega)
    rw [if_pos hlt]
    have := Nat.lt_mul_div_succ (L * nn (sm i)) hD
    rw [Nat.mul_add, Nat.mul_one] at this
    omega
theorem q1_le {sm : Fn} {L D i : Nat} (hD : 0 < D) (hL : L < D) : q1 sm L D i ≤ nn (sm i) := by
  unfold q1
  rw [Nat.div_le_iff_le_mul_add_pred hD]
  have : L * nn (sm i) ≤ D * nn (sm i) := Nat.mul_le_mul_right _ (by omega)
  omega
theorem part_up {pl rk sm : Fn} {x r : Int32} {L D : Nat} (hD : 0 < D) (hL : L < D) : ∀ k, L * due pl rk sm x r k ≤ D * (qs pl rk sm x r L D k + cnt pl rk sm x r L D k)
  | 0 => by simp [due]
  | k + 1 => by
    have ih := part_up (pl := pl) (rk := rk) (sm := sm) (x := x) (r := r) hD hL k
    have h := q1_step (sm := sm) (i := k) hD hL
    simp only [due, qs, cnt]
    by_cases h1 : pl k = x ∧ rk k = r
    · rw [if_pos h1, if_pos h1]
      by_cases h2 : q1 sm L D k < nn (sm k)
      · rw [if_pos ⟨h1, h2⟩]
        rw [if_pos h2] at h
        rw [Nat.mul_add, show qs pl rk sm x r L D k + q1 sm L D k + (cnt pl rk sm x r L D k + 1) = (qs pl rk sm x r L D k + cnt pl rk sm x r L D k) + (q1 sm L D k + 1) by omega, Nat.mul_add D, Nat.mul_add D (q1 sm L D k)]
        omega
      · rw [if_neg (show ¬ ((pl k = x ∧ rk k = r) ∧ q1 sm L D k < nn (sm k)) from fun z => h2 z.2)]
        rw [if_neg h2] at h
        rw [Nat.mul_add, show qs pl rk sm x r L D k + q1 sm L D k + (cnt pl rk sm x r L D k + 0) = (qs pl rk sm x r L D k + cnt pl rk sm x r L D k) + q1 sm L D k by omega, Nat.mul_add D]
        omega
    · rw [if_neg h1, if_neg h1, if_neg (show ¬ ((pl k = x ∧ rk k = r) ∧ q1 sm L D k < nn (sm k)) from fun z => h1 z.1)]
      simpa using ih
theorem part_lo {pl rk sm : Fn} {x r : Int32} {L D : Nat} : ∀ k, D * qs pl rk sm x r L D k ≤ L * due pl rk sm x r k
  | 0 => by simp [due, qs]
  | k + 1 => by
    have ih := part_lo (pl := pl) (rk := rk) (sm := sm) (x := x) (r := r) (L := L) (D := D) k
    simp only [due, qs]
    by_cases h1 : pl k = x ∧ rk k = r
    · rw [if_pos h1, if_pos h1, Nat.mul_add, Nat.mul_add]
      have : D * q1 sm L D k ≤ L * nn (sm k) := by unfold q1; exact Nat.mul_div_le _ _
      omega
    · rw [if_neg h1, if_neg h1]; simpa using ih
theorem qs_mono {pl rk sm : Fn} {x r : Int32} {L D : Nat} : ∀ {k m : Nat}, k ≤ m → qs pl rk sm x r L D k ≤ qs pl rk sm x r L D m := by
  intro k m h
  induction m with
  | zero => rw [show k = 0 by omega]; exact Nat.le_refl _
  | succ m ih =>
    by_cases e : k = m + 1
    · subst e; exact Nat.le_refl _
    · have := ih (by omega)
      simp only [qs]
      omega
theorem qs_le {pl rk sm : Fn} {x r : Int32} {L D q : Nat} (hD : 0 < D) (hq : due pl rk sm x r q = D) : qs pl rk sm x r L D q ≤ L := by
  have := part_lo (pl := pl) (rk := rk) (sm := sm) (x := x) (r := r) (L := L) (D := D) q
  rw [hq, Nat.mul_comm L D] at this
  exact Nat.le_of_mul_le_mul_left this hD
theorem rmn_0 {pl rk sm : Fn} {x r : Int32} {L D q : Nat} (hD : 0 < D) (hL : L < D) (hq : due pl rk sm x r q = D) : rmn pl rk sm x r L D (L - qs pl rk sm x r L D q) q = 0 := by
  rw [rmn_eq]
  have := part_up (pl := pl) (rk := rk) (sm := sm) (x := x) (r := r) hD hL q
  rw [hq, Nat.mul_comm L D] at this
  have := Nat.le_of_mul_le_mul_left this hD
  omega
theorem due_le {pl rk sm : Fn} {x r : Int32} : ∀ {q : Nat}, (∀ i, i < q → rg 0 99999 (sm i)) → due pl rk sm x r q ≤ 99999 * q
  | 0, _ => Nat.le_refl _
  | q + 1, h => by
    have h1 := due_le (pl := pl) (rk := rk) (x := x) (r := r) (fun i hi => h i (Nat.lt_succ_of_lt hi))
    have h2 := h q (by omega)
    have h3 : nn (sm q) ≤ 99999 := by have := (nn_eq h2 (Int.le_refl 0)).2; have := h2.2; omega
    simp only [due]
    split <;> omega
/-- the parts behind a rank; what is left behind it -/
def rkA (pl rk sm : Fn) (q : Nat) (x r : Int32) (L : Nat) (a : Fn) : Fn := fun i => if i < q ∧ pl i = x ∧ rk i = r then (if due pl rk sm x r q ≤ L then sm i else nI (shr pl rk sm x r L (due pl rk sm x r q) (L - qs pl rk sm x r L (due pl rk sm x r q) q) i)) else a i
def rkL (pl rk sm : Fn) (q : Nat) (x r : Int32) (L : Nat) : Nat := if due pl rk sm x r q ≤ L then L - due pl rk sm x r q else 0
def dvL (pl rk sm : Fn) (q : Nat) (x : Int32) (L : Nat) : Nat → Nat
  | 0 => L
  | r + 1 => rkL pl rk sm q x (nI r) (dvL pl rk sm q x L r)
def dvA (pl rk sm : Fn) (q : Nat) (x : Int32) (L : Nat) (a : Fn) : Nat → Fn
  | 0 => a
  | r + 1 => rkA pl rk sm q x (nI r) (dvL pl rk sm q x L r) (dvA pl rk sm q x L a r)
theorem dvL_le (pl rk sm : Fn) (q : Nat) (x : Int32) (L : Nat) : ∀ r, dvL pl rk sm q x L r ≤ L
  | 0 => Nat.le_refl _
  | r + 1 => by
    have := dvL_le pl rk sm q x L r
    simp only [dvL, rkL]
    split <;> omega
section Parts
variable {l : Launch} {σ : ax_Sg} {P : Option Value → ax_Sg → Prop}
theorem c_isOf {i : Nat} (hi : i < 30) (x r : Int32) (hT : σ 47 i = x ∧ σ 48 i = r → P (some (.int 1)) σ) (hF : ¬ (σ 47 i = x ∧ σ 48 i = r) → P (some (.int 0)) σ) : Ev l 33 0 [some (.ref 9), some (.int (nI i)), some (.int x), some (.int r)] [] σ P := by
  refine b_X4_isOf_0 _ _ _ ⟨in_nI hi (by decide), ?_⟩
  rw [cl_nI (by omega)]
  exact br_i (fun e1 => ⟨in_nI hi (by decide), br_i (fun e2 => ⟨nar1, hT ⟨e1, e2⟩⟩) (fun e2 => ⟨nar0, hF (fun z => e2 z.2)⟩)⟩) (fun e1 => ⟨nar0, hF (fun z => e1 z.1)⟩)
theorem c_rankDebt {q : Nat} (hq : q ≤ 30) (hs : σ 9 4 = nI q) (hr : ∀ i, i < q → rg 0 99999 (σ 49 i)) (x r : Int32) (h : P (some (.int (nI (due (σ 47) (σ 48) (σ 49) x r q)))) σ) : Ev l 34 0 [some (.ref 9), some (.int x), some (.int r), none, none] [] σ P := by
  have loop : ∀ m k, q - k = m → k ≤ q → Ev l 34 5 [some (.ref 9), some (.int x), some (.int r), some (.int (nI (due (σ 47) (σ 48) (σ 49) x r k))), some (.int (nI k))] [] σ P := by
    intro m
    induction m with
    | zero =>
      intro k hk hkq
      have : k = q := by omega
      subst this
      exact b_X4_rankDebt_5 _ _ _ _ (br_f' (by rw [hs]; exact nI_nlt (Nat.le_refl _) (by omega)) h)
    | succ m ih =>
      intro k hk hkq
      have ih' := ih (k + 1) (by omega) (by omega)
      simp only [due] at ih'
      have e1 := (nn_eq (hr k (by omega)) (Int.le_refl 0)).1
      refine b_X4_rankDebt_5 _ _ _ _ (br_t' (by rw [hs]; exact nI_lt (by omega) (by omega)) (c_isOf (by omega) _ _ (fun e => br1 ⟨in_nI (by omega) (by decide), ?_⟩) (fun e => br0 ?_)))
      · rw [if_pos e] at ih'
        rw [cl_nI (by omega), nI_1, e1, nI_add]; exact ih'
      · rw [if_neg e, Nat.add_zero] at ih'
        rw [nI_1]; exact ih'
  exact b_X4_rankDebt_0 _ _ (loop q 0 (by omega) (by omega))
/-- an array told anew at the first k loans of a rank -/
def upk (pl rk : Fn) (x r : Int32) (v : Fn) (k : Nat) (a : Fn) : Fn := fun i => if i < k ∧ pl i = x ∧ rk i = r then v i else a i
theorem upk_0 (pl rk : Fn) (x r : Int32) (v a : Fn) : upk pl rk x r v 0 a = a := by
  funext i
  unfold upk
  rw [if_neg (by omega)]
theorem upk_s {pl rk : Fn} {x r : Int32} {v a : Fn} {k : Nat} {w : Int32} (h : pl k = x ∧ rk k = r) (hw : w = v k) : upd (upk pl rk x r v k a) k w = upk pl rk x r v (k + 1) a := by
  funext i
  by_cases e : i = k
  · subst e; rw [upd_s]; unfold upk; rw [if_pos ⟨by omega, h⟩]; exact hw
  · rw [upd_n _ _ e]
    unfold upk
    by_cases c : i < k ∧ pl i = x ∧ rk i = r
    · rw [if_pos c, if_pos ⟨by omega, c.2⟩]
    · rw [if_neg c, if_neg (fun z => c ⟨by omega, z.2⟩)]
theorem upk_n {pl rk : Fn} {x r : Int32} {v a : Fn} {k : Nat} (h : ¬ (pl k = x ∧ rk k = r)) : upk pl rk x r v k a = upk pl rk x r v (k + 1) a := by
  funext i
  unfold upk
  by_cases c : i < k ∧ pl i = x ∧ rk i = r
  · rw [if_pos c, if_pos ⟨by omega, c.2⟩]
  · rw [if_neg c, if_neg (fun z => by
      by_cases e : i = k
      · subst e; exact h z.2
      · exact c ⟨by omega, z.2⟩)]
theorem upk_at (pl rk : Fn) (x r : Int32) (v a : Fn) (k : Nat) : upk pl rk x r v k a k = a k := by
  unfold upk
  rw [if_neg (by omega)]
theorem c_payRank {q : Nat} (hq : q ≤ 30) (hs : σ 9 4 = nI q) (x r : Int32) (h : P none (ax_uc σ 50 (upk (σ 47) (σ 48) x r (σ 49) q (σ 50)))) : Ev l 35 0 [some (.ref 9), some (.int x), some (.int r), none] [] σ P := by
  have loop : ∀ m k, q - k = m → k ≤ q → Ev l 35 2 [some (.ref 9), some (.int x), some (.int r), some (.int (nI k))] [] (ax_uc σ 50 (upk (σ 47) (σ 48) x r (σ 49) k (σ 50))) P := by
    intro m
    induction m with
    | zero =>
      intro k hk hkq
      have : k = q := by omega
      subst this
      exact b_X4_payRank_2 _ _ _ (br_f' (by show ¬ nI k < σ 9 4; rw [hs]; exact nI_nlt (Nat.le_refl _) (by omega)) h)
    | succ m ih =>
      intro k hk hkq
      have ih' := ih (k + 1) (by omega) (by omega)
      refine b_X4_payRank_2 _ _ _ (br_t' (by show nI k < σ 9 4; rw [hs]; exact nI_lt (by omega) (by omega)) (c_isOf (by omega) _ _ (fun e => br1 ⟨in_nI (by omega) (by decide), in_nI (by omega) (by decide), ?_⟩) (fun e => br0 ?_)))
      · have e : σ 47 k = x ∧ σ 48 k = r := e
        rw [cl_nI (by omega), nI_1]
        show Ev l 35 2 _ [] (ax_us (ax_uc σ 50 (upk (σ 47) (σ 48) x r (σ 49) k (σ 50))) 50 k (σ 49 k)) P
        rw [us_uc, upk_s e rfl]; exact ih'
      · have e : ¬ (σ 47 k = x ∧ σ 48 k = r) := e
        rw [nI_1]
        rw [← upk_n e] at ih'
        exact ih'
  have := loop q 0 (by omega) (by omega)
  rw [upk_0, uc_id] at this
  exact b_X4_payRank_0 _ _ this
theorem q1_val {L D : Nat} {s : Int32} (hL : L ≤ 999999) (hLD : L < D) (hD2 : D ≤ 2999970) (hs : rg 0 99999 s) : Int64.toInt32 ((Int32.toInt64 (nI L) * Int32.toInt64 s) / Int32.toInt64 (nI D)) = nI (L * nn s / D) := by
  obtain ⟨e1, e2⟩ := nn_eq hs (Int.le_refl 0)
  have hs2 := hs.2
  have hLi : (nI L).toInt = (L : Int) := nI_toInt (by omega)
  have hDi : (nI D).toInt = (D : Int) := nI_toInt (by omega)
  have hb : L * nn s ≤ 999999 * 99999 := Nat.mul_le_mul hL (by omega)
  have hm : (Int32.toInt64 (nI L) * Int32.toInt64 s).toInt = ((L * nn s : Nat) : Int) := by
    rw [mul64 (by rw [Int32.toInt_toInt64, Int32.toInt_toInt64, hLi, ← e2, ← Int.natCast_mul]; omega) (by rw [Int32.toInt_toInt64, Int32.toInt_toInt64, hLi, ← e2, ← Int.natCast_mul]; omega), Int32.toInt_toInt64, Int32.toInt_toInt64, hLi, ← e2, ← Int.natCast_mul]
  have hd : ((Int32.toInt64 (nI L) * Int32.toInt64 s) / Int32.toInt64 (nI D)).toInt = ((L * nn s / D : Nat) : Int) := by
    rw [div64 (by rw [Int32.toInt_toInt64, hDi]; omega), hm, Int32.toInt_toInt64, hDi, Int.tdiv_eq_ediv_of_nonneg (by omega), Int.natCast_ediv]
  have hq := q1_le (sm := fun _ => s) (i := 0) (show 0 < D by omega) hLD
  have hq : L * nn s / D ≤ nn s := hq
  apply Int32.toInt_inj.mp
  generalize L * nn s / D = Z at hq hd ⊢
  rw [l2i_toInt (by rw [hd]; omega) (by rw [hd]; omega), hd, nI_toInt (by omega)]
theorem c_shareRank {q L : Nat} (hq : q ≤ 30) (hs : σ 9 4 = nI q) (hr : ∀ i, i < q → rg 0 99999 (σ 49 i)) (x r : Int32) (hL : L ≤ 999999) (hLD : L < due (σ 47) (σ 48) (σ 49) x r q)
    (h : P none (ax_uc σ 50 (upk (σ 47) (σ 48) x r (fun i => nI (shr (σ 47) (σ 48) (σ 49) x r L (due (σ 47) (σ 48) (σ 49) x r q) (L - qs (σ 47) (σ 48) (σ 49) x r L (due (σ 47) (σ 48) (σ 49) x r q) q) i)) q (σ 50)))) : Ev l 36 0 [some (.ref 9), some (.int x), some (.int r), some (.int (nI L)), some (.int (nI (due (σ 47) (σ 48) (σ 49) x r q))), none, none] [] σ P := by
  have hDq : due (σ 47) (σ 48) (σ 49) x r q = due (σ 47) (σ 48) (σ 49) x r q := rfl
  have hDb := due_le (pl := σ 47) (rk := σ 48) (x := x) (r := r) hr
  generalize hD : due (σ 47) (σ 48) (σ 49) x r q = D at hLD h hDb ⊢
  have hD0 : 0 < D := by omega
  have hQ := qs_le (L := L) hD0 hD
  generalize hR0 : L - qs (σ 47) (σ 48) (σ 49) x r L D q = R0 at h
  have h0i : (0 : Int32).toInt = 0 := by decide
  have hDi : (nI D).toInt = (D : Int) := nI_toInt (by omega)
  -- the second loop: one more each
  have loop2 : ∀ m k, q - k = m → k ≤ q → Ev l 36 75 [some (.ref 9), some (.int x), some (.int r), none, none, some (.int (nI (rmn (σ 47) (σ 48) (σ 49) x r L D R0 k))), some (.int (nI k))] [] (ax_uc σ 50 (upk (σ 47) (σ 48) x r (fun i => nI (shr (σ 47) (σ 48) (σ 49) x r L D R0 i)) k (upk (σ 47) (σ 48) x r (fun i => nI (q1 (σ 49) L D i)) q (σ 50)))) P := by
    have rmn_le : ∀ k, rmn (σ 47) (σ 48) (σ 49) x r L D R0 k ≤ 999999 := fun k => by rw [rmn_eq]; omega
    -- where nothing is left the parts stay
    have stay : ∀ k, k ≤ q → rmn (σ 47) (σ 48) (σ 49) x r L D R0 k = 0 → upk (σ 47) (σ 48) x r (fun i => nI (shr (σ 47) (σ 48) (σ 49) x r L D R0 i)) k (upk (σ 47) (σ 48) x r (fun i => nI (q1 (σ 49) L D i)) q (σ 50)) = upk (σ 47) (σ 48) x r (fun i => nI (shr (σ 47) (σ 48) (σ 49) x r L D R0 i)) q (σ 50) := by
      intro k hk h0
      funext i
      unfold upk
      by_cases c : i < k ∧ σ 47 i = x ∧ σ 48 i = r
      · rw [if_pos c, if_pos ⟨by omega, c.2⟩]
      · rw [if_neg c]
        by_cases c2 : i < q ∧ σ 47 i = x ∧ σ 48 i = r
        · rw [if_pos c2, if_pos c2]
          have hz : rmn (σ 47) (σ 48) (σ 49) x r L D R0 i = 0 := by
            have hki : k ≤ i := Nat.le_of_not_lt (fun z => c ⟨z, c2.2⟩)
            rw [rmn_eq] at h0 ⊢
            have mono : ∀ a b, a ≤ b → cnt (σ 47) (σ 48) (σ 49) x r L D a ≤ cnt (σ 47) (σ 48) (σ 49) x r L D b := by
              intro a b hab
              induction b with
              | zero => rw [show a = 0 by omega]; exact Nat.le_refl _
              | succ b ih =>
                by_cases e : a = b + 1
                · subst e; exact Nat.le_refl _
                · have := ih (by omega)
                  simp only [cnt]; omega
            have := mono k i hki
            omega
          show nI (q1 (σ 49) L D i) = nI (shr (σ 47) (σ 48) (σ 49) x r L D R0 i)
          unfold shr
          rw [hz, if_neg (fun z => absurd z.1 (by omega))]
          rfl
        · rw [if_neg c2, if_neg c2]
    intro m
    induction m with
    | zero =>
      intro k hk hkq
      have : k = q := by omega
      subst this
      refine b_X4_shareRank_75 _ _ _ _ (br_f' (by show ¬ nI k < σ 9 4; rw [hs]; exact nI_nlt (Nat.le_refl _) (by omega)) ?_)
      rw [stay k (Nat.le_refl _) (by rw [← hR0]; exact rmn_0 hD0 hLD hD)]
      exact h
    | succ m ih =>
      intro k hk hkq
      have ih' := ih (k + 1) (by omega) (by omega)
      have hkl : nI k < σ 9 4 := by rw [hs]; exact nI_lt (by omega) (by omega)
      by_cases hz : rmn (σ 47) (σ 48) (σ 49) x r L D R0 k = 0
      · refine b_X4_shareRank_75 _ _ _ _ (br_t' hkl (br_f' (by rw [hz]; decide) ?_))
        rw [stay k (by omega) hz]
        exact h
      · have hpos : (0 : Int32) < nI (rmn (σ 47) (σ 48) (σ 49) x r L D R0 k) := nI_lt (a := 0) (by omega) (by have := rmn_le k; omega)
        refine b_X4_shareRank_75 _ _ _ _ (br_t' hkl (br_t' hpos (c_isOf (by omega) _ _ (fun e => br1 ⟨in_nI (by omega) (by decide), in_nI (by omega) (by decide), ?_⟩) (fun e => br0 ?_))))
        · have e : σ 47 k = x ∧ σ 48 k = r := e
          obtain ⟨s1, s2⟩ := nn_eq (hr k (by omega)) (Int.le_refl 0)
          have hsk := (hr k (by omega)).2
          have hq1 := q1_le (sm := σ 49) (i := k) hD0 hLD
          have e50 : (ax_uc σ 50 (upk (σ 47) (σ 48) x r (fun i => nI (shr (σ 47) (σ 48) (σ 49) x r L D R0 i)) k (upk (σ 47) (σ 48) x r (fun i => nI (q1 (σ 49) L D i)) q (σ 50)))) 50 k = nI (q1 (σ 49) L D k) := by
            rw [uc_s, upk_at]
            unfold upk
            rw [if_pos ⟨by omega, e⟩]
          rw [cl_nI (by omega), e50, nI_1]
          show ax_br (nI (q1 (σ 49) L D k) < σ 49 k) _ _
          refine br_i (fun e2 => ⟨in_nI (by omega) (by decide), in_nI (by omega) (by decide), ?_⟩) (fun e2 => ?_)
          · rw [s1] at e2
            have e2 : q1 (σ 49) L D k < nn (σ 49 k) := (nI_ltI (by omega) (by omega)).mp e2
            have er : rmn (σ 47) (σ 48) (σ 49) x r L D R0 (k + 1) = rmn (σ 47) (σ 48) (σ 49) x r L D R0 k - 1 := by
              simp only [rmn]; rw [if_pos ⟨e, by omega, e2⟩]
            have es : shr (σ 47) (σ 48) (σ 49) x r L D R0 k = q1 (σ 49) L D k + 1 := by
              unfold shr; rw [if_pos ⟨by omega, e2⟩]
            rw [us_uc, upk_s (v := fun i => nI (shr (σ 47) (σ 48) (σ 49) x r L D R0 i)) e (by rw [es, nI_1])]
            rw [er] at ih'
            rw [show rmn (σ 47) (σ 48) (σ 49) x r L D R0 k = (rmn (σ 47) (σ 48) (σ 49) x r L D R0 k - 1) + 1 by omega, pk_m1]
            exact ih'
          · rw [s1] at e2
            have e2 : ¬ q1 (σ 49) L D k < nn (σ 49 k) := fun z => e2 ((nI_ltI (by omega) (by omega)).mpr z)
            have er : rmn (σ 47) (σ 48) (σ 49) x r L D R0 (k + 1) = rmn (σ 47) (σ 48) (σ 49) x r L D R0 k := by
              simp only [rmn]; rw [if_neg (fun z => e2 z.2.2)]
            have es : shr (σ 47) (σ 48) (σ 49) x r L D R0 k = q1 (σ 49) L D k := by
              unfold shr; rw [if_neg (fun z => e2 z.2)]; rfl
            have eu : upk (σ 47) (σ 48) x r (fun i => nI (shr (σ 47) (σ 48) (σ 49) x r L D R0 i)) (k + 1) (upk (σ 47) (σ 48) x r (fun i => nI (q1 (σ 49) L D i)) q (σ 50)) = upk (σ 47) (σ 48) x r (fun i => nI (shr (σ 47) (σ 48) (σ 49) x r L D R0 i)) k (upk (σ 47) (σ 48) x r (fun i => nI (q1 (σ 49) L D i)) q (σ 50)) := by
              rw [← upk_s (v := fun i => nI (shr (σ 47) (σ 48) (σ 49) x r L D R0 i)) e rfl]
              funext i
              by_cases ei : i = k
              · subst ei
                rw [upd_s, upk_at]
                unfold upk
                rw [if_pos ⟨by omega, e⟩, es]
              · rw [upd_n _ _ ei]
            rw [er, eu] at ih'
            exact ih'
        · have e : ¬ (σ 47 k = x ∧ σ 48 k = r) := e
          have er : rmn (σ 47) (σ 48) (σ 49) x r L D R0 (k + 1) = rmn (σ 47) (σ 48) (σ 49) x r L D R0 k := by
            simp only [rmn]; rw [if_neg (fun z => e z.1)]
          rw [nI_1]
          rw [er, ← upk_n e] at ih'
          exact ih'
  -- the first loop: the shares, cut
  have loop1 : ∀ m k, q - k = m → k ≤ q → Ev l 36 6 [some (.ref 9), some (.int x), some (.int r), some (.int (nI L)), some (.int (nI D)), some (.int (nI (L - qs (σ 47) (σ 48) (σ 49) x r L D k))), some (.int (nI k))] [] (ax_uc σ 50 (upk (σ 47) (σ 48) x r (fun i => nI (q1 (σ 49) L D i)) k (σ 50))) P := by
    intro m
    induction m with
    | zero =>
      intro k hk hkq
      have : k = q := by omega
      subst this
      refine b_X4_shareRank_6 _ _ _ _ _ _ (br_f' (by show ¬ nI k < σ 9 4; rw [hs]; exact nI_nlt (Nat.le_refl _) (by omega)) ?_)
      have := loop2 k 0 (by omega) (by omega)
      rw [upk_0] at this
      rw [hR0]
      exact this
    | succ m ih =>
      intro k hk hkq
      have ih' := ih (k + 1) (by omega) (by omega)
      have hkl : nI k < σ 9 4 := by rw [hs]; exact nI_lt (by omega) (by omega)
      refine b_X4_shareRank_6 _ _ _ _ _ _ (br_t' hkl (c_isOf (by omega) _ _ (fun e => br1 (br_t' (nI_lt (a := 0) hD0 (by omega)) ⟨in_nI (by omega) (by decide), ?_, in_nI (by omega) (by decide), in_nI (by omega) (by decide), ?_⟩)) (fun e => br0 ?_)))
      · intro z
        have := congrArg Int64.toInt z
        rw [Int32.toInt_toInt64, hDi] at this
        have h00 : (0 : Int64).toInt = 0 := by decide
        omega
      · have e : σ 47 k = x ∧ σ 48 k = r := e
        rw [cl_nI (by omega), upd_s, nI_1]
        have ev : Int64.toInt32 ((Int32.toInt64 (nI L) * Int32.toInt64 ((ax_uc σ 50 (upk (σ 47) (σ 48) x r (fun i => nI (q1 (σ 49) L D i)) k (σ 50))) 49 k)) / Int32.toInt64 (nI D)) = nI (q1 (σ 49) L D k) := q1_val hL hLD (by omega) (hr k (by omega))
        rw [ev, us_uc, upk_s (v := fun i => nI (q1 (σ 49) L D i)) e rfl]
        have hmono := qs_mono (pl := σ 47) (rk := σ 48) (sm := σ 49) (x := x) (r := r) (L := L) (D := D) (show k + 1 ≤ q by omega)
        simp only [qs, if_pos e] at ih' hmono
        rw [pk_sub (by omega), show L - qs (σ 47) (σ 48) (σ 49) x r L D k - q1 (σ 49) L D k = L - (qs (σ 47) (σ 48) (σ 49) x r L D k + q1 (σ 49) L D k) by omega]
        exact ih'
      · have e : ¬ (σ 47 k = x ∧ σ 48 k = r) := e
        simp only [qs, if_neg e, Nat.add_zero] at ih'
        rw [← upk_n e] at ih'
        rw [nI_1]
        exact ih'
  have := loop1 q 0 (by omega) (by omega)
  rw [upk_0, uc_id] at this
  exact b_X4_shareRank_0 _ _ _ _ this
theorem rkA_upk (pl rk sm : Fn) (q : Nat) (x r : Int32) (L : Nat) (a : Fn) : rkA pl rk sm q x r L a = if due pl rk sm x r q ≤ L then upk pl rk x r sm q a else upk pl rk x r (fun i => nI (shr pl rk sm x r L (due pl rk sm x r q) (L - qs pl rk sm x r L (due pl rk sm x r q) q) i)) q a := by
  by_cases h : due pl rk sm x r q ≤ L
  · rw [if_pos h]; funext i; unfold rkA upk; rw [if_pos h]
  · rw [if_neg h]; funext i; unfold rkA upk; rw [if_neg h]
theorem c_divide {q L : Nat} (hq : q ≤ 30) (hs : σ 9 4 = nI q) (hr : ∀ i, i < q → rg 0 99999 (σ 49 i)) (x : Int32) (hL : L ≤ 999999) (h : P none (ax_uc σ 50 (dvA (σ 47) (σ 48) (σ 49) q x L (σ 50) 10))) : Ev l 31 0 [some (.ref 9), some (.int x), some (.int (nI L)), none, none, none] [] σ P := by
  have loop : ∀ m k, 10 - k = m → k ≤ 10 → Ev l 31 5 [some (.ref 9), some (.int x), none, some (.int (nI (dvL (σ 47) (σ 48) (σ 49) q x L k))), some (.int (nI k)), none] [] (ax_uc σ 50 (dvA (σ 47) (σ 48) (σ 49) q x L (σ 50) k)) P := by
    intro m
    induction m with
    | zero =>
      intro k hk hk10
      have : k = 10 := by omega
      subst this
      exact b_X4_divide_5 _ _ _ (br_t' (by decide) h)
    | succ m ih =>
      intro k hk hk10
      have ih' := ih (k + 1) (by omega) (by omega)
      have hdb := due_le (pl := σ 47) (rk := σ 48) (x := x) (r := nI k) hr
      have hLb := dvL_le (σ 47) (σ 48) (σ 49) q x L k
      refine b_X4_divide_5 _ _ _ (br_f' (nI_nlt (a := 9) (by omega) (by omega)) (c_rankDebt (σ := ax_uc σ 50 (dvA (σ 47) (σ 48) (σ 49) q x L (σ 50) k)) hq hs hr _ _ ?_))
      simp only [dvL, dvA, rkL, rkA_upk] at ih'
      rw [nI_1]
      show ax_br (nI (dvL (σ 47) (σ 48) (σ 49) q x L k) < nI (due (σ 47) (σ 48) (σ 49) x (nI k) q)) _ _
      refine br_i (fun e => ?_) (fun e => ?_)
      · have e : dvL (σ 47) (σ 48) (σ 49) q x L k < due (σ 47) (σ 48) (σ 49) x (nI k) q := (nI_ltI (by omega) (by omega)).mp e
        rw [if_neg (by omega), if_neg (by omega)] at ih'
        refine c_shareRank (σ := ax_uc σ 50 (dvA (σ 47) (σ 48) (σ 49) q x L (σ 50) k)) hq hs hr _ _ (by omega) e ?_
        rw [uc_uc]
        exact ih'
      · have e : ¬ dvL (σ 47) (σ 48) (σ 49) q x L k < due (σ 47) (σ 48) (σ 49) x (nI k) q := fun z => e ((nI_ltI (by omega) (by omega)).mpr z)
        rw [if_pos (by omega), if_pos (by omega)] at ih'
        refine c_payRank (σ := ax_uc σ 50 (dvA (σ 47) (σ 48) (σ 49) q x L (σ 50) k)) hq hs _ _ ?_
        rw [uc_uc]
        show ax_ov none (Ev l 31 5 [some (.ref 9), some (.int x), none, some (.int (nI (dvL (σ 47) (σ 48) (σ 49) q x L k) - nI (due (σ 47) (σ 48) (σ 49) x (nI k) q))), some (.int (nI (k + 1))), none] [] _ P)
        rw [pk_sub (by omega)]
        exact ih'
  have := loop 10 0 (by omega) (by omega)
  simp only [dvL, dvA] at this
  rw [uc_id] at this
  exact b_X4_divide_0 _ _ this
end Parts
