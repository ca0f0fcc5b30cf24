/-! the law's text: what it says, as mathematics -/
def tl (k : Nat) : Nat := (ax_tx.getD k []).length
def tx (k i : Nat) : Int32 := (ax_tx.getD k []).getD i 0
section LawM
variable (s : Nat → Int32)
def Lc (a k : Nat) : Nat := ffd (fun i => !(decide (s (a + i) = tx k i))) (tl k) 0
def wk (a : Nat) : Nat := ffd (fun k => Lc s a k == tl k) 6 0
def mL (a : Nat) : Nat → Nat
  | 0 => 0
  | k + 1 => max (mL a k) (Lc s a k)
def wp (a : Nat) : Nat := if wk s a = 6 then a + mL s a 6 else a + tl (wk s a)
abbrev dgt (m : Int) (a : Nat) : Prop := 48 ≤ (s a).toInt ∧ (s a).toInt ≤ 48 + m
def nd (b : Nat) : Nat := ffd (fun i => !(decide (dgt s 9 (b + i)))) 4 0
def nv (b : Nat) : Nat → Int32
  | 0 => 0
  | n + 1 => nv b n * 10 + (s (b + n) - 48)
def nmo (k : Nat) (w : Int32) (b : Nat) : Option (Nat × Int32 × Int32) × Nat := if nd s b = 0 then (none, b) else (some (k, w, nv s b (nd s b)), b + nd s b)
def clo (a : Nat) : Option (Nat × Int32 × Int32) × Nat := if wk s a = 6 then (none, wp s a) else if wk s a = 3 then (if dgt s 4 (wp s a) then (if s (wp s a + 1) = 32 then nmo s 3 (s (wp s a) - 48) (wp s a + 2) else (none, wp s a + 1)) else (none, wp s a)) else nmo s (wk s a) 0 (wp s a)
def pa : Nat → Nat
  | 0 => 0
  | i + 1 => (clo s (pa i)).2 + 1
/-- how many clauses the text has, and where its reading ends -/
def out (T : Nat) : Nat → Nat → Option Nat × Nat
  | 0, i => (none, pa s i)
  | f + 1, i => if (clo s (pa s i)).1 = none then (none, (clo s (pa s i)).2) else if (clo s (pa s i)).2 = T then (some (i + 1), (clo s (pa s i)).2) else if i = 5 then (none, (clo s (pa s i)).2) else if s (clo s (pa s i)).2 = 59 then out T f (i + 1) else (none, (clo s (pa s i)).2)
variable {s : Nat → Int32}
theorem tl_b : ∀ k : Fin 6, 4 ≤ tl k.val ∧ tl k.val ≤ 6 := by decide
theorem tl_le {k : Nat} (h : k < 6) : 4 ≤ tl k ∧ tl k ≤ 6 := tl_b ⟨k, h⟩
theorem tx_bl : ∀ k : Fin 6, tx k.val (tl k.val - 1) = 32 := by decide
theorem pfree : ∀ k j : Fin 6, k ≠ j → ∃ i : Fin 5, i.val + 1 < tl k.val ∧ i.val < tl j.val ∧ tx k.val i.val ≠ tx j.val i.val := by decide
theorem Lc_spec (a k : Nat) : Lc s a k ≤ tl k ∧ (∀ i, i < Lc s a k → s (a + i) = tx k i) ∧ (Lc s a k < tl k → ¬ s (a + Lc s a k) = tx k (Lc s a k)) := by
  obtain ⟨h1, h2, h3⟩ := ffd_min (fun i => !(decide (s (a + i) = tx k i))) (tl k) 0
  refine ⟨by show ffd _ _ _ ≤ _; omega, fun i hi => ?_, fun hlt => ?_⟩
  · have := h3 i (by omega) hi
    rw [Bool.not_eq_false', decide_eq_true_iff] at this
    exact this
  · rcases ffd_spec (fun i => !(decide (s (a + i) = tx k i))) (tl k) 0 with ⟨h4, _⟩ | ⟨_, h5⟩
    · have : Lc s a k = 0 + tl k := h4
      omega
    · have h5' : (!(decide (s (a + Lc s a k) = tx k (Lc s a k)))) = true := h5
      rw [Bool.not_eq_true', decide_eq_false_iff_not] at h5'
      exact h5'
theorem Lc_ge {a k n : Nat} (hn : n ≤ tl k) (h : ∀ i, i < n → s (a + i) = tx k i) : n ≤ Lc s a k := by
  obtain ⟨h1, h2, h3⟩ := Lc_spec (s := s) a k
  by_cases c : Lc s a k < n
  · exact absurd (h _ c) (h3 (by omega))
  · omega
/-- a word that is there leaves no room for another -/
theorem Lc_other {a k j : Nat} (hk : k < 6) (hj : j < 6) (hne : k ≠ j) (h : tl k ≤ Lc s a k + 1) : Lc s a j + 1 < tl k ∧ Lc s a j < tl j := by
  obtain ⟨i, h1, h2, h3⟩ := pfree ⟨k, hk⟩ ⟨j, hj⟩ (fun e => hne (Fin.mk.inj e))
  have h1' : i.val + 1 < tl k := h1
  have h2' : i.val < tl j := h2
  have h3' : tx k i.val ≠ tx j i.val := h3
  have e := (Lc_spec (s := s) a k).2.1 i.val (by omega)
  by_cases c : i.val < Lc s a j
  · have e2 := (Lc_spec (s := s) a j).2.1 i.val c
    exact absurd (e.symm.trans e2) h3'
  · omega
theorem mL_spec (a : Nat) : ∀ n, (∀ k, k < n → Lc s a k ≤ mL s a n) ∧ (n = 0 ∨ ∃ k, k < n ∧ mL s a n = Lc s a k)
  | 0 => ⟨fun k hk => absurd hk (by omega), Or.inl rfl⟩
  | n + 1 => by
    obtain ⟨h1, h2⟩ := mL_spec a n
    have e : mL s a (n + 1) = max (mL s a n) (Lc s a n) := rfl
    refine ⟨fun k hk => ?_, Or.inr ?_⟩
    · by_cases c : k = n
      · rw [c, e]; exact Nat.le_max_right _ _
      · have := h1 k (by omega)
        omega
    · by_cases c : mL s a n ≤ Lc s a n
      · exact ⟨n, by omega, by omega⟩
      · rcases h2 with h2 | ⟨k, hk, h2⟩
        · rw [h2] at c
          exact absurd (Nat.zero_le _) c
        · exact ⟨k, by omega, by omega⟩
theorem mL_eq {a n : Nat} (h1 : ∀ k, k < 6 → Lc s a k ≤ n) (h2 : ∃ k, k < 6 ∧ Lc s a k = n) : mL s a 6 = n := by
  obtain ⟨m1, m2⟩ := mL_spec (s := s) a 6
  obtain ⟨k, hk, e⟩ := h2
  have := m1 k hk
  rcases m2 with m2 | ⟨j, hj, m2⟩
  · omega
  · have := h1 j hj
    omega
theorem wk_le (a : Nat) : wk s a ≤ 6 := by
  have := (ffd_min (fun k => Lc s a k == tl k) 6 0).2.1
  show ffd _ _ _ ≤ 6
  omega
theorem wk_none {a : Nat} (h : ∀ k, k < 6 → Lc s a k ≠ tl k) : wk s a = 6 := by
  rcases ffd_spec (fun k => Lc s a k == tl k) 6 0 with ⟨h1, _⟩ | ⟨h1, h2⟩
  · exact h1
  · exact absurd (beq_iff_eq.mp h2) (h _ (by omega))
theorem wk_some {a k : Nat} (hk : k < 6) (h : Lc s a k = tl k) : wk s a = k := by
  rcases ffd_spec (fun k => Lc s a k == tl k) 6 0 with ⟨h1, h2⟩ | ⟨h1, h2⟩
  · have := h2 k (by omega) (by omega)
    have h3 : (Lc s a k == tl k) = false := this
    rw [h, beq_self_eq_true] at h3
    exact absurd h3 (by decide)
  · have h3 : Lc s a (wk s a) = tl (wk s a) := beq_iff_eq.mp h2
    have h4 : wk s a < 6 := by show ffd _ _ _ < 6; omega
    by_cases c : wk s a = k
    · exact c
    · have := (Lc_other (s := s) (a := a) hk h4 (fun z => c z.symm) (by omega)).2
      omega
theorem wp_le (a : Nat) : wp s a ≤ a + 6 := by
  unfold wp
  by_cases c : wk s a = 6
  · rw [if_pos c]
    rcases (mL_spec (s := s) a 6).2 with h | ⟨k, hk, h⟩
    · omega
    · have h1 := (Lc_spec (s := s) a k).1
      have h2 := tl_le hk
      omega
  · rw [if_neg c]
    have h1 := wk_le (s := s) a
    have h2 := tl_le (k := wk s a) (by omega)
    omega
theorem nd_spec (b : Nat) : nd s b ≤ 4 ∧ ∀ i, i < nd s b → dgt s 9 (b + i) := by
  obtain ⟨h1, h2, h3⟩ := ffd_min (fun i => !(decide (dgt s 9 (b + i)))) 4 0
  refine ⟨by show ffd _ _ _ ≤ _; omega, fun i hi => ?_⟩
  have := h3 i (by omega) hi
  rw [Bool.not_eq_false', decide_eq_true_iff] at this
  exact this
theorem nmo_le (k : Nat) (w : Int32) (b : Nat) : (nmo s k w b).2 ≤ b + 4 := by
  unfold nmo
  by_cases c : nd s b = 0
  · rw [if_pos c]; show b ≤ b + 4; omega
  · rw [if_neg c]
    have := (nd_spec (s := s) b).1
    show b + nd s b ≤ b + 4
    omega
theorem clo_le (a : Nat) : (clo s a).2 ≤ a + 12 := by
  have h := wp_le (s := s) a
  unfold clo
  by_cases c : wk s a = 6
  · rw [if_pos c]; show wp s a ≤ a + 12; omega
  · rw [if_neg c]
    by_cases c2 : wk s a = 3
    · rw [if_pos c2]
      by_cases c3 : dgt s 4 (wp s a)
      · rw [if_pos c3]
        by_cases c4 : s (wp s a + 1) = 32
        · rw [if_pos c4]
          have := nmo_le (s := s) 3 (s (wp s a) - 48) (wp s a + 2)
          omega
        · rw [if_neg c4]; show wp s a + 1 ≤ a + 12; omega
      · rw [if_neg c3]; show wp s a ≤ a + 12; omega
    · rw [if_neg c2]
      have := nmo_le (s := s) (wk s a) 0 (wp s a)
      omega
theorem pa_le : ∀ i, pa s i ≤ 13 * i
  | 0 => Nat.le_refl _
  | i + 1 => by
    have h1 := pa_le i
    have h2 := clo_le (s := s) (pa s i)
    show (clo s (pa s i)).2 + 1 ≤ 13 * (i + 1)
    omega
end LawM
