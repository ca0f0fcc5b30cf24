/-! filling: what it answers, as mathematics -/
def cn (p : Nat → Bool) : Nat → Nat
  | 0 => 0
  | k + 1 => cn p k + (p k).toNat
theorem cn_congr {p q : Nat → Bool} : ∀ N, (∀ x, x < N → p x = q x) → cn p N = cn q N
  | 0, _ => rfl
  | k + 1, h => by
    show cn p k + (p k).toNat = cn q k + (q k).toNat
    rw [cn_congr k (fun x hx => h x (by omega)), h k (by omega)]
theorem cn_one {p q : Nat → Bool} {x0 : Nat} (h : ∀ x, x ≠ x0 → p x = q x) (hq : q x0 = false) : ∀ N, x0 < N → cn p N = cn q N + (p x0).toNat
  | 0, hx => absurd hx (by omega)
  | k + 1, hx => by
    show cn p k + (p k).toNat = cn q k + (q k).toNat + (p x0).toNat
    by_cases e : x0 = k
    · rw [← e, hq, cn_congr (p := p) (q := q) x0 (fun x hx => h x (by omega))]
      rfl
    · rw [h k (fun z => e z.symm), cn_one h hq k (by omega)]
      omega
theorem cn_le (p : Nat → Bool) : ∀ N, cn p N ≤ N
  | 0 => Nat.le_refl _
  | k + 1 => by
    have := cn_le p k
    have h1 : (p k).toNat ≤ 1 := Bool.toNat_le (p k)
    show cn p k + (p k).toNat ≤ k + 1
    omega
theorem cn_pos {p : Nat → Bool} : ∀ N, 0 < cn p N → ∃ j, j < N ∧ p j = true
  | 0, h => absurd h (by show ¬ 0 < 0; omega)
  | k + 1, h => by
    by_cases e : p k = true
    · exact ⟨k, by omega, e⟩
    · have e' : p k = false := by cases hq : p k <;> simp_all
      have h' : 0 < cn p k + (p k).toNat := h
      rw [e'] at h'
      obtain ⟨j, hj, hp⟩ := cn_pos k h'
      exact ⟨j, by omega, hp⟩
theorem cn_zero {p : Nat → Bool} : ∀ N, (∀ x, x < N → p x = false) → cn p N = 0
  | 0, _ => rfl
  | k + 1, h => by
    show cn p k + (p k).toNat = 0
    rw [cn_zero k (fun x hx => h x (by omega)), h k (by omega)]; rfl
def sl (ti : Nat → Nat) (S i t : Nat) : Nat := cn (fun x => decide (i ≤ x) && (ti x == t)) S
def dlf (wi : Nat → Nat) (D m w : Nat) : Nat := cn (fun j => !m.testBit j && (wi j == w)) D
theorem sl_step (ti : Nat → Nat) {S i : Nat} (t : Nat) (hi : i < S) : sl ti S i t = sl ti S (i + 1) t + (ti i == t).toNat := by
  unfold sl
  have h := cn_one (p := fun x => decide (i ≤ x) && (ti x == t)) (q := fun x => decide (i + 1 ≤ x) && (ti x == t)) (x0 := i) (fun x hx => by
    by_cases c : i + 1 ≤ x
    · rw [decide_eq_true c, decide_eq_true (show i ≤ x by omega)]
    · rw [decide_eq_false c, decide_eq_false (show ¬ i ≤ x by omega)]) (by rw [decide_eq_false (show ¬ i + 1 ≤ i by omega), Bool.false_and]) S hi
  rw [h, decide_eq_true (Nat.le_refl i), Bool.true_and]
theorem sl_end (ti : Nat → Nat) (S t : Nat) : sl ti S S t = 0 := cn_zero S (fun x hx => by rw [decide_eq_false (show ¬ S ≤ x by omega), Bool.false_and])
theorem dl_step (wi : Nat → Nat) {D m j : Nat} (w : Nat) (hj : j < D) (hm : m.testBit j = false) : dlf wi D m w = dlf wi D (m ||| 2 ^ j) w + (wi j == w).toNat := by
  unfold dlf
  have h := cn_one (p := fun x => !m.testBit x && (wi x == w)) (q := fun x => !(m ||| 2 ^ j).testBit x && (wi x == w)) (x0 := j) (fun x hx => by
    rw [or_bit, decide_eq_false (fun z => hx z.symm), Bool.or_false]) (by rw [or_bit, decide_eq_true rfl, Bool.or_true]; rfl) D hj
  rw [h, hm, Bool.not_false, Bool.true_and]
def Fm (s0 s1 d0 d1 d2 : Nat) : Nat := min (s0 + s1) (d0 + d1 + d2) + (min s0 d0 + min s1 d1) + min d2 (s0 + s1 - (min s0 d0 + min s1 d1))
def Vv (ti wi : Nat → Nat) (S D i m : Nat) : Nat := Fm (sl ti S i 0) (sl ti S i 1) (dlf wi D m 0) (dlf wi D m 1) (dlf wi D m 2)
def wo (t w : Nat) : Nat := if w = 2 ∨ w = t then 2 else 1
theorem Vv_le (ti wi : Nat → Nat) (S D i m : Nat) : Vv ti wi S D i m ≤ 4 * S := by
  have h0 := cn_le (fun x => decide (i ≤ x) && (ti x == 0)) S
  have h1 := cn_le (fun x => decide (i ≤ x) && (ti x == 1)) S
  unfold Vv Fm sl at *
  omega
theorem V_end (ti wi : Nat → Nat) (S D m : Nat) : Vv ti wi S D S m = 0 := by
  unfold Vv
  rw [sl_end, sl_end]
  unfold Fm
  omega
theorem b00 : ((0 : Nat) == 0).toNat = 1 := rfl
theorem b01 : ((0 : Nat) == 1).toNat = 0 := rfl
theorem b02 : ((0 : Nat) == 2).toNat = 0 := rfl
theorem b10 : ((1 : Nat) == 0).toNat = 0 := rfl
theorem b11 : ((1 : Nat) == 1).toNat = 1 := rfl
theorem b12 : ((1 : Nat) == 2).toNat = 0 := rfl
theorem b20 : ((2 : Nat) == 0).toNat = 0 := rfl
theorem b21 : ((2 : Nat) == 1).toNat = 0 := rfl
theorem b22 : ((2 : Nat) == 2).toNat = 1 := rfl
theorem fa1 (s0 s1 d0 d1 d2 : Nat) : wo 0 0 + Fm s0 s1 d0 d1 d2 = Fm (s0 + 1) (s1 + 0) (d0 + 1) (d1 + 0) (d2 + 0) := by
  rw [show wo 0 0 = 2 from rfl]; unfold Fm; omega
theorem fa2 (s0 s1 d1 d2 : Nat) : wo 0 2 + Fm s0 s1 0 d1 d2 = Fm (s0 + 1) (s1 + 0) 0 (d1 + 0) (d2 + 1) := by
  rw [show wo 0 2 = 2 from rfl]; unfold Fm; omega
theorem fa3 (s0 s1 d1 : Nat) (h : s1 ≤ d1) : wo 0 1 + Fm s0 s1 0 d1 0 = Fm (s0 + 1) (s1 + 0) 0 (d1 + 1) 0 := by
  rw [show wo 0 1 = 1 from rfl]; unfold Fm; omega
theorem fb1 (s0 s1 d0 d1 d2 : Nat) : wo 1 1 + Fm s0 s1 d0 d1 d2 = Fm (s0 + 0) (s1 + 1) (d0 + 0) (d1 + 1) (d2 + 0) := by
  rw [show wo 1 1 = 2 from rfl]; unfold Fm; omega
theorem fb2 (s0 s1 d0 d2 : Nat) : wo 1 2 + Fm s0 s1 d0 0 d2 = Fm (s0 + 0) (s1 + 1) (d0 + 0) 0 (d2 + 1) := by
  rw [show wo 1 2 = 2 from rfl]; unfold Fm; omega
theorem fb3 (s0 s1 d0 : Nat) (h : s0 ≤ d0) : wo 1 0 + Fm s0 s1 d0 0 0 = Fm (s0 + 0) (s1 + 1) (d0 + 1) 0 0 := by
  rw [show wo 1 0 = 1 from rfl]; unfold Fm; omega
section FillM
variable {ti wi : Nat → Nat} {S D i m : Nat}
theorem V_skip (hi : i < S) (ht : ti i < 2) : Vv ti wi S D (i + 1) m ≤ Vv ti wi S D i m := by
  unfold Vv
  rw [sl_step ti 0 hi, sl_step ti 1 hi]
  rcases (show ti i = 0 ∨ ti i = 1 by omega) with e | e
  · rw [e, b00, b01]; unfold Fm; omega
  · rw [e, b10, b11]; unfold Fm; omega
theorem V_use (hi : i < S) (ht : ti i < 2) {j : Nat} (hj : j < D) (hm : m.testBit j = false) (hw : wi j < 3) : wo (ti i) (wi j) + Vv ti wi S D (i + 1) (m ||| 2 ^ j) ≤ Vv ti wi S D i m := by
  unfold Vv
  rw [sl_step ti 0 hi, sl_step ti 1 hi, dl_step wi 0 hj hm, dl_step wi 1 hj hm, dl_step wi 2 hj hm]
  rcases (show ti i = 0 ∨ ti i = 1 by omega) with e | e <;> rcases (show wi j = 0 ∨ wi j = 1 ∨ wi j = 2 by omega) with f | f | f
  · rw [e, f, b00, b01, b02, show wo 0 0 = 2 from rfl]; unfold Fm; omega
  · rw [e, f, b00, b01, b10, b11, b12, show wo 0 1 = 1 from rfl]; unfold Fm; omega
  · rw [e, f, b00, b01, b20, b21, b22, show wo 0 2 = 2 from rfl]; unfold Fm; omega
  · rw [e, f, b10, b11, b00, b01, b02, show wo 1 0 = 1 from rfl]; unfold Fm; omega
  · rw [e, f, b10, b11, b12, show wo 1 1 = 2 from rfl]; unfold Fm; omega
  · rw [e, f, b10, b11, b20, b21, b22, show wo 1 2 = 2 from rfl]; unfold Fm; omega
theorem dl_pos {w : Nat} (h : 0 < dlf wi D m w) : ∃ j, j < D ∧ m.testBit j = false ∧ wi j = w := by
  obtain ⟨j, hj, hp⟩ := cn_pos D h
  have hp' : (!m.testBit j && (wi j == w)) = true := hp
  rw [Bool.and_eq_true, Bool.not_eq_true', beq_iff_eq] at hp'
  exact ⟨j, hj, hp'.1, hp'.2⟩
theorem V_at1 (hi : i < S) (ht : ti i < 2) {j w : Nat} (hj : j < D) (hm : m.testBit j = false) (hw : wi j = w) (h : (w = ti i) ∨ (w = 2 ∧ dlf wi D m (ti i) = 0) ∨ (w = 1 - ti i ∧ dlf wi D m (ti i) = 0 ∧ dlf wi D m 2 = 0 ∧ sl ti S i (1 - ti i) < dlf wi D m (1 - ti i))) : wo (ti i) (wi j) + Vv ti wi S D (i + 1) (m ||| 2 ^ j) = Vv ti wi S D i m := by
  have k0 := sl_step ti 0 hi
  have k1 := sl_step ti 1 hi
  have d0 := dl_step wi 0 hj hm
  have d1 := dl_step wi 1 hj hm
  have d2 := dl_step wi 2 hj hm
  unfold Vv
  subst hw
  rcases (show ti i = 0 ∨ ti i = 1 by omega) with e | e
  · rw [e] at h k0 k1 ⊢
    rw [b00] at k0
    rw [b01] at k1
    rcases h with f | ⟨f, g⟩ | ⟨f, g, g2, g3⟩
    · rw [f] at d0 d1 d2 ⊢
      rw [b00] at d0
      rw [b01] at d1
      rw [b02] at d2
      rw [k0, k1, d0, d1, d2]
      exact fa1 _ _ _ _ _
    · rw [f] at d0 d1 d2 ⊢
      rw [b20, g] at d0
      rw [b21] at d1
      rw [b22] at d2
      rw [k0, k1, g, d1, d2, show dlf wi D (m ||| 2 ^ j) 0 = 0 by omega]
      exact fa2 _ _ _ _
    · have f' : wi j = 1 := f
      have g3' : sl ti S i 1 < dlf wi D m 1 := g3
      rw [f'] at d0 d1 d2 ⊢
      rw [b10, g] at d0
      rw [b11] at d1
      rw [b12, g2] at d2
      rw [k0, k1, d1, g, g2, show dlf wi D (m ||| 2 ^ j) 0 = 0 by omega, show dlf wi D (m ||| 2 ^ j) 2 = 0 by omega]
      exact fa3 _ _ _ (by omega)
  · rw [e] at h k0 k1 ⊢
    rw [b10] at k0
    rw [b11] at k1
    rcases h with f | ⟨f, g⟩ | ⟨f, g, g2, g3⟩
    · rw [f] at d0 d1 d2 ⊢
      rw [b10] at d0
      rw [b11] at d1
      rw [b12] at d2
      rw [k0, k1, d0, d1, d2]
      exact fb1 _ _ _ _ _
    · rw [f] at d0 d1 d2 ⊢
      rw [b20] at d0
      rw [b21, g] at d1
      rw [b22] at d2
      rw [k0, k1, d0, g, d2, show dlf wi D (m ||| 2 ^ j) 1 = 0 by omega]
      exact fb2 _ _ _ _
    · have f' : wi j = 0 := f
      have g3' : sl ti S i 0 < dlf wi D m 0 := g3
      rw [f'] at d0 d1 d2 ⊢
      rw [b00] at d0
      rw [b01, g] at d1
      rw [b02, g2] at d2
      rw [k0, k1, d0, g, g2, show dlf wi D (m ||| 2 ^ j) 1 = 0 by omega, show dlf wi D (m ||| 2 ^ j) 2 = 0 by omega]
      exact fb3 _ _ _ (by omega)
theorem V_att (hi : i < S) (ht : ti i < 2) : Vv ti wi S D i m = Vv ti wi S D (i + 1) m ∨ ∃ j, j < D ∧ m.testBit j = false ∧ wo (ti i) (wi j) + Vv ti wi S D (i + 1) (m ||| 2 ^ j) = Vv ti wi S D i m := by
  by_cases c1 : 0 < dlf wi D m (ti i)
  · obtain ⟨j, hj, hm, hw⟩ := dl_pos c1
    exact Or.inr ⟨j, hj, hm, V_at1 hi ht hj hm hw (Or.inl rfl)⟩
  · by_cases c2 : 0 < dlf wi D m 2
    · obtain ⟨j, hj, hm, hw⟩ := dl_pos c2
      exact Or.inr ⟨j, hj, hm, V_at1 hi ht hj hm hw (Or.inr (Or.inl ⟨rfl, by omega⟩))⟩
    · by_cases c3 : sl ti S i (1 - ti i) < dlf wi D m (1 - ti i)
      · obtain ⟨j, hj, hm, hw⟩ := dl_pos (Nat.lt_of_le_of_lt (Nat.zero_le _) c3)
        exact Or.inr ⟨j, hj, hm, V_at1 hi ht hj hm hw (Or.inr (Or.inr ⟨rfl, by omega, by omega, c3⟩))⟩
      · refine Or.inl ?_
        have k0 := sl_step ti 0 hi
        have k1 := sl_step ti 1 hi
        unfold Vv
        rcases (show ti i = 0 ∨ ti i = 1 by omega) with e | e
        · rw [e] at c1 c3 k0 k1
          rw [b00] at k0
          rw [b01] at k1
          have c3' : ¬ sl ti S i 1 < dlf wi D m 1 := c3
          unfold Fm; omega
        · rw [e] at c1 c3 k0 k1
          rw [b10] at k0
          rw [b11] at k1
          have c3' : ¬ sl ti S i 0 < dlf wi D m 0 := c3
          unfold Fm; omega
end FillM
def ffd (g : Nat → Bool) : Nat → Nat → Nat
  | 0, k => k
  | f + 1, k => if g k = true then k else ffd g f (k + 1)
theorem ffd_spec (g : Nat → Bool) : ∀ f k, (ffd g f k = k + f ∧ ∀ j, k ≤ j → j < k + f → g j = false) ∨ (ffd g f k < k + f ∧ g (ffd g f k) = true)
  | 0, k => Or.inl ⟨rfl, fun j h1 h2 => by omega⟩
  | f + 1, k => by
    unfold ffd
    by_cases c : g k = true
    · rw [if_pos c]; exact Or.inr ⟨by omega, c⟩
    · rw [if_neg c]
      have c' : g k = false := by
        cases h : g k
        · rfl
        · exact absurd h c
      rcases ffd_spec g f (k + 1) with ⟨h1, h2⟩ | ⟨h1, h2⟩
      · refine Or.inl ⟨by omega, fun j h3 h4 => ?_⟩
        by_cases e : j = k
        · rw [e]; exact c'
        · exact h2 j (by omega) (by omega)
      · exact Or.inr ⟨by omega, h2⟩
section FillG
variable (ti wi : Nat → Nat) (S D : Nat)
def gdb (i m j : Nat) : Bool := !m.testBit j && (wo (ti i) (wi j) + Vv ti wi S D (i + 1) (m ||| 2 ^ j) == Vv ti wi S D i m)
def pf (i m : Nat) : Nat := ffd (gdb ti wi S D i m) D 0
def gm : Nat → Nat
  | 0 => 0
  | i + 1 => if pf ti wi S D i (gm i) = D then gm i else gm i ||| 2 ^ pf ti wi S D i (gm i)
def gw (i m : Nat) : Nat := if pf ti wi S D i m = D then 0 else wo (ti i) (wi (pf ti wi S D i m))
def gs : Nat → Nat
  | 0 => 0
  | i + 1 => gs i + gw ti wi S D i (gm ti wi S D i)
def ga (pl dl : Nat → Nat) (a : Nat → Int32) : Nat → Nat → Int32
  | 0 => a
  | i + 1 => if pf ti wi S D i (gm ti wi S D i) = D then ga pl dl a i else upd (ga pl dl a i) (pl i) (nI (dl (pf ti wi S D i (gm ti wi S D i))))
variable {ti wi : Nat → Nat} {S D : Nat}
theorem pf_spec (i m : Nat) : (pf ti wi S D i m = D ∧ ∀ j, j < D → gdb ti wi S D i m j = false) ∨ (pf ti wi S D i m < D ∧ m.testBit (pf ti wi S D i m) = false ∧ wo (ti i) (wi (pf ti wi S D i m)) + Vv ti wi S D (i + 1) (m ||| 2 ^ pf ti wi S D i m) = Vv ti wi S D i m) := by
  rcases ffd_spec (gdb ti wi S D i m) D 0 with ⟨h1, h2⟩ | ⟨h1, h2⟩
  · refine Or.inl ⟨by rw [Nat.zero_add] at h1; exact h1, fun j hj => h2 j (by omega) (by omega)⟩
  · have h2' : gdb ti wi S D i m (pf ti wi S D i m) = true := h2
    unfold gdb at h2'
    rw [Bool.and_eq_true, Bool.not_eq_true', beq_iff_eq] at h2'
    refine Or.inr ⟨by rw [Nat.zero_add] at h1; exact h1, h2'.1, h2'.2⟩
theorem gm_lt : ∀ i, gm ti wi S D i < 2 ^ D
  | 0 => Nat.two_pow_pos D
  | i + 1 => by
    unfold gm
    rcases pf_spec (ti := ti) (wi := wi) (S := S) (D := D) i (gm ti wi S D i) with ⟨h, _⟩ | ⟨h, _⟩
    · rw [if_pos h]; exact gm_lt i
    · rw [if_neg (by omega)]; exact or_lt (gm_lt i) h
theorem gs_V (ht : ∀ x, ti x < 2) : ∀ i, i ≤ S → gs ti wi S D i + Vv ti wi S D i (gm ti wi S D i) = Vv ti wi S D 0 0
  | 0, _ => Nat.zero_add _
  | i + 1, hi => by
    have ih := gs_V ht i (by omega)
    show gs ti wi S D i + gw ti wi S D i (gm ti wi S D i) + Vv ti wi S D (i + 1) (if pf ti wi S D i (gm ti wi S D i) = D then gm ti wi S D i else gm ti wi S D i ||| 2 ^ pf ti wi S D i (gm ti wi S D i)) = Vv ti wi S D 0 0
    unfold gw
    rcases pf_spec (ti := ti) (wi := wi) (S := S) (D := D) i (gm ti wi S D i) with ⟨h, h2⟩ | ⟨h, h2, h3⟩
    · rw [if_pos h, if_pos h]
      rcases V_att (ti := ti) (wi := wi) (D := D) (m := gm ti wi S D i) (show i < S by omega) (ht i) with e | ⟨j, hj, hm, he⟩
      · omega
      · exfalso
        have := h2 j hj
        unfold gdb at this
        rw [hm, Bool.not_false, Bool.true_and, beq_eq_false_iff_ne] at this
        exact this he
    · rw [if_neg (by omega), if_neg (by omega)]
      omega
theorem gs_all (ht : ∀ x, ti x < 2) : gs ti wi S D S = Vv ti wi S D 0 0 := by
  have := gs_V (ti := ti) (wi := wi) (S := S) (D := D) ht S (Nat.le_refl _)
  rw [V_end] at this
  omega
end FillG
/-! what is free, and who gets it -/
def sn (ok : Nat → Bool) : Nat → Nat
  | 0 => 0
  | k + 1 => if ok k = true ∧ sn ok k < 10 then sn ok k + 1 else sn ok k
def sf (ok : Nat → Bool) : Nat → Nat → Nat
  | 0 => fun _ => 0
  | k + 1 => if ok k = true ∧ sn ok k < 10 then (fun i => if i = sn ok k then k else sf ok k i) else sf ok k
theorem sn_le (ok : Nat → Bool) : ∀ k, sn ok k ≤ 10 ∧ sn ok k ≤ k
  | 0 => ⟨by unfold sn; omega, Nat.le_refl _⟩
  | k + 1 => by
    have := sn_le ok k
    unfold sn
    by_cases c : ok k = true ∧ sn ok k < 10
    · rw [if_pos c]; omega
    · rw [if_neg c]; omega
theorem sf_spec (ok : Nat → Bool) : ∀ k i, i < sn ok k → sf ok k i < k ∧ ok (sf ok k i) = true
  | 0, i, h => absurd h (by show ¬ i < 0; omega)
  | k + 1, i, h => by
    unfold sn at h
    unfold sf
    by_cases c : ok k = true ∧ sn ok k < 10
    · rw [if_pos c] at h ⊢
      show (if i = sn ok k then k else sf ok k i) < k + 1 ∧ ok (if i = sn ok k then k else sf ok k i) = true
      by_cases e : i = sn ok k
      · rw [if_pos e]; exact ⟨by omega, c.1⟩
      · rw [if_neg e]
        have := sf_spec ok k i (by omega)
        exact ⟨by omega, this.2⟩
    · rw [if_neg c] at h ⊢
      have := sf_spec ok k i h
      exact ⟨by omega, this.2⟩
theorem sf_mono (ok : Nat → Bool) : ∀ k i j, i < j → j < sn ok k → sf ok k i < sf ok k j
  | 0, i, j, _, h => absurd h (by show ¬ j < 0; omega)
  | k + 1, i, j, hij, h => by
    unfold sn at h
    unfold sf
    by_cases c : ok k = true ∧ sn ok k < 10
    · rw [if_pos c] at h ⊢
      show (if i = sn ok k then k else sf ok k i) < (if j = sn ok k then k else sf ok k j)
      rw [if_neg (show ¬ i = sn ok k by omega)]
      by_cases e : j = sn ok k
      · rw [if_pos e]; exact (sf_spec ok k i (by omega)).1
      · rw [if_neg e]; exact sf_mono ok k i j hij (by omega)
    · rw [if_neg c] at h ⊢
      exact sf_mono ok k i j hij h
theorem sf_inj (ok : Nat → Bool) (k : Nat) {i j : Nat} (hi : i < sn ok k) (hj : j < sn ok k) (e : sf ok k i = sf ok k j) : i = j := by
  by_cases c : i < j
  · have := sf_mono ok k i j c hj; omega
  · by_cases c2 : j < i
    · have := sf_mono ok k j i c2 hi; omega
    · omega
theorem sn_full (ok : Nat → Bool) {k : Nat} (h : sn ok k = 10) : ∀ m, sn ok (k + m) = 10 ∧ sf ok (k + m) = sf ok k
  | 0 => ⟨h, rfl⟩
  | m + 1 => by
    have ih := sn_full ok h m
    show (if ok (k + m) = true ∧ sn ok (k + m) < 10 then sn ok (k + m) + 1 else sn ok (k + m)) = 10 ∧ (if ok (k + m) = true ∧ sn ok (k + m) < 10 then (fun i => if i = sn ok (k + m) then (k + m) else sf ok (k + m) i) else sf ok (k + m)) = sf ok k
    rw [if_neg (by omega), if_neg (by omega)]
    exact ih
theorem sn_y {ok : Nat → Bool} {k : Nat} (h1 : ok k = true) (h2 : sn ok k < 10) : sn ok (k + 1) = sn ok k + 1 := if_pos ⟨h1, h2⟩
theorem sf_y {ok : Nat → Bool} {k : Nat} (h1 : ok k = true) (h2 : sn ok k < 10) : sf ok (k + 1) = fun i => if i = sn ok k then k else sf ok k i := if_pos ⟨h1, h2⟩
theorem sn_n {ok : Nat → Bool} {k : Nat} (h : ¬ (ok k = true ∧ sn ok k < 10)) : sn ok (k + 1) = sn ok k := if_neg h
theorem sf_n {ok : Nat → Bool} {k : Nat} (h : ¬ (ok k = true ∧ sn ok k < 10)) : sf ok (k + 1) = sf ok k := if_neg h
/-- how many of the listed are of a sort -/
theorem cn_sf_y {ok : Nat → Bool} {k : Nat} (h1 : ok k = true) (h2 : sn ok k < 10) (q : Nat → Nat) (t : Nat) : cn (fun x => q (sf ok (k + 1) x) == t) (sn ok (k + 1)) = cn (fun x => q (sf ok k x) == t) (sn ok k) + (q k == t).toNat := by
  rw [sn_y h1 h2, sf_y h1 h2]
  show cn (fun x => q (if x = sn ok k then k else sf ok k x) == t) (sn ok k) + (q (if sn ok k = sn ok k then k else sf ok k (sn ok k)) == t).toNat = _
  rw [if_pos rfl]
  congr 1
  exact cn_congr _ (fun x hx => by rw [if_neg (show ¬ x = sn ok k by omega)])
theorem sl_0 (ti : Nat → Nat) (S t : Nat) : sl ti S 0 t = cn (fun x => ti x == t) S := cn_congr S (fun x _ => by rw [decide_eq_true (Nat.zero_le x), Bool.true_and])
theorem dlf_0 (wi : Nat → Nat) (D w : Nat) : dlf wi D 0 w = cn (fun x => wi x == w) D := cn_congr D (fun x _ => by rw [Nat.zero_testBit, Bool.not_false, Bool.true_and])
section GaF
variable {ti wi : Nat → Nat} {S D B d : Nat} {pl dl : Nat → Nat} {a : Nat → Int32}
theorem ga_y {i : Nat} (h : pf ti wi S D i (gm ti wi S D i) = D) : ga ti wi S D pl dl a (i + 1) = ga ti wi S D pl dl a i := if_pos h
theorem ga_n {i : Nat} (h : ¬ pf ti wi S D i (gm ti wi S D i) = D) : ga ti wi S D pl dl a (i + 1) = upd (ga ti wi S D pl dl a i) (pl i) (nI (dl (pf ti wi S D i (gm ti wi S D i)))) := if_neg h
theorem gm_y {i : Nat} (h : pf ti wi S D i (gm ti wi S D i) = D) : gm ti wi S D (i + 1) = gm ti wi S D i := if_pos h
theorem gm_n {i : Nat} (h : ¬ pf ti wi S D i (gm ti wi S D i) = D) : gm ti wi S D (i + 1) = gm ti wi S D i ||| 2 ^ pf ti wi S D i (gm ti wi S D i) := if_neg h
theorem ga_facts (hpl : ∀ i, i < S → pl i < B) (hdl : ∀ j, j < D → dl j < d) (hd : d ≤ 16) (hinj : ∀ i j, i < D → j < D → dl i = dl j → i = j) (hfree : ∀ j, j < D → ∀ x, x < 24 → ¬ a x = nI (dl j)) (ha : ∀ x, x < 24 → a x = -1 ∨ ∃ k, k < d ∧ a x = nI k) (hai : ∀ x y, x < 24 → y < 24 → a x = a y → ¬ a x = -1 → x = y) : ∀ i, i ≤ S → (∀ x, B ≤ x → ga ti wi S D pl dl a i x = a x) ∧ (∀ j, j < D → (gm ti wi S D i).testBit j = false → ∀ x, x < 24 → ¬ ga ti wi S D pl dl a i x = nI (dl j)) ∧ (∀ x, x < 24 → ga ti wi S D pl dl a i x = -1 ∨ ∃ k, k < d ∧ ga ti wi S D pl dl a i x = nI k) ∧ ∀ x y, x < 24 → y < 24 → ga ti wi S D pl dl a i x = ga ti wi S D pl dl a i y → ¬ ga ti wi S D pl dl a i x = -1 → x = y
  | 0, _ => ⟨fun _ _ => rfl, fun j hj _ => hfree j hj, ha, hai⟩
  | i + 1, hi => by
    have ih := ga_facts hpl hdl hd hinj hfree ha hai i (by omega)
    rcases pf_spec (ti := ti) (wi := wi) (S := S) (D := D) i (gm ti wi S D i) with ⟨h, _⟩ | ⟨h, h2, _⟩
    · rw [ga_y h, gm_y h]; exact ih
    · have hne : ¬ pf ti wi S D i (gm ti wi S D i) = D := by omega
      rw [ga_n hne, gm_n hne]
      revert h h2
      generalize pf ti wi S D i (gm ti wi S D i) = j0
      revert ih
      generalize ga ti wi S D pl dl a i = g
      generalize gm ti wi S D i = m
      intro ih h h2
      obtain ⟨a1, a2, a3, a4⟩ := ih
      have hp := hpl i (by omega)
      refine ⟨fun x hx => ?_, fun j hj hm x hx => ?_, fun x hx => ?_, fun x y hx hy e hne => ?_⟩
      · rw [upd_n _ _ (by omega)]; exact a1 x hx
      · rw [or_bit, Bool.or_eq_false_iff, decide_eq_false_iff_not] at hm
        by_cases e : x = pl i
        · rw [e, upd_s]
          intro z
          have := (nI_eq (show dl j0 < 2 ^ 31 by have := hdl j0 h; omega) (show dl j < 2 ^ 31 by have := hdl j hj; omega)).mp z
          exact hm.2 (hinj _ _ h hj this)
        · rw [upd_n _ _ e]; exact a2 j hj hm.1 x hx
      · by_cases e : x = pl i
        · rw [e, upd_s]; exact Or.inr ⟨_, hdl j0 h, rfl⟩
        · rw [upd_n _ _ e]; exact a3 x hx
      · by_cases ex : x = pl i
        · by_cases ey : y = pl i
          · omega
          · rw [ex, upd_s, upd_n _ _ ey] at e
            exact absurd e.symm (a2 j0 h h2 y hy)
        · by_cases ey : y = pl i
          · rw [ey, upd_s, upd_n _ _ ex] at e
            exact absurd e (a2 j0 h h2 x hx)
          · rw [upd_n _ _ ex, upd_n _ _ ey] at e
            rw [upd_n _ _ ex] at hne
            exact a4 x y hx hy e hne
end GaF
