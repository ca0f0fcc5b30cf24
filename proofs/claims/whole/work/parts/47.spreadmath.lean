/-! spreading: the least way, as mathematics -/
def sm (w : Nat → Nat) : Nat → Nat
  | 0 => 0
  | k + 1 => sm w k + w k
theorem sm_congr {u v : Nat → Nat} : ∀ N, (∀ x, x < N → u x = v x) → sm u N = sm v N
  | 0, _ => rfl
  | k + 1, h => by
    show sm u k + u k = sm v k + v k
    rw [sm_congr k (fun x hx => h x (by omega)), h k (by omega)]
theorem sm_add {u v w : Nat → Nat} : ∀ N, (∀ x, x < N → w x = u x + v x) → sm w N = sm u N + sm v N
  | 0, _ => rfl
  | k + 1, h => by
    show sm w k + w k = sm u k + u k + (sm v k + v k)
    rw [sm_add k (fun x hx => h x (by omega)), h k (by omega)]
    omega
theorem sm_le {u : Nat → Nat} {b : Nat} : ∀ N, (∀ x, x < N → u x ≤ b) → sm u N ≤ N * b
  | 0, _ => Nat.zero_le _
  | k + 1, h => by
    have h1 := sm_le k (fun x hx => h x (by omega))
    have h2 := h k (by omega)
    have h3 : (k + 1) * b = k * b + b := Nat.succ_mul k b
    show sm u k + u k ≤ (k + 1) * b
    omega
theorem sub_next : ∀ n s0 a s, s0 ≤ n → s0 &&& a = s0 → s &&& a = s → s < s0 → s ≤ (s0 - 1) &&& a
  | 0, s0, a, s, h0, _, _, h => by omega
  | n + 1, s0, a, s, h0, h1, h2, h => by
    have d1 : s0 / 2 &&& a / 2 = s0 / 2 := by rw [← Nat.and_div_two, h1]
    have d2 : s / 2 &&& a / 2 = s / 2 := by rw [← Nat.and_div_two, h2]
    have e1 : s0 % 2 = 1 → a % 2 = 1 := fun z => by
      rw [← h1] at z; exact (Nat.and_mod_two_eq_one.mp z).2
    have e2 : s % 2 = 1 → a % 2 = 1 := fun z => by
      rw [← h2] at z; exact (Nat.and_mod_two_eq_one.mp z).2
    have x1 : ((s0 - 1) &&& a) / 2 = (s0 - 1) / 2 &&& a / 2 := Nat.and_div_two
    have x2 : ((s0 - 1) &&& a) % 2 = 1 ↔ (s0 - 1) % 2 = 1 ∧ a % 2 = 1 := Nat.and_mod_two_eq_one
    by_cases c : s0 % 2 = 1
    · rw [show (s0 - 1) / 2 = s0 / 2 by omega, d1] at x1
      omega
    · by_cases c2 : s / 2 < s0 / 2
      · have ih := sub_next n (s0 / 2) (a / 2) (s / 2) (by omega) d1 d2 c2
        rw [show (s0 - 1) / 2 = s0 / 2 - 1 by omega] at x1
        by_cases c3 : s % 2 = 1
        · have := x2.mpr ⟨by omega, e2 c3⟩
          omega
        · omega
      · omega
theorem and_iff {s m : Nat} : s &&& m = s ↔ ∀ f, s.testBit f = true → m.testBit f = true := by
  constructor
  · intro h f hf
    rw [← h, Nat.testBit_and, Bool.and_eq_true] at hf
    exact hf.2
  · intro h
    apply Nat.eq_of_testBit_eq
    intro f
    rw [Nat.testBit_and]
    by_cases c : s.testBit f = true
    · rw [c, h f c]; rfl
    · rw [bit_tf c]; rfl
theorem xor_sub {g s : Nat} (h : s &&& g = s) (f : Nat) : (g ^^^ s).testBit f = (g.testBit f && !s.testBit f) := by
  rw [Nat.testBit_xor]
  have := and_iff.mp h f
  cases hg : g.testBit f <;> cases hs : s.testBit f
  · rfl
  · rw [hs] at this
    rw [this rfl] at hg
    exact absurd hg (by decide)
  · rfl
  · rfl
theorem xor_lt {g s : Nat} (h : s &&& g = s) (hs : s ≠ 0) : g ^^^ s < g := by
  have h1 : (g ^^^ s) &&& g = g ^^^ s := by
    rw [and_iff]
    intro f hf
    rw [xor_sub h, Bool.and_eq_true] at hf
    exact hf.1
  have h2 : g ^^^ s ≤ g := by rw [← h1]; exact Nat.and_le_right
  have h3 : g ^^^ s ≠ g := by
    intro e
    obtain ⟨f, hf⟩ := Nat.exists_testBit_of_ne_zero hs
    have h4 := xor_sub h f
    rw [e, hf, and_iff.mp h f hf] at h4
    exact absurd h4 (by decide)
  omega
/-- a mask of a property -/
def mk (p : Nat → Bool) : Nat → Nat
  | 0 => 0
  | k + 1 => if p k = true then mk p k ||| 2 ^ k else mk p k
theorem mk_bit (p : Nat → Bool) : ∀ N f, (mk p N).testBit f = (decide (f < N) && p f)
  | 0, f => by
    show (0 : Nat).testBit f = _
    rw [Nat.zero_testBit, decide_eq_false (by omega), Bool.false_and]
  | k + 1, f => by
    have ih := mk_bit p k f
    unfold mk
    by_cases c : p k = true
    · rw [if_pos c, or_bit, ih]
      by_cases e : k = f
      · rw [← e, decide_eq_true rfl, decide_eq_true (show k < k + 1 by omega), c, Bool.or_true, Bool.true_and]
      · rw [decide_eq_false e, Bool.or_false]
        by_cases h : f < k
        · rw [decide_eq_true h, decide_eq_true (show f < k + 1 by omega)]
        · rw [decide_eq_false h, decide_eq_false (show ¬ f < k + 1 by omega)]
    · rw [if_neg c, ih]
      by_cases e : k = f
      · rw [← e, decide_eq_false (show ¬ k < k by omega), decide_eq_true (show k < k + 1 by omega), Bool.false_and, Bool.true_and]
        cases hq : p k
        · rfl
        · exact absurd hq c
      · by_cases h : f < k
        · rw [decide_eq_true h, decide_eq_true (show f < k + 1 by omega)]
        · rw [decide_eq_false h, decide_eq_false (show ¬ f < k + 1 by omega)]
theorem mk_lt (p : Nat → Bool) (N : Nat) : mk p N < 2 ^ N := by
  apply Nat.lt_pow_two_of_testBit
  intro i hi
  rw [mk_bit, decide_eq_false (by omega), Bool.false_and]
section Spr
variable (F : Nat) (st : Nat → Nat) (mo : Nat) (rt : Nat → Nat → Nat)
/-- a way to place a group in the first hours -/
def Wy (i g : Nat) (t : Nat → Nat) : Prop := (∀ f, f < F → g.testBit f = true → t f < i ∧ (st f).testBit (t f) = true) ∧ ∀ h, h < i → cn (fun f => g.testBit f && (t f == h)) F ≤ mo
def Sg (g : Nat) (t : Nat → Nat) : Nat := sm (fun f => if g.testBit f = true then rt f (t f) else 0) F
def ad (i s : Nat) : Nat := sm (fun f => if s.testBit f = true then rt f i else 0) F
def pc (s : Nat) : Nat := cn (fun f => s.testBit f) F
def IMP : Nat := 1073741824
def Bd (i g v : Nat) : Prop := (v = IMP ∧ ∀ t, ¬ Wy F st mo i g t) ∨ (v < IMP ∧ (∃ t, Wy F st mo i g t ∧ Sg F rt g t = v) ∧ ∀ t, Wy F st mo i g t → v ≤ Sg F rt g t)
/-- what an hour may add to a group -/
def Cd (i g : Nat) (old : Nat → Nat) (s : Nat) : Prop := s &&& g = s ∧ (∀ f, f < F → s.testBit f = true → (st f).testBit i = true) ∧ s < 2 ^ F ∧ pc F s ≤ mo ∧ old (g ^^^ s) ≠ IMP
variable {F : Nat} {st : Nat → Nat} {mo : Nat} {rt : Nat → Nat → Nat}
theorem Sg_split {g s i : Nat} {t t' : Nat → Nat} (hs : s &&& g = s) (h1 : ∀ f, f < F → s.testBit f = true → t f = i) (h2 : ∀ f, f < F → g.testBit f = true → s.testBit f = false → t f = t' f) : Sg F rt g t = Sg F rt (g ^^^ s) t' + ad F rt i s := by
  refine sm_add F (fun f hf => ?_)
  rw [xor_sub hs]
  by_cases c : s.testBit f = true
  · rw [c, and_iff.mp hs f c, h1 f hf c]
    rw [if_pos rfl, if_neg (by decide), Nat.zero_add]
  · have c' := bit_tf c
    rw [c', Bool.not_false, Bool.and_true, if_neg (show ¬ false = true by decide), Nat.add_zero]
    by_cases d : g.testBit f = true
    · rw [if_pos d, if_pos d, h2 f hf d c']
    · rw [if_neg d, if_neg d]
theorem Bd_step {i g v : Nat} {old : Nat → Nat} (ho : ∀ g', g' ≤ g → Bd F st mo rt i g' (old g')) (hb : ∀ t, Wy F st mo (i + 1) g t → Sg F rt g t < IMP) (hs : v = old g ∨ ∃ s, s ≠ 0 ∧ Cd F st mo i g old s ∧ v = old (g ^^^ s) + ad F rt i s) (hc1 : v ≤ old g) (hc2 : ∀ s, s ≠ 0 → Cd F st mo i g old s → v ≤ old (g ^^^ s) + ad F rt i s) : Bd F st mo rt (i + 1) g v := by
  have lower : ∀ t, Wy F st mo (i + 1) g t → v < IMP ∧ v ≤ Sg F rt g t := by
    intro t ht
    obtain ⟨s, hse⟩ : ∃ s, s = mk (fun f => g.testBit f && (t f == i)) F := ⟨_, rfl⟩
    have hbit : ∀ f, f < F → s.testBit f = (g.testBit f && (t f == i)) := by
      intro f hf
      rw [hse, mk_bit, decide_eq_true hf, Bool.true_and]
    have hbit2 : ∀ f, ¬ f < F → s.testBit f = false := by
      intro f hf
      rw [hse, mk_bit, decide_eq_false hf, Bool.false_and]
    have hsg : s &&& g = s := by
      rw [and_iff]
      intro f hf
      by_cases c : f < F
      · rw [hbit f c, Bool.and_eq_true] at hf; exact hf.1
      · rw [hbit2 f c] at hf; exact absurd hf (by decide)
    have hsi : ∀ f, f < F → s.testBit f = true → t f = i := by
      intro f hf hq
      rw [hbit f hf, Bool.and_eq_true, beq_iff_eq] at hq
      exact hq.2
    have hpc : pc F s ≤ mo := by
      have := ht.2 i (by omega)
      unfold pc
      rw [cn_congr (p := fun f => s.testBit f) (q := fun f => g.testBit f && (t f == i)) F hbit]
      exact this
    have hw : Wy F st mo i (g ^^^ s) t := by
      refine ⟨fun f hf hq => ?_, fun h hh => ?_⟩
      · rw [xor_sub hsg, Bool.and_eq_true, Bool.not_eq_true'] at hq
        have h1 := ht.1 f hf hq.1
        have h2 : t f ≠ i := by
          intro e
          have := hbit f hf
          rw [hq.2, hq.1, e, beq_self_eq_true] at this
          exact absurd this (by decide)
        exact ⟨by omega, h1.2⟩
      · have := ht.2 h (by omega)
        rw [cn_congr (p := fun f => (g ^^^ s).testBit f && (t f == h)) (q := fun f => g.testBit f && (t f == h)) F]
        · exact this
        · intro f hf
          rw [xor_sub hsg, hbit f hf]
          by_cases e : t f = h
          · have : (t f == i) = false := beq_eq_false_iff_ne.mpr (by omega)
            rw [this, Bool.and_false, Bool.not_false, Bool.and_true]
          · have : (t f == h) = false := beq_eq_false_iff_ne.mpr e
            rw [this, Bool.and_false, Bool.and_false]
    have hle : g ^^^ s ≤ g := by
      by_cases z : s = 0
      · rw [z, Nat.xor_zero]; exact Nat.le_refl _
      · exact Nat.le_of_lt (xor_lt hsg z)
    have hsum := Sg_split (rt := rt) (i := i) (t := t) (t' := t) hsg hsi (fun _ _ _ _ => rfl)
    have hbt := hb t ht
    rcases ho (g ^^^ s) hle with ⟨h1, h2⟩ | ⟨h1, h2, h3⟩
    · exact absurd hw (h2 t)
    · have h4 := h3 t hw
      by_cases z : s = 0
      · rw [z, Nat.xor_zero] at h4 hsum h1
        have : ad F rt i 0 = 0 := by
          unfold ad
          rw [sm_congr (v := fun _ => 0) F (fun x _ => by rw [Nat.zero_testBit]; rfl)]
          have := sm_le (u := fun _ => 0) (b := 0) F (fun _ _ => Nat.le_refl _)
          omega
        omega
      · have h5 := hc2 s z ⟨hsg, fun f hf hq => ?_, ?_, hpc, by omega⟩
        · omega
        · have hfi := hsi f hf hq
          have := (ht.1 f hf (and_iff.mp hsg f hq)).2
          rw [hfi] at this
          exact this
        · rw [hse]; exact mk_lt _ _
  by_cases hv : v < IMP
  · refine Or.inr ⟨hv, ?_, fun t ht => (lower t ht).2⟩
    rcases hs with e | ⟨s, hs0, ⟨c1, c2, c3, c4, c5⟩, e⟩
    · rcases ho g (Nat.le_refl _) with ⟨h1, h2⟩ | ⟨h1, ⟨t, h2, h2'⟩, h3⟩
      · omega
      · refine ⟨t, ⟨fun f hf hq => ?_, fun h hh => ?_⟩, by omega⟩
        · have := h2.1 f hf hq
          exact ⟨by omega, this.2⟩
        · by_cases z : h = i
          · rw [cn_zero F (fun f hf => ?_)]
            · exact Nat.zero_le _
            · by_cases d : g.testBit f = true
              · have := (h2.1 f hf d).1
                rw [d, Bool.true_and, beq_eq_false_iff_ne]; omega
              · rw [bit_tf d, Bool.false_and]
          · exact h2.2 h (by omega)
    · have hxl := xor_lt c1 hs0
      rcases ho (g ^^^ s) (by omega) with ⟨h1, h2⟩ | ⟨h1, ⟨t', h2, h2'⟩, h3⟩
      · exact absurd h1 c5
      · refine ⟨fun f => if s.testBit f = true then i else t' f, ⟨fun f hf hq => ?_, fun h hh => ?_⟩, ?_⟩
        · show (if s.testBit f = true then i else t' f) < i + 1 ∧ (st f).testBit (if s.testBit f = true then i else t' f) = true
          by_cases d : s.testBit f = true
          · rw [if_pos d]; exact ⟨by omega, c2 f hf d⟩
          · rw [if_neg d]
            have := h2.1 f hf (by rw [xor_sub c1, hq, bit_tf d]; rfl)
            exact ⟨by omega, this.2⟩
        · by_cases z : h = i
          · rw [cn_congr (q := fun f => s.testBit f) F (fun f hf => ?_)]
            · exact c4
            · show (g.testBit f && ((if s.testBit f = true then i else t' f) == h)) = s.testBit f
              by_cases d : s.testBit f = true
              · rw [if_pos d, and_iff.mp c1 f d, d, z, beq_self_eq_true]; rfl
              · rw [if_neg d, bit_tf d]
                by_cases d2 : g.testBit f = true
                · have := (h2.1 f hf (by rw [xor_sub c1, d2, bit_tf d]; rfl)).1
                  rw [d2, Bool.true_and, beq_eq_false_iff_ne]; omega
                · rw [bit_tf d2, Bool.false_and]
          · have := h2.2 h (by omega)
            rw [cn_congr (q := fun f => (g ^^^ s).testBit f && (t' f == h)) F (fun f hf => ?_)]
            · exact this
            · show (g.testBit f && ((if s.testBit f = true then i else t' f) == h)) = ((g ^^^ s).testBit f && (t' f == h))
              rw [xor_sub c1]
              by_cases d : s.testBit f = true
              · rw [if_pos d, d]
                have : (i == h) = false := beq_eq_false_iff_ne.mpr (fun w => z w.symm)
                rw [this, Bool.and_false, Bool.not_true, Bool.and_false, Bool.false_and]
              · rw [if_neg d, bit_tf d, Bool.not_false, Bool.and_true]
        · rw [Sg_split (rt := rt) (i := i) (t' := t') c1 (fun f hf d => if_pos d) (fun f hf d d2 => if_neg (by rw [d2]; decide)), h2', e]
  · refine Or.inl ⟨?_, fun t ht => hv (lower t ht).1⟩
    rcases ho g (Nat.le_refl _) with ⟨h1, h2⟩ | ⟨h1, _⟩
    · unfold IMP at *; omega
    · omega
end Spr
/-! spreading: all ways in their order -/
def cd (t : Nat → Nat) : Nat → Nat
  | 0 => 0
  | k + 1 => cd t k * 8 + t k
def ms (t : Nat → Nat) : Nat → Nat
  | 0 => 0
  | k + 1 => max (ms t k) (cn (fun f => t f == t k) (k + 1))
def rtf (A : Nat → Nat) (f h : Nat) : Nat := A h * 262144 + h * 8 ^ (5 - f)
def Rr (A t : Nat → Nat) (k : Nat) : Nat := sm (fun f => rtf A f (t f)) k
theorem cd_lt {t : Nat → Nat} : ∀ k, (∀ f, f < k → t f < 8) → cd t k < 8 ^ k
  | 0, _ => by show 0 < 1; omega
  | k + 1, h => by
    have h1 := cd_lt k (fun f hf => h f (by omega))
    have h2 := h k (by omega)
    show cd t k * 8 + t k < 8 ^ (k + 1)
    rw [Nat.pow_succ]
    omega
theorem cd_congr {t u : Nat → Nat} : ∀ k, (∀ f, f < k → t f = u f) → cd t k = cd u k
  | 0, _ => rfl
  | k + 1, h => by
    show cd t k * 8 + t k = cd u k * 8 + u k
    rw [cd_congr k (fun f hf => h f (by omega)), h k (by omega)]
theorem ms_congr {t u : Nat → Nat} : ∀ k, (∀ f, f < k → t f = u f) → ms t k = ms u k
  | 0, _ => rfl
  | k + 1, h => by
    show max (ms t k) (cn (fun f => t f == t k) (k + 1)) = max (ms u k) (cn (fun f => u f == u k) (k + 1))
    rw [ms_congr k (fun f hf => h f (by omega)), cn_congr (q := fun f => u f == u k) (k + 1) (fun x hx => by rw [h x hx, h k (by omega)])]
theorem ms_le {t : Nat → Nat} {m : Nat} : ∀ k, ms t k ≤ m ↔ ∀ h, cn (fun f => t f == h) k ≤ m
  | 0 => ⟨fun _ h => Nat.zero_le _, fun _ => Nat.zero_le _⟩
  | k + 1 => by
    have ih := ms_le (t := t) (m := m) k
    show max (ms t k) (cn (fun f => t f == t k) (k + 1)) ≤ m ↔ _
    constructor
    · intro h h'
      have h1 := ih.mp (by omega) h'
      by_cases e : t k = h'
      · rw [← e]; omega
      · show cn (fun f => t f == h') k + (t k == h').toNat ≤ m
        rw [beq_eq_false_iff_ne.mpr e]
        exact h1
    · intro h
      have h1 := ih.mpr (fun h' => Nat.le_trans (Nat.le_add_right _ _) (h h'))
      have h2 := h (t k)
      omega
theorem Rr_eq (A t : Nat → Nat) : ∀ k, k ≤ 6 → Rr A t k = sm (fun f => A (t f)) k * 262144 + cd t k * 8 ^ (6 - k)
  | 0, _ => by show 0 = 0 * 262144 + 0 * 8 ^ 6; omega
  | k + 1, h => by
    have ih := Rr_eq A t k (by omega)
    show Rr A t k + (A (t k) * 262144 + t k * 8 ^ (5 - k)) = (sm (fun f => A (t f)) k + A (t k)) * 262144 + (cd t k * 8 + t k) * 8 ^ (6 - (k + 1))
    rw [ih, show 6 - k = (5 - k) + 1 by omega, show 6 - (k + 1) = 5 - k by omega, Nat.pow_succ, Nat.add_mul, Nat.add_mul, show cd t k * (8 ^ (5 - k) * 8) = cd t k * 8 * 8 ^ (5 - k) by rw [Nat.mul_comm (8 ^ (5 - k)) 8, Nat.mul_assoc]]
    omega
theorem p8_split {k F : Nat} (h : k ≤ F) : (8 : Nat) ^ F = 8 ^ k * 8 ^ (F - k) := by
  rw [← Nat.pow_add]; congr 1; omega
theorem cd6_lt {t : Nat → Nat} {F : Nat} (hF : F ≤ 6) (h : ∀ f, f < F → t f < 8) : cd t F * 8 ^ (6 - F) < 262144 := by
  have h1 := cd_lt F h
  have h2 : (262144 : Nat) = 8 ^ F * 8 ^ (6 - F) := by rw [← p8_split hF]
  rw [h2]
  exact Nat.mul_lt_mul_of_pos_right h1 (Nat.pow_pos (by omega))
theorem dec_a {A t : Nat → Nat} {F : Nat} (hF : F ≤ 6) (h : ∀ f, f < F → t f < 8) : Rr A t F / 262144 = sm (fun f => A (t f)) F := by
  rw [Rr_eq A t F hF]
  have := cd6_lt hF h
  omega
/-- the first digits of a code -/
theorem cd_tail {t : Nat → Nat} {k : Nat} : ∀ j, (∀ f, f < k + j → t f < 8) → ∃ r, r < 8 ^ j ∧ cd t (k + j) = cd t k * 8 ^ j + r
  | 0, _ => ⟨0, by show 0 < 1; omega, by show cd t k = cd t k * 1 + 0; omega⟩
  | j + 1, h => by
    obtain ⟨r, h1, h2⟩ := cd_tail (k := k) j (fun f hf => h f (by omega))
    have h3 := h (k + j) (by omega)
    refine ⟨r * 8 + t (k + j), ?_, ?_⟩
    · rw [Nat.pow_succ]; omega
    · show cd t (k + j) * 8 + t (k + j) = _
      rw [h2, Nat.pow_succ, ← Nat.mul_assoc]
      omega
theorem dec_t {A t : Nat → Nat} {F f : Nat} (hF : F ≤ 6) (hf : f < F) (h : ∀ f, f < F → t f < 8) : Rr A t F / 8 ^ (5 - f) % 8 = t f := by
  rw [Rr_eq A t F hF]
  obtain ⟨r, h1, h2⟩ := cd_tail (t := t) (k := f + 1) (F - (f + 1)) (fun x hx => h x (by omega))
  rw [show f + 1 + (F - (f + 1)) = F by omega] at h2
  have hp : (8 : Nat) ^ (5 - f) = 8 ^ (F - (f + 1)) * 8 ^ (6 - F) := by rw [← Nat.pow_add]; congr 1; omega
  have hq : (262144 : Nat) = 8 * 8 ^ f * 8 ^ (5 - f) := by
    rw [show (8 : Nat) * 8 ^ f = 8 ^ (f + 1) by rw [Nat.pow_succ]; omega, ← Nat.pow_add, show f + 1 + (5 - f) = 6 by omega]
  have hr : r * 8 ^ (6 - F) < 8 ^ (5 - f) := by
    rw [hp]; exact Nat.mul_lt_mul_of_pos_right h1 (Nat.pow_pos (by omega))
  have e1 : sm (fun f => A (t f)) F * 262144 + cd t F * 8 ^ (6 - F) = (sm (fun f => A (t f)) F * (8 * 8 ^ f) + cd t (f + 1)) * 8 ^ (5 - f) + r * 8 ^ (6 - F) := by
    rw [h2, Nat.add_mul (cd t (f + 1) * 8 ^ (F - (f + 1))), Nat.mul_assoc (cd t (f + 1)), ← hp, Nat.add_mul, Nat.mul_assoc (sm (fun f => A (t f)) F), ← hq]
    omega
  rw [e1, Nat.mul_comm _ (8 ^ (5 - f)), Nat.mul_add_div (Nat.pow_pos (by omega)), Nat.div_eq_of_lt hr, Nat.add_zero]
  show (sm (fun f => A (t f)) F * (8 * 8 ^ f) + (cd t f * 8 + t f)) % 8 = t f
  have h8 := h f hf
  rw [show sm (fun f => A (t f)) F * (8 * 8 ^ f) = 8 * (sm (fun f => A (t f)) F * 8 ^ f) by rw [← Nat.mul_assoc, Nat.mul_comm _ 8, Nat.mul_assoc]]
  omega
section Best
variable (F : Nat) (st A : Nat → Nat)
def Al (t : Nat → Nat) : Prop := ∀ f, f < F → t f < 8 ∧ (st f).testBit (t f) = true
def Best (m R : Nat) : Prop := (∃ t, Al F st t ∧ ms t F = m ∧ Rr A t F = R) ∧ ∀ t, Al F st t → m < ms t F ∨ (m = ms t F ∧ R ≤ Rr A t F)
/-- the best of the ways so far -/
def Bsf (N : Nat) (tb : Nat → Nat) : Prop := Al F st tb ∧ cd tb F < N ∧ ∀ t, Al F st t → cd t F < N → ms tb F < ms t F ∨ (ms tb F = ms t F ∧ Rr A tb F ≤ Rr A t F)
variable {F : Nat} {st A : Nat → Nat}
theorem Best.uniq {m R m' R' : Nat} (h : Best F st A m R) (h' : Best F st A m' R') : m = m' ∧ R = R' := by
  obtain ⟨⟨t, a1, a2, a3⟩, b⟩ := h
  obtain ⟨⟨t', a1', a2', a3'⟩, b'⟩ := h'
  have c := b t' a1'
  have c' := b' t a1
  omega
theorem full_bit (F f : Nat) : (2 ^ F - 1).testBit f = decide (f < F) := Nat.testBit_two_pow_sub_one F f
theorem wy_full {mo : Nat} {t : Nat → Nat} : Wy F st mo 8 (2 ^ F - 1) t ↔ Al F st t ∧ ms t F ≤ mo := by
  rw [ms_le]
  constructor
  · intro h
    have h1 : Al F st t := fun f hf => h.1 f hf (by rw [full_bit]; exact decide_eq_true hf)
    refine ⟨h1, fun h' => ?_⟩
    by_cases c : h' < 8
    · have := h.2 h' c
      rw [cn_congr (q := fun f => t f == h') F (fun f hf => by rw [full_bit, decide_eq_true hf, Bool.true_and])] at this
      exact this
    · rw [cn_zero F (fun f hf => beq_eq_false_iff_ne.mpr (by have := (h1 f hf).1; omega))]
      exact Nat.zero_le _
  · intro h
    refine ⟨fun f hf _ => h.1 f hf, fun h' _ => ?_⟩
    rw [cn_congr (q := fun f => t f == h') F (fun f hf => by rw [full_bit, decide_eq_true hf, Bool.true_and])]
    exact h.2 h'
theorem sg_full {t : Nat → Nat} : Sg F (rtf A) (2 ^ F - 1) t = Rr A t F := sm_congr F (fun f hf => by rw [full_bit, if_pos (decide_eq_true hf)])
theorem best_of {g v : Nat} (hB : Bd F st g (rtf A) 8 (2 ^ F - 1) v) (hv : v ≠ IMP) (hlow : ∀ t, Al F st t → g ≤ ms t F) : Best F st A g v := by
  rcases hB with ⟨h, _⟩ | ⟨h1, ⟨t, h2, h3⟩, h4⟩
  · exact absurd h hv
  · rw [wy_full] at h2
    rw [sg_full] at h3
    have := hlow t h2.1
    refine ⟨⟨t, h2.1, by omega, h3⟩, fun t' ht' => ?_⟩
    have h5 := hlow t' ht'
    by_cases c : g < ms t' F
    · exact Or.inl c
    · have h6 := h4 t' (wy_full.mpr ⟨ht', by omega⟩)
      rw [sg_full] at h6
      exact Or.inr ⟨by omega, h6⟩
theorem Rr_lt {t u : Nat → Nat} (hF : F ≤ 6) (ht : Al F st t) (h : sm (fun f => A (t f)) F < sm (fun f => A (u f)) F) : Rr A t F < Rr A u F := by
  rw [Rr_eq A t F hF, Rr_eq A u F hF]
  have := cd6_lt hF (fun f hf => (ht f hf).1)
  omega
theorem Rr_le {t u : Nat → Nat} (hF : F ≤ 6) (ht : Al F st t) (h : sm (fun f => A (t f)) F ≤ sm (fun f => A (u f)) F) (hc : cd t F ≤ cd u F) : Rr A t F ≤ Rr A u F := by
  rw [Rr_eq A t F hF, Rr_eq A u F hF]
  have := Nat.mul_le_mul_right (8 ^ (6 - F)) hc
  omega
/-- looking at a way -/
theorem bsf_first {t : Nat → Nat} (ht : Al F st t) (hno : ∀ t', Al F st t' → cd t F ≤ cd t' F) (hA : ∀ t', Al F st t' → cd t' F = cd t F → ms t F = ms t' F ∧ Rr A t F = Rr A t' F) : Bsf F st A (cd t F + 1) t := by
  refine ⟨ht, by omega, fun t' ht' hc => ?_⟩
  have := hno t' ht'
  have h := hA t' ht' (by omega)
  exact Or.inr ⟨h.1, by omega⟩
/-- ways of one code are one -/
theorem cd_inj {t u : Nat → Nat} : ∀ k, (∀ f, f < k → t f < 8) → (∀ f, f < k → u f < 8) → cd t k = cd u k → ∀ f, f < k → t f = u f
  | 0, _, _, _, f, hf => absurd hf (by omega)
  | k + 1, h1, h2, e, f, hf => by
    have e' : cd t k * 8 + t k = cd u k * 8 + u k := e
    have a1 := h1 k (by omega)
    have a2 := h2 k (by omega)
    by_cases c : f = k
    · rw [c]; omega
    · exact cd_inj k (fun f hf => h1 f (by omega)) (fun f hf => h2 f (by omega)) (by omega) f (by omega)
theorem same_of_cd {t u : Nat → Nat} (ht : Al F st t) (hu : Al F st u) (e : cd t F = cd u F) : ms t F = ms u F ∧ Rr A t F = Rr A u F := by
  have h := cd_inj F (fun f hf => (ht f hf).1) (fun f hf => (hu f hf).1) e
  refine ⟨ms_congr F h, sm_congr F (fun f hf => by rw [h f hf])⟩
theorem bsf_take {t tb : Nat → Nat} {N : Nat} (hF : F ≤ 6) (ht : Al F st t) (hN : N = cd t F) (hb : Bsf F st A N tb) (h : ms t F < ms tb F ∨ (ms t F = ms tb F ∧ sm (fun f => A (t f)) F < sm (fun f => A (tb f)) F)) : Bsf F st A (cd t F + 1) t := by
  obtain ⟨b1, b2, b3⟩ := hb
  refine ⟨ht, by omega, fun t' ht' hc => ?_⟩
  by_cases e : cd t' F = cd t F
  · have := same_of_cd (A := A) ht' ht e
    exact Or.inr ⟨this.1.symm, by omega⟩
  · have h1 := b3 t' ht' (by omega)
    rcases h with h | ⟨h, h2⟩
    · omega
    · have := Rr_lt (A := A) hF ht h2
      omega
theorem bsf_keep {t tb : Nat → Nat} {N : Nat} (hF : F ≤ 6) (ht : Al F st t) (hN : N = cd t F) (hb : Bsf F st A N tb) (h : ms tb F < ms t F ∨ (ms tb F = ms t F ∧ sm (fun f => A (tb f)) F ≤ sm (fun f => A (t f)) F)) : Bsf F st A (cd t F + 1) tb := by
  obtain ⟨b1, b2, b3⟩ := hb
  refine ⟨b1, by omega, fun t' ht' hc => ?_⟩
  by_cases e : cd t' F = cd t F
  · have hh := same_of_cd (A := A) ht' ht e
    rcases h with h | ⟨h, h2⟩
    · exact Or.inl (by omega)
    · have := Rr_le (A := A) hF b1 h2 (by omega)
      exact Or.inr ⟨by omega, by omega⟩
  · exact b3 t' ht' (by omega)
/-- no way's code lies between -/
theorem bsf_skip {tb : Nat → Nat} {N M : Nat} (hb : Bsf F st A N tb) (hNM : N ≤ M) (h : ∀ t, Al F st t → cd t F < M → cd t F < N) : Bsf F st A M tb := ⟨hb.1, by have := hb.2.1; omega, fun t ht hc => hb.2.2 t ht (h t ht hc)⟩
theorem best_bsf {tb : Nat → Nat} {N : Nat} (hb : Bsf F st A N tb) (h : ∀ t, Al F st t → cd t F < N) : Best F st A (ms tb F) (Rr A tb F) := ⟨⟨tb, hb.1, rfl, rfl⟩, fun t ht => hb.2.2 t ht (h t ht)⟩
theorem cd_mono {t u : Nat → Nat} {k : Nat} (h : cd t k ≤ cd u k) : ∀ j, (∀ f, k ≤ f → f < k + j → t f ≤ u f) → cd t (k + j) ≤ cd u (k + j)
  | 0, _ => h
  | j + 1, hh => by
    have h1 := cd_mono h j (fun f h1 h2 => hh f h1 (by omega))
    have h2 := hh (k + j) (by omega) (by omega)
    show cd t (k + j) * 8 + t (k + j) ≤ cd u (k + j) * 8 + u (k + j)
    omega
theorem cd_smono {t u : Nat → Nat} {k : Nat} (h : cd t k < cd u k) : ∀ j, (∀ f, f < k + j → t f < 8) → cd t (k + j) < cd u (k + j)
  | 0, _ => h
  | j + 1, hh => by
    have h1 := cd_smono h j (fun f hf => hh f (by omega))
    have h2 := hh (k + j) (by omega)
    show cd t (k + j) * 8 + t (k + j) < cd u (k + j) * 8 + u (k + j)
    omega
end Best
