/-! spreading, in the class -/
theorem sm_one {u v : Nat → Nat} {x0 : Nat} (h : ∀ x, x ≠ x0 → u x = v x) (hv : v x0 = 0) : ∀ N, x0 < N → sm u N = sm v N + u x0
  | 0, hx => absurd hx (by omega)
  | k + 1, hx => by
    show sm u k + u k = sm v k + v k + u x0
    by_cases e : x0 = k
    · rw [← e, hv, sm_congr (u := u) (v := v) x0 (fun x hx => h x (by omega)), Nat.add_zero]
    · rw [h k (fun z => e z.symm), sm_one h hv k (by omega)]
      omega
theorem cn_more {p : Nat → Bool} {F : Nat} : ∀ j, (∀ x, F ≤ x → p x = false) → cn p (F + j) = cn p F
  | 0, _ => rfl
  | j + 1, h => by
    show cn p (F + j) + (p (F + j)).toNat = cn p F
    rw [cn_more j h, h (F + j) (by omega)]; rfl
theorem top_bit {k r : Nat} (hr : r < 2 ^ k) (x : Nat) : (2 ^ k + r).testBit x = (r.testBit x || decide (k = x)) := by
  have h := Nat.two_pow_add_eq_or_of_lt hr 1
  rw [Nat.mul_one] at h
  rw [h, Nat.testBit_or, Nat.testBit_two_pow, Bool.or_comm]
theorem ad_top {F : Nat} {rt : Nat → Nat → Nat} {i k r : Nat} (hk : k < F) (hr : r < 2 ^ k) : ad F rt i (2 ^ k + r) = ad F rt i r + rt k i := by
  unfold ad
  have h := sm_one (u := fun f => if (2 ^ k + r).testBit f = true then rt f i else 0) (v := fun f => if r.testBit f = true then rt f i else 0) (x0 := k) (fun x hx => by
    rw [top_bit hr, decide_eq_false (fun z => hx z.symm), Bool.or_false]) (by rw [Nat.testBit_lt_two_pow hr]; rfl) F hk
  rw [h, top_bit hr, decide_eq_true rfl, Bool.or_true, if_pos rfl]
theorem pw8 (j : Nat) : 2 ^ (3 * j) = 8 ^ j := by rw [Nat.pow_mul]
/-- what the fleets are, and the asks -/
def Se (F : Nat) (st A : Nat → Nat) (σ : ax_Sg) : Prop := F ≤ 6 ∧ σ 10 2 = nI F ∧ (∀ f, f < F → σ 51 f = nI (st f) ∧ st f < 256) ∧ ∀ h, h < 8 → A h = sm (fun w => tN (σ 29 ((12 + h) * 5 + w))) 5 ∧ ∀ w, w < 5 → σ 29 ((12 + h) * 5 + w) = nI (tN (σ 29 ((12 + h) * 5 + w))) ∧ tN (σ 29 ((12 + h) * 5 + w)) ≤ 20
section SpreadC
variable {l : Launch} {P : Option Value → ax_Sg → Prop} {σ : ax_Sg} {F : Nat} {st A : Nat → Nat}
theorem Se.A_le (hs : Se F st A σ) {h : Nat} (hh : h < 8) : A h ≤ 100 := by
  obtain ⟨_, _, _, h4⟩ := hs
  rw [(h4 h hh).1]
  exact Nat.le_trans (sm_le (b := 20) 5 (fun w hw => ((h4 h hh).2 w hw).2)) (by omega)
theorem Se.fr {σ' : ax_Sg} (hs : Se F st A σ) (e10 : σ' 10 2 = σ 10 2) (e51 : σ' 51 = σ 51) (e29 : σ' 29 = σ 29) : Se F st A σ' := by
  unfold Se at hs ⊢
  rw [e10, e51, e29]
  exact hs
theorem c_ofAll (hs : Se F st A σ) {i : Nat} (hi : i < 8) (hP : P (some (.int (nI (A i)))) σ) : Ev l 3 0 [some (.ref 5), some (.int (12 + nI i)), none, none] [] σ P := by
  obtain ⟨_, _, _, h4⟩ := hs
  obtain ⟨hA, hw⟩ := h4 i hi
  have e12 : 12 + nI i = nI (12 + i) := nI_add 12 i
  have loop : ∀ m w, 5 - w = m → w ≤ 5 → Ev l 3 4 [some (.ref 5), some (.int (nI (12 + i))), some (.int (nI (sm (fun w => tN (σ 29 ((12 + i) * 5 + w))) w))), some (.int (nI w))] [] σ P := by
    intro m
    induction m with
    | zero =>
      intro w hm hw5
      have : w = 5 := by omega
      subst this
      rw [hA] at hP
      exact b_X0_ofAllWards_4 _ _ _ (br_f' (nI_nlt (a := 5) (b := 5) (Nat.le_refl _) (by omega)) hP)
    | succ m ih =>
      intro w hm hw5
      refine b_X0_ofAllWards_4 _ _ _ (br_t' (nI_lt (b := 5) (by omega) (by omega)) (b_X0_at_0 _ _ ?_))
      rw [show nI (12 + i) * 5 + nI w = nI ((12 + i) * 5 + w) by rw [show (5 : Int32) = nI 5 from rfl, pk_mul, nI_add], cl_nI (by omega), (hw w (by omega)).1, nI_1]
      refine ⟨in_nI (by omega) (by decide), ?_⟩
      show Ev l 3 4 [some (.ref 5), some (.int (nI (12 + i))), some (.int (nI (sm (fun w => tN (σ 29 ((12 + i) * 5 + w))) w) + nI (tN (σ 29 ((12 + i) * 5 + w))))), some (.int (nI (w + 1)))] [] σ P
      rw [nI_add]
      exact ih (w + 1) (by omega) (by omega)
  rw [e12]
  exact b_X0_ofAllWards_0 _ (loop 5 0 (by omega) (by omega))
theorem c_every (hs : Se F st A σ) (hP : P (some (.int (nI (2 ^ F - 1)))) σ) : Ev l 19 0 [some (.ref 10)] [] σ P := by
  obtain ⟨h1, h2, _⟩ := hs
  refine b_X2_everyFleet_0 ?_
  have hp : 2 ^ F ≤ 64 := Nat.pow_le_pow_right (n := 2) (by omega) h1
  rw [h2, nI_pow (by omega), show (1 : Int32) = nI 1 from rfl, nI_subn (Nat.two_pow_pos F) (by omega)]
  exact hP
def tkr (F : Nat) (st : Nat → Nat) (i : Nat) : Nat := mk (fun f => (st f).testBit i) F
theorem c_takers (hs : Se F st A σ) {i : Nat} (hi : i < 8) (hP : P (some (.int (nI (tkr F st i)))) σ) : Ev l 22 0 [some (.ref 10), some (.int (nI i)), none, none] [] σ P := by
  obtain ⟨h1, h2, h3, _⟩ := hs
  have loop : ∀ m k, F - k = m → k ≤ F → Ev l 22 4 [some (.ref 10), some (.int (nI i)), some (.int (nI (mk (fun f => (st f).testBit i) k))), some (.int (nI k))] [] σ P := by
    intro m
    induction m with
    | zero =>
      intro k hm hk
      have : k = F := by omega
      subst this
      exact b_X2_takersOf_4 _ _ _ (br_f' (by rw [h2]; exact nI_nlt (Nat.le_refl _) (by omega)) hP)
    | succ m ih =>
      intro k hm hk
      obtain ⟨q1, q2⟩ := h3 k (by omega)
      refine b_X2_takersOf_4 _ _ _ (br_t' (by rw [h2]; exact nI_lt (by omega) (by omega)) ⟨in_nI (by omega) (by decide), ?_⟩)
      rw [cl_nI (by omega), q1, nI_bit1 (by omega) (by omega), nI_shl (by omega), nI_or, nI_1]
      have : mk (fun f => (st f).testBit i) k ||| ((st k).testBit i).toNat <<< k = mk (fun f => (st f).testBit i) (k + 1) := by
        show _ = if (st k).testBit i = true then mk (fun f => (st f).testBit i) k ||| 2 ^ k else mk (fun f => (st f).testBit i) k
        by_cases c : (st k).testBit i = true
        · rw [if_pos c, c]
          show _ ||| 1 <<< k = _
          rw [Nat.one_shiftLeft]
        · rw [if_neg c, bit_tf c]
          show _ ||| 0 <<< k = _
          rw [Nat.zero_shiftLeft, Nat.or_zero]
      rw [this]
      exact ih (k + 1) (by omega) (by omega)
  exact b_X2_takersOf_0 _ (loop F 0 (by omega) (by omega))
theorem rtf_le {f h : Nat} (hA : A h ≤ 100) (hh : h < 8) : rtf A f h ≤ 26443776 := by
  unfold rtf
  have h1 : 8 ^ (5 - f) ≤ 8 ^ 5 := Nat.pow_le_pow_right (by omega) (by omega)
  have h2 : h * 8 ^ (5 - f) ≤ 7 * 8 ^ 5 := Nat.mul_le_mul (by omega) h1
  omega
theorem ad_le (hs : Se F st A σ) {i : Nat} (hi : i < 8) (g : Nat) : ad F (rtf A) i g ≤ 158662656 := by
  have hA := hs.A_le hi
  have := sm_le (u := fun f => if g.testBit f = true then rtf A f i else 0) (b := 26443776) F (fun f hf => by
    show (if g.testBit f = true then rtf A f i else 0) ≤ 26443776
    by_cases c : g.testBit f = true
    · rw [if_pos c]; exact rtf_le hA hi
    · rw [if_neg c]; omega)
  have h6 : F * 26443776 ≤ 6 * 26443776 := Nat.mul_le_mul_right _ hs.1
  exact Nat.le_trans this (by omega)
theorem c_rate (hs : Se F st A σ) {i : Nat} (hi : i < 8) (hP : ∀ σ', (∀ j, j ≠ 53 → σ' j = σ j) → (∀ g, g < 2 ^ F → σ' 53 g = nI (ad F (rtf A) i g)) → P none σ') : Ev l 23 0 [some (.ref 10), some (.int (nI i)), none, none, none, none] [] σ P := by
  have hs' := hs
  obtain ⟨h1, h2, _⟩ := hs
  have hA := hs'.A_le hi
  have hp : ∀ k, k ≤ F → 2 ^ k ≤ 64 := fun k hk => Nat.pow_le_pow_right (n := 2) (by omega) (show k ≤ 6 by omega)
  have loop : ∀ m k σ', F - k = m → k ≤ F → (∀ j, j ≠ 53 → σ' j = σ j) → (∀ g, g < 2 ^ k → σ' 53 g = nI (ad F (rtf A) i g)) → Ev l 23 24 [some (.ref 10), some (.int (nI i)), some (.int (nI (A i * 262144))), some (.int (nI k)), none, none] [] σ' P := by
    intro m
    induction m with
    | zero =>
      intro k σ' hm hk fr hg
      have : k = F := by omega
      subst this
      exact b_X2_rateHour_24 _ _ _ (br_f' (by rw [fr 10 (by decide), h2]; exact nI_nlt (Nat.le_refl _) (by omega)) (hP σ' fr hg))
    | succ m ih =>
      intro k σ' hm hk fr hg
      refine b_X2_rateHour_24 _ _ _ (br_t' (by rw [fr 10 (by decide), h2]; exact nI_lt (by omega) (by omega)) ?_)
      rw [nI_pow (by omega)]
      have hpk := hp (k + 1) (by omega)
      rw [Nat.pow_succ] at hpk
      have inner : ∀ m2 r σ2, 2 ^ k - r = m2 → r ≤ 2 ^ k → (∀ j, j ≠ 53 → σ2 j = σ j) → (∀ g, g < 2 ^ k + r → σ2 53 g = nI (ad F (rtf A) i g)) → Ev l 23 41 [some (.ref 10), some (.int (nI i)), some (.int (nI (A i * 262144))), some (.int (nI k)), some (.int (nI (2 ^ k))), some (.int (nI (2 ^ k + r)))] [] σ2 P := by
        intro m2
        induction m2 with
        | zero =>
          intro r σ2 hm2 hr fr2 hg2
          have : r = 2 ^ k := by omega
          subst this
          refine b_X2_rateHour_41 _ _ _ _ _ (br_f' (by rw [show (2 : Int32) = nI 2 from rfl, pk_mul]; exact nI_nlt (by omega) (by omega)) ?_)
          rw [nI_1]
          exact ih (k + 1) σ2 (by omega) (by omega) fr2 (by rw [Nat.pow_succ]; intro g hg; exact hg2 g (by omega))
        | succ m2 ih2 =>
          intro r σ2 hm2 hr fr2 hg2
          refine b_X2_rateHour_41 _ _ _ _ _ (br_t' (by rw [show (2 : Int32) = nI 2 from rfl, pk_mul]; exact nI_lt (by omega) (by omega)) ?_)
          rw [nI_subn (by omega) (by omega), show 2 ^ k + r - 2 ^ k = r by omega, cl_nI (by omega), cl_nI (by omega), hg2 r (by omega), nI_1 (2 ^ k + r)]
          refine ⟨in_nI (by omega) (by decide), b_X2_lowestBit_0 _ ⟨in_nI (by omega) (by decide), ?_⟩⟩
          have e3 : (3 : Int32) * (5 - nI k) = nI (3 * (5 - k)) := by
            rw [show (5 : Int32) = nI 5 from rfl, nI_subn (by omega) (by omega), show (3 : Int32) = nI 3 from rfl, pk_mul]
          rw [e3, nI_shl (by omega), Nat.shiftLeft_eq, pw8, nI_add, nI_add]
          refine ih2 (r + 1) _ (by omega) (by omega) (fun j hj => ?_) (fun g hg => ?_)
          · rw [us_n _ _ _ hj]; exact fr2 j hj
          · rw [us_s]
            by_cases e : g = 2 ^ k + r
            · rw [e, upd_s, ad_top (by omega) (by omega)]
              show nI (ad F (rtf A) i r + A i * 262144 + i * 8 ^ (5 - k)) = nI (ad F (rtf A) i r + (A i * 262144 + i * 8 ^ (5 - k)))
              rw [Nat.add_assoc]
            · rw [upd_n _ _ e]; exact hg2 g (by omega)
      exact inner (2 ^ k) 0 σ' rfl (Nat.zero_le _) fr (fun g hg' => hg g (by omega))
  refine b_X2_rateHour_0 _ (c_ofAll hs' hi ⟨in_nI (n := 0) (by decide) (by decide), ?_⟩)
  rw [show nI (A i) <<< ((18 : Int32) &&& 31) = nI (A i <<< 18) from nI_shl (k := 18) (by omega), Nat.shiftLeft_eq]
  refine loop F 0 _ (by omega) (by omega) (fun j hj => us_n _ _ _ hj) (fun g hg => ?_)
  have hg1 : g < 1 := hg
  have : g = 0 := by omega
  subst this
  show (0 : Int32) = nI (ad F (rtf A) i 0)
  have : ad F (rtf A) i 0 = 0 := by
    have := sm_le (u := fun f => if (0 : Nat).testBit f = true then rtf A f i else 0) (b := 0) F (fun f hf => by rw [Nat.zero_testBit]; exact Nat.le_refl _)
    exact Nat.le_antisymm (by show sm _ F ≤ 0; omega) (Nat.zero_le _)
  rw [this]; rfl
end SpreadC
