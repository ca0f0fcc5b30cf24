/-! the reference's hour -/
def Sgm (σ : ax_Sg) (b len : Nat) (f : Nat → Int32) : Prop := ∀ i, i < len → σ 65 (b + i) = f i
theorem Sgm.up {σ : ax_Sg} {b len : Nat} {f : Nat → Int32} (h : Sgm σ b len f) (i : Nat) (v : Int32) : Sgm (ax_us σ 65 (b + i) v) b len (upd f i v) := by
  intro j hj
  show upd (σ 65) (b + i) v (b + j) = upd f i v j
  by_cases e : j = i
  · rw [e, upd_s, upd_s]
  · rw [upd_n _ _ e, upd_n _ _ (by omega)]; exact h j hj
theorem Sgm.ot {σ : ax_Sg} {b len : Nat} {f : Nat → Int32} (h : Sgm σ b len f) {q : Nat} (v : Int32) (hq : q < b ∨ b + len ≤ q) : Sgm (ax_us σ 65 q v) b len f := by
  intro j hj
  show upd (σ 65) q v (b + j) = f j
  rw [upd_n _ _ (by omega)]; exact h j hj
def tuR (σ : ax_Sg) (B : Nat) (f : Nat → Int32) : Prop := ∀ w, w < 5 → ∃ t : Nat, t ≤ B ∧ σ 65 (83 + w) = nI t ∧ f w = nI (t % 5)
theorem tuR.ot {σ : ax_Sg} {B : Nat} {f : Nat → Int32} (h : tuR σ B f) {q : Nat} (v : Int32) (hq : q < 83) : tuR (ax_us σ 65 q v) B f := by
  intro w hw
  show ∃ t : Nat, t ≤ B ∧ upd (σ 65) q v (83 + w) = nI t ∧ f w = nI (t % 5)
  rw [upd_n _ _ (by omega)]; exact h w hw
def rdR (σ : ax_Sg) (row : Nat → Int32) (rn : Int32) : Prop := ∃ r : Nat, r ≤ 300 ∧ rn = nI r ∧ σ 13 15 = nI r ∧ ∀ k, k < r → row (k * 5) = σ 67 k ∧ row (k * 5 + 1) = σ 68 k ∧ row (k * 5 + 2) = σ 69 k ∧ row (k * 5 + 3) = σ 70 k ∧ row (k * 5 + 4) = σ 71 k
def frR (g σ : ax_Sg) : Prop := (∀ j, j ≠ 65 → j ≠ 83 → j ≠ 13 → ¬ (67 ≤ j ∧ j ≤ 71) → σ j = g j) ∧ ∀ i, ¬ (11 ≤ i ∧ i ≤ 15) → σ 13 i = g 13 i
theorem frR.us {g σ : ax_Sg} (h : frR g σ) {q : Nat} (i : Nat) (v : Int32) (hq : q = 65 ∨ q = 83 ∨ (67 ≤ q ∧ q ≤ 71)) : frR g (ax_us σ q i v) := by
  refine ⟨fun j h1 h2 h3 h4 => ?_, fun j hj => ?_⟩
  · rw [us_n _ _ _ (show j ≠ q by omega)]; exact h.1 j h1 h2 h3 h4
  · rw [us_n _ _ _ (show 13 ≠ q by omega)]; exact h.2 j hj
theorem frR.fl {g σ : ax_Sg} (h : frR g σ) {i : Nat} (v : Int32) (hi : 11 ≤ i ∧ i ≤ 15) : frR g (ax_us σ 13 i v) := by
  refine ⟨fun j h1 h2 h3 h4 => ?_, fun j hj => ?_⟩
  · rw [us_n _ _ _ h3]; exact h.1 j h1 h2 h3 h4
  · rw [us_s, upd_n _ _ (show j ≠ i by omega)]; exact h.2 j hj
def Rm (g : ax_Sg) (n B k : Nat) (c : Ct) (σ : ax_Sg) : Prop := frR g σ ∧ (σ 13 14 = c.hh ∧ σ 13 11 = c.rc ∧ σ 13 12 = c.lc ∧ σ 13 13 = c.ic) ∧ Sgm σ 0 12 c.hr ∧ Sgm σ 12 12 c.tk ∧ Sgm σ 24 n c.wh ∧ Sgm σ 36 16 c.dh ∧ Sgm σ 52 16 c.ea ∧ Sgm σ 68 15 c.wt ∧ tuR σ B c.tu ∧ rdR σ c.row c.rn ∧ ∀ p, p < k → σ 83 p = c.rm p
section RmS
variable {g σ : ax_Sg} {n B k : Nat} {c : Ct}
theorem Rm.s_hr (hn : n ≤ 12) (h : Rm g n B k c σ) {i : Nat} (hi : i < 12) (v : Int32) : Rm g n B k (c.set 1 (upd c.hr i v)) (ax_us σ 65 i v) := by
  obtain ⟨a0, a1, b1, b2, b3, b4, b5, b6, b7, b8, b9⟩ := h
  have b1' := b1.up i v
  rw [Nat.zero_add] at b1'
  exact ⟨a0.us _ _ (Or.inl rfl), a1, b1', b2.ot _ (by omega), b3.ot _ (by omega), b4.ot _ (by omega), b5.ot _ (by omega), b6.ot _ (by omega), b7.ot _ (by omega), b8, b9⟩
theorem Rm.s_tk (hn : n ≤ 12) (h : Rm g n B k c σ) {i : Nat} (hi : i < 12) (v : Int32) : Rm g n B k (c.set 2 (upd c.tk i v)) (ax_us σ 65 (12 + i) v) := by
  obtain ⟨a0, a1, b1, b2, b3, b4, b5, b6, b7, b8, b9⟩ := h
  exact ⟨a0.us _ _ (Or.inl rfl), a1, b1.ot _ (by omega), b2.up i v, b3.ot _ (by omega), b4.ot _ (by omega), b5.ot _ (by omega), b6.ot _ (by omega), b7.ot _ (by omega), b8, b9⟩
theorem Rm.s_wh (hn : n ≤ 12) (h : Rm g n B k c σ) {i : Nat} (hi : i < n) (v : Int32) : Rm g n B k (c.set 0 (upd c.wh i v)) (ax_us σ 65 (24 + i) v) := by
  obtain ⟨a0, a1, b1, b2, b3, b4, b5, b6, b7, b8, b9⟩ := h
  exact ⟨a0.us _ _ (Or.inl rfl), a1, b1.ot _ (by omega), b2.ot _ (by omega), b3.up i v, b4.ot _ (by omega), b5.ot _ (by omega), b6.ot _ (by omega), b7.ot _ (by omega), b8, b9⟩
theorem Rm.s_dh (hn : n ≤ 12) (h : Rm g n B k c σ) {i : Nat} (hi : i < 16) (v : Int32) : Rm g n B k (c.set 3 (upd c.dh i v)) (ax_us σ 65 (36 + i) v) := by
  obtain ⟨a0, a1, b1, b2, b3, b4, b5, b6, b7, b8, b9⟩ := h
  exact ⟨a0.us _ _ (Or.inl rfl), a1, b1.ot _ (by omega), b2.ot _ (by omega), b3.ot _ (by omega), b4.up i v, b5.ot _ (by omega), b6.ot _ (by omega), b7.ot _ (by omega), b8, b9⟩
theorem Rm.s_ea (hn : n ≤ 12) (h : Rm g n B k c σ) {i : Nat} (hi : i < 16) (v : Int32) : Rm g n B k (c.set 4 (upd c.ea i v)) (ax_us σ 65 (52 + i) v) := by
  obtain ⟨a0, a1, b1, b2, b3, b4, b5, b6, b7, b8, b9⟩ := h
  exact ⟨a0.us _ _ (Or.inl rfl), a1, b1.ot _ (by omega), b2.ot _ (by omega), b3.ot _ (by omega), b4.ot _ (by omega), b5.up i v, b6.ot _ (by omega), b7.ot _ (by omega), b8, b9⟩
theorem Rm.s_wt (hn : n ≤ 12) (h : Rm g n B k c σ) {i : Nat} (hi : i < 15) (v : Int32) : Rm g n B k (c.set 5 (upd c.wt i v)) (ax_us σ 65 (68 + i) v) := by
  obtain ⟨a0, a1, b1, b2, b3, b4, b5, b6, b7, b8, b9⟩ := h
  exact ⟨a0.us _ _ (Or.inl rfl), a1, b1.ot _ (by omega), b2.ot _ (by omega), b3.ot _ (by omega), b4.ot _ (by omega), b5.ot _ (by omega), b6.up i v, b7.ot _ (by omega), b8, b9⟩
theorem Rm.s_tu (hn : n ≤ 12) (h : Rm g n B k c σ) {w t : Nat} (hw : w < 5) (ht : σ 65 (83 + w) = nI t) (htB : t ≤ B) : Rm g n (B + 1) k (c.set 6 (upd c.tu w (nI ((t + 1) % 5)))) (ax_us σ 65 (83 + w) (nI (t + 1))) := by
  obtain ⟨a0, a1, b1, b2, b3, b4, b5, b6, b7, b8, b9⟩ := h
  refine ⟨a0.us _ _ (Or.inl rfl), a1, b1.ot _ (by omega), b2.ot _ (by omega), b3.ot _ (by omega), b4.ot _ (by omega), b5.ot _ (by omega), b6.ot _ (by omega), ?_, b8, b9⟩
  intro w' hw'
  show ∃ t' : Nat, t' ≤ B + 1 ∧ upd (σ 65) (83 + w) (nI (t + 1)) (83 + w') = nI t' ∧ upd c.tu w (nI ((t + 1) % 5)) w' = nI (t' % 5)
  by_cases e : w' = w
  · rw [e, upd_s, upd_s]; exact ⟨t + 1, by omega, rfl, rfl⟩
  · rw [upd_n _ _ (by omega), upd_n _ _ e]
    obtain ⟨t', h1, h2, h3⟩ := b7 w' hw'
    exact ⟨t', by omega, h2, h3⟩
theorem Rm.s_rc (h : Rm g n B k c σ) (v : Int32) : Rm g n B k (c.set 9 (fun _ => v)) (ax_us σ 13 11 v) := by
  obtain ⟨a0, a1, b1, b2, b3, b4, b5, b6, b7, b8, b9⟩ := h
  exact ⟨a0.fl _ (by omega), ⟨a1.1, rfl, a1.2.2⟩, b1, b2, b3, b4, b5, b6, b7, b8, b9⟩
theorem Rm.s_lc (h : Rm g n B k c σ) (v : Int32) : Rm g n B k (c.set 10 (fun _ => v)) (ax_us σ 13 12 v) := by
  obtain ⟨a0, a1, b1, b2, b3, b4, b5, b6, b7, b8, b9⟩ := h
  exact ⟨a0.fl _ (by omega), ⟨a1.1, a1.2.1, rfl, a1.2.2.2⟩, b1, b2, b3, b4, b5, b6, b7, b8, b9⟩
theorem Rm.s_ic (h : Rm g n B k c σ) (v : Int32) : Rm g n B k (c.set 11 (fun _ => v)) (ax_us σ 13 13 v) := by
  obtain ⟨a0, a1, b1, b2, b3, b4, b5, b6, b7, b8, b9⟩ := h
  exact ⟨a0.fl _ (by omega), ⟨a1.1, a1.2.1, a1.2.2.1, rfl⟩, b1, b2, b3, b4, b5, b6, b7, b8, b9⟩
theorem Rm.s_hh (h : Rm g n B k c σ) (v : Int32) : Rm g n B k (c.set 8 (fun _ => v)) (ax_us σ 13 14 v) := by
  obtain ⟨a0, a1, b1, b2, b3, b4, b5, b6, b7, b8, b9⟩ := h
  exact ⟨a0.fl _ (by omega), ⟨rfl, a1.2⟩, b1, b2, b3, b4, b5, b6, b7, b8, b9⟩
theorem Rm.s_ta (h : Rm g n B k c σ) (v : Int32) : Rm g n B k (c.set 12 (fun _ => v)) σ := h
theorem Rm.s_rm (h : Rm g n B k c σ) (v : Int32) : Rm g n B (k + 1) (c.set 7 (upd c.rm k v)) (ax_us σ 83 k v) := by
  obtain ⟨a0, a1, b1, b2, b3, b4, b5, b6, b7, b8, b9⟩ := h
  refine ⟨a0.us _ _ (Or.inr (Or.inl rfl)), a1, b1, b2, b3, b4, b5, b6, b7, b8, fun p hp => ?_⟩
  show upd (σ 83) k v p = upd c.rm k v p
  by_cases e : p = k
  · rw [e, upd_s, upd_s]
  · rw [upd_n _ _ e, upd_n _ _ e]; exact b9 p (by omega)
theorem Rm.mono (h : Rm g n B k c σ) {B' k' : Nat} (hB : B ≤ B') (hk : k' ≤ k) : Rm g n B' k' c σ := by
  obtain ⟨a0, a1, b1, b2, b3, b4, b5, b6, b7, b8, b9⟩ := h
  exact ⟨a0, a1, b1, b2, b3, b4, b5, b6, fun w hw => by
    obtain ⟨t, h1, h2, h3⟩ := b7 w hw
    exact ⟨t, by omega, h2, h3⟩, b8, fun p hp => b9 p (by omega)⟩
/-- a ride that is kept -/
theorem Rm.s_row (h : Rm g n B k c σ) {r p w t : Nat} (pr : Int32) (hr : c.rn = nI r) (hr3 : r < 300) : Rm g n B k ((c.set 13 (rw5 c true p w t pr)).set 14 (fun _ => rnK c true)) (ax_us (ax_us (ax_us (ax_us (ax_us (ax_us σ 67 r c.hh) 68 r (nI p)) 69 r (nI w)) 70 r (nI t)) 71 r pr) 13 15 (nI r + 1)) := by
  obtain ⟨a0, a1, b1, b2, b3, b4, b5, b6, b7, b8, b9⟩ := h
  have hne : true = true ∧ ¬ c.rn = 300 := ⟨rfl, by rw [hr]; exact nI_ne (b := 300) (by omega) (by omega) (by omega)⟩
  refine ⟨(((((a0.us _ _ (by omega)).us _ _ (by omega)).us _ _ (by omega)).us _ _ (by omega)).us _ _ (by omega)).fl _ (by omega), a1, b1, b2, b3, b4, b5, b6, b7, ?_, b9⟩
  obtain ⟨r', c1, c2, c3, c4⟩ := b8
  have : r' = r := (nI_eq (by omega) (by omega)).mp (c2.symm.trans hr)
  subst this
  refine ⟨r' + 1, by omega, ?_, nI_1 r', fun j hj => ?_⟩
  · show (if true = true ∧ ¬ c.rn = 300 then c.rn + 1 else c.rn) = nI (r' + 1)
    rw [if_pos hne, c2, nI_1]
  · show rw5 c true p w t pr (j * 5) = upd (σ 67) r' c.hh j ∧ rw5 c true p w t pr (j * 5 + 1) = upd (σ 68) r' (nI p) j ∧ rw5 c true p w t pr (j * 5 + 2) = upd (σ 69) r' (nI w) j ∧ rw5 c true p w t pr (j * 5 + 3) = upd (σ 70) r' (nI t) j ∧ rw5 c true p w t pr (j * 5 + 4) = upd (σ 71) r' pr j
    unfold rw5
    rw [if_pos hne, c2, show tN (nI r') = r' from cl_nI (by omega)]
    by_cases e : j = r'
    · subst e
      rw [upd_s, upd_s, upd_s, upd_s, upd_s]
      refine ⟨?_, ?_, ?_, ?_, ?_⟩
      · rw [upd_n _ _ (by omega), upd_n _ _ (by omega), upd_n _ _ (by omega), upd_n _ _ (by omega)]; exact upd_s _ _ _
      · rw [upd_n _ _ (by omega), upd_n _ _ (by omega), upd_n _ _ (by omega)]; exact upd_s _ _ _
      · rw [upd_n _ _ (by omega), upd_n _ _ (by omega)]; exact upd_s _ _ _
      · rw [upd_n _ _ (by omega)]; exact upd_s _ _ _
      · exact (upd_s _ _ _).symm
    · rw [upd_n (σ 67) _ e, upd_n (σ 68) _ e, upd_n (σ 69) _ e, upd_n (σ 70) _ e, upd_n (σ 71) _ e]
      have key : ∀ i, i < 5 → upd (upd (upd (upd (upd c.row (r' * 5 + 0) c.hh) (r' * 5 + 1) (nI p)) (r' * 5 + 2) (nI w)) (r' * 5 + 3) (nI t)) (r' * 5 + 4) pr (j * 5 + i) = c.row (j * 5 + i) := by
        intro i hi
        rw [upd_n _ _ (by omega), upd_n _ _ (by omega), upd_n _ _ (by omega), upd_n _ _ (by omega), upd_n _ _ (by omega)]
      exact ⟨(key 0 (by omega)).trans (c4 j (by omega)).1, (key 1 (by omega)).trans (c4 j (by omega)).2.1, (key 2 (by omega)).trans (c4 j (by omega)).2.2.1, (key 3 (by omega)).trans (c4 j (by omega)).2.2.2.1, (key 4 (by omega)).trans (c4 j (by omega)).2.2.2.2⟩
end RmS
/-- what of the reference the hours look at -/
def EvM (n cc : Nat) (e g : ax_Sg) : Prop := g 13 7 = nI n ∧ (∀ p, p < n → g 58 p = e 14 p) ∧ (∀ p, p < n → g 63 p = e 19 (p * 2) ∧ g 64 p = e 19 (p * 2 + 1)) ∧ (∀ i, i < 120 → g 72 i = e 29 i) ∧ iv_mt cc g ∧ g 26 = e 26 ∧ g 27 = e 27 ∧ g 28 = e 28
theorem Ct.set_id (c : Ct) (k : Nat) : c.set k (c k) = c := by
  funext k'
  show (if k' = k then c k else c k') = c k'
  by_cases h : k' = k
  · rw [if_pos h, h]
  · rw [if_neg h]
theorem upd_id (f : Nat → Int32) (i : Nat) : upd f i (f i) = f := by
  funext j
  by_cases h : j = i
  · rw [h, upd_s]
  · rw [upd_n _ _ h]
theorem i68 (w j : Nat) : 68 + 3 * nI w + nI j = nI (68 + (w * 3 + j)) := by
  rw [show (68 : Int32) = nI 68 from rfl, show (3 : Int32) = nI 3 from rfl, pk_mul, nI_add, nI_add]
  congr 1
  omega
theorem i68' (w : Nat) : 68 + 3 * nI w = nI (68 + w * 3) := by
  rw [show (68 : Int32) = nI 68 from rfl, show (3 : Int32) = nI 3 from rfl, pk_mul, nI_add, Nat.mul_comm]
section MHour
variable {l : Launch} {σ e g : ax_Sg} {P : Option Value → ax_Sg → Prop} {n cc B k : Nat} {c : Ct}
theorem m_wait (hn : n ≤ 12) (h : Rm g n B k c σ) {w : Nat} (hw : w < 5) (hP : P (some (.int (ws c.wt w))) σ) : Ev l 137 0 [some (.ref 13), some (.int (nI w))] [] σ P := by
  have s := h.2.2.2.2.2.2.2.1
  refine b_X11_waiting_0 _ ?_
  have j1 : 68 + 3 * nI w + 1 = nI (68 + (w * 3 + 1)) := i68 w 1
  have j2 : 68 + 3 * nI w + 2 = nI (68 + (w * 3 + 2)) := i68 w 2
  have j0 : 68 + 3 * nI w = nI (68 + (w * 3 + 0)) := i68' w
  rw [j1, j2, j0, cl_nI (by omega), cl_nI (by omega), cl_nI (by omega), s _ (by omega), s _ (by omega), s _ (by omega)]
  exact ⟨in_nI (by omega) (by decide), in_nI (by omega) (by decide), in_nI (by omega) (by decide), hP⟩
theorem m_may' (hg : EvM n cc e g) (hn : n ≤ 12) (h : Rm g n B k c σ) {p w : Nat} (hp : p < n) (hw : w < 5) (hT : mayP e p w → P (some (.int 1)) σ) (hF : ¬ mayP e p w → P (some (.int 0)) σ) : Ev l 135 0 [some (.ref 13), some (.int (nI p)), some (.int (nI w))] [] σ P := by
  have e58 : σ 58 p = e 14 p := by rw [h.1.1 58 (by decide) (by decide) (by decide) (by decide)]; exact hg.2.1 p hp
  have hw0 : (nI w).toInt = (w : Int) := nI_toInt (by omega)
  refine m_may hn hp (by rw [hw0]; omega) (fun hm => hT ?_) (fun hm => hF ?_)
  · rw [e58, hw0] at hm; exact hm.imp id (fun z => by omega)
  · rw [e58, hw0] at hm; exact fun z => hm (z.imp id (fun y => by omega))
theorem m_roams (hg : EvM n cc e g) (hn : n ≤ 12) (h : Rm g n B k c σ) {p b0 : Nat} (hp : p < n) (hb0 : b0 < 5) (hwh : c.wh p = nI b0) (hP : ∀ σ', Rm g n B k (c.set 0 (upd c.wh p (nI (bs e c.wt p b0 5)))) σ' → P none σ') : Ev l 140 0 [some (.ref 13), some (.int (nI p)), none, none, none, none] [] σ P := by
  have swh := h.2.2.2.2.1
  have e24 : 24 + nI p = nI (24 + p) := nI_add 24 p
  have loop : ∀ m q x4, 5 - q = m → q ≤ 5 → (x4 = -1 ∧ bs e c.wt p b0 q = b0 ∨ x4 = nI (bs e c.wt p b0 q) ∧ ws c.wt b0 < ws c.wt (bs e c.wt p b0 q)) → Ev l 140 22 [some (.ref 13), some (.int (nI p)), none, some (.int (ws c.wt b0)), some (.int x4), some (.int (nI q))] [] σ P := by
    intro m
    induction m with
    | zero =>
      intro q x4 hq hq5 hx
      have : q = 5 := by omega
      subst this
      refine b_X11_roams_22 _ _ _ _ (br_f' (nI_nlt (a := 5) (b := 5) (Nat.le_refl _) (by omega)) ?_)
      rw [e24, cl_nI (by omega)]
      rcases hx with ⟨rfl, hb⟩ | ⟨rfl, hb⟩
      · refine br_t' (by decide) (hP σ ?_)
        rw [hb, ← hwh, upd_id]
        have : c.set 0 c.wh = c := Ct.set_id c 0
        rw [this]
        exact h
      · exact br_f' (nI_pos (by have := bs_lt (e := e) (f := c.wt) (p := p) hb0 5 (by omega); omega)) ⟨in_nI (by omega) (by decide), hP _ (h.s_wh hn hp _)⟩
    | succ m ih =>
      intro q x4 hq hq5 hx
      have hbs : bs e c.wt p b0 (q + 1) = if mayP e p q ∧ ws c.wt (bs e c.wt p b0 q) < ws c.wt q then q else bs e c.wt p b0 q := rfl
      have hb5 := bs_lt (e := e) (f := c.wt) (p := p) hb0 q (by omega)
      refine b_X11_roams_22 _ _ _ _ (br_t' (nI_lt (a := q) (b := 5) (by omega) (by omega)) (m_may' hg hn h hp (by omega) (fun hm => br1 ?_) (fun hm => br0 ?_)))
      · refine m_wait hn h (by omega) ?_
        rw [nI_1]
        rcases hx with ⟨rfl, hb⟩ | ⟨rfl, hb⟩
        · refine br_i (fun hl => br_t' (by decide) (ih (q + 1) _ (by omega) (by omega) (Or.inr ?_))) (fun hl => ih (q + 1) _ (by omega) (by omega) (Or.inl ⟨rfl, ?_⟩))
          · rw [hbs, if_pos ⟨hm, by rw [hb]; exact hl⟩]; exact ⟨rfl, hl⟩
          · rw [hbs, if_neg (fun z => hl (by rw [← hb]; exact z.2))]; exact hb
        · refine br_i (fun hl => br_f' (nI_pos (by omega)) (m_wait hn h (by omega) (m_wait hn h hb5 (br_i (fun hl2 => ih (q + 1) _ (by omega) (by omega) (Or.inr ?_)) (fun hl2 => ih (q + 1) _ (by omega) (by omega) (Or.inr ?_)))))) (fun hl => ih (q + 1) _ (by omega) (by omega) (Or.inr ?_))
          · rw [hbs, if_pos ⟨hm, hl2⟩]; exact ⟨rfl, hl⟩
          · rw [hbs, if_neg (fun z => hl2 z.2)]; exact ⟨rfl, hb⟩
          · rw [hbs, if_neg (fun z => hl (by
              have := z.2
              rw [lt_toInt] at this hb ⊢
              omega))]
            exact ⟨rfl, hb⟩
      · rw [nI_1]
        refine ih (q + 1) _ (by omega) (by omega) ?_
        rw [hbs, if_neg (fun z => hm z.1)]
        exact hx
  refine b_X11_roams_0 _ ?_
  rw [e24, cl_nI (by omega), swh p hp, hwh]
  exact ⟨in_nI (by omega) (by decide), m_wait hn h hb0 (loop 5 0 (-1) (by omega) (by omega) (Or.inl ⟨rfl, rfl⟩))⟩
theorem m_runs (hg : EvM n cc e g) (hn : n ≤ 12) (h : Rm g n B k c σ) {p h0 : Nat} (hp : p < n) (hh : c.hh = nI h0) (hh0 : h0 < 1000) (hwf : Wf n c) (hP : P (some (.int (if c.wh p = -1 then -1 else e 19 (p * 2 + shO (h0 % 24))))) σ) : Ev l 138 0 [some (.ref 13), some (.int (nI p))] [] σ P := by
  have e24 : 24 + nI p = nI (24 + p) := nI_add 24 p
  have h14 : σ 13 14 = nI h0 := h.2.1.1.trans hh
  have em : nI h0 - nI h0 / 24 * 24 = nI (h0 % 24) := md_nI (a := h0) (b := 24) (by omega) (by omega) (by omega)
  have e24n : ¬ (24 : Int32) = 0 := by decide
  have e63 : σ 63 p = e 19 (p * 2) := by rw [h.1.1 63 (by decide) (by decide) (by decide) (by decide)]; exact (hg.2.2.1 p hp).1
  have e64 : σ 64 p = e 19 (p * 2 + 1) := by rw [h.1.1 64 (by decide) (by decide) (by decide) (by decide)]; exact (hg.2.2.1 p hp).2
  have hip : vp_in (nI p) 12 := in_nI (by omega) (by decide)
  refine b_X11_runs_0 _ ?_
  rw [e24, cl_nI (by omega), h.2.2.2.2.1 p hp, h14, em]
  refine ⟨in_nI (by omega) (by decide), br_i (fun hl => ?_) (fun hl => ⟨e24n, ?_⟩)⟩
  · rcases hwf.1 p hp with hm | ⟨w, hw5, hwe⟩
    · rw [if_pos hm] at hP; exact hP
    · rw [hwe] at hl; exact absurd hl (nI_pos (by omega))
  · have hne : ¬ c.wh p = -1 := fun z => hl (by rw [z]; decide)
    rw [if_neg hne] at hP
    unfold shO at hP
    by_cases hs : 4 ≤ h0 % 24 ∧ h0 % 24 ≤ 15
    · rw [if_pos hs] at hP
      refine ni_t (ai := 4) (bi := 15) (by rw [nI_toInt (by omega)]; omega) (br1 (b_X11_driverOf_0 _ _ ?_))
      rw [cl_nI (by omega)]
      refine br_t' rfl ⟨hip, ?_⟩
      rw [e63]; exact hP
    · rw [if_neg hs] at hP
      refine ni_f (ai := 4) (bi := 15) (by rw [nI_toInt (by omega)]; omega) (br0 (b_X11_driverOf_0 _ _ ?_))
      rw [cl_nI (by omega)]
      refine br_f' (by decide) ⟨hip, ?_⟩
      rw [e64]; exact hP
def svT (e : ax_Sg) (cc : Nat) (kp : Bool) (hd : Nat) (c : Ct) (p d w : Nat) : Ct :=
  (((((((((c.set 5 (svW c w)).set 6 (svU c w)).set 2 (upd c.tk p (c.tk p + prI e cc hd c w))).set 4 (upd c.ea d (c.ea d + prI e cc hd c w))).set 12 (fun _ => c.ta + prI e cc hd c w)).set 9 (fun _ => c.rc + 1)).set 13 (rw5 c kp p w (toW c w) (prI e cc hd c w))).set 14 (fun _ => rnK c kp)).set 0 (upd c.wh p (rst e p (toW c w))))
def kpI (kp : Bool) : Int32 := if kp = true then 1 else 0
theorem svT_svA (e : ax_Sg) (cc : Nat) (kp : Bool) (hd : Nat) (c : Ct) (p d w : Nat) : svT e cc kp hd (svA c p d) p d w = svB e cc kp hd c p d w := rfl
theorem m_takes (hg : EvM n cc e g) (hn : n ≤ 12) (h : Rm g n B k c σ) {p d w h0 : Nat} {kp : Bool} (hp : p < n) (hd16 : d < 16) (hw : w < 5) (hwh : c.wh p = nI w) (hwf : Wf n c) (hne : ¬ lw c.wt w = -1) (hB : B < 100000) (hh : c.hh = nI h0) (hh0 : h0 < 1000) (hP : ∀ σ', Rm g n (B + 1) k (svT e cc kp (h0 % 24) c p d w) σ' → P none σ') : Ev l 139 0 [some (.ref 13), some (.int (nI p)), some (.int (nI d)), some (.int (kpI kp)), none, none, none, none] [] σ P := by
  have e24 : 24 + nI p = nI (24 + p) := nI_add 24 p
  have e83 : 83 + nI w = nI (83 + w) := nI_add 83 w
  have e12 : 12 + nI p = nI (12 + p) := nI_add 12 p
  have e52 : 52 + nI d = nI (52 + d) := nI_add 52 d
  have h14 : σ 13 14 = nI h0 := h.2.1.1.trans hh
  have em : nI h0 - nI h0 / 24 * 24 = nI (h0 % 24) := md_nI (a := h0) (b := 24) (by omega) (by omega) (by omega)
  have e24n : ¬ (24 : Int32) = 0 := by decide
  have e5n : ¬ (5 : Int32) = 0 := by decide
  have swt := h.2.2.2.2.2.2.2.1
  obtain ⟨t, htB, htu, htc⟩ := h.2.2.2.2.2.2.2.2.1 w hw
  rcases lw_cases c.wt w with ⟨hm, _⟩ | ⟨j, hj, hje, hjp, hjn⟩
  · exact absurd hm hne
  · have h00 : (0 : Int32).toInt = 0 := by decide
    have hit : ∀ q, j ≤ q → q < 3 → Ev l 139 14 [some (.ref 13), some (.int (nI p)), some (.int (nI d)), some (.int (kpI kp)), some (.int (nI w)), some (.int (nI j)), none, none] [] σ P → Ev l 139 14 [some (.ref 13), some (.int (nI p)), some (.int (nI d)), some (.int (kpI kp)), some (.int (nI w)), some (.int (nI q)), none, none] [] σ P := by
      intro q
      induction q with
      | zero =>
        intro h1 _ hE
        rw [show j = 0 by omega] at hE
        exact hE
      | succ q ih =>
        intro h1 h2 hE
        by_cases hjq : j = q + 1
        · rw [hjq] at hE; exact hE
        · refine b_X11_takesOne_14 _ _ _ _ _ ?_
          rw [i68, cl_nI (show 68 + (w * 3 + (q + 1)) < 2 ^ 31 by omega), swt _ (by omega)]
          refine ⟨in_nI (by omega) (by decide), br_t' ?_ ?_⟩
          · have a := hjn (q + 1) (by omega) h2
            have b := hwf.2.1 (w * 3 + (q + 1)) (by omega)
            rw [lt_toInt, h00] at a
            rw [eq_toInt, h00]
            have := b.1
            omega
          · rw [dec_nI]; exact ih (by omega) (by omega) hE
    refine b_X11_takesOne_0 _ _ _ ?_
    rw [e24, cl_nI (show 24 + p < 2 ^ 31 by omega), h.2.2.2.2.1 p hp, hwh]
    refine ⟨in_nI (by omega) (by decide), hit 2 (by omega) (by omega) (b_X11_takesOne_14 _ _ _ _ _ ?_)⟩
    rw [i68, e83, e12, e52, e24, cl_nI (show 68 + (w * 3 + j) < 2 ^ 31 by omega), cl_nI (show 83 + w < 2 ^ 31 by omega), cl_nI (show 12 + p < 2 ^ 31 by omega), cl_nI (show 52 + d < 2 ^ 31 by omega), cl_nI (show 24 + p < 2 ^ 31 by omega)]
    have em5 : nI t - nI t / 5 * 5 = nI (t % 5) := md_nI (a := t) (b := 5) (by omega) (by omega) (by omega)
    have ht5 : t % 5 < 5 := Nat.mod_lt _ (by omega)
    have eto : nI w + 1 + nI (t % 5) - (nI w + 1 + nI (t % 5)) / 5 * 5 = nI (toW c w) := by
      unfold toW
      rw [htc, show tN (nI (t % 5)) = t % 5 from cl_nI (by omega), nI_1, nI_add]
      exact md_nI (a := w + 1 + t % 5) (b := 5) (by omega) (by omega) (by omega)
    have eu : upd (σ 65) (68 + (w * 3 + j)) (σ 65 (68 + (w * 3 + j)) - 1) (83 + w) = nI t := by rw [upd_n _ _ (by omega)]; exact htu
    rw [eu, em5, eto, h14, em, nI_1 t, swt _ (by omega)]
    have hija : vp_in (nI (68 + (w * 3 + j))) 88 := in_nI (by omega) (by decide)
    have hi83 : vp_in (nI (83 + w)) 88 := in_nI (by omega) (by decide)
    have hi12 : vp_in (nI (12 + p)) 88 := in_nI (by omega) (by decide)
    have hi52 : vp_in (nI (52 + d)) 88 := in_nI (by omega) (by decide)
    have hi24 : vp_in (nI (24 + p)) 88 := in_nI (by omega) (by decide)
    have hto5 : toW c w < 5 := Nat.mod_lt _ (by omega)
    have htow : rg 0 4 (nI (toW c w)) := by unfold rg; rw [nI_toInt (by omega)]; omega
    have hfrw : rg 0 4 (nI w) := by unfold rg; rw [nI_toInt (by omega)]; omega
    refine ⟨hija, br_f' (fun z => by rw [lt_toInt, z] at hjp; omega) ⟨hija, hija, hi83, e5n, e5n, hi83, hi83, e24n, ?_⟩⟩
    have R1 : Rm g n (B + 1) k ((c.set 5 (svW c w)).set 6 (svU c w)) (ax_us (ax_us σ 65 (68 + (w * 3 + j)) (c.wt (w * 3 + j) - 1)) 65 (83 + w) (nI (t + 1))) := by
      have a := h.s_wt hn (i := w * 3 + j) (by omega) (c.wt (w * 3 + j) - 1)
      have b := a.s_tu hn (w := w) (t := t) hw (by show upd (σ 65) (68 + (w * 3 + j)) _ (83 + w) = nI t; rw [upd_n _ _ (by omega)]; exact htu) htB
      have e1 : svW c w = upd c.wt (w * 3 + j) (c.wt (w * 3 + j) - 1) := by unfold svW; rw [hje, show tN (nI j) = j from cl_nI (by omega)]
      have e2 : svU c w = upd c.tu w (nI ((t + 1) % 5)) := by
        unfold svU
        rw [htc, show tN (nI (t % 5)) = t % 5 from cl_nI (by omega), Nat.mod_add_mod]
      rw [e1, e2]
      exact b
    revert R1
    generalize ax_us (ax_us σ 65 (68 + (w * 3 + j)) (c.wt (w * 3 + j) - 1)) 65 (83 + w) (nI (t + 1)) = σ1
    intro R1
    have k26 : σ1 26 = e 26 := (R1.1.1 26 (by decide) (by decide) (by decide) (by decide)).trans hg.2.2.2.2.2.1
    have k27 : σ1 27 = e 27 := (R1.1.1 27 (by decide) (by decide) (by decide) (by decide)).trans hg.2.2.2.2.2.2.1
    have k28 : σ1 28 = e 28 := (R1.1.1 28 (by decide) (by decide) (by decide) (by decide)).trans hg.2.2.2.2.2.2.2
    have hmt : iv_mt cc σ1 := hg.2.2.2.2.1.fr (R1.1.1 4 (by decide) (by decide) (by decide) (by decide) ▸ rfl) (R1.1.2 35 (by decide)) (R1.1.1 26 (by decide) (by decide) (by decide) (by decide)) (R1.1.1 27 (by decide) (by decide) (by decide) (by decide)) (R1.1.1 28 (by decide) (by decide) (by decide) (by decide)) (R1.1.1 77 (by decide) (by decide) (by decide) (by decide)) (R1.1.1 78 (by decide) (by decide) (by decide) (by decide)) (R1.1.1 79 (by decide) (by decide) (by decide) (by decide))
    refine m_fareOf (σ := σ1) hmt hfrw htow _ _ ?_
    have epr : prF (σ1 26) (σ1 27) (σ1 28) (nI w) (nI (toW c w)) (nI (h0 % 24)) (nI j) cc = prI e cc (h0 % 24) c w := by
      unfold prI; rw [k26, k27, k28, hje]
    rw [epr]
    have rtk : σ1 65 (12 + p) = c.tk p := R1.2.2.2.1 p (by omega)
    have rea : upd (σ1 65) (12 + p) (c.tk p + prI e cc (h0 % 24) c w) (52 + d) = c.ea d := by rw [upd_n _ _ (by omega)]; exact R1.2.2.2.2.2.2.1 d hd16
    rw [rtk]
    refine ⟨hi12, hi12, hi52, hi52, ?_⟩
    rw [rea]
    have R2 := ((R1.s_tk hn (i := p) (by omega) (c.tk p + prI e cc (h0 % 24) c w)).s_ea hn (i := d) hd16 (c.ea d + prI e cc (h0 % 24) c w)).s_ta (c.ta + prI e cc (h0 % 24) c w)
    revert R2
    generalize ax_us (ax_us σ1 65 (12 + p) (c.tk p + prI e cc (h0 % 24) c w)) 65 (52 + d) (c.ea d + prI e cc (h0 % 24) c w) = σ2
    intro R2
    have fin : ∀ v, v = rst e p (toW c w) → (vp_in (nI (24 + p)) 88 ∧ ax_br (kpI kp = 0) (P none (ax_us (ax_us σ2 65 (24 + p) v) 13 11 ((σ2 13 11) + 1))) (ax_br (σ2 13 15 = 300) (P none (ax_us (ax_us σ2 65 (24 + p) v) 13 11 ((σ2 13 11) + 1))) ((vp_in (σ2 13 15) 300 ∧ (vp_in (σ2 13 15) 300 ∧ (vp_in (σ2 13 15) 300 ∧ (vp_in (σ2 13 15) 300 ∧ (vp_in (σ2 13 15) 300 ∧ P none (ax_us (ax_us (ax_us (ax_us (ax_us (ax_us (ax_us (ax_us σ2 65 (24 + p) v) 13 11 ((σ2 13 11) + 1)) 67 (Int32.toNatClampNeg (σ2 13 15)) (σ2 13 14)) 68 (Int32.toNatClampNeg (σ2 13 15)) (nI p)) 69 (Int32.toNatClampNeg (σ2 13 15)) (nI w)) 70 (Int32.toNatClampNeg (σ2 13 15)) (nI (toW c w))) 71 (Int32.toNatClampNeg (σ2 13 15)) (prI e cc (h0 % 24) c w)) 13 15 ((σ2 13 15) + 1)))))))))) := by
      intro v hv
      have erc : σ2 13 11 = c.rc := R2.2.1.2.1
      have ehh : σ2 13 14 = c.hh := R2.2.1.1
      have R3 := (R2.s_wh hn (i := p) hp v).s_rc (c.rc + 1)
      obtain ⟨r, hr3, hrn, hr15, _⟩ := R2.2.2.2.2.2.2.2.2.2.1
      have hrn' : c.rn = nI r := hrn
      rw [erc, ehh, hr15, cl_nI (by omega)]
      refine ⟨hi24, ?_⟩
      cases kp with
      | false =>
        refine br_t' rfl (hP _ ?_)
        unfold svT rw5 rnK
        rw [if_neg (show ¬ (false = true ∧ ¬ c.rn = 300) from fun z => absurd z.1 (by decide)), if_neg (show ¬ (false = true ∧ ¬ c.rn = 300) from fun z => absurd z.1 (by decide)), ← hv]
        exact R3
      | true =>
        refine br_f' (by decide) ?_
        by_cases h3 : r = 300
        · refine br_t' (by rw [h3]; rfl) (hP _ ?_)
          unfold svT rw5 rnK
          rw [if_neg (show ¬ (true = true ∧ ¬ c.rn = 300) from fun z => z.2 (by rw [hrn', h3]; rfl)), if_neg (show ¬ (true = true ∧ ¬ c.rn = 300) from fun z => z.2 (by rw [hrn', h3]; rfl)), ← hv]
          exact R3
        · have hir : vp_in (nI r) 300 := in_nI (by omega) (by decide)
          refine br_f' (nI_ne (b := 300) (by omega) (by omega) h3) ⟨hir, hir, hir, hir, hir, hP _ ?_⟩
          have R4 := R3.s_row (p := p) (w := w) (t := toW c w) (prI e cc (h0 % 24) c w) hrn' (by omega)
          unfold svT
          rw [← hv]
          exact R4
    refine m_may' hg hn R2 hp hto5 (fun hm => br1 (fin _ ?_)) (fun hm => br0 (fin _ ?_))
    · unfold rst; rw [if_pos hm]
    · unfold rst; rw [if_neg hm]
end MHour
