/-! tried -/
def tkS (f : Nat → Int32) : Nat → Int32
  | 0 => 0
  | k + 1 => tkS f k + f k
theorem tkS_congr {f g : Nat → Int32} : ∀ n, (∀ i, i < n → f i = g i) → tkS f n = tkS g n
  | 0, _ => rfl
  | k + 1, h => by
    show tkS f k + f k = tkS g k + g k
    rw [tkS_congr k (fun i hi => h i (by omega)), h k (by omega)]
theorem tkS_upd (f : Nat → Int32) (p : Nat) (x : Int32) : ∀ n, p < n → tkS (upd f p (f p + x)) n = tkS f n + x
  | 0, h => absurd h (by omega)
  | k + 1, h => by
    show tkS (upd f p (f p + x)) k + upd f p (f p + x) k = tkS f k + f k + x
    by_cases e : p = k
    · rw [← e, upd_s, tkS_congr (f := upd f p (f p + x)) (g := f) p (fun i hi => upd_n _ _ (by omega)), Int32.add_assoc]
    · rw [upd_n _ _ (fun z => e z.symm), tkS_upd f p x k (by omega), Int32.add_assoc, Int32.add_assoc, Int32.add_comm x (f k)]
/-- two cities that go the same way -/
def Sim (n k : Nat) (A1 A2 A3 A4 : Int32) (c1 c2 : Ct) : Prop := (∀ p, p < n → c1.wh p = c2.wh p) ∧ (∀ i, i < 15 → c1.wt i = c2.wt i) ∧ (∀ w, w < 5 → c1.tu w = c2.tu w) ∧ (c2.rc = c1.rc + A1 ∧ c2.lc = c1.lc + A2 ∧ c2.ic = c1.ic + A3 ∧ tkS c2.tk n = c1.ta + A4) ∧ ∀ p, p < k → c1.rm p = c2.rm p
theorem add_sw (a b c : Int32) : a + b + c = a + c + b := by rw [Int32.add_assoc, Int32.add_comm b c, Int32.add_assoc]
section SimS
variable {n k cc hd sh : Nat} {A1 A2 A3 A4 : Int32} {c1 c2 : Ct} {e : ax_Sg} {kp : Bool}
theorem upd_eq {f g : Nat → Int32} {N i : Nat} {v : Int32} (h : ∀ j, j < N → f j = g j) : ∀ j, j < N → upd f i v j = upd g i v j := by
  intro j hj
  by_cases e : j = i
  · rw [e, upd_s, upd_s]
  · rw [upd_n _ _ e, upd_n _ _ e]; exact h j hj
theorem sim_ada (h : Sim n k A1 A2 A3 A4 c1 c2) {w : Nat} (hw : w < 5) : Sim n k A1 A2 A3 A4 (adA e hd c1 w) (adA e hd c2 w) := by
  obtain ⟨a, b, c, d, f⟩ := h
  refine ⟨a, ?_, c, d, f⟩
  show ∀ i, i < 15 → upd c1.wt (w * 3) (c1.wt (w * 3) + e 29 (hd * 5 + w)) i = upd c2.wt (w * 3) (c2.wt (w * 3) + e 29 (hd * 5 + w)) i
  rw [b (w * 3) (by omega)]
  exact upd_eq b
theorem sim_tir (h : Sim n k A1 A2 A3 A4 c1 c2) {w : Nat} (hw : w < 5) : Sim n k A1 A2 A3 A4 (tir c1 w) (tir c2 w) := by
  obtain ⟨a, b, c, ⟨d1, d2, d3, d4⟩, f⟩ := h
  refine ⟨a, ?_, c, ⟨d1, ?_, d3, d4⟩, f⟩
  · show ∀ i, i < 15 → upd (upd (upd c1.wt (w * 3 + 2) (c1.wt (w * 3 + 1))) (w * 3 + 1) (c1.wt (w * 3))) (w * 3) 0 i = upd (upd (upd c2.wt (w * 3 + 2) (c2.wt (w * 3 + 1))) (w * 3 + 1) (c2.wt (w * 3))) (w * 3) 0 i
    rw [b (w * 3) (by omega), b (w * 3 + 1) (by omega)]
    exact upd_eq (upd_eq (upd_eq b))
  · show c2.lc + c2.wt (w * 3 + 2) = c1.lc + c1.wt (w * 3 + 2) + A2
    rw [d2, b (w * 3 + 2) (by omega), add_sw]
theorem lw_congr {f g : Nat → Int32} (h : ∀ i, i < 15 → f i = g i) {w : Nat} (hw : w < 5) : lw f w = lw g w := by
  unfold lw
  rw [h (w * 3 + 2) (by omega), h (w * 3 + 1) (by omega), h (w * 3 + 0) (by omega)]
theorem ws_congr {f g : Nat → Int32} (h : ∀ i, i < 15 → f i = g i) {w : Nat} (hw : w < 5) : ws f w = ws g w := by
  unfold ws
  rw [h (w * 3 + 2) (by omega), h (w * 3 + 1) (by omega), h (w * 3 + 0) (by omega)]
theorem bs_congr {f g : Nat → Int32} (h : ∀ i, i < 15 → f i = g i) {p b0 : Nat} (hb : b0 < 5) : ∀ k, k ≤ 5 → bs e f p b0 k = bs e g p b0 k
  | 0, _ => rfl
  | k + 1, hk => by
    show (if mayP e p k ∧ ws f (bs e f p b0 k) < ws f k then k else bs e f p b0 k) = (if mayP e p k ∧ ws g (bs e g p b0 k) < ws g k then k else bs e g p b0 k)
    rw [bs_congr h hb k (by omega), ws_congr h (bs_lt hb k (by omega)), ws_congr h (show k < 5 by omega)]
theorem sim_rmP (h : Sim n n A1 A2 A3 A4 c1 c2) {p : Nat} (hp : p < n) (hr : ¬ c1.rm p = 0 → ∃ w, w < 5 ∧ c1.wh p = nI w) : Sim n n A1 A2 A3 A4 (rmP e c1 p) (rmP e c2 p) := by
  have h0 := h
  obtain ⟨a, b, c, ⟨d1, d2, d3, d4⟩, f⟩ := h
  unfold rmP
  rw [← f p hp]
  by_cases z : c1.rm p = 0
  · rw [if_pos z, if_pos z]; exact h0
  · rw [if_neg z, if_neg z]
    obtain ⟨w, hw, hwe⟩ := hr z
    rw [← a p hp, hwe, show tN (nI w) = w from cl_nI (by omega), bs_congr b hw 5 (by omega)]
    refine ⟨upd_eq a, b, c, ⟨d1, d2, ?_, d4⟩, f⟩
    show c2.ic + 1 = c1.ic + 1 + A3
    rw [d3, add_sw]
theorem sim_sv {p : Nat} (h : Sim n p A1 A2 A3 A4 c1 c2) (hp : p < n) (hwf : Wf n c1) : Sim n (p + 1) A1 A2 A3 A4 (sv e cc kp hd sh c1 p) (sv e cc kp hd sh c2 p) := by
  obtain ⟨a, b, c, ⟨d1, d2, d3, d4⟩, f⟩ := h
  have frm : ∀ v : Int32, ∀ j, j < p + 1 → upd c1.rm p v j = upd c2.rm p v j := by
    intro v j hj
    by_cases z : j = p
    · rw [z, upd_s, upd_s]
    · rw [upd_n _ _ z, upd_n _ _ z]; exact f j (by omega)
  unfold sv
  rw [← a p hp]
  by_cases h1 : c1.wh p = -1 ∨ e 19 (p * 2 + sh) = -1
  · rw [if_pos h1, if_pos h1]; exact ⟨a, b, c, ⟨d1, d2, d3, d4⟩, frm 0⟩
  · rw [if_neg h1, if_neg h1]
    obtain ⟨w, hw, hwe⟩ := (hwf.1 p hp).resolve_left (fun z => h1 (Or.inl z))
    rw [hwe, show tN (nI w) = w from cl_nI (by omega), ← lw_congr b hw]
    by_cases h2 : lw c1.wt w = -1
    · rw [if_pos h2, if_pos h2]
      exact ⟨a, b, c, ⟨d1, d2, d3, d4⟩, frm 1⟩
    · rw [if_neg h2, if_neg h2]
      have hto : toW c1 w = toW c2 w := by unfold toW; rw [c w hw]
      have hpr : prI e cc hd c1 w = prI e cc hd c2 w := by unfold prI; rw [hto, lw_congr b hw]
      have hj : tN (lw c1.wt w) < 3 := by
        rcases lw_cases c1.wt w with ⟨hm, _⟩ | ⟨j, hj, hje, _, _⟩
        · exact absurd hm h2
        · rw [hje, show tN (nI j) = j from cl_nI (by omega)]; exact hj
      refine ⟨?_, ?_, ?_, ⟨?_, d2, d3, ?_⟩, frm 0⟩
      · show ∀ j, j < n → upd c1.wh p (rst e p (toW c1 w)) j = upd c2.wh p (rst e p (toW c2 w)) j
        rw [hto]; exact upd_eq a
      · show ∀ j, j < 15 → svW c1 w j = svW c2 w j
        unfold svW
        rw [← lw_congr b hw, b _ (by omega)]
        exact upd_eq b
      · show ∀ j, j < 5 → svU c1 w j = svU c2 w j
        unfold svU
        rw [c w hw]
        exact upd_eq c
      · show c2.rc + 1 = c1.rc + 1 + A1
        rw [d1, add_sw]
      · show tkS (upd c2.tk p (c2.tk p + prI e cc hd c2 w)) n = c1.ta + prI e cc hd c1 w + A4
        rw [tkS_upd _ _ _ n hp, d4, hpr, add_sw]
end SimS
theorem sim_hrE {n cc h : Nat} {kp : Bool} {A1 A2 A3 A4 : Int32} {c1 c2 : Ct} {e : ax_Sg} (he : Ev0 n cc e) (hz : Wz n c1) (hs : Sim n 0 A1 A2 A3 A4 c1 c2) : Sim n 0 A1 A2 A3 A4 (hrE e n cc kp h c1) (hrE e n cc kp h c2) := by
  have hhd : h % 24 < 24 := Nat.mod_lt _ (by omega)
  have sA : ∀ k, k ≤ 5 → Sim n 0 A1 A2 A3 A4 (its (adA e (h % 24)) c1 k) (its (adA e (h % 24)) c2 k) := by
    intro k
    induction k with
    | zero => intro _; exact hs
    | succ k ih => intro hk; exact sim_ada (ih (by omega)) (by omega)
  have sB : ∀ k, k ≤ n → Sim n k A1 A2 A3 A4 (its (sv e cc kp (h % 24) (shO (h % 24))) (hrA e (h % 24) c1) k) (its (sv e cc kp (h % 24) (shO (h % 24))) (hrA e (h % 24) c2) k) := by
    intro k
    induction k with
    | zero => intro _; exact sA 5 (Nat.le_refl _)
    | succ k ih => intro hk; exact sim_sv (ih (by omega)) (by omega) (wf_svs (wf_hrA he hhd hz) k (by omega))
  have sC : ∀ k, k ≤ n → Sim n n A1 A2 A3 A4 (its (rmP e) (hrB e n cc kp (h % 24) c1) k) (its (rmP e) (hrB e n cc kp (h % 24) c2) k) := by
    intro k
    induction k with
    | zero => intro _; exact sB n (Nat.le_refl _)
    | succ k ih => intro hk; exact sim_rmP (ih (by omega)) (by omega) ((wf_rmPs (wf_hrB (kp := kp) he hhd hz).1 (wf_hrB (kp := kp) he hhd hz).2 k (by omega)).2 k (by omega))
  have sD : ∀ k, k ≤ 5 → Sim n n A1 A2 A3 A4 (its tir (hrC e n cc kp (h % 24) c1) k) (its tir (hrC e n cc kp (h % 24) c2) k) := by
    intro k
    induction k with
    | zero => intro _; exact sC n (Nat.le_refl _)
    | succ k ih => intro hk; exact sim_tir (ih (by omega)) (by omega)
  obtain ⟨a, b, c, d, f⟩ := sD 5 (Nat.le_refl _)
  exact ⟨a, b, c, d, fun p hp => absurd hp (by omega)⟩
theorem sim_hrN {n cc h : Nat} {kp : Bool} {A1 A2 A3 A4 : Int32} {c1 c2 : Ct} {e : ax_Sg} (he : Ev0 n cc e) (hz : Wz n c1) (hs : Sim n 0 A1 A2 A3 A4 c1 c2) : ∀ k, Sim n 0 A1 A2 A3 A4 (hrN e n cc kp h c1 k) (hrN e n cc kp h c2 k)
  | 0 => hs
  | k + 1 => sim_hrE he (wz_hrN he hz k) (sim_hrN he hz hs k)
/-- a trial keeps no ride -/
theorem row_hrE {e : ax_Sg} {n cc h : Nat} {c : Ct} : (hrE e n cc false h c).row = c.row ∧ (hrE e n cc false h c).rn = c.rn := by
  show (hrD e n cc false (h % 24) c).row = c.row ∧ (hrD e n cc false (h % 24) c).rn = c.rn
  unfold hrD hrC hrB hrA
  refine its_inv (Q := fun c' => c'.row = c.row ∧ c'.rn = c.rn) (fun c' k _ hq => hq) ?_ 5 (Nat.le_refl _)
  refine its_inv (Q := fun c' => c'.row = c.row ∧ c'.rn = c.rn) (fun c' k hk hq => ?_) ?_ n (Nat.le_refl _)
  · unfold rmP
    by_cases z : c'.rm k = 0
    · rw [if_pos z]; exact hq
    · rw [if_neg z]; exact hq
  refine its_inv (Q := fun c' => c'.row = c.row ∧ c'.rn = c.rn) (fun c' k hk hq => ?_) ?_ n (Nat.le_refl _)
  · unfold sv
    by_cases h1 : c'.wh k = -1 ∨ e 19 (k * 2 + shO (h % 24)) = -1
    · rw [if_pos h1]; exact hq
    · rw [if_neg h1]
      by_cases h2 : lw c'.wt (tN (c'.wh k)) = -1
      · rw [if_pos h2]; exact hq
      · rw [if_neg h2]; exact hq
  exact its_inv (Q := fun c' => c'.row = c.row ∧ c'.rn = c.rn) (fun c' k _ hq => hq) ⟨rfl, rfl⟩ 5 (Nat.le_refl _)
theorem row_hrN {e : ax_Sg} {n cc h : Nat} {c : Ct} : ∀ k, (hrN e n cc false h c k).row = c.row ∧ (hrN e n cc false h c k).rn = c.rn
  | 0 => ⟨rfl, rfl⟩
  | k + 1 => ⟨row_hrE.1.trans (row_hrN k).1, row_hrE.2.trans (row_hrN k).2⟩
def cof8 (σ : ax_Sg) : Ct := fun k => if k = 0 then σ 39 else if k = 1 then σ 40 else if k = 2 then σ 41 else if k = 3 then σ 42 else if k = 4 then σ 43 else if k = 5 then σ 44 else if k = 6 then σ 45 else if k = 7 then σ 46 else if k = 8 then (fun _ => σ 8 13) else if k = 9 then (fun _ => σ 8 14) else if k = 10 then (fun _ => σ 8 15) else if k = 11 then (fun _ => σ 8 16) else if k = 12 then (fun _ => σ 8 17) else if k = 13 then σ 30 else fun _ => σ 6 1
theorem w8_n (e : ax_Sg) (c : Ct) {k : Nat} (h1 : ¬ (39 ≤ k ∧ k ≤ 46)) (h2 : k ≠ 8) : w8 e c k = e k := by
  unfold w8
  rw [if_neg (by omega), if_neg (by omega), if_neg (by omega), if_neg (by omega), if_neg (by omega), if_neg (by omega), if_neg (by omega), if_neg (by omega), if_neg h2]
theorem w8_cof (σ : ax_Sg) : w8 σ (cof8 σ) = σ := by
  funext k
  by_cases h : 39 ≤ k ∧ k ≤ 46
  · rcases (show k = 39 ∨ k = 40 ∨ k = 41 ∨ k = 42 ∨ k = 43 ∨ k = 44 ∨ k = 45 ∨ k = 46 by omega) with rfl | rfl | rfl | rfl | rfl | rfl | rfl | rfl <;> rfl
  · by_cases h7 : k = 8
    · subst h7
      funext i
      show (if i = 13 then σ 8 13 else if i = 14 then σ 8 14 else if i = 15 then σ 8 15 else if i = 16 then σ 8 16 else if i = 17 then σ 8 17 else σ 8 i) = σ 8 i
      by_cases a : i = 13
      · rw [if_pos a, a]
      · rw [if_neg a]
        by_cases a : i = 14
        · rw [if_pos a, a]
        · rw [if_neg a]
          by_cases a : i = 15
          · rw [if_pos a, a]
          · rw [if_neg a]
            by_cases a : i = 16
            · rw [if_pos a, a]
            · rw [if_neg a]
              by_cases a : i = 17
              · rw [if_pos a, a]
              · rw [if_neg a]
    · exact w8_n _ _ h h7
section Tried
variable {l : Launch} {σ : ax_Sg} {P : Option Value → ax_Sg → Prop}
theorem c_hours8' {n cc h N : Nat} (he : Ev0 n cc σ) (hz : Wz n (cof8 σ)) (hh : σ 8 13 = nI h) (hb : h + N < 1000) (hP : P none (w8 σ (hrN σ n cc false h (cof8 σ) N))) : Ev l 7 0 [some (.ref 8), some (.int (nI N)), none] [] σ P := by
  have := c_hours8 (l := l) (e := σ) (P := P) he hz hh hb hP
  rw [w8_cof] at this
  exact this
theorem m_took {n : Nat} (hn : n ≤ 12) (hs : σ 13 7 = nI n) (h : P (some (.int (tkS (fun p => σ 65 (12 + p)) n))) σ) : Ev l 143 0 [some (.ref 13), none, none] [] σ P := by
  have loop : ∀ m k, n - k = m → k ≤ n → Ev l 143 4 [some (.ref 13), some (.int (tkS (fun p => σ 65 (12 + p)) k)), some (.int (nI k))] [] σ P := by
    intro m
    induction m with
    | zero =>
      intro k hk hkn
      have : k = n := by omega
      subst this
      exact b_X11_tookAll_4 _ _ (br_f' (by rw [hs]; exact nI_nlt (Nat.le_refl _) (by omega)) h)
    | succ m ih =>
      intro k hk hkn
      refine b_X11_tookAll_4 _ _ (br_t' (by rw [hs]; exact nI_lt (by omega) (by omega)) ?_)
      have e12 : 12 + nI k = nI (12 + k) := nI_add 12 k
      rw [e12, cl_nI (by omega), nI_1]
      exact ⟨in_nI (by omega) (by decide), ih (k + 1) (by omega) (by omega)⟩
  exact b_X11_tookAll_0 (loop n 0 (by omega) (by omega))
/-- the trial before its hours -/
def Tr (σ : ax_Sg) (a k : Nat) (σ' : ax_Sg) : Prop := (∀ j, ¬ (39 ≤ j ∧ j ≤ 46) → j ≠ 8 → σ' j = σ j) ∧ (∀ p, p < 12 → σ' 39 p = if a ≤ p ∧ p < k then -1 else σ 31 p) ∧ (∀ i, i < 15 → σ' 44 i = σ 36 i) ∧ (∀ w, w < 5 → σ' 45 w = σ 37 w) ∧ σ' 8 13 = σ 7 13 ∧ σ' 8 14 = 0 ∧ σ' 8 15 = 0 ∧ σ' 8 16 = 0 ∧ σ' 8 17 = 0
theorem c_trial {n a N : Nat} (hn : n ≤ 12) (ha : a ≤ n) (hs : σ 1 4 = nI n) {x1 x3 : Int32} (hx1 : nI n - x1 = nI a) (h : ∀ σ', Tr σ a n σ' → Ev l 7 0 [some (.ref 8), some (.int (nI N)), none] [] σ' (fun o4 σ5 => ax_ov o4 (((x3 = 0 → P (some (.int (σ5 8 14))) σ5) ∧ (¬ x3 = 0 → ((x3 = 1 → P (some (.int (σ5 8 15))) σ5) ∧ (¬ x3 = 1 → ((x3 = 2 → P (some (.int (σ5 8 16))) σ5) ∧ (¬ x3 = 2 → P (some (.int (σ5 8 17))) σ5))))))))) : Ev l 4 0 [some (.ref 8), some (.ref 7)] [] σ (fun o10 σ11 => ax_ov o10 (Ev l 5 0 [some (.ref 8)] [] σ11 (fun o12 σ13 => ax_ov o12 (Ev l 84 68 [some (.ref 0), none, some (.int (nI N)), some (.int x3), some (.int ((σ13 1 4) - x1))] [] σ13 P)))) := by
  have loop : ∀ m k σ', n - k = m → a ≤ k → k ≤ n → Tr σ a k σ' → Ev l 84 68 [some (.ref 0), none, some (.int (nI N)), some (.int x3), some (.int (nI k))] [] σ' P := by
    intro m
    induction m with
    | zero =>
      intro k σ' hk hak hkn T
      have : k = n := by omega
      subst this
      have h14 : σ' 1 4 = nI k := by rw [T.1 1 (by decide) (by decide)]; exact hs
      exact b_X10_tried_68 _ _ _ (br_f' (by rw [h14]; exact nI_nlt (Nat.le_refl _) (by omega)) (h σ' T))
    | succ m ih =>
      intro k σ' hk hak hkn T
      have h14 : σ' 1 4 = nI n := by rw [T.1 1 (by decide) (by decide)]; exact hs
      refine b_X10_tried_68 _ _ _ (br_t' (by rw [h14]; exact nI_lt (by omega) (by omega)) (b_X1_put_r8_0 _ _ ?_))
      rw [cl_nI (by omega)]
      refine ⟨in_nI (by omega) (by decide), in_nI (by omega) (by decide), ?_⟩
      rw [nI_1]
      refine ih (k + 1) _ (by omega) (by omega) (by omega) ?_
      obtain ⟨t1, t2, t3⟩ := T
      refine ⟨fun j h1 h2 => ?_, fun p hp => ?_, t3⟩
      · rw [us_n _ _ _ (show j ≠ 39 by omega)]; exact t1 j h1 h2
      · show upd (σ' 39) k (-1) p = if a ≤ p ∧ p < k + 1 then -1 else σ 31 p
        by_cases e : p = k
        · rw [e, upd_s, if_pos (by omega)]
        · rw [upd_n _ _ e, t2 p hp]
          by_cases c : a ≤ p ∧ p < k
          · rw [if_pos c, if_pos (by omega)]
          · rw [if_neg c, if_neg (by omega)]
  refine b_X1_copy_0 ⟨by decide, by decide, by decide, b_X1_clearSums_0 ?_⟩
  show Ev l 84 68 [some (.ref 0), none, some (.int (nI N)), some (.int x3), some (.int (σ 1 4 - x1))] [] _ P
  rw [hs, hx1]
  refine loop (n - a) a _ rfl (Nat.le_refl _) ha ?_
  refine ⟨fun j h1 h2 => ?_, fun p hp => ?_, fun i hi => ?_, fun w hw => ?_, rfl, rfl, rfl, rfl, rfl⟩
  · rw [us_n _ _ _ h2, us_n _ _ _ h2, us_n _ _ _ h2, us_n _ _ _ h2, us_n _ _ _ h2, uc_n _ _ (by omega), uc_n _ _ (by omega), uc_n _ _ (by omega)]
  · rw [if_neg (by omega)]
    show (if 0 ≤ p ∧ p < 0 + 12 then σ 31 (0 + (p - 0)) else σ 39 p) = σ 31 p
    rw [if_pos (by omega), Nat.zero_add, Nat.sub_zero]
  · show (if 0 ≤ i ∧ i < 0 + 15 then σ 36 (0 + (i - 0)) else σ 44 i) = σ 36 i
    rw [if_pos (by omega), Nat.zero_add, Nat.sub_zero]
  · show (if 0 ≤ w ∧ w < 0 + 5 then σ 37 (0 + (w - 0)) else σ 45 w) = σ 37 w
    rw [if_pos (by omega), Nat.zero_add, Nat.sub_zero]
/-- the reference before its hours -/
def Tm (σ : ax_Sg) (a k : Nat) (σ' : ax_Sg) : Prop := (∀ j, j ≠ 65 → j ≠ 66 → σ' j = σ j) ∧ (∀ i, i < 88 → σ' 66 i = σ 65 i) ∧ ∀ i, i < 88 → σ' 65 i = if 24 + a ≤ i ∧ i < 24 + k then -1 else σ 65 i
theorem m_trial {n a N : Nat} (hn : n ≤ 12) (ha : a ≤ n) (hs : σ 13 7 = nI n) {x1 x3 : Int32} (hx1 : nI n - x1 = nI a) (h : ∀ σ', Tm σ a n σ' → Ev l 144 140 [some (.ref 13), none, some (.int (nI N)), some (.int x3), some (.int (σ 13 11)), some (.int (σ 13 12)), some (.int (σ 13 13)), some (.int (σ 13 14)), some (.int (tkS (fun p => σ 65 (12 + p)) n)), some (.int 0), none] [] σ' P) : Ev l 144 46 [some (.ref 13), some (.int x1), some (.int (nI N)), some (.int x3), some (.int 0), none, none, none, none, none, none] [] σ P := by
  have l2 : ∀ m k σ', n - k = m → a ≤ k → k ≤ n → Tm σ a k σ' → Ev l 144 111 [some (.ref 13), none, some (.int (nI N)), some (.int x3), some (.int (σ 13 11)), some (.int (σ 13 12)), some (.int (σ 13 13)), some (.int (σ 13 14)), some (.int (tkS (fun p => σ 65 (12 + p)) n)), some (.int (nI k)), none] [] σ' P := by
    intro m
    induction m with
    | zero =>
      intro k σ' hk hak hkn T
      have : k = n := by omega
      subst this
      have h14 : σ' 13 7 = nI k := by rw [T.1 13 (by decide) (by decide)]; exact hs
      exact b_X11_tried_111 _ _ _ _ _ _ _ _ (br_f' (by rw [h14]; exact nI_nlt (Nat.le_refl _) (by omega)) (h σ' T))
    | succ m ih =>
      intro k σ' hk hak hkn T
      have h14 : σ' 13 7 = nI n := by rw [T.1 13 (by decide) (by decide)]; exact hs
      refine b_X11_tried_111 _ _ _ _ _ _ _ _ (br_t' (by rw [h14]; exact nI_lt (by omega) (by omega)) ?_)
      have e24 : 24 + nI k = nI (24 + k) := nI_add 24 k
      rw [e24, cl_nI (by omega), nI_1]
      refine ⟨in_nI (by omega) (by decide), ih (k + 1) _ (by omega) (by omega) (by omega) ?_⟩
      obtain ⟨t1, t2, t3⟩ := T
      refine ⟨fun j h1 h2 => ?_, t2, fun i hi => ?_⟩
      · rw [us_n _ _ _ h1]; exact t1 j h1 h2
      · show upd (σ' 65) (24 + k) (-1) i = if 24 + a ≤ i ∧ i < 24 + (k + 1) then -1 else σ 65 i
        by_cases e : i = 24 + k
        · rw [e, upd_s, if_pos (by omega)]
        · rw [upd_n _ _ e, t3 i hi]
          by_cases c : 24 + a ≤ i ∧ i < 24 + k
          · rw [if_pos c, if_pos (by omega)]
          · rw [if_neg c, if_neg (by omega)]
  have l1 : ∀ m k σ', 88 - k = m → k ≤ 88 → ((∀ j, j ≠ 66 → σ' j = σ j) ∧ ∀ i, i < k → σ' 66 i = σ 65 i) → Ev l 144 46 [some (.ref 13), some (.int x1), some (.int (nI N)), some (.int x3), some (.int (nI k)), none, none, none, none, none, none] [] σ' P := by
    intro m
    induction m with
    | zero =>
      intro k σ' hk hk8 T
      have : k = 88 := by omega
      subst this
      obtain ⟨t1, t2⟩ := T
      have k13 : σ' 13 = σ 13 := t1 13 (by decide)
      have k65 : σ' 65 = σ 65 := t1 65 (by decide)
      refine b_X11_tried_46 _ _ _ _ (br_f' (nI_nlt (a := 88) (b := 88) (Nat.le_refl _) (by omega)) (m_took hn (by rw [k13]; exact hs) ?_))
      show Ev l 144 111 [some (.ref 13), none, some (.int (nI N)), some (.int x3), some (.int (σ' 13 11)), some (.int (σ' 13 12)), some (.int (σ' 13 13)), some (.int (σ' 13 14)), some (.int (tkS (fun p => σ' 65 (12 + p)) n)), some (.int (σ' 13 7 - x1)), none] [] σ' P
      rw [k13, k65, hs, hx1]
      refine l2 (n - a) a σ' rfl (Nat.le_refl _) ha ⟨fun j h1 h2 => t1 j h2, fun i hi => t2 i hi, fun i hi => ?_⟩
      rw [if_neg (by omega), k65]
    | succ m ih =>
      intro k σ' hk hk8 T
      refine b_X11_tried_46 _ _ _ _ (br_t' (nI_lt (a := k) (b := 88) (by omega) (by omega)) ?_)
      rw [cl_nI (by omega), nI_1]
      refine ⟨in_nI (by omega) (by decide), in_nI (by omega) (by decide), ih (k + 1) _ (by omega) (by omega) ?_⟩
      obtain ⟨t1, t2⟩ := T
      refine ⟨fun j hj => ?_, fun i hi => ?_⟩
      · rw [us_n _ _ _ hj]; exact t1 j hj
      · show upd (σ' 66) k (σ' 65 k) i = σ 65 i
        by_cases e : i = k
        · rw [e, upd_s, t1 65 (by decide)]
        · rw [upd_n _ _ e]; exact t2 i (by omega)
  exact l1 88 0 σ (by omega) (by omega) ⟨fun _ _ => rfl, fun i hi => absurd hi (by omega)⟩
theorem m_back {x4 x5 x6 x7 x9 : Int32} (h : ∀ σ', (∀ j, j ≠ 65 → σ' j = σ j) → (∀ i, i < 88 → σ' 65 i = σ 66 i) → P (some (.int x9)) (ax_us (ax_us (ax_us (ax_us σ' 13 11 x4) 13 12 x5) 13 13 x6) 13 14 x7)) : Ev l 144 213 [some (.ref 13), none, none, none, some (.int x4), some (.int x5), some (.int x6), some (.int x7), none, some (.int x9), some (.int 0)] [] σ P := by
  have l1 : ∀ m k σ', 88 - k = m → k ≤ 88 → ((∀ j, j ≠ 65 → σ' j = σ j) ∧ ∀ i, i < k → σ' 65 i = σ 66 i) → Ev l 144 213 [some (.ref 13), none, none, none, some (.int x4), some (.int x5), some (.int x6), some (.int x7), none, some (.int x9), some (.int (nI k))] [] σ' P := by
    intro m
    induction m with
    | zero =>
      intro k σ' hk hk8 T
      have : k = 88 := by omega
      subst this
      exact b_X11_tried_213 _ _ _ _ _ _ (br_f' (nI_nlt (a := 88) (b := 88) (Nat.le_refl _) (by omega)) (h σ' T.1 T.2))
    | succ m ih =>
      intro k σ' hk hk8 T
      refine b_X11_tried_213 _ _ _ _ _ _ (br_t' (nI_lt (a := k) (b := 88) (by omega) (by omega)) ?_)
      rw [cl_nI (by omega), nI_1]
      refine ⟨in_nI (by omega) (by decide), in_nI (by omega) (by decide), ih (k + 1) _ (by omega) (by omega) ?_⟩
      obtain ⟨t1, t2⟩ := T
      refine ⟨fun j hj => ?_, fun i hi => ?_⟩
      · rw [us_n _ _ _ hj]; exact t1 j hj
      · show upd (σ' 65) k (σ' 66 k) i = σ 66 i
        by_cases e : i = k
        · rw [e, upd_s, t1 66 (by decide)]
        · rw [upd_n _ _ e]; exact t2 i (by omega)
  exact l1 88 0 σ (by omega) (by omega) ⟨fun _ _ => rfl, fun i hi => absurd hi (by omega)⟩
end Tried
