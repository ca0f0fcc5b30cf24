/-! the class's hour; printed by wip/whole/gen/gen_city.py -/
theorem Ct.set_set (c : Ct) (k : Nat) (f g : Nat → Int32) : (c.set k f).set k g = c.set k g := by
  funext k'
  show (if k' = k then g else if k' = k then f else c k') = if k' = k then g else c k'
  by_cases h : k' = k
  · rw [if_pos h, if_pos h]
  · rw [if_neg h, if_neg h, if_neg h]
theorem ix3 (a b : Nat) : nI a * 3 + nI b = nI (a * 3 + b) := by rw [show (3 : Int32) = nI 3 from rfl, pk_mul, nI_add]
theorem ix2 (a b : Nat) : nI a * 2 + nI b = nI (a * 2 + b) := by rw [show (2 : Int32) = nI 2 from rfl, pk_mul, nI_add]
theorem m3 (a : Nat) : nI a * 3 = nI (a * 3) := by rw [show (3 : Int32) = nI 3 from rfl, pk_mul]
theorem dec_nI (j : Nat) : nI (j + 1) + (-1) = nI j := by
  rw [← nI_pred j, Int32.sub_eq_add_neg]
theorem its_hh {g : Ct → Nat → Ct} (hg : ∀ c k, (g c k).hh = c.hh) (c : Ct) : ∀ k, (its g c k).hh = c.hh
  | 0 => rfl
  | k + 1 => (hg _ _).trans (its_hh hg c k)
theorem shO_lt (hd : Nat) : shO hd < 2 := by
  unfold shO
  by_cases z : 4 ≤ hd ∧ hd ≤ 15
  · rw [if_pos z]; omega
  · rw [if_neg z]; omega
theorem hh_sv (e : ax_Sg) (cc : Nat) (kp : Bool) (hd sh : Nat) (c : Ct) (k : Nat) : (sv e cc kp hd sh c k).hh = c.hh := by
  unfold sv
  by_cases h1 : c.wh k = -1 ∨ e 19 (k * 2 + sh) = -1
  · rw [if_pos h1]; rfl
  · rw [if_neg h1]
    by_cases h2 : lw c.wt (tN (c.wh k)) = -1
    · rw [if_pos h2]; rfl
    · rw [if_neg h2]; rfl
theorem hh_hrD (e : ax_Sg) (n cc : Nat) (kp : Bool) (hd : Nat) (c : Ct) : (hrD e n cc kp hd c).hh = c.hh := by
  unfold hrD hrC hrB hrA
  rw [its_hh (g := tir) (fun _ _ => rfl), its_hh (g := rmP e), its_hh (g := sv e cc kp hd (shO hd)), its_hh (g := adA e hd) (fun _ _ => rfl)]
  · exact hh_sv e cc kp hd (shO hd)
  · intro c k
    unfold rmP
    by_cases h : c.rm k = 0
    · rw [if_pos h]
    · rw [if_neg h]; rfl
def w7 (e : ax_Sg) (c : Ct) : ax_Sg := fun k => if k = 31 then c.wh else if k = 32 then c.hr else if k = 33 then c.tk else if k = 34 then c.dh else if k = 35 then c.ea else if k = 36 then c.wt else if k = 37 then c.tu else if k = 38 then c.rm else if k = 7 then (fun i => if i = 13 then c.hh else if i = 14 then c.rc else if i = 15 then c.lc else if i = 16 then c.ic else if i = 17 then c.ta else e 7 i) else if k = 30 then c.row else if k = 6 then (fun i => if i = 1 then c.rn else e 6 i) else e k
theorem w7_wh (e : ax_Sg) (c : Ct) (i : Nat) (v : Int32) : ax_us (w7 e c) 31 i v = w7 e (c.set 0 (upd c.wh i v)) := by
  funext k
  by_cases h : k = 31
  · subst h; rfl
  · show (if k = 31 then upd ((w7 e c) 31) i v else w7 e c k) = _
    rw [if_neg h]
    unfold w7
    simp only [if_neg h]
    rfl
theorem w7_hr (e : ax_Sg) (c : Ct) (i : Nat) (v : Int32) : ax_us (w7 e c) 32 i v = w7 e (c.set 1 (upd c.hr i v)) := by
  funext k
  by_cases h : k = 32
  · subst h; rfl
  · show (if k = 32 then upd ((w7 e c) 32) i v else w7 e c k) = _
    rw [if_neg h]
    unfold w7
    simp only [if_neg h]
    rfl
theorem w7_tk (e : ax_Sg) (c : Ct) (i : Nat) (v : Int32) : ax_us (w7 e c) 33 i v = w7 e (c.set 2 (upd c.tk i v)) := by
  funext k
  by_cases h : k = 33
  · subst h; rfl
  · show (if k = 33 then upd ((w7 e c) 33) i v else w7 e c k) = _
    rw [if_neg h]
    unfold w7
    simp only [if_neg h]
    rfl
theorem w7_dh (e : ax_Sg) (c : Ct) (i : Nat) (v : Int32) : ax_us (w7 e c) 34 i v = w7 e (c.set 3 (upd c.dh i v)) := by
  funext k
  by_cases h : k = 34
  · subst h; rfl
  · show (if k = 34 then upd ((w7 e c) 34) i v else w7 e c k) = _
    rw [if_neg h]
    unfold w7
    simp only [if_neg h]
    rfl
theorem w7_ea (e : ax_Sg) (c : Ct) (i : Nat) (v : Int32) : ax_us (w7 e c) 35 i v = w7 e (c.set 4 (upd c.ea i v)) := by
  funext k
  by_cases h : k = 35
  · subst h; rfl
  · show (if k = 35 then upd ((w7 e c) 35) i v else w7 e c k) = _
    rw [if_neg h]
    unfold w7
    simp only [if_neg h]
    rfl
theorem w7_wt (e : ax_Sg) (c : Ct) (i : Nat) (v : Int32) : ax_us (w7 e c) 36 i v = w7 e (c.set 5 (upd c.wt i v)) := by
  funext k
  by_cases h : k = 36
  · subst h; rfl
  · show (if k = 36 then upd ((w7 e c) 36) i v else w7 e c k) = _
    rw [if_neg h]
    unfold w7
    simp only [if_neg h]
    rfl
theorem w7_tu (e : ax_Sg) (c : Ct) (i : Nat) (v : Int32) : ax_us (w7 e c) 37 i v = w7 e (c.set 6 (upd c.tu i v)) := by
  funext k
  by_cases h : k = 37
  · subst h; rfl
  · show (if k = 37 then upd ((w7 e c) 37) i v else w7 e c k) = _
    rw [if_neg h]
    unfold w7
    simp only [if_neg h]
    rfl
theorem w7_rm (e : ax_Sg) (c : Ct) (i : Nat) (v : Int32) : ax_us (w7 e c) 38 i v = w7 e (c.set 7 (upd c.rm i v)) := by
  funext k
  by_cases h : k = 38
  · subst h; rfl
  · show (if k = 38 then upd ((w7 e c) 38) i v else w7 e c k) = _
    rw [if_neg h]
    unfold w7
    simp only [if_neg h]
    rfl
theorem w7_hh (e : ax_Sg) (c : Ct) (v : Int32) : ax_us (w7 e c) 7 13 v = w7 e (c.set 8 (fun _ => v)) := by
  funext k
  by_cases h : k = 7
  · subst h
    funext i
    show upd ((w7 e c) 7) 13 v i = (w7 e (c.set 8 (fun _ => v))) 7 i
    unfold upd
    by_cases h2 : i = 13
    · subst h2; rfl
    · rw [if_neg h2]
      show (if i = 13 then c.hh else if i = 14 then c.rc else if i = 15 then c.lc else if i = 16 then c.ic else if i = 17 then c.ta else e 7 i) = (if i = 13 then (c.set 8 (fun _ => v)).hh else if i = 14 then (c.set 8 (fun _ => v)).rc else if i = 15 then (c.set 8 (fun _ => v)).lc else if i = 16 then (c.set 8 (fun _ => v)).ic else if i = 17 then (c.set 8 (fun _ => v)).ta else e 7 i)
      simp only [if_neg h2]
      rfl
  · show (if k = 7 then upd ((w7 e c) 7) 13 v else w7 e c k) = _
    rw [if_neg h]
    unfold w7
    simp only [if_neg h]
    rfl
theorem w7_rc (e : ax_Sg) (c : Ct) (v : Int32) : ax_us (w7 e c) 7 14 v = w7 e (c.set 9 (fun _ => v)) := by
  funext k
  by_cases h : k = 7
  · subst h
    funext i
    show upd ((w7 e c) 7) 14 v i = (w7 e (c.set 9 (fun _ => v))) 7 i
    unfold upd
    by_cases h2 : i = 14
    · subst h2; rfl
    · rw [if_neg h2]
      show (if i = 13 then c.hh else if i = 14 then c.rc else if i = 15 then c.lc else if i = 16 then c.ic else if i = 17 then c.ta else e 7 i) = (if i = 13 then (c.set 9 (fun _ => v)).hh else if i = 14 then (c.set 9 (fun _ => v)).rc else if i = 15 then (c.set 9 (fun _ => v)).lc else if i = 16 then (c.set 9 (fun _ => v)).ic else if i = 17 then (c.set 9 (fun _ => v)).ta else e 7 i)
      simp only [if_neg h2]
      rfl
  · show (if k = 7 then upd ((w7 e c) 7) 14 v else w7 e c k) = _
    rw [if_neg h]
    unfold w7
    simp only [if_neg h]
    rfl
theorem w7_lc (e : ax_Sg) (c : Ct) (v : Int32) : ax_us (w7 e c) 7 15 v = w7 e (c.set 10 (fun _ => v)) := by
  funext k
  by_cases h : k = 7
  · subst h
    funext i
    show upd ((w7 e c) 7) 15 v i = (w7 e (c.set 10 (fun _ => v))) 7 i
    unfold upd
    by_cases h2 : i = 15
    · subst h2; rfl
    · rw [if_neg h2]
      show (if i = 13 then c.hh else if i = 14 then c.rc else if i = 15 then c.lc else if i = 16 then c.ic else if i = 17 then c.ta else e 7 i) = (if i = 13 then (c.set 10 (fun _ => v)).hh else if i = 14 then (c.set 10 (fun _ => v)).rc else if i = 15 then (c.set 10 (fun _ => v)).lc else if i = 16 then (c.set 10 (fun _ => v)).ic else if i = 17 then (c.set 10 (fun _ => v)).ta else e 7 i)
      simp only [if_neg h2]
      rfl
  · show (if k = 7 then upd ((w7 e c) 7) 15 v else w7 e c k) = _
    rw [if_neg h]
    unfold w7
    simp only [if_neg h]
    rfl
theorem w7_ic (e : ax_Sg) (c : Ct) (v : Int32) : ax_us (w7 e c) 7 16 v = w7 e (c.set 11 (fun _ => v)) := by
  funext k
  by_cases h : k = 7
  · subst h
    funext i
    show upd ((w7 e c) 7) 16 v i = (w7 e (c.set 11 (fun _ => v))) 7 i
    unfold upd
    by_cases h2 : i = 16
    · subst h2; rfl
    · rw [if_neg h2]
      show (if i = 13 then c.hh else if i = 14 then c.rc else if i = 15 then c.lc else if i = 16 then c.ic else if i = 17 then c.ta else e 7 i) = (if i = 13 then (c.set 11 (fun _ => v)).hh else if i = 14 then (c.set 11 (fun _ => v)).rc else if i = 15 then (c.set 11 (fun _ => v)).lc else if i = 16 then (c.set 11 (fun _ => v)).ic else if i = 17 then (c.set 11 (fun _ => v)).ta else e 7 i)
      simp only [if_neg h2]
      rfl
  · show (if k = 7 then upd ((w7 e c) 7) 16 v else w7 e c k) = _
    rw [if_neg h]
    unfold w7
    simp only [if_neg h]
    rfl
theorem w7_ta (e : ax_Sg) (c : Ct) (v : Int32) : ax_us (w7 e c) 7 17 v = w7 e (c.set 12 (fun _ => v)) := by
  funext k
  by_cases h : k = 7
  · subst h
    funext i
    show upd ((w7 e c) 7) 17 v i = (w7 e (c.set 12 (fun _ => v))) 7 i
    unfold upd
    by_cases h2 : i = 17
    · subst h2; rfl
    · rw [if_neg h2]
      show (if i = 13 then c.hh else if i = 14 then c.rc else if i = 15 then c.lc else if i = 16 then c.ic else if i = 17 then c.ta else e 7 i) = (if i = 13 then (c.set 12 (fun _ => v)).hh else if i = 14 then (c.set 12 (fun _ => v)).rc else if i = 15 then (c.set 12 (fun _ => v)).lc else if i = 16 then (c.set 12 (fun _ => v)).ic else if i = 17 then (c.set 12 (fun _ => v)).ta else e 7 i)
      simp only [if_neg h2]
      rfl
  · show (if k = 7 then upd ((w7 e c) 7) 17 v else w7 e c k) = _
    rw [if_neg h]
    unfold w7
    simp only [if_neg h]
    rfl
theorem w7_row (e : ax_Sg) (c : Ct) (i : Nat) (v : Int32) : ax_us (w7 e c) 30 i v = w7 e (c.set 13 (upd c.row i v)) := by
  funext k
  by_cases h : k = 30
  · subst h; rfl
  · show (if k = 30 then upd ((w7 e c) 30) i v else w7 e c k) = _
    rw [if_neg h]
    unfold w7
    simp only [if_neg h]
    rfl
theorem w7_rn (e : ax_Sg) (c : Ct) (v : Int32) : ax_us (w7 e c) 6 1 v = w7 e (c.set 14 (fun _ => v)) := by
  funext k
  by_cases h : k = 6
  · subst h
    funext i
    show upd ((w7 e c) 6) 1 v i = (w7 e (c.set 14 (fun _ => v))) 6 i
    unfold upd
    by_cases h2 : i = 1
    · subst h2; rfl
    · rw [if_neg h2]
      show (if i = 1 then c.rn else e 6 i) = (if i = 1 then (c.set 14 (fun _ => v)).rn else e 6 i)
      rw [if_neg h2, if_neg h2]
  · show (if k = 6 then upd ((w7 e c) 6) 1 v else w7 e c k) = _
    rw [if_neg h]
    unfold w7
    simp only [if_neg h]
    rfl

section City7
variable {l : Launch} {σ e : ax_Sg} {P : Option Value → ax_Sg → Prop}
theorem c_wait7 {w : Nat} (hw : w < 5) (h : P (some (.int (ws (σ 36) w))) σ) : Ev l 11 0 [some (.ref 7), some (.int (nI w)), none, none] [] σ P := by
  have s : ∀ (j : Nat) (acc : Int32), j < 3 → Ev l 11 4 [some (.ref 7), some (.int (nI w)), some (.int (acc + σ 36 (w * 3 + j))), some (.int (nI (j + 1)))] [] σ P → Ev l 11 4 [some (.ref 7), some (.int (nI w)), some (.int acc), some (.int (nI j))] [] σ P := by
    intro j acc hj hh
    refine b_X1_waitingIn_r7_4 _ _ _ (br_t' (nI_lt (a := j) (b := 3) hj (by omega)) ?_)
    rw [ix3, cl_nI (by omega), nI_1]
    exact ⟨in_nI (by omega) (by decide), hh⟩
  refine b_X1_waitingIn_r7_0 _ (s 0 0 (by omega) (s 1 _ (by omega) (s 2 _ (by omega) (b_X1_waitingIn_r7_4 _ _ _ (br_f' (nI_nlt (a := 3) (b := 3) (Nat.le_refl _) (by omega)) ?_)))))
  rw [Int32.zero_add]
  exact h
theorem c_lw7 {w : Nat} (hw : w < 5) (h : P (some (.int (lw (σ 36) w))) σ) : Ev l 10 0 [some (.ref 7), some (.int (nI w)), none] [] σ P := by
  have s : ∀ j : Nat, j < 3 → (0 < σ 36 (w * 3 + j) → P (some (.int (nI j))) σ) → (¬ 0 < σ 36 (w * 3 + j) → Ev l 10 2 [some (.ref 7), some (.int (nI w)), some (.int (nI j + (-1)))] [] σ P) → Ev l 10 2 [some (.ref 7), some (.int (nI w)), some (.int (nI j))] [] σ P := by
    intro j hj h1 h2
    refine b_X1_longestWait_r7_2 _ _ (br_f' (nI_pos (by omega)) ?_)
    rw [ix3, cl_nI (by omega)]
    exact ⟨in_nI (by omega) (by decide), br_i h1 h2⟩
  unfold lw at h
  refine b_X1_longestWait_r7_0 _ (s 2 (by omega) (fun a2 => ?_) (fun a2 => s 1 (by omega) (fun a1 => ?_) (fun a1 => s 0 (by omega) (fun a0 => ?_) (fun a0 => b_X1_longestWait_r7_2 _ _ (br_t' (by decide) ?_)))))
  · rw [if_pos a2] at h; exact h
  · rw [if_neg a2, if_pos a1] at h; exact h
  · rw [if_neg a2, if_neg a1, if_pos a0] at h; exact h
  · rw [if_neg a2, if_neg a1, if_neg a0] at h; exact h
theorem c_tire7 {w : Nat} (hw : w < 5) {c : Ct} (h : P none (w7 e (tir c w))) : Ev l 13 0 [some (.ref 7), some (.int (nI w * 3)), none] [] (w7 e c) P := by
  rw [m3]
  refine b_X1_tire_r7_0 _ ?_
  have a2 : nI (w * 3) + 2 = nI (w * 3 + 2) := nI_add _ 2
  rw [a2, cl_nI (by omega)]
  refine ⟨in_nI (by omega) (by decide), b_X1_tire_r7_19 _ _ (br_t' (by decide) ?_)⟩
  have b2 : nI (w * 3 + 2) - 1 = nI (w * 3 + 1) := nI_pred _
  rw [a2, b2, cl_nI (by omega), cl_nI (by omega)]
  refine ⟨in_nI (by omega) (by decide), in_nI (by omega) (by decide), b_X1_tire_r7_19 _ _ (br_t' (by decide) ?_)⟩
  have a1 : nI (w * 3) + (2 + -1) = nI (w * 3 + 1) := nI_add _ 1
  have b1 : nI (w * 3 + 1) - 1 = nI (w * 3) := nI_pred _
  rw [a1, b1, cl_nI (by omega), cl_nI (by omega)]
  refine ⟨in_nI (by omega) (by decide), in_nI (by omega) (by decide), b_X1_tire_r7_19 _ _ (br_f' (by decide) ?_)⟩
  rw [cl_nI (by omega)]
  refine ⟨in_nI (by omega) (by decide), ?_⟩
  rw [w7_lc, w7_wt, w7_wt, w7_wt]
  have : tir c w = (((c.set 10 (fun _ => c.lc + c.wt (w * 3 + 2))).set 5 (upd c.wt (w * 3 + 2) (c.wt (w * 3 + 1)))).set 5 (upd (upd c.wt (w * 3 + 2) (c.wt (w * 3 + 1))) (w * 3 + 1) (upd c.wt (w * 3 + 2) (c.wt (w * 3 + 1)) (w * 3)))).set 5 (upd (upd (upd c.wt (w * 3 + 2) (c.wt (w * 3 + 1))) (w * 3 + 1) (upd c.wt (w * 3 + 2) (c.wt (w * 3 + 1)) (w * 3))) (w * 3) 0) := by
    rw [upd_n c.wt (i := w * 3 + 2) (j := w * 3) _ (by omega), Ct.set_set, Ct.set_set]
    rfl
  rw [this] at h
  exact h
theorem c_roam7 {n p b0 : Nat} {c : Ct} (hn : n ≤ 12) (hp : p < n) (hb0 : b0 < 5) (hwh : c.wh p = nI b0) (h : P none (w7 e (c.set 0 (upd c.wh p (nI (bs e c.wt p b0 5)))))) : Ev l 12 0 [some (.ref 7), some (.int (nI p)), none, none, none] [] (w7 e c) P := by
  have loop : ∀ m k, 5 - k = m → k ≤ 5 → Ev l 12 16 [some (.ref 7), some (.int (nI p)), some (.int (nI (bs e c.wt p b0 k))), some (.int (ws c.wt (bs e c.wt p b0 k))), some (.int (nI k))] [] (w7 e c) P := by
    intro m
    induction m with
    | zero =>
      intro k hk hk5
      have : k = 5 := by omega
      subst this
      refine b_X1_roam_r7_16 _ _ _ _ (br_f' (nI_nlt (a := 5) (b := 5) (Nat.le_refl _) (by omega)) ⟨in_nI (by omega) (by decide), ?_⟩)
      rw [cl_nI (by omega), w7_wh]
      exact h
    | succ m ih =>
      intro k hk hk5
      have ih' := ih (k + 1) (by omega) (by omega)
      have hbs : bs e c.wt p b0 (k + 1) = if mayP e p k ∧ ws c.wt (bs e c.wt p b0 k) < ws c.wt k then k else bs e c.wt p b0 k := rfl
      have hk0 : (nI k).toInt = (k : Int) := nI_toInt (by omega)
      refine b_X1_roam_r7_16 _ _ _ _ (br_t' (nI_lt (a := k) (b := 5) (by omega) (by omega)) (c_may (σ := w7 e c) hn hp (by rw [hk0]; omega) (fun hm => br1 ?_) (fun hm => br0 ?_)))
      · have hm' : mayP e p k := hm.imp id (fun z => by rw [hk0] at z; omega)
        refine c_wait7 (σ := w7 e c) (by omega) ?_
        refine br_i (fun hl => c_wait7 (σ := w7 e c) (by omega) ?_) (fun hl => ?_)
        · rw [hbs, if_pos ⟨hm', hl⟩] at ih'
          rw [nI_1]; exact ih'
        · rw [hbs, if_neg (fun z => hl z.2)] at ih'
          rw [nI_1]; exact ih'
      · have hm' : ¬ mayP e p k := fun z => hm (z.imp id (fun y => by rw [hk0]; omega))
        rw [hbs, if_neg (fun z => hm' z.1)] at ih'
        rw [nI_1]; exact ih'
  refine b_X1_roam_r7_0 _ ⟨in_nI (by omega) (by decide), ?_⟩
  rw [cl_nI (by omega)]
  show Ev l 11 0 [some (.ref 7), some (.int (c.wh p)), none, none] [] (w7 e c) (fun o1 σ2 => ax_oi o1 (fun v3 => Ev l 12 16 [some (.ref 7), some (.int (nI p)), some (.int (c.wh p)), some (.int v3), some (.int 0)] [] σ2 P))
  rw [hwh]
  exact c_wait7 (σ := w7 e c) hb0 (loop 5 0 (by omega) (by omega))
theorem c_serve7 {n cc p d w hd : Nat} {c : Ct} (he : Ev0 n cc e) (hp : p < n) (hd16 : d < 16) (hw : w < 5) (hwh : c.wh p = nI w) (hwf : Wf n c) (h0 : lw c.wt w = -1 → P (some (.int 0)) (w7 e (svA c p d))) (h1 : ¬ lw c.wt w = -1 → P (some (.int 1)) (w7 e (svB e cc true hd c p d w))) : Ev l 9 0 [some (.ref 7), some (.int (nI p)), some (.int (nI d)), some (.int (nI hd)), none, none, none, none] [] (w7 e c) P := by
  obtain ⟨hn, hcc, he14, he43, he19, he29⟩ := he
  obtain ⟨f1, f2, f3, r, hr300, hrn⟩ := hwf
  obtain ⟨t, ht5, htu⟩ := f3 w hw
  have hip : vp_in (nI p) 12 := in_nI (by omega) (by decide)
  have hid : vp_in (nI d) 16 := in_nI (by omega) (by decide)
  have hiw : vp_in (nI w) 5 := in_nI (by omega) (by decide)
  have e5 : ¬ (5 : Int32) = 0 := by decide
  refine b_X1_serve_r7_0 _ _ _ ?_
  have ew : (w7 e c) 31 (Int32.toNatClampNeg (nI p)) = nI w := by rw [cl_nI (by omega)]; exact hwh
  rw [ew, cl_nI (show d < 2 ^ 31 by omega), cl_nI (show p < 2 ^ 31 by omega), cl_nI (show w < 2 ^ 31 by omega)]
  have eA : ax_us (ax_us (w7 e c) 32 p ((w7 e c) 32 p + 1)) 34 d ((w7 e c) 34 d + 1) = w7 e (svA c p d) := by
    rw [w7_hr, w7_dh]; rfl
  rw [eA]
  refine ⟨hip, hip, hid, hid, hip, c_lw7 (σ := w7 e (svA c p d)) hw ?_⟩
  rcases lw_cases c.wt w with ⟨hm, _⟩ | ⟨j, hj, hje, hjp, _⟩
  · have elw : lw ((w7 e (svA c p d)) 36) w = -1 := hm
    rw [elw]
    exact br_t' rfl ⟨nar0, h0 hm⟩
  · have elw : lw ((w7 e (svA c p d)) 36) w = nI j := hje
    have hne : ¬ lw c.wt w = -1 := by rw [hje]; exact nI_nm1 (by omega)
    have hP := h1 hne
    rw [elw]
    refine br_f' (nI_nm1 (by omega)) ?_
    have etu : (w7 e (svA c p d)) 37 w = nI t := htu
    have eto : nI w + 1 + nI t - (nI w + 1 + nI t) / 5 * 5 = nI (toW c w) := by
      unfold toW
      rw [htu, show tN (nI t) = t from cl_nI (by omega), nI_1, nI_add]
      exact md_nI (a := w + 1 + t) (b := 5) (by omega) (by omega) (by omega)
    have et1 : nI t + 1 - (nI t + 1) / 5 * 5 = nI ((t + 1) % 5) := by
      rw [nI_1]
      exact md_nI (a := t + 1) (b := 5) (by omega) (by omega) (by omega)
    rw [etu, eto, et1, ix3, cl_nI (show w * 3 + j < 2 ^ 31 by omega)]
    have hij : vp_in (nI (w * 3 + j)) 15 := in_nI (by omega) (by decide)
    have eB : ax_us (ax_us (w7 e (svA c p d)) 36 (w * 3 + j) ((w7 e (svA c p d)) 36 (w * 3 + j) - 1)) 37 w (nI ((t + 1) % 5)) = w7 e (((svA c p d).set 5 (svW c w)).set 6 (svU c w)) := by
      rw [w7_wt, w7_tu]
      unfold svW svU
      rw [hje, htu, show tN (nI j) = j from cl_nI (by omega), show tN (nI t) = t from cl_nI (by omega)]
      rfl
    rw [eB]
    refine ⟨hij, hij, hiw, e5, hiw, e5, hiw, c_price (σ := w7 e (((svA c p d).set 5 (svW c w)).set 6 (svU c w))) (c := cc) hcc he43 _ _ _ _ ?_⟩
    have epr : prF ((w7 e (((svA c p d).set 5 (svW c w)).set 6 (svU c w))) 26) ((w7 e (((svA c p d).set 5 (svW c w)).set 6 (svU c w))) 27) ((w7 e (((svA c p d).set 5 (svW c w)).set 6 (svU c w))) 28) (nI w) (nI (toW c w)) (nI hd) (nI j) cc = prI e cc hd c w := by
      unfold prI; rw [hje]; rfl
    rw [epr]
    refine ⟨hip, hip, hid, hid, ?_⟩
    have eC : ax_us (ax_us (ax_us (ax_us (w7 e (((svA c p d).set 5 (svW c w)).set 6 (svU c w))) 33 p ((w7 e (((svA c p d).set 5 (svW c w)).set 6 (svU c w))) 33 p + prI e cc hd c w)) 35 d ((w7 e (((svA c p d).set 5 (svW c w)).set 6 (svU c w))) 35 d + prI e cc hd c w)) 7 17 ((w7 e (((svA c p d).set 5 (svW c w)).set 6 (svU c w))) 7 17 + prI e cc hd c w)) 7 14 ((w7 e (((svA c p d).set 5 (svW c w)).set 6 (svU c w))) 7 14 + 1) = w7 e (((((((svA c p d).set 5 (svW c w)).set 6 (svU c w)).set 2 (upd c.tk p (c.tk p + prI e cc hd c w))).set 4 (upd c.ea d (c.ea d + prI e cc hd c w))).set 12 (fun _ => c.ta + prI e cc hd c w)).set 9 (fun _ => c.rc + 1)) := by
      rw [w7_tk, w7_ea, w7_ta, w7_rc]; rfl
    rw [eC]
    have fin : ∀ c' : Ct, c'.wh = c.wh → w7 e (c'.set 0 (upd c.wh p (rst e p (toW c w)))) = w7 e (svB e cc true hd c p d w) → Ev l 45 0 [some (.ref 1), some (.int (nI p)), some (.int (nI (toW c w)))] [] (w7 e c') (fun o9 σ10 => ax_oi o9 (fun v11 => (vp_in (nI p) 12 ∧ (vp_nar .boolean 1 = 1 ∧ P (some (.int 1)) (ax_us σ10 31 p v11))))) := by
      intro c' hc' hfin
      have hto : toW c w < 5 := Nat.mod_lt _ (by omega)
      have hto0 : (nI (toW c w)).toInt = (toW c w : Int) := nI_toInt (by omega)
      refine b_X6_restingWard_0 _ _ (c_may (σ := w7 e c') hn hp (by rw [hto0]; omega) (fun hm => br1 ⟨hip, nar1, ?_⟩) (fun hm => br0 ⟨hip, nar1, ?_⟩))
      · have hm' : mayP e p (toW c w) := hm.imp id (fun z => by rw [hto0] at z; omega)
        have : nI (toW c w) = rst e p (toW c w) := by unfold rst; rw [if_pos hm']
        rw [w7_wh, hc', this, hfin]
        exact hP
      · have hm' : ¬ mayP e p (toW c w) := fun z => hm (z.imp id (fun y => by rw [hto0]; omega))
        have : 2 = rst e p (toW c w) := by unfold rst; rw [if_neg hm']
        rw [w7_wh, hc', this, hfin]
        exact hP
    refine b_X7_keep_0 _ _ _ _ _ ?_
    have ern : (w7 e (((((((svA c p d).set 5 (svW c w)).set 6 (svU c w)).set 2 (upd c.tk p (c.tk p + prI e cc hd c w))).set 4 (upd c.ea d (c.ea d + prI e cc hd c w))).set 12 (fun _ => c.ta + prI e cc hd c w)).set 9 (fun _ => c.rc + 1))) 6 1 = nI r := hrn
    have ehh : (w7 e (((svA c p d).set 5 (svW c w)).set 6 (svU c w))) 7 13 = c.hh := rfl
    rw [ern, ehh]
    by_cases h300 : r = 300
    · refine br_t' (by rw [h300]; rfl) (fin _ rfl ?_)
      unfold svB rw5 rnK
      rw [if_neg (show ¬ (true = true ∧ ¬ c.rn = 300) from fun z => z.2 (by rw [hrn, h300]; rfl)), if_neg (show ¬ (true = true ∧ ¬ c.rn = 300) from fun z => z.2 (by rw [hrn, h300]; rfl))]
      rfl
    · have hne3 : ¬ nI r = 300 := nI_ne (b := 300) (by omega) (by omega) h300
      have i0 : nI r * 5 + 0 = nI (r * 5 + 0) := ix5 r 0
      have i1 : nI r * 5 + 1 = nI (r * 5 + 1) := ix5 r 1
      have i2 : nI r * 5 + 2 = nI (r * 5 + 2) := ix5 r 2
      have i3 : nI r * 5 + 3 = nI (r * 5 + 3) := ix5 r 3
      have i4 : nI r * 5 + 4 = nI (r * 5 + 4) := ix5 r 4
      refine br_f' hne3 ?_
      rw [i0, i1, i2, i3, i4, cl_nI (show r * 5 + 0 < 2 ^ 31 by omega), cl_nI (show r * 5 + 1 < 2 ^ 31 by omega), cl_nI (show r * 5 + 2 < 2 ^ 31 by omega), cl_nI (show r * 5 + 3 < 2 ^ 31 by omega), cl_nI (show r * 5 + 4 < 2 ^ 31 by omega)]
      refine ⟨in_nI (by omega) (by decide), in_nI (by omega) (by decide), in_nI (by omega) (by decide), in_nI (by omega) (by decide), in_nI (by omega) (by decide), ?_⟩
      rw [w7_row, w7_row, w7_row, w7_row, w7_row, w7_rn]
      refine fin _ rfl ?_
      unfold svB rw5 rnK
      rw [if_pos (show (true = true ∧ ¬ c.rn = 300) from ⟨rfl, by rw [hrn]; exact hne3⟩), if_pos (show (true = true ∧ ¬ c.rn = 300) from ⟨rfl, by rw [hrn]; exact hne3⟩), hrn, show tN (nI r) = r from cl_nI (by omega)]
      rfl
theorem c_hour7 {n cc hd : Nat} {c : Ct} (he : Ev0 n cc e) (hhd : hd < 24) (hz : Wz n c) (h : P none (w7 e (hrD e n cc true hd c))) : Ev l 8 0 [some (.ref 7), some (.int (nI hd)), none, none, none, none] [] (w7 e c) P := by
  have he0 := he
  obtain ⟨hn, hcc, he14, he43, he19, he29⟩ := he
  have l4 : ∀ m k, 5 - k = m → k ≤ 5 → Ev l 8 178 [some (.ref 7), none, none, some (.int (nI k)), none, none] [] (w7 e (its tir (hrC e n cc true hd c) k)) P := by
    intro m
    induction m with
    | zero =>
      intro k hk hk5
      have : k = 5 := by omega
      subst this
      exact b_X1_passHour_r7_178 _ (br_f' (nI_nlt (a := 5) (b := 5) (Nat.le_refl _) (by omega)) h)
    | succ m ih =>
      intro k hk hk5
      refine b_X1_passHour_r7_178 _ (br_t' (nI_lt (a := k) (b := 5) (by omega) (by omega)) (c_tire7 (by omega) ?_))
      rw [nI_1]
      exact ih (k + 1) (by omega) (by omega)
  have l3 : ∀ m k, n - k = m → k ≤ n → Ev l 8 135 [some (.ref 7), none, none, some (.int (nI k)), none, none] [] (w7 e (its (rmP e) (hrB e n cc true hd c) k)) P := by
    intro m
    induction m with
    | zero =>
      intro k hk hkn
      have : k = n := by omega
      subst this
      exact b_X1_passHour_r7_135 _ (br_f' (by show ¬ nI k < e 1 4; rw [he14]; exact nI_nlt (Nat.le_refl _) (by omega)) (l4 5 0 (by omega) (by omega)))
    | succ m ih =>
      intro k hk hkn
      have ih' := ih (k + 1) (by omega) (by omega)
      have hwf := wf_rmPs (e := e) (wf_hrB (kp := true) he0 hhd hz).1 (wf_hrB (kp := true) he0 hhd hz).2 k (by omega)
      have hst : its (rmP e) (hrB e n cc true hd c) (k + 1) = rmP e (its (rmP e) (hrB e n cc true hd c) k) k := rfl
      rw [hst] at ih'
      revert hwf ih'
      generalize its (rmP e) (hrB e n cc true hd c) k = c1
      intro ih' hwf
      unfold rmP at ih'
      refine b_X1_passHour_r7_135 _ (br_t' (by show nI k < e 1 4; rw [he14]; exact nI_lt (by omega) (by omega)) ⟨in_nI (by omega) (by decide), ?_⟩)
      rw [cl_nI (by omega), nI_1]
      refine br_i (fun h0 => ?_) (fun h0 => ?_)
      · have h0' : c1.rm k = 0 := h0
        rw [if_pos h0'] at ih'
        exact ih'
      · have h0' : ¬ c1.rm k = 0 := h0
        rw [if_neg h0'] at ih'
        obtain ⟨w, hw5, hwe⟩ := hwf.2 k (by omega) h0'
        rw [w7_ic]
        rw [hwe, show tN (nI w) = w from cl_nI (by omega)] at ih'
        exact c_roam7 (c := c1.set 11 (fun _ => (w7 e c1) 7 16 + 1)) hn (by omega) hw5 hwe ih'
  have l2 : ∀ m k, n - k = m → k ≤ n → Ev l 8 51 [some (.ref 7), some (.int (nI hd)), some (.int (nI (shO hd))), some (.int (nI k)), none, none] [] (w7 e (its (sv e cc true hd (shO hd)) (hrA e hd c) k)) P := by
    intro m
    induction m with
    | zero =>
      intro k hk hkn
      have : k = n := by omega
      subst this
      exact b_X1_passHour_r7_51 _ _ _ (br_f' (by show ¬ nI k < e 1 4; rw [he14]; exact nI_nlt (Nat.le_refl _) (by omega)) (l3 k 0 (by omega) (by omega)))
    | succ m ih =>
      intro k hk hkn
      have ih' := ih (k + 1) (by omega) (by omega)
      have hwf := wf_svs (e := e) (cc := cc) (kp := true) (hd := hd) (sh := shO hd) (wf_hrA he0 hhd hz) k (by omega)
      have hst : its (sv e cc true hd (shO hd)) (hrA e hd c) (k + 1) = sv e cc true hd (shO hd) (its (sv e cc true hd (shO hd)) (hrA e hd c) k) k := rfl
      rw [hst] at ih'
      revert hwf ih'
      generalize its (sv e cc true hd (shO hd)) (hrA e hd c) k = c1
      intro ih' hwf
      have hsh := shO_lt hd
      unfold sv at ih'
      have hik : vp_in (nI k) 12 := in_nI (by omega) (by decide)
      refine b_X1_passHour_r7_51 _ _ _ (br_t' (by show nI k < e 1 4; rw [he14]; exact nI_lt (by omega) (by omega)) ?_)
      rw [ix2, cl_nI (show k < 2 ^ 31 by omega), cl_nI (show k * 2 + shO hd < 2 ^ 31 by omega), nI_1]
      refine ⟨in_nI (by omega) (by decide), hik, br_i (fun hwh => ?_) (fun hwh => br_i (fun hdv => ?_) (fun hdv => ?_))⟩
      · have hwh' : c1.wh k = -1 := hwh
        rw [if_pos (Or.inl hwh')] at ih'
        refine br0 ⟨hik, ?_⟩
        rw [nar0, w7_rm]
        exact ih'
      · have hdv' : e 19 (k * 2 + shO hd) = -1 := hdv
        rw [if_pos (Or.inr hdv')] at ih'
        refine br0 ⟨hik, ?_⟩
        rw [nar0, w7_rm]
        exact ih'
      · have hwh' : ¬ c1.wh k = -1 := hwh
        have hdv' : ¬ e 19 (k * 2 + shO hd) = -1 := hdv
        rw [if_neg (fun z => z.elim hwh' hdv')] at ih'
        obtain ⟨w, hw5, hwe⟩ := (hwf.1 k (by omega)).resolve_left hwh'
        obtain ⟨d, hd16, hde⟩ := (he19 (k * 2 + shO hd) (by omega)).resolve_left hdv'
        rw [hwe, hde, show tN (nI w) = w from cl_nI (by omega), show tN (nI d) = d from cl_nI (by omega)] at ih'
        refine br1 ?_
        have ed : (w7 e c1) 19 (k * 2 + shO hd) = nI d := hde
        rw [ed]
        refine c_serve7 (cc := cc) he0 (by omega) hd16 hw5 hwe hwf (fun hm => br0 ⟨hik, ?_⟩) (fun hm => br1 ⟨hik, ?_⟩)
        · rw [if_pos hm] at ih'
          rw [nar1, w7_rm]
          exact ih'
        · rw [if_neg hm] at ih'
          rw [nar0, w7_rm]
          exact ih'
  have l1 : ∀ m k, 5 - k = m → k ≤ 5 → Ev l 8 2 [some (.ref 7), some (.int (nI hd)), some (.int (nI k)), none, none, none] [] (w7 e (its (adA e hd) c k)) P := by
    intro m
    induction m with
    | zero =>
      intro k hk hk5
      have : k = 5 := by omega
      subst this
      have l2' := l2 n 0 (by omega) (by omega)
      refine b_X1_passHour_r7_2 _ _ (br_f' (nI_nlt (a := 5) (b := 5) (Nat.le_refl _) (by omega)) ?_)
      unfold shO at l2'
      by_cases hs : 4 ≤ hd ∧ hd ≤ 15
      · rw [if_pos hs] at l2'
        exact wt (ai := 4) (bi := 15) (by rw [nI_toInt (by omega)]; omega) (br1 l2')
      · rw [if_neg hs] at l2'
        exact wf (ai := 4) (bi := 15) (by rw [nI_toInt (by omega)]; omega) (br0 l2')
    | succ m ih =>
      intro k hk hk5
      have ih' := ih (k + 1) (by omega) (by omega)
      refine b_X1_passHour_r7_2 _ _ (br_t' (nI_lt (a := k) (b := 5) (by omega) (by omega)) ?_)
      rw [m3, cl_nI (by omega), nI_1]
      refine ⟨in_nI (by omega) (by decide), b_X0_at_0 _ _ ?_⟩
      rw [ix5, cl_nI (by omega)]
      refine ⟨in_nI (by omega) (by decide), in_nI (by omega) (by decide), ?_⟩
      rw [w7_wt]
      exact ih'
  exact b_X1_passHour_r7_0 _ (l1 5 0 (by omega) (by omega))
theorem c_hours7 {n cc h N : Nat} {c : Ct} (he : Ev0 n cc e) (hz : Wz n c) (hh : c.hh = nI h) (hb : h + N < 1000) (hP : P none (w7 e (hrN e n cc true h c N))) : Ev l 7 0 [some (.ref 7), some (.int (nI N)), none] [] (w7 e c) P := by
  have e24 : ¬ (24 : Int32) = 0 := by decide
  have hhh : ∀ k, (hrN e n cc true h c k).hh = nI (h + k) := by
    intro k
    cases k with
    | zero => exact hh
    | succ k => rfl
  have loop : ∀ m k, N - k = m → k ≤ N → Ev l 7 2 [some (.ref 7), some (.int (nI N)), some (.int (nI k))] [] (w7 e (hrN e n cc true h c k)) P := by
    intro m
    induction m with
    | zero =>
      intro k hk hkn
      have : k = N := by omega
      subst this
      exact b_X1_passHours_r7_2 _ _ (br_f' (nI_nlt (Nat.le_refl _) (by omega)) hP)
    | succ m ih =>
      intro k hk hkn
      have ih' := ih (k + 1) (by omega) (by omega)
      refine b_X1_passHours_r7_2 _ _ (br_t' (nI_lt (by omega) (by omega)) ⟨e24, ?_⟩)
      have eh : (w7 e (hrN e n cc true h c k)) 7 13 = nI (h + k) := hhh k
      have em : nI (h + k) - nI (h + k) / 24 * 24 = nI ((h + k) % 24) := md_nI (a := h + k) (b := 24) (by omega) (by omega) (by omega)
      rw [eh, em]
      refine c_hour7 (cc := cc) he (Nat.mod_lt _ (by omega)) (wz_hrN he hz k) ?_
      rw [nI_1, w7_hh]
      have eh2 : (w7 e (hrD e n cc true ((h + k) % 24) (hrN e n cc true h c k))) 7 13 = nI (h + k) := (hh_hrD e n cc true _ _).trans (hhh k)
      rw [eh2, nI_1]
      exact ih'
  exact b_X1_passHours_r7_0 _ (loop N 0 (by omega) (by omega))
end City7
def w8 (e : ax_Sg) (c : Ct) : ax_Sg := fun k => if k = 39 then c.wh else if k = 40 then c.hr else if k = 41 then c.tk else if k = 42 then c.dh else if k = 43 then c.ea else if k = 44 then c.wt else if k = 45 then c.tu else if k = 46 then c.rm else if k = 8 then (fun i => if i = 13 then c.hh else if i = 14 then c.rc else if i = 15 then c.lc else if i = 16 then c.ic else if i = 17 then c.ta else e 8 i) else  e k
theorem w8_wh (e : ax_Sg) (c : Ct) (i : Nat) (v : Int32) : ax_us (w8 e c) 39 i v = w8 e (c.set 0 (upd c.wh i v)) := by
  funext k
  by_cases h : k = 39
  · subst h; rfl
  · show (if k = 39 then upd ((w8 e c) 39) i v else w8 e c k) = _
    rw [if_neg h]
    unfold w8
    simp only [if_neg h]
    rfl
theorem w8_hr (e : ax_Sg) (c : Ct) (i : Nat) (v : Int32) : ax_us (w8 e c) 40 i v = w8 e (c.set 1 (upd c.hr i v)) := by
  funext k
  by_cases h : k = 40
  · subst h; rfl
  · show (if k = 40 then upd ((w8 e c) 40) i v else w8 e c k) = _
    rw [if_neg h]
    unfold w8
    simp only [if_neg h]
    rfl
theorem w8_tk (e : ax_Sg) (c : Ct) (i : Nat) (v : Int32) : ax_us (w8 e c) 41 i v = w8 e (c.set 2 (upd c.tk i v)) := by
  funext k
  by_cases h : k = 41
  · subst h; rfl
  · show (if k = 41 then upd ((w8 e c) 41) i v else w8 e c k) = _
    rw [if_neg h]
    unfold w8
    simp only [if_neg h]
    rfl
theorem w8_dh (e : ax_Sg) (c : Ct) (i : Nat) (v : Int32) : ax_us (w8 e c) 42 i v = w8 e (c.set 3 (upd c.dh i v)) := by
  funext k
  by_cases h : k = 42
  · subst h; rfl
  · show (if k = 42 then upd ((w8 e c) 42) i v else w8 e c k) = _
    rw [if_neg h]
    unfold w8
    simp only [if_neg h]
    rfl
theorem w8_ea (e : ax_Sg) (c : Ct) (i : Nat) (v : Int32) : ax_us (w8 e c) 43 i v = w8 e (c.set 4 (upd c.ea i v)) := by
  funext k
  by_cases h : k = 43
  · subst h; rfl
  · show (if k = 43 then upd ((w8 e c) 43) i v else w8 e c k) = _
    rw [if_neg h]
    unfold w8
    simp only [if_neg h]
    rfl
theorem w8_wt (e : ax_Sg) (c : Ct) (i : Nat) (v : Int32) : ax_us (w8 e c) 44 i v = w8 e (c.set 5 (upd c.wt i v)) := by
  funext k
  by_cases h : k = 44
  · subst h; rfl
  · show (if k = 44 then upd ((w8 e c) 44) i v else w8 e c k) = _
    rw [if_neg h]
    unfold w8
    simp only [if_neg h]
    rfl
theorem w8_tu (e : ax_Sg) (c : Ct) (i : Nat) (v : Int32) : ax_us (w8 e c) 45 i v = w8 e (c.set 6 (upd c.tu i v)) := by
  funext k
  by_cases h : k = 45
  · subst h; rfl
  · show (if k = 45 then upd ((w8 e c) 45) i v else w8 e c k) = _
    rw [if_neg h]
    unfold w8
    simp only [if_neg h]
    rfl
theorem w8_rm (e : ax_Sg) (c : Ct) (i : Nat) (v : Int32) : ax_us (w8 e c) 46 i v = w8 e (c.set 7 (upd c.rm i v)) := by
  funext k
  by_cases h : k = 46
  · subst h; rfl
  · show (if k = 46 then upd ((w8 e c) 46) i v else w8 e c k) = _
    rw [if_neg h]
    unfold w8
    simp only [if_neg h]
    rfl
theorem w8_hh (e : ax_Sg) (c : Ct) (v : Int32) : ax_us (w8 e c) 8 13 v = w8 e (c.set 8 (fun _ => v)) := by
  funext k
  by_cases h : k = 8
  · subst h
    funext i
    show upd ((w8 e c) 8) 13 v i = (w8 e (c.set 8 (fun _ => v))) 8 i
    unfold upd
    by_cases h2 : i = 13
    · subst h2; rfl
    · rw [if_neg h2]
      show (if i = 13 then c.hh else if i = 14 then c.rc else if i = 15 then c.lc else if i = 16 then c.ic else if i = 17 then c.ta else e 8 i) = (if i = 13 then (c.set 8 (fun _ => v)).hh else if i = 14 then (c.set 8 (fun _ => v)).rc else if i = 15 then (c.set 8 (fun _ => v)).lc else if i = 16 then (c.set 8 (fun _ => v)).ic else if i = 17 then (c.set 8 (fun _ => v)).ta else e 8 i)
      simp only [if_neg h2]
      rfl
  · show (if k = 8 then upd ((w8 e c) 8) 13 v else w8 e c k) = _
    rw [if_neg h]
    unfold w8
    simp only [if_neg h]
    rfl
theorem w8_rc (e : ax_Sg) (c : Ct) (v : Int32) : ax_us (w8 e c) 8 14 v = w8 e (c.set 9 (fun _ => v)) := by
  funext k
  by_cases h : k = 8
  · subst h
    funext i
    show upd ((w8 e c) 8) 14 v i = (w8 e (c.set 9 (fun _ => v))) 8 i
    unfold upd
    by_cases h2 : i = 14
    · subst h2; rfl
    · rw [if_neg h2]
      show (if i = 13 then c.hh else if i = 14 then c.rc else if i = 15 then c.lc else if i = 16 then c.ic else if i = 17 then c.ta else e 8 i) = (if i = 13 then (c.set 9 (fun _ => v)).hh else if i = 14 then (c.set 9 (fun _ => v)).rc else if i = 15 then (c.set 9 (fun _ => v)).lc else if i = 16 then (c.set 9 (fun _ => v)).ic else if i = 17 then (c.set 9 (fun _ => v)).ta else e 8 i)
      simp only [if_neg h2]
      rfl
  · show (if k = 8 then upd ((w8 e c) 8) 14 v else w8 e c k) = _
    rw [if_neg h]
    unfold w8
    simp only [if_neg h]
    rfl
theorem w8_lc (e : ax_Sg) (c : Ct) (v : Int32) : ax_us (w8 e c) 8 15 v = w8 e (c.set 10 (fun _ => v)) := by
  funext k
  by_cases h : k = 8
  · subst h
    funext i
    show upd ((w8 e c) 8) 15 v i = (w8 e (c.set 10 (fun _ => v))) 8 i
    unfold upd
    by_cases h2 : i = 15
    · subst h2; rfl
    · rw [if_neg h2]
      show (if i = 13 then c.hh else if i = 14 then c.rc else if i = 15 then c.lc else if i = 16 then c.ic else if i = 17 then c.ta else e 8 i) = (if i = 13 then (c.set 10 (fun _ => v)).hh else if i = 14 then (c.set 10 (fun _ => v)).rc else if i = 15 then (c.set 10 (fun _ => v)).lc else if i = 16 then (c.set 10 (fun _ => v)).ic else if i = 17 then (c.set 10 (fun _ => v)).ta else e 8 i)
      simp only [if_neg h2]
      rfl
  · show (if k = 8 then upd ((w8 e c) 8) 15 v else w8 e c k) = _
    rw [if_neg h]
    unfold w8
    simp only [if_neg h]
    rfl
theorem w8_ic (e : ax_Sg) (c : Ct) (v : Int32) : ax_us (w8 e c) 8 16 v = w8 e (c.set 11 (fun _ => v)) := by
  funext k
  by_cases h : k = 8
  · subst h
    funext i
    show upd ((w8 e c) 8) 16 v i = (w8 e (c.set 11 (fun _ => v))) 8 i
    unfold upd
    by_cases h2 : i = 16
    · subst h2; rfl
    · rw [if_neg h2]
      show (if i = 13 then c.hh else if i = 14 then c.rc else if i = 15 then c.lc else if i = 16 then c.ic else if i = 17 then c.ta else e 8 i) = (if i = 13 then (c.set 11 (fun _ => v)).hh else if i = 14 then (c.set 11 (fun _ => v)).rc else if i = 15 then (c.set 11 (fun _ => v)).lc else if i = 16 then (c.set 11 (fun _ => v)).ic else if i = 17 then (c.set 11 (fun _ => v)).ta else e 8 i)
      simp only [if_neg h2]
      rfl
  · show (if k = 8 then upd ((w8 e c) 8) 16 v else w8 e c k) = _
    rw [if_neg h]
    unfold w8
    simp only [if_neg h]
    rfl
theorem w8_ta (e : ax_Sg) (c : Ct) (v : Int32) : ax_us (w8 e c) 8 17 v = w8 e (c.set 12 (fun _ => v)) := by
  funext k
  by_cases h : k = 8
  · subst h
    funext i
    show upd ((w8 e c) 8) 17 v i = (w8 e (c.set 12 (fun _ => v))) 8 i
    unfold upd
    by_cases h2 : i = 17
    · subst h2; rfl
    · rw [if_neg h2]
      show (if i = 13 then c.hh else if i = 14 then c.rc else if i = 15 then c.lc else if i = 16 then c.ic else if i = 17 then c.ta else e 8 i) = (if i = 13 then (c.set 12 (fun _ => v)).hh else if i = 14 then (c.set 12 (fun _ => v)).rc else if i = 15 then (c.set 12 (fun _ => v)).lc else if i = 16 then (c.set 12 (fun _ => v)).ic else if i = 17 then (c.set 12 (fun _ => v)).ta else e 8 i)
      simp only [if_neg h2]
      rfl
  · show (if k = 8 then upd ((w8 e c) 8) 17 v else w8 e c k) = _
    rw [if_neg h]
    unfold w8
    simp only [if_neg h]
    rfl

section City8
variable {l : Launch} {σ e : ax_Sg} {P : Option Value → ax_Sg → Prop}
theorem c_wait8 {w : Nat} (hw : w < 5) (h : P (some (.int (ws (σ 44) w))) σ) : Ev l 11 0 [some (.ref 8), some (.int (nI w)), none, none] [] σ P := by
  have s : ∀ (j : Nat) (acc : Int32), j < 3 → Ev l 11 4 [some (.ref 8), some (.int (nI w)), some (.int (acc + σ 44 (w * 3 + j))), some (.int (nI (j + 1)))] [] σ P → Ev l 11 4 [some (.ref 8), some (.int (nI w)), some (.int acc), some (.int (nI j))] [] σ P := by
    intro j acc hj hh
    refine b_X1_waitingIn_r8_4 _ _ _ (br_t' (nI_lt (a := j) (b := 3) hj (by omega)) ?_)
    rw [ix3, cl_nI (by omega), nI_1]
    exact ⟨in_nI (by omega) (by decide), hh⟩
  refine b_X1_waitingIn_r8_0 _ (s 0 0 (by omega) (s 1 _ (by omega) (s 2 _ (by omega) (b_X1_waitingIn_r8_4 _ _ _ (br_f' (nI_nlt (a := 3) (b := 3) (Nat.le_refl _) (by omega)) ?_)))))
  rw [Int32.zero_add]
  exact h
theorem c_lw8 {w : Nat} (hw : w < 5) (h : P (some (.int (lw (σ 44) w))) σ) : Ev l 10 0 [some (.ref 8), some (.int (nI w)), none] [] σ P := by
  have s : ∀ j : Nat, j < 3 → (0 < σ 44 (w * 3 + j) → P (some (.int (nI j))) σ) → (¬ 0 < σ 44 (w * 3 + j) → Ev l 10 2 [some (.ref 8), some (.int (nI w)), some (.int (nI j + (-1)))] [] σ P) → Ev l 10 2 [some (.ref 8), some (.int (nI w)), some (.int (nI j))] [] σ P := by
    intro j hj h1 h2
    refine b_X1_longestWait_r8_2 _ _ (br_f' (nI_pos (by omega)) ?_)
    rw [ix3, cl_nI (by omega)]
    exact ⟨in_nI (by omega) (by decide), br_i h1 h2⟩
  unfold lw at h
  refine b_X1_longestWait_r8_0 _ (s 2 (by omega) (fun a2 => ?_) (fun a2 => s 1 (by omega) (fun a1 => ?_) (fun a1 => s 0 (by omega) (fun a0 => ?_) (fun a0 => b_X1_longestWait_r8_2 _ _ (br_t' (by decide) ?_)))))
  · rw [if_pos a2] at h; exact h
  · rw [if_neg a2, if_pos a1] at h; exact h
  · rw [if_neg a2, if_neg a1, if_pos a0] at h; exact h
  · rw [if_neg a2, if_neg a1, if_neg a0] at h; exact h
theorem c_tire8 {w : Nat} (hw : w < 5) {c : Ct} (h : P none (w8 e (tir c w))) : Ev l 13 0 [some (.ref 8), some (.int (nI w * 3)), none] [] (w8 e c) P := by
  rw [m3]
  refine b_X1_tire_r8_0 _ ?_
  have a2 : nI (w * 3) + 2 = nI (w * 3 + 2) := nI_add _ 2
  rw [a2, cl_nI (by omega)]
  refine ⟨in_nI (by omega) (by decide), b_X1_tire_r8_19 _ _ (br_t' (by decide) ?_)⟩
  have b2 : nI (w * 3 + 2) - 1 = nI (w * 3 + 1) := nI_pred _
  rw [a2, b2, cl_nI (by omega), cl_nI (by omega)]
  refine ⟨in_nI (by omega) (by decide), in_nI (by omega) (by decide), b_X1_tire_r8_19 _ _ (br_t' (by decide) ?_)⟩
  have a1 : nI (w * 3) + (2 + -1) = nI (w * 3 + 1) := nI_add _ 1
  have b1 : nI (w * 3 + 1) - 1 = nI (w * 3) := nI_pred _
  rw [a1, b1, cl_nI (by omega), cl_nI (by omega)]
  refine ⟨in_nI (by omega) (by decide), in_nI (by omega) (by decide), b_X1_tire_r8_19 _ _ (br_f' (by decide) ?_)⟩
  rw [cl_nI (by omega)]
  refine ⟨in_nI (by omega) (by decide), ?_⟩
  rw [w8_lc, w8_wt, w8_wt, w8_wt]
  have : tir c w = (((c.set 10 (fun _ => c.lc + c.wt (w * 3 + 2))).set 5 (upd c.wt (w * 3 + 2) (c.wt (w * 3 + 1)))).set 5 (upd (upd c.wt (w * 3 + 2) (c.wt (w * 3 + 1))) (w * 3 + 1) (upd c.wt (w * 3 + 2) (c.wt (w * 3 + 1)) (w * 3)))).set 5 (upd (upd (upd c.wt (w * 3 + 2) (c.wt (w * 3 + 1))) (w * 3 + 1) (upd c.wt (w * 3 + 2) (c.wt (w * 3 + 1)) (w * 3))) (w * 3) 0) := by
    rw [upd_n c.wt (i := w * 3 + 2) (j := w * 3) _ (by omega), Ct.set_set, Ct.set_set]
    rfl
  rw [this] at h
  exact h
theorem c_roam8 {n p b0 : Nat} {c : Ct} (hn : n ≤ 12) (hp : p < n) (hb0 : b0 < 5) (hwh : c.wh p = nI b0) (h : P none (w8 e (c.set 0 (upd c.wh p (nI (bs e c.wt p b0 5)))))) : Ev l 12 0 [some (.ref 8), some (.int (nI p)), none, none, none] [] (w8 e c) P := by
  have loop : ∀ m k, 5 - k = m → k ≤ 5 → Ev l 12 16 [some (.ref 8), some (.int (nI p)), some (.int (nI (bs e c.wt p b0 k))), some (.int (ws c.wt (bs e c.wt p b0 k))), some (.int (nI k))] [] (w8 e c) P := by
    intro m
    induction m with
    | zero =>
      intro k hk hk5
      have : k = 5 := by omega
      subst this
      refine b_X1_roam_r8_16 _ _ _ _ (br_f' (nI_nlt (a := 5) (b := 5) (Nat.le_refl _) (by omega)) ⟨in_nI (by omega) (by decide), ?_⟩)
      rw [cl_nI (by omega), w8_wh]
      exact h
    | succ m ih =>
      intro k hk hk5
      have ih' := ih (k + 1) (by omega) (by omega)
      have hbs : bs e c.wt p b0 (k + 1) = if mayP e p k ∧ ws c.wt (bs e c.wt p b0 k) < ws c.wt k then k else bs e c.wt p b0 k := rfl
      have hk0 : (nI k).toInt = (k : Int) := nI_toInt (by omega)
      refine b_X1_roam_r8_16 _ _ _ _ (br_t' (nI_lt (a := k) (b := 5) (by omega) (by omega)) (c_may (σ := w8 e c) hn hp (by rw [hk0]; omega) (fun hm => br1 ?_) (fun hm => br0 ?_)))
      · have hm' : mayP e p k := hm.imp id (fun z => by rw [hk0] at z; omega)
        refine c_wait8 (σ := w8 e c) (by omega) ?_
        refine br_i (fun hl => c_wait8 (σ := w8 e c) (by omega) ?_) (fun hl => ?_)
        · rw [hbs, if_pos ⟨hm', hl⟩] at ih'
          rw [nI_1]; exact ih'
        · rw [hbs, if_neg (fun z => hl z.2)] at ih'
          rw [nI_1]; exact ih'
      · have hm' : ¬ mayP e p k := fun z => hm (z.imp id (fun y => by rw [hk0]; omega))
        rw [hbs, if_neg (fun z => hm' z.1)] at ih'
        rw [nI_1]; exact ih'
  refine b_X1_roam_r8_0 _ ⟨in_nI (by omega) (by decide), ?_⟩
  rw [cl_nI (by omega)]
  show Ev l 11 0 [some (.ref 8), some (.int (c.wh p)), none, none] [] (w8 e c) (fun o1 σ2 => ax_oi o1 (fun v3 => Ev l 12 16 [some (.ref 8), some (.int (nI p)), some (.int (c.wh p)), some (.int v3), some (.int 0)] [] σ2 P))
  rw [hwh]
  exact c_wait8 (σ := w8 e c) hb0 (loop 5 0 (by omega) (by omega))
theorem c_serve8 {n cc p d w hd : Nat} {c : Ct} (he : Ev0 n cc e) (hp : p < n) (hd16 : d < 16) (hw : w < 5) (hwh : c.wh p = nI w) (hwf : Wf n c) (h0 : lw c.wt w = -1 → P (some (.int 0)) (w8 e (svA c p d))) (h1 : ¬ lw c.wt w = -1 → P (some (.int 1)) (w8 e (svB e cc false hd c p d w))) : Ev l 9 0 [some (.ref 8), some (.int (nI p)), some (.int (nI d)), some (.int (nI hd)), none, none, none, none] [] (w8 e c) P := by
  obtain ⟨hn, hcc, he14, he43, he19, he29⟩ := he
  obtain ⟨f1, f2, f3, r, hr300, hrn⟩ := hwf
  obtain ⟨t, ht5, htu⟩ := f3 w hw
  have hip : vp_in (nI p) 12 := in_nI (by omega) (by decide)
  have hid : vp_in (nI d) 16 := in_nI (by omega) (by decide)
  have hiw : vp_in (nI w) 5 := in_nI (by omega) (by decide)
  have e5 : ¬ (5 : Int32) = 0 := by decide
  refine b_X1_serve_r8_0 _ _ _ ?_
  have ew : (w8 e c) 39 (Int32.toNatClampNeg (nI p)) = nI w := by rw [cl_nI (by omega)]; exact hwh
  rw [ew, cl_nI (show d < 2 ^ 31 by omega), cl_nI (show p < 2 ^ 31 by omega), cl_nI (show w < 2 ^ 31 by omega)]
  have eA : ax_us (ax_us (w8 e c) 40 p ((w8 e c) 40 p + 1)) 42 d ((w8 e c) 42 d + 1) = w8 e (svA c p d) := by
    rw [w8_hr, w8_dh]; rfl
  rw [eA]
  refine ⟨hip, hip, hid, hid, hip, c_lw8 (σ := w8 e (svA c p d)) hw ?_⟩
  rcases lw_cases c.wt w with ⟨hm, _⟩ | ⟨j, hj, hje, hjp, _⟩
  · have elw : lw ((w8 e (svA c p d)) 44) w = -1 := hm
    rw [elw]
    exact br_t' rfl ⟨nar0, h0 hm⟩
  · have elw : lw ((w8 e (svA c p d)) 44) w = nI j := hje
    have hne : ¬ lw c.wt w = -1 := by rw [hje]; exact nI_nm1 (by omega)
    have hP := h1 hne
    rw [elw]
    refine br_f' (nI_nm1 (by omega)) ?_
    have etu : (w8 e (svA c p d)) 45 w = nI t := htu
    have eto : nI w + 1 + nI t - (nI w + 1 + nI t) / 5 * 5 = nI (toW c w) := by
      unfold toW
      rw [htu, show tN (nI t) = t from cl_nI (by omega), nI_1, nI_add]
      exact md_nI (a := w + 1 + t) (b := 5) (by omega) (by omega) (by omega)
    have et1 : nI t + 1 - (nI t + 1) / 5 * 5 = nI ((t + 1) % 5) := by
      rw [nI_1]
      exact md_nI (a := t + 1) (b := 5) (by omega) (by omega) (by omega)
    rw [etu, eto, et1, ix3, cl_nI (show w * 3 + j < 2 ^ 31 by omega)]
    have hij : vp_in (nI (w * 3 + j)) 15 := in_nI (by omega) (by decide)
    have eB : ax_us (ax_us (w8 e (svA c p d)) 44 (w * 3 + j) ((w8 e (svA c p d)) 44 (w * 3 + j) - 1)) 45 w (nI ((t + 1) % 5)) = w8 e (((svA c p d).set 5 (svW c w)).set 6 (svU c w)) := by
      rw [w8_wt, w8_tu]
      unfold svW svU
      rw [hje, htu, show tN (nI j) = j from cl_nI (by omega), show tN (nI t) = t from cl_nI (by omega)]
      rfl
    rw [eB]
    refine ⟨hij, hij, hiw, e5, hiw, e5, hiw, c_price (σ := w8 e (((svA c p d).set 5 (svW c w)).set 6 (svU c w))) (c := cc) hcc he43 _ _ _ _ ?_⟩
    have epr : prF ((w8 e (((svA c p d).set 5 (svW c w)).set 6 (svU c w))) 26) ((w8 e (((svA c p d).set 5 (svW c w)).set 6 (svU c w))) 27) ((w8 e (((svA c p d).set 5 (svW c w)).set 6 (svU c w))) 28) (nI w) (nI (toW c w)) (nI hd) (nI j) cc = prI e cc hd c w := by
      unfold prI; rw [hje]; rfl
    rw [epr]
    refine ⟨hip, hip, hid, hid, ?_⟩
    have eC : ax_us (ax_us (ax_us (ax_us (w8 e (((svA c p d).set 5 (svW c w)).set 6 (svU c w))) 41 p ((w8 e (((svA c p d).set 5 (svW c w)).set 6 (svU c w))) 41 p + prI e cc hd c w)) 43 d ((w8 e (((svA c p d).set 5 (svW c w)).set 6 (svU c w))) 43 d + prI e cc hd c w)) 8 17 ((w8 e (((svA c p d).set 5 (svW c w)).set 6 (svU c w))) 8 17 + prI e cc hd c w)) 8 14 ((w8 e (((svA c p d).set 5 (svW c w)).set 6 (svU c w))) 8 14 + 1) = w8 e (((((((svA c p d).set 5 (svW c w)).set 6 (svU c w)).set 2 (upd c.tk p (c.tk p + prI e cc hd c w))).set 4 (upd c.ea d (c.ea d + prI e cc hd c w))).set 12 (fun _ => c.ta + prI e cc hd c w)).set 9 (fun _ => c.rc + 1)) := by
      rw [w8_tk, w8_ea, w8_ta, w8_rc]; rfl
    rw [eC]
    have fin : ∀ c' : Ct, c'.wh = c.wh → w8 e (c'.set 0 (upd c.wh p (rst e p (toW c w)))) = w8 e (svB e cc false hd c p d w) → Ev l 45 0 [some (.ref 1), some (.int (nI p)), some (.int (nI (toW c w)))] [] (w8 e c') (fun o9 σ10 => ax_oi o9 (fun v11 => (vp_in (nI p) 12 ∧ (vp_nar .boolean 1 = 1 ∧ P (some (.int 1)) (ax_us σ10 39 p v11))))) := by
      intro c' hc' hfin
      have hto : toW c w < 5 := Nat.mod_lt _ (by omega)
      have hto0 : (nI (toW c w)).toInt = (toW c w : Int) := nI_toInt (by omega)
      refine b_X6_restingWard_0 _ _ (c_may (σ := w8 e c') hn hp (by rw [hto0]; omega) (fun hm => br1 ⟨hip, nar1, ?_⟩) (fun hm => br0 ⟨hip, nar1, ?_⟩))
      · have hm' : mayP e p (toW c w) := hm.imp id (fun z => by rw [hto0] at z; omega)
        have : nI (toW c w) = rst e p (toW c w) := by unfold rst; rw [if_pos hm']
        rw [w8_wh, hc', this, hfin]
        exact hP
      · have hm' : ¬ mayP e p (toW c w) := fun z => hm (z.imp id (fun y => by rw [hto0]; omega))
        have : 2 = rst e p (toW c w) := by unfold rst; rw [if_neg hm']
        rw [w8_wh, hc', this, hfin]
        exact hP
    refine fin _ rfl ?_
    unfold svB rw5 rnK
    rw [if_neg (show ¬ (false = true ∧ ¬ c.rn = 300) from fun z => absurd z.1 (by decide)), if_neg (show ¬ (false = true ∧ ¬ c.rn = 300) from fun z => absurd z.1 (by decide))]
    rfl
theorem c_hour8 {n cc hd : Nat} {c : Ct} (he : Ev0 n cc e) (hhd : hd < 24) (hz : Wz n c) (h : P none (w8 e (hrD e n cc false hd c))) : Ev l 8 0 [some (.ref 8), some (.int (nI hd)), none, none, none, none] [] (w8 e c) P := by
  have he0 := he
  obtain ⟨hn, hcc, he14, he43, he19, he29⟩ := he
  have l4 : ∀ m k, 5 - k = m → k ≤ 5 → Ev l 8 178 [some (.ref 8), none, none, some (.int (nI k)), none, none] [] (w8 e (its tir (hrC e n cc false hd c) k)) P := by
    intro m
    induction m with
    | zero =>
      intro k hk hk5
      have : k = 5 := by omega
      subst this
      exact b_X1_passHour_r8_178 _ (br_f' (nI_nlt (a := 5) (b := 5) (Nat.le_refl _) (by omega)) h)
    | succ m ih =>
      intro k hk hk5
      refine b_X1_passHour_r8_178 _ (br_t' (nI_lt (a := k) (b := 5) (by omega) (by omega)) (c_tire8 (by omega) ?_))
      rw [nI_1]
      exact ih (k + 1) (by omega) (by omega)
  have l3 : ∀ m k, n - k = m → k ≤ n → Ev l 8 135 [some (.ref 8), none, none, some (.int (nI k)), none, none] [] (w8 e (its (rmP e) (hrB e n cc false hd c) k)) P := by
    intro m
    induction m with
    | zero =>
      intro k hk hkn
      have : k = n := by omega
      subst this
      exact b_X1_passHour_r8_135 _ (br_f' (by show ¬ nI k < e 1 4; rw [he14]; exact nI_nlt (Nat.le_refl _) (by omega)) (l4 5 0 (by omega) (by omega)))
    | succ m ih =>
      intro k hk hkn
      have ih' := ih (k + 1) (by omega) (by omega)
      have hwf := wf_rmPs (e := e) (wf_hrB (kp := false) he0 hhd hz).1 (wf_hrB (kp := false) he0 hhd hz).2 k (by omega)
      have hst : its (rmP e) (hrB e n cc false hd c) (k + 1) = rmP e (its (rmP e) (hrB e n cc false hd c) k) k := rfl
      rw [hst] at ih'
      revert hwf ih'
      generalize its (rmP e) (hrB e n cc false hd c) k = c1
      intro ih' hwf
      unfold rmP at ih'
      refine b_X1_passHour_r8_135 _ (br_t' (by show nI k < e 1 4; rw [he14]; exact nI_lt (by omega) (by omega)) ⟨in_nI (by omega) (by decide), ?_⟩)
      rw [cl_nI (by omega), nI_1]
      refine br_i (fun h0 => ?_) (fun h0 => ?_)
      · have h0' : c1.rm k = 0 := h0
        rw [if_pos h0'] at ih'
        exact ih'
      · have h0' : ¬ c1.rm k = 0 := h0
        rw [if_neg h0'] at ih'
        obtain ⟨w, hw5, hwe⟩ := hwf.2 k (by omega) h0'
        rw [w8_ic]
        rw [hwe, show tN (nI w) = w from cl_nI (by omega)] at ih'
        exact c_roam8 (c := c1.set 11 (fun _ => (w8 e c1) 8 16 + 1)) hn (by omega) hw5 hwe ih'
  have l2 : ∀ m k, n - k = m → k ≤ n → Ev l 8 51 [some (.ref 8), some (.int (nI hd)), some (.int (nI (shO hd))), some (.int (nI k)), none, none] [] (w8 e (its (sv e cc false hd (shO hd)) (hrA e hd c) k)) P := by
    intro m
    induction m with
    | zero =>
      intro k hk hkn
      have : k = n := by omega
      subst this
      exact b_X1_passHour_r8_51 _ _ _ (br_f' (by show ¬ nI k < e 1 4; rw [he14]; exact nI_nlt (Nat.le_refl _) (by omega)) (l3 k 0 (by omega) (by omega)))
    | succ m ih =>
      intro k hk hkn
      have ih' := ih (k + 1) (by omega) (by omega)
      have hwf := wf_svs (e := e) (cc := cc) (kp := false) (hd := hd) (sh := shO hd) (wf_hrA he0 hhd hz) k (by omega)
      have hst : its (sv e cc false hd (shO hd)) (hrA e hd c) (k + 1) = sv e cc false hd (shO hd) (its (sv e cc false hd (shO hd)) (hrA e hd c) k) k := rfl
      rw [hst] at ih'
      revert hwf ih'
      generalize its (sv e cc false hd (shO hd)) (hrA e hd c) k = c1
      intro ih' hwf
      have hsh := shO_lt hd
      unfold sv at ih'
      have hik : vp_in (nI k) 12 := in_nI (by omega) (by decide)
      refine b_X1_passHour_r8_51 _ _ _ (br_t' (by show nI k < e 1 4; rw [he14]; exact nI_lt (by omega) (by omega)) ?_)
      rw [ix2, cl_nI (show k < 2 ^ 31 by omega), cl_nI (show k * 2 + shO hd < 2 ^ 31 by omega), nI_1]
      refine ⟨in_nI (by omega) (by decide), hik, br_i (fun hwh => ?_) (fun hwh => br_i (fun hdv => ?_) (fun hdv => ?_))⟩
      · have hwh' : c1.wh k = -1 := hwh
        rw [if_pos (Or.inl hwh')] at ih'
        refine br0 ⟨hik, ?_⟩
        rw [nar0, w8_rm]
        exact ih'
      · have hdv' : e 19 (k * 2 + shO hd) = -1 := hdv
        rw [if_pos (Or.inr hdv')] at ih'
        refine br0 ⟨hik, ?_⟩
        rw [nar0, w8_rm]
        exact ih'
      · have hwh' : ¬ c1.wh k = -1 := hwh
        have hdv' : ¬ e 19 (k * 2 + shO hd) = -1 := hdv
        rw [if_neg (fun z => z.elim hwh' hdv')] at ih'
        obtain ⟨w, hw5, hwe⟩ := (hwf.1 k (by omega)).resolve_left hwh'
        obtain ⟨d, hd16, hde⟩ := (he19 (k * 2 + shO hd) (by omega)).resolve_left hdv'
        rw [hwe, hde, show tN (nI w) = w from cl_nI (by omega), show tN (nI d) = d from cl_nI (by omega)] at ih'
        refine br1 ?_
        have ed : (w8 e c1) 19 (k * 2 + shO hd) = nI d := hde
        rw [ed]
        refine c_serve8 (cc := cc) he0 (by omega) hd16 hw5 hwe hwf (fun hm => br0 ⟨hik, ?_⟩) (fun hm => br1 ⟨hik, ?_⟩)
        · rw [if_pos hm] at ih'
          rw [nar1, w8_rm]
          exact ih'
        · rw [if_neg hm] at ih'
          rw [nar0, w8_rm]
          exact ih'
  have l1 : ∀ m k, 5 - k = m → k ≤ 5 → Ev l 8 2 [some (.ref 8), some (.int (nI hd)), some (.int (nI k)), none, none, none] [] (w8 e (its (adA e hd) c k)) P := by
    intro m
    induction m with
    | zero =>
      intro k hk hk5
      have : k = 5 := by omega
      subst this
      have l2' := l2 n 0 (by omega) (by omega)
      refine b_X1_passHour_r8_2 _ _ (br_f' (nI_nlt (a := 5) (b := 5) (Nat.le_refl _) (by omega)) ?_)
      unfold shO at l2'
      by_cases hs : 4 ≤ hd ∧ hd ≤ 15
      · rw [if_pos hs] at l2'
        exact wt (ai := 4) (bi := 15) (by rw [nI_toInt (by omega)]; omega) (br1 l2')
      · rw [if_neg hs] at l2'
        exact wf (ai := 4) (bi := 15) (by rw [nI_toInt (by omega)]; omega) (br0 l2')
    | succ m ih =>
      intro k hk hk5
      have ih' := ih (k + 1) (by omega) (by omega)
      refine b_X1_passHour_r8_2 _ _ (br_t' (nI_lt (a := k) (b := 5) (by omega) (by omega)) ?_)
      rw [m3, cl_nI (by omega), nI_1]
      refine ⟨in_nI (by omega) (by decide), b_X0_at_0 _ _ ?_⟩
      rw [ix5, cl_nI (by omega)]
      refine ⟨in_nI (by omega) (by decide), in_nI (by omega) (by decide), ?_⟩
      rw [w8_wt]
      exact ih'
  exact b_X1_passHour_r8_0 _ (l1 5 0 (by omega) (by omega))
theorem c_hours8 {n cc h N : Nat} {c : Ct} (he : Ev0 n cc e) (hz : Wz n c) (hh : c.hh = nI h) (hb : h + N < 1000) (hP : P none (w8 e (hrN e n cc false h c N))) : Ev l 7 0 [some (.ref 8), some (.int (nI N)), none] [] (w8 e c) P := by
  have e24 : ¬ (24 : Int32) = 0 := by decide
  have hhh : ∀ k, (hrN e n cc false h c k).hh = nI (h + k) := by
    intro k
    cases k with
    | zero => exact hh
    | succ k => rfl
  have loop : ∀ m k, N - k = m → k ≤ N → Ev l 7 2 [some (.ref 8), some (.int (nI N)), some (.int (nI k))] [] (w8 e (hrN e n cc false h c k)) P := by
    intro m
    induction m with
    | zero =>
      intro k hk hkn
      have : k = N := by omega
      subst this
      exact b_X1_passHours_r8_2 _ _ (br_f' (nI_nlt (Nat.le_refl _) (by omega)) hP)
    | succ m ih =>
      intro k hk hkn
      have ih' := ih (k + 1) (by omega) (by omega)
      refine b_X1_passHours_r8_2 _ _ (br_t' (nI_lt (by omega) (by omega)) ⟨e24, ?_⟩)
      have eh : (w8 e (hrN e n cc false h c k)) 8 13 = nI (h + k) := hhh k
      have em : nI (h + k) - nI (h + k) / 24 * 24 = nI ((h + k) % 24) := md_nI (a := h + k) (b := 24) (by omega) (by omega) (by omega)
      rw [eh, em]
      refine c_hour8 (cc := cc) he (Nat.mod_lt _ (by omega)) (wz_hrN he hz k) ?_
      rw [nI_1, w8_hh]
      have eh2 : (w8 e (hrD e n cc false ((h + k) % 24) (hrN e n cc false h c k))) 8 13 = nI (h + k) := (hh_hrD e n cc false _ _).trans (hhh k)
      rw [eh2, nI_1]
      exact ih'
  exact b_X1_passHours_r8_0 _ (loop N 0 (by omega) (by omega))
end City8
