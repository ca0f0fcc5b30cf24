/-! the reference's hours -/
theorem upd_upd (f : Nat → Int32) (i : Nat) (a b : Int32) : upd (upd f i a) i b = upd f i b := by
  funext j
  by_cases h : j = i
  · rw [h, upd_s, upd_s]
  · rw [upd_n _ _ h, upd_n _ _ h, upd_n _ _ h]
theorem ws_lw {n : Nat} {c : Ct} (hwf : Wf n c) {w : Nat} (hw : w < 5) : ws c.wt w = 0 ↔ lw c.wt w = -1 := by
  have r0 := hwf.2.1 (w * 3 + 0) (by omega)
  have r1 := hwf.2.1 (w * 3 + 1) (by omega)
  have r2 := hwf.2.1 (w * 3 + 2) (by omega)
  unfold rg at r0 r1 r2
  have h00 : (0 : Int32).toInt = 0 := by decide
  have e1 : (c.wt (w * 3 + 0) + c.wt (w * 3 + 1)).toInt = (c.wt (w * 3 + 0)).toInt + (c.wt (w * 3 + 1)).toInt := add_toInt (by omega) (by omega)
  have e2 : (ws c.wt w).toInt = (c.wt (w * 3 + 0)).toInt + (c.wt (w * 3 + 1)).toInt + (c.wt (w * 3 + 2)).toInt := by
    unfold ws
    rw [add_toInt (by rw [e1]; omega) (by rw [e1]; omega), e1]
  constructor
  · intro h
    rw [eq_toInt, h00, e2] at h
    rcases lw_cases c.wt w with ⟨hm, _⟩ | ⟨j, hj, _, hjp, _⟩
    · exact hm
    · rw [lt_toInt, h00] at hjp
      rcases (show j = 0 ∨ j = 1 ∨ j = 2 by omega) with rfl | rfl | rfl <;> omega
  · intro h
    rcases lw_cases c.wt w with ⟨_, hn⟩ | ⟨j, hj, hje, _, _⟩
    · have a0 := hn 0 (by omega)
      have a1 := hn 1 (by omega)
      have a2 := hn 2 (by omega)
      rw [lt_toInt, h00] at a0 a1 a2
      rw [eq_toInt, h00, e2]
      omega
    · rw [hje] at h; exact absurd h (nI_nm1 (by omega))
section MHour2
variable {l : Launch} {σ e g : ax_Sg} {P : Option Value → ax_Sg → Prop} {n cc B k : Nat} {c : Ct}
theorem Rm.s_rm' (h : Rm g n B k c σ) {i : Nat} (v : Int32) : Rm g n B k (c.set 7 (upd c.rm i v)) (ax_us σ 83 i v) := by
  obtain ⟨a0, a1, b1, b2, b3, b4, b5, b6, b7, b8, b9⟩ := h
  refine ⟨a0.us _ _ (Or.inr (Or.inl rfl)), a1, b1, b2, b3, b4, b5, b6, b7, b8, fun p hp => ?_⟩
  show upd (σ 83) i v p = upd c.rm i v p
  by_cases e : p = i
  · rw [e, upd_s, upd_s]
  · rw [upd_n _ _ e, upd_n _ _ e]; exact b9 p hp
theorem m_hour {kp : Bool} {h0 : Nat} (hg : EvM n cc e g) (he : Ev0 n cc e) (h : Rm g n B 0 c σ) (hz : Wz n c) (hh : c.hh = nI h0) (hh0 : h0 < 1000) (hB : B + 12 < 100000) (hP : ∀ σ', Rm g n (B + 12) 0 (hrE e n cc kp h0 c) σ' → P none σ') : Ev l 141 0 [some (.ref 13), some (.int (kpI kp)), none, none] [] σ P := by
  have hn : n ≤ 12 := he.1
  have hhd : h0 % 24 < 24 := Nat.mod_lt _ (by omega)
  have g7 : ∀ {B' k' : Nat} {c' : Ct} {σ' : ax_Sg}, Rm g n B' k' c' σ' → σ' 13 7 = nI n := fun R => (R.1.2 7 (by decide)).trans hg.1
  have em : nI h0 - nI h0 / 24 * 24 = nI (h0 % 24) := md_nI (a := h0) (b := 24) (by omega) (by omega) (by omega)
  have e24n : ¬ (24 : Int32) = 0 := by decide
  have l4 : ∀ m q σ', 5 - q = m → q ≤ 5 → Rm g n (B + 12) 0 (its tir (hrC e n cc kp (h0 % 24) c) q) σ' → Ev l 141 190 [some (.ref 13), none, some (.int (nI q)), none] [] σ' P := by
    intro m
    induction m with
    | zero =>
      intro q σ' hq hq5 R
      have : q = 5 := by omega
      subst this
      refine b_X11_goesBy_190 _ (br_f' (nI_nlt (a := 5) (b := 5) (Nat.le_refl _) (by omega)) (hP _ ?_))
      have hhh : σ' 13 14 = nI h0 := R.2.1.1.trans ((hh_hrD e n cc kp (h0 % 24) c).trans hh)
      rw [hhh, nI_1]
      exact R.s_hh _
    | succ m ih =>
      intro q σ' hq hq5 R
      have ih' := ih (q + 1)
      have hst : its tir (hrC e n cc kp (h0 % 24) c) (q + 1) = tir (its tir (hrC e n cc kp (h0 % 24) c) q) q := rfl
      rw [hst] at ih'
      revert R ih'
      generalize its tir (hrC e n cc kp (h0 % 24) c) q = c1
      intro R ih'
      have s := R.2.2.2.2.2.2.2.1
      refine b_X11_goesBy_190 _ (br_t' (nI_lt (a := q) (b := 5) (by omega) (by omega)) ?_)
      have j1 : 68 + 3 * nI q + 1 = nI (68 + (q * 3 + 1)) := i68 q 1
      have j2 : 68 + 3 * nI q + 2 = nI (68 + (q * 3 + 2)) := i68 q 2
      have j0 : 68 + 3 * nI q = nI (68 + q * 3) := i68' q
      have i1 : vp_in (nI (68 + (q * 3 + 1))) 88 := in_nI (by omega) (by decide)
      have i2 : vp_in (nI (68 + (q * 3 + 2))) 88 := in_nI (by omega) (by decide)
      have i0 : vp_in (nI (68 + q * 3)) 88 := in_nI (by omega) (by decide)
      rw [j1, j2, j0, cl_nI (show 68 + q * 3 < 2 ^ 31 by omega), cl_nI (show 68 + (q * 3 + 1) < 2 ^ 31 by omega), cl_nI (show 68 + (q * 3 + 2) < 2 ^ 31 by omega), nI_1, s (q * 3 + 1) (by omega), s (q * 3 + 2) (by omega), upd_n (σ' 65) (i := 68 + (q * 3 + 2)) (j := 68 + q * 3) _ (by omega), s (q * 3) (by omega), show σ' 13 12 = c1.lc from R.2.1.2.2.1]
      refine ⟨i2, i1, i2, i0, i1, i0, ih' _ (by omega) (by omega) ?_⟩
      exact (((R.s_lc (c1.lc + c1.wt (q * 3 + 2))).s_wt hn (i := q * 3 + 2) (by omega) (c1.wt (q * 3 + 1))).s_wt hn (i := q * 3 + 1) (by omega) (c1.wt (q * 3))).s_wt hn (i := q * 3) (by omega) 0
  have l3 : ∀ m q σ', n - q = m → q ≤ n → Rm g n (B + 12) n (its (rmP e) (hrB e n cc kp (h0 % 24) c) q) σ' → Ev l 141 147 [some (.ref 13), none, some (.int (nI q)), none] [] σ' P := by
    intro m
    induction m with
    | zero =>
      intro q σ' hq hqn R
      have : q = n := by omega
      subst this
      exact b_X11_goesBy_147 _ (br_f' (by rw [g7 R]; exact nI_nlt (Nat.le_refl _) (by omega)) (l4 5 0 _ (by omega) (by omega) (R.mono (Nat.le_refl _) (Nat.zero_le _))))
    | succ m ih =>
      intro q σ' hq hqn R
      have ih' := ih (q + 1)
      have hwf := (wf_rmPs (e := e) (wf_hrB (kp := kp) he hhd hz).1 (wf_hrB (kp := kp) he hhd hz).2 q (by omega)).2 q (by omega)
      have hst : its (rmP e) (hrB e n cc kp (h0 % 24) c) (q + 1) = rmP e (its (rmP e) (hrB e n cc kp (h0 % 24) c) q) q := rfl
      rw [hst] at ih'
      revert R ih' hwf
      generalize its (rmP e) (hrB e n cc kp (h0 % 24) c) q = c1
      intro R ih' hwf
      unfold rmP at ih'
      refine b_X11_goesBy_147 _ (br_t' (by rw [g7 R]; exact nI_lt (by omega) (by omega)) ⟨in_nI (by omega) (by decide), ?_⟩)
      rw [cl_nI (by omega), nI_1, R.2.2.2.2.2.2.2.2.2.2 q (by omega)]
      refine br_i (fun h0 => ?_) (fun h0 => ?_)
      · rw [if_pos h0] at ih'
        exact ih' _ (by omega) (by omega) R
      · rw [if_neg h0] at ih'
        obtain ⟨w, hw5, hwe⟩ := hwf h0
        rw [hwe, show tN (nI w) = w from cl_nI (by omega)] at ih'
        rw [show σ' 13 13 = c1.ic from R.2.1.2.2.2]
        exact m_roams (cc := cc) hg hn (R.s_ic (c1.ic + 1)) (by omega) hw5 hwe (fun σ2 R2 => ih' _ (by omega) (by omega) R2)
  have l2 : ∀ m q σ', n - q = m → q ≤ n → Rm g n (B + q) q (its (sv e cc kp (h0 % 24) (shO (h0 % 24))) (hrA e (h0 % 24) c) q) σ' → Ev l 141 45 [some (.ref 13), some (.int (kpI kp)), some (.int (nI q)), none] [] σ' P := by
    intro m
    induction m with
    | zero =>
      intro q σ' hq hqn R
      have : q = n := by omega
      subst this
      exact b_X11_goesBy_45 _ _ (br_f' (by rw [g7 R]; exact nI_nlt (Nat.le_refl _) (by omega)) (l3 q 0 _ (by omega) (by omega) (R.mono (by omega) (Nat.le_refl _))))
    | succ m ih =>
      intro q σ' hq hqn R
      have ih' := ih (q + 1)
      have hwf := wf_svs (e := e) (cc := cc) (kp := kp) (hd := h0 % 24) (sh := shO (h0 % 24)) (wf_hrA he hhd hz) q (by omega)
      have hst : its (sv e cc kp (h0 % 24) (shO (h0 % 24))) (hrA e (h0 % 24) c) (q + 1) = sv e cc kp (h0 % 24) (shO (h0 % 24)) (its (sv e cc kp (h0 % 24) (shO (h0 % 24))) (hrA e (h0 % 24) c) q) q := rfl
      have hhh : (its (sv e cc kp (h0 % 24) (shO (h0 % 24))) (hrA e (h0 % 24) c) q).hh = nI h0 := by
        rw [its_hh (hh_sv e cc kp _ _)]
        unfold hrA
        rw [its_hh (g := adA e (h0 % 24)) (fun _ _ => rfl)]
        exact hh
      rw [hst] at ih'
      revert R ih' hwf hhh
      generalize its (sv e cc kp (h0 % 24) (shO (h0 % 24))) (hrA e (h0 % 24) c) q = c1
      intro R ih' hwf hhh
      have hsh := shO_lt (h0 % 24)
      unfold sv at ih'
      have hiq : vp_in (nI q) 12 := in_nI (by omega) (by decide)
      have hiq8 : vp_in (nI q) 88 := in_nI (by omega) (by decide)
      refine b_X11_goesBy_45 _ _ (br_t' (by rw [g7 R]; exact nI_lt (by omega) (by omega)) (m_runs (cc := cc) hg hn R (by omega) hhh hh0 hwf ⟨hiq, ?_⟩))
      rw [cl_nI (show q < 2 ^ 31 by omega), nI_1, nar0, nar1]
      have skip : Rm g n (B + (q + 1)) (q + 1) (c1.set 7 (upd c1.rm q 0)) (ax_us σ' 83 q 0) := (R.s_rm 0).mono (by omega) (Nat.le_refl _)
      by_cases hwh : c1.wh q = -1
      · rw [if_pos (show c1.wh q = -1 ∨ e 19 (q * 2 + shO (h0 % 24)) = -1 from Or.inl hwh)] at ih'
        rw [if_pos hwh]
        exact br_t' (by decide) (ih' _ (by omega) (by omega) skip)
      · rw [if_neg hwh]
        by_cases hdv : e 19 (q * 2 + shO (h0 % 24)) = -1
        · rw [if_pos (show c1.wh q = -1 ∨ e 19 (q * 2 + shO (h0 % 24)) = -1 from Or.inr hdv)] at ih'
          rw [hdv]
          exact br_t' (by decide) (ih' _ (by omega) (by omega) skip)
        · rw [if_neg (show ¬ (c1.wh q = -1 ∨ e 19 (q * 2 + shO (h0 % 24)) = -1) from fun z => z.elim hwh hdv)] at ih'
          obtain ⟨w, hw5, hwe⟩ := (hwf.1 q (by omega)).resolve_left hwh
          obtain ⟨d, hd16, hde⟩ := (he.2.2.2.2.1 (q * 2 + shO (h0 % 24)) (by omega)).resolve_left hdv
          rw [hwe, hde, show tN (nI w) = w from cl_nI (by omega), show tN (nI d) = d from cl_nI (by omega)] at ih'
          rw [hde]
          have e36 : 36 + nI d = nI (36 + d) := nI_add 36 d
          have e24 : 24 + nI q = nI (24 + q) := nI_add 24 q
          have hi36 : vp_in (nI (36 + d)) 88 := in_nI (by omega) (by decide)
          have hi24 : vp_in (nI (24 + q)) 88 := in_nI (by omega) (by decide)
          refine br_f' (nI_pos (by omega)) ?_
          rw [e36, e24, cl_nI (show 36 + d < 2 ^ 31 by omega), cl_nI (show 24 + q < 2 ^ 31 by omega)]
          have r0 : σ' 65 q = c1.hr q := by have := R.2.2.1 q (by omega); rw [Nat.zero_add] at this; exact this
          have r1 : upd (σ' 65) q (c1.hr q + 1) (36 + d) = c1.dh d := by rw [upd_n _ _ (by omega)]; exact R.2.2.2.2.2.1 d hd16
          have r2 : upd (upd (σ' 65) q (c1.hr q + 1)) (36 + d) (c1.dh d + 1) (24 + q) = nI w := by rw [upd_n _ _ (by omega), upd_n _ _ (by omega)]; exact (R.2.2.2.2.1 q (by omega)).trans hwe
          rw [r0, r1, r2]
          have R1 : Rm g n (B + q) (q + 1) ((svA c1 q d).set 7 (upd c1.rm q 0)) (ax_us (ax_us (ax_us σ' 83 q 0) 65 q (c1.hr q + 1)) 65 (36 + d) (c1.dh d + 1)) := ((R.s_rm 0).s_hr hn (i := q) (by omega) (c1.hr q + 1)).s_dh hn (i := d) hd16 (c1.dh d + 1)
          revert R1
          generalize ax_us (ax_us (ax_us σ' 83 q 0) 65 q (c1.hr q + 1)) 65 (36 + d) (c1.dh d + 1) = σ2
          intro R1
          refine ⟨hiq8, hiq8, hi36, hi36, hi24, m_wait hn R1 hw5 ?_⟩
          refine br_i (fun hz0 => ⟨hiq, hiq, ?_⟩) (fun hz0 => ⟨hiq, hiq, ?_⟩)
          · have hm : lw c1.wt w = -1 := (ws_lw hwf hw5).mp hz0
            rw [if_pos hm] at ih'
            refine br_f' (by rw [upd_s]; decide) (ih' _ (by omega) (by omega) ?_)
            have R2 := (R1.s_rm' (i := q) 1).mono (B' := B + (q + 1)) (by omega) (Nat.le_refl _)
            have e7 : upd ((svA c1 q d).set 7 (upd c1.rm q 0)).rm q 1 = upd c1.rm q 1 := upd_upd _ _ _ _
            rw [e7] at R2
            exact R2
          · have hm : ¬ lw c1.wt w = -1 := fun z => hz0 ((ws_lw hwf hw5).mpr z)
            rw [if_neg hm] at ih'
            have R2 := R1.s_rm' (i := q) 0
            have e7 : upd ((svA c1 q d).set 7 (upd c1.rm q 0)).rm q 0 = upd c1.rm q 0 := upd_upd _ _ _ _
            rw [e7] at R2
            have hwf2 : Wf n (((svA c1 q d).set 7 (upd c1.rm q 0)).set 7 (upd c1.rm q 0)) := hwf
            exact br_t' (by rw [upd_s]) (m_takes (cc := cc) (c := ((svA c1 q d).set 7 (upd c1.rm q 0)).set 7 (upd c1.rm q 0)) (kp := kp) hg hn R2 (by omega) hd16 hw5 hwe hwf2 hm (by omega) hhh hh0 (fun σ3 R3 => ih' σ3 (by omega) (by omega) R3))
  have l1 : ∀ m q σ', 5 - q = m → q ≤ 5 → Rm g n B 0 (its (adA e (h0 % 24)) c q) σ' → Ev l 141 2 [some (.ref 13), some (.int (kpI kp)), some (.int (nI q)), none] [] σ' P := by
    intro m
    induction m with
    | zero =>
      intro q σ' hq hq5 R
      have : q = 5 := by omega
      subst this
      exact b_X11_goesBy_2 _ _ (br_f' (nI_nlt (a := 5) (b := 5) (Nat.le_refl _) (by omega)) (l2 n 0 _ (by omega) (by omega) R))
    | succ m ih =>
      intro q σ' hq hq5 R
      have ih' := ih (q + 1)
      have hst : its (adA e (h0 % 24)) c (q + 1) = adA e (h0 % 24) (its (adA e (h0 % 24)) c q) q := rfl
      have hhh : (its (adA e (h0 % 24)) c q).hh = nI h0 := by
        rw [its_hh (g := adA e (h0 % 24)) (fun _ _ => rfl)]
        exact hh
      rw [hst] at ih'
      revert R ih' hhh
      generalize its (adA e (h0 % 24)) c q = c1
      intro R ih' hhh
      refine b_X11_goesBy_2 _ _ (br_t' (nI_lt (a := q) (b := 5) (by omega) (by omega)) ?_)
      have h72 : σ' 72 ((h0 % 24) * 5 + q) = e 29 ((h0 % 24) * 5 + q) := by rw [R.1.1 72 (by decide) (by decide) (by decide) (by decide)]; exact hg.2.2.2.1 _ (by omega)
      rw [show σ' 13 14 = nI h0 from R.2.1.1.trans hhh, em, ix5', i68', nI_1, cl_nI (show 68 + q * 3 < 2 ^ 31 by omega), cl_nI (show (h0 % 24) * 5 + q < 2 ^ 31 by omega), R.2.2.2.2.2.2.2.1 (q * 3) (by omega), h72]
      exact ⟨in_nI (by omega) (by decide), e24n, in_nI (by omega) (by decide), in_nI (by omega) (by decide), ih' _ (by omega) (by omega) (R.s_wt hn (i := q * 3) (by omega) _)⟩
  exact b_X11_goesBy_0 _ (l1 5 0 _ (by omega) (by omega) h)
end MHour2
