/-! making the tape. Written by wip/whole/gen/gen_ctor2.py -/
theorem kt_last {D : va_G} {cl : List vw_C} {ws : va_W} {x : Nat × va_E} {H : Heap} (hP : va_P D cl (ws ++ [x]) H) : va_P D cl [x] H := by
  intro i y hy
  have hi : i = 0 := by
    have h1 := (List.getElem?_eq_some_iff.mp hy).1
    have h2 : ([x] : va_W).length = 1 := rfl
    omega
  subst hi
  exact hP ws.length y (by rw [List.getElem?_append_right (Nat.le_refl _), Nat.sub_self]; exact hy)
theorem kt_one {x : Nat × va_E} : va_D (fun _ => True) [x] := by
  refine ⟨fun i j y z hi hj _ => ?_, fun _ _ _ => trivial⟩
  have h1 := (List.getElem?_eq_some_iff.mp hi).1
  have h2 := (List.getElem?_eq_some_iff.mp hj).1
  have h3 : ([x] : va_W).length = 1 := rfl
  omega
theorem d_X9i_0 : decode cX9_init 0 = .ok (.aload_n 0, 1) := by decide +kernel
theorem d_X9i_1 : decode cX9_init 1 = .ok (.invokespecial 3, 3) := by decide +kernel
theorem d_X9i_4 : decode cX9_init 4 = .ok (.aload_n 0, 1) := by decide +kernel
theorem d_X9i_5 : decode cX9_init 5 = .ok (.bipush 120, 2) := by decide +kernel
theorem d_X9i_7 : decode cX9_init 7 = .ok (.newarray .int, 2) := by decide +kernel
theorem d_X9i_9 : decode cX9_init 9 = .ok (.putfield 11, 3) := by decide +kernel
theorem d_X9i_12 : decode cX9_init 12 = .ok (.aload_n 0, 1) := by decide +kernel
theorem d_X9i_13 : decode cX9_init 13 = .ok (.new 15, 3) := by decide +kernel
theorem d_X9i_16 : decode cX9_init 16 = .ok (.dup, 1) := by decide +kernel
theorem d_X9i_17 : decode cX9_init 17 = .ok (.invokespecial 17, 3) := by decide +kernel
theorem d_X9i_20 : decode cX9_init 20 = .ok (.putfield 18, 3) := by decide +kernel
theorem d_X9i_23 : decode cX9_init 23 = .ok (.return_, 1) := by decide +kernel
theorem uin_X9 : ∀ w ∈ u_ws RX9 TX9 4, w ∈ lw_w := fun w hw => lw_w_in (ax_us_in _ (List.mem_of_getElem? (l := vwCl) (i := 9) rfl) w hw).1 (ax_us_in _ (List.mem_of_getElem? (l := vwCl) (i := 9) rfl) w hw).2
theorem wc_X9i_15 : Cond.classLink RX9 15 RX5 ∈ lw_w := lw_w_in (by decide +kernel) rfl
theorem wf_X9i_11 : Cond.fieldLink RX9 11 RX9 "bytes" "[I" ∈ lw_w := lw_w_in (by decide +kernel) rfl
theorem wf_X9i_18 : Cond.fieldLink RX9 18 RX9 "draft" "LPlateHire$Meter;" ∈ lw_w := lw_w_in (by decide +kernel) rfl
theorem wi_X9i_5 : Cond.instantiable RX5 4 ∈ lw_w := lw_w_in (by decide +kernel) rfl
theorem wj_5 : Cond.instanceMethod yX5_init ∈ lw_w := lw_w_in (by decide +kernel) rfl
theorem wk_5 : Cond.code yX5_init cX5_init 1 none ∈ lw_w := lw_w_in (by decide +kernel) rfl
theorem wm_X9i_17 : Cond.methodLinkNest RX9 17 yX5_init "PlateHire" ∈ lw_w := lw_w_in (by decide +kernel) rfl
theorem wn_X9i_5 : Cond.initialized RX5 ∈ lw_w := lw_w_in (by decide +kernel) rfl
theorem wo_X9i : Cond.methodLink RX9 3 Lib.objectInit ∈ lw_w := lw_w_in (by decide +kernel) rfl
set_option maxHeartbeats 40000000 in
set_option maxRecDepth 100000 in
theorem c_X9i (l : Launch) (D : va_G) (cI cZ : ClassId) (h0 sz : Nat) : Met l yX9_init (Cond.code yX9_init cX9_init 1 none :: lw_w) (k_rm 2 5 142 32) (va_Pc [.ref h0] (kPre D cI cZ h0 (.inr (9, [.null, .null, .int 0, .int 0])) sz)) (va_Qv (fun u => ∃ b0 b1 b2 b3 b4 : Nat, u = [(h0, .inr (9, [.ref b0, .ref b1, .int 0, .int 0])), (b0, .inl (cI, 120, .inl (fun _ => 0))), (b1, .inr (5, [.ref b2, .ref b3, .ref b4, .int 0])), (b2, .inl (cI, 6, .inl (fun _ => 0))), (b3, .inl (cI, 6, .inl (fun _ => 0))), (b4, .inl (cI, 6, .inl (fun _ => 0)))]) (kB D (va_A [(h0, .inr (9, [.null, .null, .int 0, .int 0]))] sz)) (va_A [(h0, .inr (9, [.null, .null, .int 0, .int 0]))] sz)) 5 142 (va_A [(h0, .inr (9, [.null, .null, .int 0, .int 0]))] sz) := by
  refine k_met (by decide) (Nat.le_of_ble_eq_true rfl) ?_
  intro p e s m below meth c ls ⟨hx, hb, hml, hown, hts, hr, hlk, hin, hK, hl⟩ hP hD hS hA
  have hl : lv_has ls 1 [(0, .ref h0)] := hl
  obtain ⟨W0, eW0⟩ : ∃ W : va_W, W = [] := ⟨_, rfl⟩
  have hP : va_P D vwCl ((h0, .inr (9, [.null, .null, .int 0, .int 0])) :: W0) s.heap := by rw [eW0]; exact hP
  have hD : va_D (va_A [(h0, .inr (9, [.null, .null, .int 0, .int 0]))] sz) ((h0, .inr (9, [.null, .null, .int 0, .int 0])) :: W0) := by rw [eW0]; exact hD
  refine lv_aload_n hx hb d_X9i_0 rfl (lv_at hl 0 rfl) ?_
  refine W.objInit hx hb hown (hts _ wo_X9i) (hts _ w_obi) (hts _ w_obc) rfl (by rw [hml]; exact hl.1) rfl d_X9i_1 (Nat.le_of_ble_eq_true rfl) (Nat.le_of_ble_eq_true rfl) ?_
  refine W.eq (g2 := F0 m 4 ls []) rfl ?_
  refine lv_aload_n hx hb d_X9i_4 rfl (lv_at hl 0 rfl) ?_
  refine lv_bipush (v := 120) hx hb d_X9i_5 (by decide) ?_
  refine k_newI hx hb hts hK hP hD hS hA 120 (by decide) (by decide) (by decide) (by decide) (by decide) d_X9i_7 (fun b0 H hP hD hS => ?_)
  refine va_putF (D := D) (ci := 9) (v := .ref b0) (ty := .array .int) (C := RX9) (T := TX9) (N := 4) hx hb hts uin_X9 tyX9 tyX9_ok nmX9 hown hK hP hD hS 0 rfl rfl 0 (by decide) (hts _ wf_X9i_11) (fun _ h9 => h9) rfl hin rfl rfl rfl rfl (Nat.le_of_ble_eq_true rfl) d_X9i_9 (fun H locs hP hD hS => ?_)
  have hP : va_P D vwCl ((h0, .inr (9, [.ref b0, .null, .int 0, .int 0])) :: (W0 ++ [(b0, .inl (cI, 120, .inl (fun _ => 0)))])) H := hP
  have hD : va_D (va_A [(h0, .inr (9, [.null, .null, .int 0, .int 0]))] sz) ((h0, .inr (9, [.ref b0, .null, .int 0, .int 0])) :: (W0 ++ [(b0, .inl (cI, 120, .inl (fun _ => 0)))])) := hD
  obtain ⟨W1, eW1⟩ : ∃ W : va_W, W = (W0 ++ [(b0, .inl (cI, 120, .inl (fun _ => 0)))]) := ⟨_, rfl⟩
  rw [← eW1] at hP hD
  replace eW1 : W1 = [(b0, .inl (cI, 120, .inl (fun _ => 0)))] := by rw [eW1, eW0]; rfl
  refine lv_aload_n hx hb d_X9i_12 rfl (lv_at hl 0 rfl) ?_
  refine va_new (ci := 5) (fs := [.null, .null, .null, .int 0]) (C := RX5) (T := TX5) (N := 4) hx hb hts uin_X5 tyX5 tyX5_ok hown (hts _ wc_X9i_15) (hts _ wi_X9i_5) (hts _ wn_X9i_5) hK hP hD hS hA rfl (fun j hj => by rcases (show j = 0 ∨ j = 1 ∨ j = 2 ∨ j = 3 by omega) with rfl | rfl | rfl | rfl <;> rfl) (by decide) (by decide) d_X9i_13 (fun b1 H hP hD hS => ?_)
  refine lv_dup hx hb d_X9i_16 rfl ?_
  have hF := kt_free (ws := ((h0, .inr (9, [.ref b0, .null, .int 0, .int 0])) :: W1)) hD hS hA
  refine va_callv (va_runIN (As := []) (rest := [.ref b1, .ref h0]) (n := 0) ⟨hx, hb, hml, hown, hts⟩ (c_X5i l D cI cZ b1 H.size) ⟨⟨⟨rfl, rfl, by decide, by decide, sx_pay hts wk_5, List.mem_cons_self⟩, hts _ wk_5, hts _ wn_X9i_5, ⟨by decide, by decide⟩, fun sig h => by cases h; rfl, hts _ wm_X9i_17⟩, rfl, hts _ wj_5⟩ ⟨k_blind _, fun U hU hW => ⟨rfl, by rw [hU], by rw [hU]; exact kt_last (ws := ((h0, .inr (9, [.ref b0, .null, .int 0, .int 0])) :: W1)) hP, va_K.moved hW.alike hK, kt_one⟩⟩ rfl rfl hl.1 rfl (lv_room (Nat.le_of_ble_eq_true rfl)) d_X9i_17 ⟨by decide, by decide⟩) hS (fun x _ h => hF x h) hF (fun u t H1 locs ht hvm hpost hB hz1 hk1 hS => ?_)
  obtain ⟨b2, b3, b4, rfl⟩ := hpost
  obtain ⟨hP1, hD1⟩ := hB
  rw [ht] at hP1
  obtain ⟨hP, hD⟩ := kt_join (ws := ((h0, .inr (9, [.ref b0, .null, .int 0, .int 0])) :: W1)) hP hD hk1 hF hP1 hD1
  clear hP1 hD1 hk1 hF
  refine va_putF (D := D) (ci := 9) (v := .ref b1) (ty := .object "PlateHire$Meter") (C := RX9) (T := TX9) (N := 4) hx hb hts uin_X9 tyX9 tyX9_ok nmX9 hown hK hP hD hS 0 rfl rfl 1 (by decide) (hts _ wf_X9i_18) (fun _ h9 => h9) rfl hin rfl rfl rfl rfl (Nat.le_of_ble_eq_true rfl) d_X9i_20 (fun H locs hP hD hS => ?_)
  have hP : va_P D vwCl ((h0, .inr (9, [.ref b0, .ref b1, .int 0, .int 0])) :: (W1 ++ [(b1, .inr (5, [.ref b2, .ref b3, .ref b4, .int 0])), (b2, .inl (cI, 6, .inl (fun _ => 0))), (b3, .inl (cI, 6, .inl (fun _ => 0))), (b4, .inl (cI, 6, .inl (fun _ => 0)))])) H := hP
  have hD : va_D (va_A [(h0, .inr (9, [.null, .null, .int 0, .int 0]))] sz) ((h0, .inr (9, [.ref b0, .ref b1, .int 0, .int 0])) :: (W1 ++ [(b1, .inr (5, [.ref b2, .ref b3, .ref b4, .int 0])), (b2, .inl (cI, 6, .inl (fun _ => 0))), (b3, .inl (cI, 6, .inl (fun _ => 0))), (b4, .inl (cI, 6, .inl (fun _ => 0)))])) := hD
  obtain ⟨W2, eW2⟩ : ∃ W : va_W, W = (W1 ++ [(b1, .inr (5, [.ref b2, .ref b3, .ref b4, .int 0])), (b2, .inl (cI, 6, .inl (fun _ => 0))), (b3, .inl (cI, 6, .inl (fun _ => 0))), (b4, .inl (cI, 6, .inl (fun _ => 0)))]) := ⟨_, rfl⟩
  rw [← eW2] at hP hD
  replace eW2 : W2 = [(b0, .inl (cI, 120, .inl (fun _ => 0))), (b1, .inr (5, [.ref b2, .ref b3, .ref b4, .int 0])), (b2, .inl (cI, 6, .inl (fun _ => 0))), (b3, .inl (cI, 6, .inl (fun _ => 0))), (b4, .inl (cI, 6, .inl (fun _ => 0)))] := by rw [eW2, eW1]; rfl
  refine W.widen (k := 5) (n := 142) (by decide) (by decide) ?_
  exact W.vret hx hb hr (fun t ht hW => ⟨⟨_, rfl, ⟨b0, b1, b2, b3, b4, by rw [eW2]⟩, by rw [ht]; exact hP, hD⟩, hS.F ht⟩) hS.2.2 d_X9i_23 hlk
