/-! making the objects: the small ones. Written by wip/whole/gen/gen_ctor.py -/
theorem d_X0i_0 : decode cX0_init 0 = .ok (.aload_n 0, 1) := by decide +kernel
theorem d_X0i_1 : decode cX0_init 1 = .ok (.invokespecial 3, 3) := by decide +kernel
theorem d_X0i_4 : decode cX0_init 4 = .ok (.aload_n 0, 1) := by decide +kernel
theorem d_X0i_5 : decode cX0_init 5 = .ok (.bipush 120, 2) := by decide +kernel
theorem d_X0i_7 : decode cX0_init 7 = .ok (.newarray .int, 2) := by decide +kernel
theorem d_X0i_9 : decode cX0_init 9 = .ok (.putfield 9, 3) := by decide +kernel
theorem d_X0i_12 : decode cX0_init 12 = .ok (.return_, 1) := by decide +kernel
theorem uin_X0 : ∀ w ∈ u_ws RX0 TX0 1, w ∈ lw_w := fun w hw => lw_w_in (ax_us_in _ (List.mem_of_getElem? (l := vwCl) (i := 0) rfl) w hw).1 (ax_us_in _ (List.mem_of_getElem? (l := vwCl) (i := 0) rfl) w hw).2
theorem wf_X0i_9 : Cond.fieldLink RX0 9 RX0 "row" "[I" ∈ lw_w := lw_w_in (by decide +kernel) rfl
theorem wo_X0i : Cond.methodLink RX0 3 Lib.objectInit ∈ lw_w := lw_w_in (by decide +kernel) rfl
set_option maxHeartbeats 4000000 in
set_option maxRecDepth 100000 in
theorem c_X0i (l : Launch) (D : va_G) (cI cZ : ClassId) (h0 sz : Nat) : Met l yX0_init (Cond.code yX0_init cX0_init 1 none :: lw_w) (k_rm 1 1 120 12) (va_Pc [.ref h0] (kPre D cI cZ h0 (.inr (0, [.null])) sz)) (va_Qv (fun u => ∃ a0 : Nat, u = [(h0, .inr (0, [.ref a0])), (a0, .inl (cI, 120, .inl (fun _ => 0)))]) (kB D (va_A [(h0, .inr (0, [.null]))] sz)) (va_A [(h0, .inr (0, [.null]))] sz)) 1 120 (va_A [(h0, .inr (0, [.null]))] sz) := by
  refine k_met (by decide) (Nat.le_of_ble_eq_true rfl) ?_
  intro p e s m below meth c ls ⟨hx, hb, hml, hown, hts, hr, hlk, hin, hK, hl⟩ hP hD hS hA
  have hl : lv_has ls 1 [(0, .ref h0)] := hl
  obtain ⟨W0, eW0⟩ : ∃ W : va_W, W = [] := ⟨_, rfl⟩
  have hP : va_P D vwCl ((h0, .inr (0, [.null])) :: W0) s.heap := by rw [eW0]; exact hP
  have hD : va_D (va_A [(h0, .inr (0, [.null]))] sz) ((h0, .inr (0, [.null])) :: W0) := by rw [eW0]; exact hD
  refine lv_aload_n hx hb d_X0i_0 rfl (lv_at hl 0 rfl) ?_
  refine W.objInit hx hb hown (hts _ wo_X0i) (hts _ w_obi) (hts _ w_obc) rfl (by rw [hml]; exact hl.1) rfl d_X0i_1 (Nat.le_of_ble_eq_true rfl) (Nat.le_of_ble_eq_true rfl) ?_
  refine W.eq (g2 := F0 m 4 ls []) rfl ?_
  refine lv_aload_n hx hb d_X0i_4 rfl (lv_at hl 0 rfl) ?_
  refine lv_bipush (v := 120) hx hb d_X0i_5 (by decide) ?_
  refine k_newI hx hb hts hK hP hD hS hA 120 (by decide) (by decide) (by decide) (by decide) (by decide) d_X0i_7 (fun a0 H hP hD hS => ?_)
  refine va_putF (D := D) (ci := 0) (v := .ref a0) (ty := .array .int) (C := RX0) (T := TX0) (N := 1) hx hb hts uin_X0 tyX0 tyX0_ok nmX0 hown hK hP hD hS 0 rfl rfl 0 (by decide) (hts _ wf_X0i_9) (fun _ h9 => h9) rfl hin rfl rfl rfl rfl (Nat.le_of_ble_eq_true rfl) d_X0i_9 (fun H locs hP hD hS => ?_)
  have hP : va_P D vwCl ((h0, .inr (0, [.ref a0])) :: (W0 ++ [(a0, .inl (cI, 120, .inl (fun _ => 0)))])) H := hP
  have hD : va_D (va_A [(h0, .inr (0, [.null]))] sz) ((h0, .inr (0, [.ref a0])) :: (W0 ++ [(a0, .inl (cI, 120, .inl (fun _ => 0)))])) := hD
  obtain ⟨W1, eW1⟩ : ∃ W : va_W, W = (W0 ++ [(a0, .inl (cI, 120, .inl (fun _ => 0)))]) := ⟨_, rfl⟩
  rw [← eW1] at hP hD
  refine W.widen (k := 1) (n := 120) (by decide) (by decide) ?_
  exact W.vret hx hb hr (fun t ht hW => ⟨⟨_, rfl, ⟨a0, by rw [eW1, eW0]; rfl⟩, by rw [ht]; exact hP, hD⟩, hS.F ht⟩) hS.2.2 d_X0i_12 hlk
theorem d_X3i_0 : decode cX3_init 0 = .ok (.aload_n 0, 1) := by decide +kernel
theorem d_X3i_1 : decode cX3_init 1 = .ok (.invokespecial 3, 3) := by decide +kernel
theorem d_X3i_4 : decode cX3_init 4 = .ok (.aload_n 0, 1) := by decide +kernel
theorem d_X3i_5 : decode cX3_init 5 = .ok (.bipush 12, 2) := by decide +kernel
theorem d_X3i_7 : decode cX3_init 7 = .ok (.newarray .int, 2) := by decide +kernel
theorem d_X3i_9 : decode cX3_init 9 = .ok (.putfield 9, 3) := by decide +kernel
theorem d_X3i_12 : decode cX3_init 12 = .ok (.return_, 1) := by decide +kernel
theorem uin_X3 : ∀ w ∈ u_ws RX3 TX3 2, w ∈ lw_w := fun w hw => lw_w_in (ax_us_in _ (List.mem_of_getElem? (l := vwCl) (i := 3) rfl) w hw).1 (ax_us_in _ (List.mem_of_getElem? (l := vwCl) (i := 3) rfl) w hw).2
theorem wf_X3i_9 : Cond.fieldLink RX3 9 RX3 "row" "[I" ∈ lw_w := lw_w_in (by decide +kernel) rfl
theorem wo_X3i : Cond.methodLink RX3 3 Lib.objectInit ∈ lw_w := lw_w_in (by decide +kernel) rfl
set_option maxHeartbeats 4000000 in
set_option maxRecDepth 100000 in
theorem c_X3i (l : Launch) (D : va_G) (cI cZ : ClassId) (h0 sz : Nat) : Met l yX3_init (Cond.code yX3_init cX3_init 1 none :: lw_w) (k_rm 1 1 12 12) (va_Pc [.ref h0] (kPre D cI cZ h0 (.inr (3, [.null, .int 0])) sz)) (va_Qv (fun u => ∃ a0 : Nat, u = [(h0, .inr (3, [.ref a0, .int 0])), (a0, .inl (cI, 12, .inl (fun _ => 0)))]) (kB D (va_A [(h0, .inr (3, [.null, .int 0]))] sz)) (va_A [(h0, .inr (3, [.null, .int 0]))] sz)) 1 12 (va_A [(h0, .inr (3, [.null, .int 0]))] sz) := by
  refine k_met (by decide) (Nat.le_of_ble_eq_true rfl) ?_
  intro p e s m below meth c ls ⟨hx, hb, hml, hown, hts, hr, hlk, hin, hK, hl⟩ hP hD hS hA
  have hl : lv_has ls 1 [(0, .ref h0)] := hl
  obtain ⟨W0, eW0⟩ : ∃ W : va_W, W = [] := ⟨_, rfl⟩
  have hP : va_P D vwCl ((h0, .inr (3, [.null, .int 0])) :: W0) s.heap := by rw [eW0]; exact hP
  have hD : va_D (va_A [(h0, .inr (3, [.null, .int 0]))] sz) ((h0, .inr (3, [.null, .int 0])) :: W0) := by rw [eW0]; exact hD
  refine lv_aload_n hx hb d_X3i_0 rfl (lv_at hl 0 rfl) ?_
  refine W.objInit hx hb hown (hts _ wo_X3i) (hts _ w_obi) (hts _ w_obc) rfl (by rw [hml]; exact hl.1) rfl d_X3i_1 (Nat.le_of_ble_eq_true rfl) (Nat.le_of_ble_eq_true rfl) ?_
  refine W.eq (g2 := F0 m 4 ls []) rfl ?_
  refine lv_aload_n hx hb d_X3i_4 rfl (lv_at hl 0 rfl) ?_
  refine lv_bipush (v := 12) hx hb d_X3i_5 (by decide) ?_
  refine k_newI hx hb hts hK hP hD hS hA 12 (by decide) (by decide) (by decide) (by decide) (by decide) d_X3i_7 (fun a0 H hP hD hS => ?_)
  refine va_putF (D := D) (ci := 3) (v := .ref a0) (ty := .array .int) (C := RX3) (T := TX3) (N := 2) hx hb hts uin_X3 tyX3 tyX3_ok nmX3 hown hK hP hD hS 0 rfl rfl 0 (by decide) (hts _ wf_X3i_9) (fun _ h9 => h9) rfl hin rfl rfl rfl rfl (Nat.le_of_ble_eq_true rfl) d_X3i_9 (fun H locs hP hD hS => ?_)
  have hP : va_P D vwCl ((h0, .inr (3, [.ref a0, .int 0])) :: (W0 ++ [(a0, .inl (cI, 12, .inl (fun _ => 0)))])) H := hP
  have hD : va_D (va_A [(h0, .inr (3, [.null, .int 0]))] sz) ((h0, .inr (3, [.ref a0, .int 0])) :: (W0 ++ [(a0, .inl (cI, 12, .inl (fun _ => 0)))])) := hD
  obtain ⟨W1, eW1⟩ : ∃ W : va_W, W = (W0 ++ [(a0, .inl (cI, 12, .inl (fun _ => 0)))]) := ⟨_, rfl⟩
  rw [← eW1] at hP hD
  refine W.widen (k := 1) (n := 12) (by decide) (by decide) ?_
  exact W.vret hx hb hr (fun t ht hW => ⟨⟨_, rfl, ⟨a0, by rw [eW1, eW0]; rfl⟩, by rw [ht]; exact hP, hD⟩, hS.F ht⟩) hS.2.2 d_X3i_12 hlk
theorem d_X4i_0 : decode cX4_init 0 = .ok (.aload_n 0, 1) := by decide +kernel
theorem d_X4i_1 : decode cX4_init 1 = .ok (.invokespecial 1, 3) := by decide +kernel
theorem d_X4i_4 : decode cX4_init 4 = .ok (.aload_n 0, 1) := by decide +kernel
theorem d_X4i_5 : decode cX4_init 5 = .ok (.bipush 30, 2) := by decide +kernel
theorem d_X4i_7 : decode cX4_init 7 = .ok (.newarray .int, 2) := by decide +kernel
theorem d_X4i_9 : decode cX4_init 9 = .ok (.putfield 9, 3) := by decide +kernel
theorem d_X4i_12 : decode cX4_init 12 = .ok (.aload_n 0, 1) := by decide +kernel
theorem d_X4i_13 : decode cX4_init 13 = .ok (.bipush 30, 2) := by decide +kernel
theorem d_X4i_15 : decode cX4_init 15 = .ok (.newarray .int, 2) := by decide +kernel
theorem d_X4i_17 : decode cX4_init 17 = .ok (.putfield 13, 3) := by decide +kernel
theorem d_X4i_20 : decode cX4_init 20 = .ok (.aload_n 0, 1) := by decide +kernel
theorem d_X4i_21 : decode cX4_init 21 = .ok (.bipush 30, 2) := by decide +kernel
theorem d_X4i_23 : decode cX4_init 23 = .ok (.newarray .int, 2) := by decide +kernel
theorem d_X4i_25 : decode cX4_init 25 = .ok (.putfield 16, 3) := by decide +kernel
theorem d_X4i_28 : decode cX4_init 28 = .ok (.aload_n 0, 1) := by decide +kernel
theorem d_X4i_29 : decode cX4_init 29 = .ok (.bipush 30, 2) := by decide +kernel
theorem d_X4i_31 : decode cX4_init 31 = .ok (.newarray .int, 2) := by decide +kernel
theorem d_X4i_33 : decode cX4_init 33 = .ok (.putfield 19, 3) := by decide +kernel
theorem d_X4i_36 : decode cX4_init 36 = .ok (.return_, 1) := by decide +kernel
theorem uin_X4 : ∀ w ∈ u_ws RX4 TX4 5, w ∈ lw_w := fun w hw => lw_w_in (ax_us_in _ (List.mem_of_getElem? (l := vwCl) (i := 4) rfl) w hw).1 (ax_us_in _ (List.mem_of_getElem? (l := vwCl) (i := 4) rfl) w hw).2
theorem wf_X4i_13 : Cond.fieldLink RX4 13 RX4 "ranks" "[I" ∈ lw_w := lw_w_in (by decide +kernel) rfl
theorem wf_X4i_16 : Cond.fieldLink RX4 16 RX4 "sums" "[I" ∈ lw_w := lw_w_in (by decide +kernel) rfl
theorem wf_X4i_19 : Cond.fieldLink RX4 19 RX4 "parts" "[I" ∈ lw_w := lw_w_in (by decide +kernel) rfl
theorem wf_X4i_9 : Cond.fieldLink RX4 9 RX4 "plateOf" "[I" ∈ lw_w := lw_w_in (by decide +kernel) rfl
theorem wo_X4i : Cond.methodLink RX4 1 Lib.objectInit ∈ lw_w := lw_w_in (by decide +kernel) rfl
set_option maxHeartbeats 4000000 in
set_option maxRecDepth 100000 in
theorem c_X4i (l : Launch) (D : va_G) (cI cZ : ClassId) (h0 sz : Nat) : Met l yX4_init (Cond.code yX4_init cX4_init 1 none :: lw_w) (k_rm 1 4 120 12) (va_Pc [.ref h0] (kPre D cI cZ h0 (.inr (4, [.null, .null, .null, .null, .int 0])) sz)) (va_Qv (fun u => ∃ a0 a1 a2 a3 : Nat, u = [(h0, .inr (4, [.ref a0, .ref a1, .ref a2, .ref a3, .int 0])), (a0, .inl (cI, 30, .inl (fun _ => 0))), (a1, .inl (cI, 30, .inl (fun _ => 0))), (a2, .inl (cI, 30, .inl (fun _ => 0))), (a3, .inl (cI, 30, .inl (fun _ => 0)))]) (kB D (va_A [(h0, .inr (4, [.null, .null, .null, .null, .int 0]))] sz)) (va_A [(h0, .inr (4, [.null, .null, .null, .null, .int 0]))] sz)) 4 120 (va_A [(h0, .inr (4, [.null, .null, .null, .null, .int 0]))] sz) := by
  refine k_met (by decide) (Nat.le_of_ble_eq_true rfl) ?_
  intro p e s m below meth c ls ⟨hx, hb, hml, hown, hts, hr, hlk, hin, hK, hl⟩ hP hD hS hA
  have hl : lv_has ls 1 [(0, .ref h0)] := hl
  obtain ⟨W0, eW0⟩ : ∃ W : va_W, W = [] := ⟨_, rfl⟩
  have hP : va_P D vwCl ((h0, .inr (4, [.null, .null, .null, .null, .int 0])) :: W0) s.heap := by rw [eW0]; exact hP
  have hD : va_D (va_A [(h0, .inr (4, [.null, .null, .null, .null, .int 0]))] sz) ((h0, .inr (4, [.null, .null, .null, .null, .int 0])) :: W0) := by rw [eW0]; exact hD
  refine lv_aload_n hx hb d_X4i_0 rfl (lv_at hl 0 rfl) ?_
  refine W.objInit hx hb hown (hts _ wo_X4i) (hts _ w_obi) (hts _ w_obc) rfl (by rw [hml]; exact hl.1) rfl d_X4i_1 (Nat.le_of_ble_eq_true rfl) (Nat.le_of_ble_eq_true rfl) ?_
  refine W.eq (g2 := F0 m 4 ls []) rfl ?_
  refine lv_aload_n hx hb d_X4i_4 rfl (lv_at hl 0 rfl) ?_
  refine lv_bipush (v := 30) hx hb d_X4i_5 (by decide) ?_
  refine k_newI hx hb hts hK hP hD hS hA 30 (by decide) (by decide) (by decide) (by decide) (by decide) d_X4i_7 (fun a0 H hP hD hS => ?_)
  refine va_putF (D := D) (ci := 4) (v := .ref a0) (ty := .array .int) (C := RX4) (T := TX4) (N := 5) hx hb hts uin_X4 tyX4 tyX4_ok nmX4 hown hK hP hD hS 0 rfl rfl 0 (by decide) (hts _ wf_X4i_9) (fun _ h9 => h9) rfl hin rfl rfl rfl rfl (Nat.le_of_ble_eq_true rfl) d_X4i_9 (fun H locs hP hD hS => ?_)
  have hP : va_P D vwCl ((h0, .inr (4, [.ref a0, .null, .null, .null, .int 0])) :: (W0 ++ [(a0, .inl (cI, 30, .inl (fun _ => 0)))])) H := hP
  have hD : va_D (va_A [(h0, .inr (4, [.null, .null, .null, .null, .int 0]))] sz) ((h0, .inr (4, [.ref a0, .null, .null, .null, .int 0])) :: (W0 ++ [(a0, .inl (cI, 30, .inl (fun _ => 0)))])) := hD
  obtain ⟨W1, eW1⟩ : ∃ W : va_W, W = (W0 ++ [(a0, .inl (cI, 30, .inl (fun _ => 0)))]) := ⟨_, rfl⟩
  rw [← eW1] at hP hD
  refine lv_aload_n hx hb d_X4i_12 rfl (lv_at hl 0 rfl) ?_
  refine lv_bipush (v := 30) hx hb d_X4i_13 (by decide) ?_
  refine k_newI hx hb hts hK hP hD hS hA 30 (by decide) (by decide) (by decide) (by decide) (by decide) d_X4i_15 (fun a1 H hP hD hS => ?_)
  refine va_putF (D := D) (ci := 4) (v := .ref a1) (ty := .array .int) (C := RX4) (T := TX4) (N := 5) hx hb hts uin_X4 tyX4 tyX4_ok nmX4 hown hK hP hD hS 0 rfl rfl 1 (by decide) (hts _ wf_X4i_13) (fun _ h9 => h9) rfl hin rfl rfl rfl rfl (Nat.le_of_ble_eq_true rfl) d_X4i_17 (fun H locs hP hD hS => ?_)
  have hP : va_P D vwCl ((h0, .inr (4, [.ref a0, .ref a1, .null, .null, .int 0])) :: (W1 ++ [(a1, .inl (cI, 30, .inl (fun _ => 0)))])) H := hP
  have hD : va_D (va_A [(h0, .inr (4, [.null, .null, .null, .null, .int 0]))] sz) ((h0, .inr (4, [.ref a0, .ref a1, .null, .null, .int 0])) :: (W1 ++ [(a1, .inl (cI, 30, .inl (fun _ => 0)))])) := hD
  obtain ⟨W2, eW2⟩ : ∃ W : va_W, W = (W1 ++ [(a1, .inl (cI, 30, .inl (fun _ => 0)))]) := ⟨_, rfl⟩
  rw [← eW2] at hP hD
  refine lv_aload_n hx hb d_X4i_20 rfl (lv_at hl 0 rfl) ?_
  refine lv_bipush (v := 30) hx hb d_X4i_21 (by decide) ?_
  refine k_newI hx hb hts hK hP hD hS hA 30 (by decide) (by decide) (by decide) (by decide) (by decide) d_X4i_23 (fun a2 H hP hD hS => ?_)
  refine va_putF (D := D) (ci := 4) (v := .ref a2) (ty := .array .int) (C := RX4) (T := TX4) (N := 5) hx hb hts uin_X4 tyX4 tyX4_ok nmX4 hown hK hP hD hS 0 rfl rfl 2 (by decide) (hts _ wf_X4i_16) (fun _ h9 => h9) rfl hin rfl rfl rfl rfl (Nat.le_of_ble_eq_true rfl) d_X4i_25 (fun H locs hP hD hS => ?_)
  have hP : va_P D vwCl ((h0, .inr (4, [.ref a0, .ref a1, .ref a2, .null, .int 0])) :: (W2 ++ [(a2, .inl (cI, 30, .inl (fun _ => 0)))])) H := hP
  have hD : va_D (va_A [(h0, .inr (4, [.null, .null, .null, .null, .int 0]))] sz) ((h0, .inr (4, [.ref a0, .ref a1, .ref a2, .null, .int 0])) :: (W2 ++ [(a2, .inl (cI, 30, .inl (fun _ => 0)))])) := hD
  obtain ⟨W3, eW3⟩ : ∃ W : va_W, W = (W2 ++ [(a2, .inl (cI, 30, .inl (fun _ => 0)))]) := ⟨_, rfl⟩
  rw [← eW3] at hP hD
  refine lv_aload_n hx hb d_X4i_28 rfl (lv_at hl 0 rfl) ?_
  refine lv_bipush (v := 30) hx hb d_X4i_29 (by decide) ?_
  refine k_newI hx hb hts hK hP hD hS hA 30 (by decide) (by decide) (by decide) (by decide) (by decide) d_X4i_31 (fun a3 H hP hD hS => ?_)
  refine va_putF (D := D) (ci := 4) (v := .ref a3) (ty := .array .int) (C := RX4) (T := TX4) (N := 5) hx hb hts uin_X4 tyX4 tyX4_ok nmX4 hown hK hP hD hS 0 rfl rfl 3 (by decide) (hts _ wf_X4i_19) (fun _ h9 => h9) rfl hin rfl rfl rfl rfl (Nat.le_of_ble_eq_true rfl) d_X4i_33 (fun H locs hP hD hS => ?_)
  have hP : va_P D vwCl ((h0, .inr (4, [.ref a0, .ref a1, .ref a2, .ref a3, .int 0])) :: (W3 ++ [(a3, .inl (cI, 30, .inl (fun _ => 0)))])) H := hP
  have hD : va_D (va_A [(h0, .inr (4, [.null, .null, .null, .null, .int 0]))] sz) ((h0, .inr (4, [.ref a0, .ref a1, .ref a2, .ref a3, .int 0])) :: (W3 ++ [(a3, .inl (cI, 30, .inl (fun _ => 0)))])) := hD
  obtain ⟨W4, eW4⟩ : ∃ W : va_W, W = (W3 ++ [(a3, .inl (cI, 30, .inl (fun _ => 0)))]) := ⟨_, rfl⟩
  rw [← eW4] at hP hD
  refine W.widen (k := 4) (n := 120) (by decide) (by decide) ?_
  exact W.vret hx hb hr (fun t ht hW => ⟨⟨_, rfl, ⟨a0, a1, a2, a3, by rw [eW4, eW3, eW2, eW1, eW0]; rfl⟩, by rw [ht]; exact hP, hD⟩, hS.F ht⟩) hS.2.2 d_X4i_36 hlk
theorem d_X5i_0 : decode cX5_init 0 = .ok (.aload_n 0, 1) := by decide +kernel
theorem d_X5i_1 : decode cX5_init 1 = .ok (.invokespecial 1, 3) := by decide +kernel
theorem d_X5i_4 : decode cX5_init 4 = .ok (.aload_n 0, 1) := by decide +kernel
theorem d_X5i_5 : decode cX5_init 5 = .ok (.bipush 6, 2) := by decide +kernel
theorem d_X5i_7 : decode cX5_init 7 = .ok (.newarray .int, 2) := by decide +kernel
theorem d_X5i_9 : decode cX5_init 9 = .ok (.putfield 9, 3) := by decide +kernel
theorem d_X5i_12 : decode cX5_init 12 = .ok (.aload_n 0, 1) := by decide +kernel
theorem d_X5i_13 : decode cX5_init 13 = .ok (.bipush 6, 2) := by decide +kernel
theorem d_X5i_15 : decode cX5_init 15 = .ok (.newarray .int, 2) := by decide +kernel
theorem d_X5i_17 : decode cX5_init 17 = .ok (.putfield 13, 3) := by decide +kernel
theorem d_X5i_20 : decode cX5_init 20 = .ok (.aload_n 0, 1) := by decide +kernel
theorem d_X5i_21 : decode cX5_init 21 = .ok (.bipush 6, 2) := by decide +kernel
theorem d_X5i_23 : decode cX5_init 23 = .ok (.newarray .int, 2) := by decide +kernel
theorem d_X5i_25 : decode cX5_init 25 = .ok (.putfield 16, 3) := by decide +kernel
theorem d_X5i_28 : decode cX5_init 28 = .ok (.return_, 1) := by decide +kernel
theorem uin_X5 : ∀ w ∈ u_ws RX5 TX5 4, w ∈ lw_w := fun w hw => lw_w_in (ax_us_in _ (List.mem_of_getElem? (l := vwCl) (i := 5) rfl) w hw).1 (ax_us_in _ (List.mem_of_getElem? (l := vwCl) (i := 5) rfl) w hw).2
theorem wf_X5i_13 : Cond.fieldLink RX5 13 RX5 "wards" "[I" ∈ lw_w := lw_w_in (by decide +kernel) rfl
theorem wf_X5i_16 : Cond.fieldLink RX5 16 RX5 "amounts" "[I" ∈ lw_w := lw_w_in (by decide +kernel) rfl
theorem wf_X5i_9 : Cond.fieldLink RX5 9 RX5 "kinds" "[I" ∈ lw_w := lw_w_in (by decide +kernel) rfl
theorem wo_X5i : Cond.methodLink RX5 1 Lib.objectInit ∈ lw_w := lw_w_in (by decide +kernel) rfl
set_option maxHeartbeats 4000000 in
set_option maxRecDepth 100000 in
theorem c_X5i (l : Launch) (D : va_G) (cI cZ : ClassId) (h0 sz : Nat) : Met l yX5_init (Cond.code yX5_init cX5_init 1 none :: lw_w) (k_rm 1 3 18 12) (va_Pc [.ref h0] (kPre D cI cZ h0 (.inr (5, [.null, .null, .null, .int 0])) sz)) (va_Qv (fun u => ∃ a0 a1 a2 : Nat, u = [(h0, .inr (5, [.ref a0, .ref a1, .ref a2, .int 0])), (a0, .inl (cI, 6, .inl (fun _ => 0))), (a1, .inl (cI, 6, .inl (fun _ => 0))), (a2, .inl (cI, 6, .inl (fun _ => 0)))]) (kB D (va_A [(h0, .inr (5, [.null, .null, .null, .int 0]))] sz)) (va_A [(h0, .inr (5, [.null, .null, .null, .int 0]))] sz)) 3 18 (va_A [(h0, .inr (5, [.null, .null, .null, .int 0]))] sz) := by
  refine k_met (by decide) (Nat.le_of_ble_eq_true rfl) ?_
  intro p e s m below meth c ls ⟨hx, hb, hml, hown, hts, hr, hlk, hin, hK, hl⟩ hP hD hS hA
  have hl : lv_has ls 1 [(0, .ref h0)] := hl
  obtain ⟨W0, eW0⟩ : ∃ W : va_W, W = [] := ⟨_, rfl⟩
  have hP : va_P D vwCl ((h0, .inr (5, [.null, .null, .null, .int 0])) :: W0) s.heap := by rw [eW0]; exact hP
  have hD : va_D (va_A [(h0, .inr (5, [.null, .null, .null, .int 0]))] sz) ((h0, .inr (5, [.null, .null, .null, .int 0])) :: W0) := by rw [eW0]; exact hD
  refine lv_aload_n hx hb d_X5i_0 rfl (lv_at hl 0 rfl) ?_
  refine W.objInit hx hb hown (hts _ wo_X5i) (hts _ w_obi) (hts _ w_obc) rfl (by rw [hml]; exact hl.1) rfl d_X5i_1 (Nat.le_of_ble_eq_true rfl) (Nat.le_of_ble_eq_true rfl) ?_
  refine W.eq (g2 := F0 m 4 ls []) rfl ?_
  refine lv_aload_n hx hb d_X5i_4 rfl (lv_at hl 0 rfl) ?_
  refine lv_bipush (v := 6) hx hb d_X5i_5 (by decide) ?_
  refine k_newI hx hb hts hK hP hD hS hA 6 (by decide) (by decide) (by decide) (by decide) (by decide) d_X5i_7 (fun a0 H hP hD hS => ?_)
  refine va_putF (D := D) (ci := 5) (v := .ref a0) (ty := .array .int) (C := RX5) (T := TX5) (N := 4) hx hb hts uin_X5 tyX5 tyX5_ok nmX5 hown hK hP hD hS 0 rfl rfl 0 (by decide) (hts _ wf_X5i_9) (fun _ h9 => h9) rfl hin rfl rfl rfl rfl (Nat.le_of_ble_eq_true rfl) d_X5i_9 (fun H locs hP hD hS => ?_)
  have hP : va_P D vwCl ((h0, .inr (5, [.ref a0, .null, .null, .int 0])) :: (W0 ++ [(a0, .inl (cI, 6, .inl (fun _ => 0)))])) H := hP
  have hD : va_D (va_A [(h0, .inr (5, [.null, .null, .null, .int 0]))] sz) ((h0, .inr (5, [.ref a0, .null, .null, .int 0])) :: (W0 ++ [(a0, .inl (cI, 6, .inl (fun _ => 0)))])) := hD
  obtain ⟨W1, eW1⟩ : ∃ W : va_W, W = (W0 ++ [(a0, .inl (cI, 6, .inl (fun _ => 0)))]) := ⟨_, rfl⟩
  rw [← eW1] at hP hD
  refine lv_aload_n hx hb d_X5i_12 rfl (lv_at hl 0 rfl) ?_
  refine lv_bipush (v := 6) hx hb d_X5i_13 (by decide) ?_
  refine k_newI hx hb hts hK hP hD hS hA 6 (by decide) (by decide) (by decide) (by decide) (by decide) d_X5i_15 (fun a1 H hP hD hS => ?_)
  refine va_putF (D := D) (ci := 5) (v := .ref a1) (ty := .array .int) (C := RX5) (T := TX5) (N := 4) hx hb hts uin_X5 tyX5 tyX5_ok nmX5 hown hK hP hD hS 0 rfl rfl 1 (by decide) (hts _ wf_X5i_13) (fun _ h9 => h9) rfl hin rfl rfl rfl rfl (Nat.le_of_ble_eq_true rfl) d_X5i_17 (fun H locs hP hD hS => ?_)
  have hP : va_P D vwCl ((h0, .inr (5, [.ref a0, .ref a1, .null, .int 0])) :: (W1 ++ [(a1, .inl (cI, 6, .inl (fun _ => 0)))])) H := hP
  have hD : va_D (va_A [(h0, .inr (5, [.null, .null, .null, .int 0]))] sz) ((h0, .inr (5, [.ref a0, .ref a1, .null, .int 0])) :: (W1 ++ [(a1, .inl (cI, 6, .inl (fun _ => 0)))])) := hD
  obtain ⟨W2, eW2⟩ : ∃ W : va_W, W = (W1 ++ [(a1, .inl (cI, 6, .inl (fun _ => 0)))]) := ⟨_, rfl⟩
  rw [← eW2] at hP hD
  refine lv_aload_n hx hb d_X5i_20 rfl (lv_at hl 0 rfl) ?_
  refine lv_bipush (v := 6) hx hb d_X5i_21 (by decide) ?_
  refine k_newI hx hb hts hK hP hD hS hA 6 (by decide) (by decide) (by decide) (by decide) (by decide) d_X5i_23 (fun a2 H hP hD hS => ?_)
  refine va_putF (D := D) (ci := 5) (v := .ref a2) (ty := .array .int) (C := RX5) (T := TX5) (N := 4) hx hb hts uin_X5 tyX5 tyX5_ok nmX5 hown hK hP hD hS 0 rfl rfl 2 (by decide) (hts _ wf_X5i_16) (fun _ h9 => h9) rfl hin rfl rfl rfl rfl (Nat.le_of_ble_eq_true rfl) d_X5i_25 (fun H locs hP hD hS => ?_)
  have hP : va_P D vwCl ((h0, .inr (5, [.ref a0, .ref a1, .ref a2, .int 0])) :: (W2 ++ [(a2, .inl (cI, 6, .inl (fun _ => 0)))])) H := hP
  have hD : va_D (va_A [(h0, .inr (5, [.null, .null, .null, .int 0]))] sz) ((h0, .inr (5, [.ref a0, .ref a1, .ref a2, .int 0])) :: (W2 ++ [(a2, .inl (cI, 6, .inl (fun _ => 0)))])) := hD
  obtain ⟨W3, eW3⟩ : ∃ W : va_W, W = (W2 ++ [(a2, .inl (cI, 6, .inl (fun _ => 0)))]) := ⟨_, rfl⟩
  rw [← eW3] at hP hD
  refine W.widen (k := 3) (n := 18) (by decide) (by decide) ?_
  exact W.vret hx hb hr (fun t ht hW => ⟨⟨_, rfl, ⟨a0, a1, a2, by rw [eW3, eW2, eW1, eW0]; rfl⟩, by rw [ht]; exact hP, hD⟩, hS.F ht⟩) hS.2.2 d_X5i_28 hlk
theorem d_X6i_0 : decode cX6_init 0 = .ok (.aload_n 0, 1) := by decide +kernel
theorem d_X6i_1 : decode cX6_init 1 = .ok (.invokespecial 3, 3) := by decide +kernel
theorem d_X6i_4 : decode cX6_init 4 = .ok (.aload_n 0, 1) := by decide +kernel
theorem d_X6i_5 : decode cX6_init 5 = .ok (.bipush 12, 2) := by decide +kernel
theorem d_X6i_7 : decode cX6_init 7 = .ok (.newarray .int, 2) := by decide +kernel
theorem d_X6i_9 : decode cX6_init 9 = .ok (.putfield 9, 3) := by decide +kernel
theorem d_X6i_12 : decode cX6_init 12 = .ok (.aload_n 0, 1) := by decide +kernel
theorem d_X6i_13 : decode cX6_init 13 = .ok (.bipush 12, 2) := by decide +kernel
theorem d_X6i_15 : decode cX6_init 15 = .ok (.newarray .int, 2) := by decide +kernel
theorem d_X6i_17 : decode cX6_init 17 = .ok (.putfield 15, 3) := by decide +kernel
theorem d_X6i_20 : decode cX6_init 20 = .ok (.aload_n 0, 1) := by decide +kernel
theorem d_X6i_21 : decode cX6_init 21 = .ok (.bipush 12, 2) := by decide +kernel
theorem d_X6i_23 : decode cX6_init 23 = .ok (.newarray .int, 2) := by decide +kernel
theorem d_X6i_25 : decode cX6_init 25 = .ok (.putfield 18, 3) := by decide +kernel
theorem d_X6i_28 : decode cX6_init 28 = .ok (.aload_n 0, 1) := by decide +kernel
theorem d_X6i_29 : decode cX6_init 29 = .ok (.bipush 12, 2) := by decide +kernel
theorem d_X6i_31 : decode cX6_init 31 = .ok (.newarray .int, 2) := by decide +kernel
theorem d_X6i_33 : decode cX6_init 33 = .ok (.putfield 21, 3) := by decide +kernel
theorem d_X6i_36 : decode cX6_init 36 = .ok (.return_, 1) := by decide +kernel
theorem uin_X6 : ∀ w ∈ u_ws RX6 TX6 5, w ∈ lw_w := fun w hw => lw_w_in (ax_us_in _ (List.mem_of_getElem? (l := vwCl) (i := 6) rfl) w hw).1 (ax_us_in _ (List.mem_of_getElem? (l := vwCl) (i := 6) rfl) w hw).2
theorem wf_X6i_15 : Cond.fieldLink RX6 15 RX6 "owners" "[I" ∈ lw_w := lw_w_in (by decide +kernel) rfl
theorem wf_X6i_18 : Cond.fieldLink RX6 18 RX6 "leases" "[I" ∈ lw_w := lw_w_in (by decide +kernel) rfl
theorem wf_X6i_21 : Cond.fieldLink RX6 21 RX6 "costs" "[I" ∈ lw_w := lw_w_in (by decide +kernel) rfl
theorem wf_X6i_9 : Cond.fieldLink RX6 9 RX6 "kinds" "[I" ∈ lw_w := lw_w_in (by decide +kernel) rfl
theorem wo_X6i : Cond.methodLink RX6 3 Lib.objectInit ∈ lw_w := lw_w_in (by decide +kernel) rfl
set_option maxHeartbeats 4000000 in
set_option maxRecDepth 100000 in
theorem c_X6i (l : Launch) (D : va_G) (cI cZ : ClassId) (h0 sz : Nat) : Met l yX6_init (Cond.code yX6_init cX6_init 1 none :: lw_w) (k_rm 1 4 48 12) (va_Pc [.ref h0] (kPre D cI cZ h0 (.inr (6, [.null, .null, .null, .null, .int 0])) sz)) (va_Qv (fun u => ∃ a0 a1 a2 a3 : Nat, u = [(h0, .inr (6, [.ref a0, .ref a1, .ref a2, .ref a3, .int 0])), (a0, .inl (cI, 12, .inl (fun _ => 0))), (a1, .inl (cI, 12, .inl (fun _ => 0))), (a2, .inl (cI, 12, .inl (fun _ => 0))), (a3, .inl (cI, 12, .inl (fun _ => 0)))]) (kB D (va_A [(h0, .inr (6, [.null, .null, .null, .null, .int 0]))] sz)) (va_A [(h0, .inr (6, [.null, .null, .null, .null, .int 0]))] sz)) 4 48 (va_A [(h0, .inr (6, [.null, .null, .null, .null, .int 0]))] sz) := by
  refine k_met (by decide) (Nat.le_of_ble_eq_true rfl) ?_
  intro p e s m below meth c ls ⟨hx, hb, hml, hown, hts, hr, hlk, hin, hK, hl⟩ hP hD hS hA
  have hl : lv_has ls 1 [(0, .ref h0)] := hl
  obtain ⟨W0, eW0⟩ : ∃ W : va_W, W = [] := ⟨_, rfl⟩
  have hP : va_P D vwCl ((h0, .inr (6, [.null, .null, .null, .null, .int 0])) :: W0) s.heap := by rw [eW0]; exact hP
  have hD : va_D (va_A [(h0, .inr (6, [.null, .null, .null, .null, .int 0]))] sz) ((h0, .inr (6, [.null, .null, .null, .null, .int 0])) :: W0) := by rw [eW0]; exact hD
  refine lv_aload_n hx hb d_X6i_0 rfl (lv_at hl 0 rfl) ?_
  refine W.objInit hx hb hown (hts _ wo_X6i) (hts _ w_obi) (hts _ w_obc) rfl (by rw [hml]; exact hl.1) rfl d_X6i_1 (Nat.le_of_ble_eq_true rfl) (Nat.le_of_ble_eq_true rfl) ?_
  refine W.eq (g2 := F0 m 4 ls []) rfl ?_
  refine lv_aload_n hx hb d_X6i_4 rfl (lv_at hl 0 rfl) ?_
  refine lv_bipush (v := 12) hx hb d_X6i_5 (by decide) ?_
  refine k_newI hx hb hts hK hP hD hS hA 12 (by decide) (by decide) (by decide) (by decide) (by decide) d_X6i_7 (fun a0 H hP hD hS => ?_)
  refine va_putF (D := D) (ci := 6) (v := .ref a0) (ty := .array .int) (C := RX6) (T := TX6) (N := 5) hx hb hts uin_X6 tyX6 tyX6_ok nmX6 hown hK hP hD hS 0 rfl rfl 0 (by decide) (hts _ wf_X6i_9) (fun _ h9 => h9) rfl hin rfl rfl rfl rfl (Nat.le_of_ble_eq_true rfl) d_X6i_9 (fun H locs hP hD hS => ?_)
  have hP : va_P D vwCl ((h0, .inr (6, [.ref a0, .null, .null, .null, .int 0])) :: (W0 ++ [(a0, .inl (cI, 12, .inl (fun _ => 0)))])) H := hP
  have hD : va_D (va_A [(h0, .inr (6, [.null, .null, .null, .null, .int 0]))] sz) ((h0, .inr (6, [.ref a0, .null, .null, .null, .int 0])) :: (W0 ++ [(a0, .inl (cI, 12, .inl (fun _ => 0)))])) := hD
  obtain ⟨W1, eW1⟩ : ∃ W : va_W, W = (W0 ++ [(a0, .inl (cI, 12, .inl (fun _ => 0)))]) := ⟨_, rfl⟩
  rw [← eW1] at hP hD
  refine lv_aload_n hx hb d_X6i_12 rfl (lv_at hl 0 rfl) ?_
  refine lv_bipush (v := 12) hx hb d_X6i_13 (by decide) ?_
  refine k_newI hx hb hts hK hP hD hS hA 12 (by decide) (by decide) (by decide) (by decide) (by decide) d_X6i_15 (fun a1 H hP hD hS => ?_)
  refine va_putF (D := D) (ci := 6) (v := .ref a1) (ty := .array .int) (C := RX6) (T := TX6) (N := 5) hx hb hts uin_X6 tyX6 tyX6_ok nmX6 hown hK hP hD hS 0 rfl rfl 1 (by decide) (hts _ wf_X6i_15) (fun _ h9 => h9) rfl hin rfl rfl rfl rfl (Nat.le_of_ble_eq_true rfl) d_X6i_17 (fun H locs hP hD hS => ?_)
  have hP : va_P D vwCl ((h0, .inr (6, [.ref a0, .ref a1, .null, .null, .int 0])) :: (W1 ++ [(a1, .inl (cI, 12, .inl (fun _ => 0)))])) H := hP
  have hD : va_D (va_A [(h0, .inr (6, [.null, .null, .null, .null, .int 0]))] sz) ((h0, .inr (6, [.ref a0, .ref a1, .null, .null, .int 0])) :: (W1 ++ [(a1, .inl (cI, 12, .inl (fun _ => 0)))])) := hD
  obtain ⟨W2, eW2⟩ : ∃ W : va_W, W = (W1 ++ [(a1, .inl (cI, 12, .inl (fun _ => 0)))]) := ⟨_, rfl⟩
  rw [← eW2] at hP hD
  refine lv_aload_n hx hb d_X6i_20 rfl (lv_at hl 0 rfl) ?_
  refine lv_bipush (v := 12) hx hb d_X6i_21 (by decide) ?_
  refine k_newI hx hb hts hK hP hD hS hA 12 (by decide) (by decide) (by decide) (by decide) (by decide) d_X6i_23 (fun a2 H hP hD hS => ?_)
  refine va_putF (D := D) (ci := 6) (v := .ref a2) (ty := .array .int) (C := RX6) (T := TX6) (N := 5) hx hb hts uin_X6 tyX6 tyX6_ok nmX6 hown hK hP hD hS 0 rfl rfl 2 (by decide) (hts _ wf_X6i_18) (fun _ h9 => h9) rfl hin rfl rfl rfl rfl (Nat.le_of_ble_eq_true rfl) d_X6i_25 (fun H locs hP hD hS => ?_)
  have hP : va_P D vwCl ((h0, .inr (6, [.ref a0, .ref a1, .ref a2, .null, .int 0])) :: (W2 ++ [(a2, .inl (cI, 12, .inl (fun _ => 0)))])) H := hP
  have hD : va_D (va_A [(h0, .inr (6, [.null, .null, .null, .null, .int 0]))] sz) ((h0, .inr (6, [.ref a0, .ref a1, .ref a2, .null, .int 0])) :: (W2 ++ [(a2, .inl (cI, 12, .inl (fun _ => 0)))])) := hD
  obtain ⟨W3, eW3⟩ : ∃ W : va_W, W = (W2 ++ [(a2, .inl (cI, 12, .inl (fun _ => 0)))]) := ⟨_, rfl⟩
  rw [← eW3] at hP hD
  refine lv_aload_n hx hb d_X6i_28 rfl (lv_at hl 0 rfl) ?_
  refine lv_bipush (v := 12) hx hb d_X6i_29 (by decide) ?_
  refine k_newI hx hb hts hK hP hD hS hA 12 (by decide) (by decide) (by decide) (by decide) (by decide) d_X6i_31 (fun a3 H hP hD hS => ?_)
  refine va_putF (D := D) (ci := 6) (v := .ref a3) (ty := .array .int) (C := RX6) (T := TX6) (N := 5) hx hb hts uin_X6 tyX6 tyX6_ok nmX6 hown hK hP hD hS 0 rfl rfl 3 (by decide) (hts _ wf_X6i_21) (fun _ h9 => h9) rfl hin rfl rfl rfl rfl (Nat.le_of_ble_eq_true rfl) d_X6i_33 (fun H locs hP hD hS => ?_)
  have hP : va_P D vwCl ((h0, .inr (6, [.ref a0, .ref a1, .ref a2, .ref a3, .int 0])) :: (W3 ++ [(a3, .inl (cI, 12, .inl (fun _ => 0)))])) H := hP
  have hD : va_D (va_A [(h0, .inr (6, [.null, .null, .null, .null, .int 0]))] sz) ((h0, .inr (6, [.ref a0, .ref a1, .ref a2, .ref a3, .int 0])) :: (W3 ++ [(a3, .inl (cI, 12, .inl (fun _ => 0)))])) := hD
  obtain ⟨W4, eW4⟩ : ∃ W : va_W, W = (W3 ++ [(a3, .inl (cI, 12, .inl (fun _ => 0)))]) := ⟨_, rfl⟩
  rw [← eW4] at hP hD
  refine W.widen (k := 4) (n := 48) (by decide) (by decide) ?_
  exact W.vret hx hb hr (fun t ht hW => ⟨⟨_, rfl, ⟨a0, a1, a2, a3, by rw [eW4, eW3, eW2, eW1, eW0]; rfl⟩, by rw [ht]; exact hP, hD⟩, hS.F ht⟩) hS.2.2 d_X6i_36 hlk
theorem d_X7i_0 : decode cX7_init 0 = .ok (.aload_n 0, 1) := by decide +kernel
theorem d_X7i_1 : decode cX7_init 1 = .ok (.invokespecial 3, 3) := by decide +kernel
theorem d_X7i_4 : decode cX7_init 4 = .ok (.aload_n 0, 1) := by decide +kernel
theorem d_X7i_5 : decode cX7_init 5 = .ok (.sipush 1500, 3) := by decide +kernel
theorem d_X7i_8 : decode cX7_init 8 = .ok (.newarray .int, 2) := by decide +kernel
theorem d_X7i_10 : decode cX7_init 10 = .ok (.putfield 11, 3) := by decide +kernel
theorem d_X7i_13 : decode cX7_init 13 = .ok (.return_, 1) := by decide +kernel
theorem uin_X7 : ∀ w ∈ u_ws RX7 TX7 2, w ∈ lw_w := fun w hw => lw_w_in (ax_us_in _ (List.mem_of_getElem? (l := vwCl) (i := 7) rfl) w hw).1 (ax_us_in _ (List.mem_of_getElem? (l := vwCl) (i := 7) rfl) w hw).2
theorem wf_X7i_11 : Cond.fieldLink RX7 11 RX7 "row" "[I" ∈ lw_w := lw_w_in (by decide +kernel) rfl
theorem wo_X7i : Cond.methodLink RX7 3 Lib.objectInit ∈ lw_w := lw_w_in (by decide +kernel) rfl
set_option maxHeartbeats 4000000 in
set_option maxRecDepth 100000 in
theorem c_X7i (l : Launch) (D : va_G) (cI cZ : ClassId) (h0 sz : Nat) : Met l yX7_init (Cond.code yX7_init cX7_init 1 none :: lw_w) (k_rm 1 1 1500 12) (va_Pc [.ref h0] (kPre D cI cZ h0 (.inr (7, [.null, .int 0])) sz)) (va_Qv (fun u => ∃ a0 : Nat, u = [(h0, .inr (7, [.ref a0, .int 0])), (a0, .inl (cI, 1500, .inl (fun _ => 0)))]) (kB D (va_A [(h0, .inr (7, [.null, .int 0]))] sz)) (va_A [(h0, .inr (7, [.null, .int 0]))] sz)) 1 1500 (va_A [(h0, .inr (7, [.null, .int 0]))] sz) := by
  refine k_met (by decide) (Nat.le_of_ble_eq_true rfl) ?_
  intro p e s m below meth c ls ⟨hx, hb, hml, hown, hts, hr, hlk, hin, hK, hl⟩ hP hD hS hA
  have hl : lv_has ls 1 [(0, .ref h0)] := hl
  obtain ⟨W0, eW0⟩ : ∃ W : va_W, W = [] := ⟨_, rfl⟩
  have hP : va_P D vwCl ((h0, .inr (7, [.null, .int 0])) :: W0) s.heap := by rw [eW0]; exact hP
  have hD : va_D (va_A [(h0, .inr (7, [.null, .int 0]))] sz) ((h0, .inr (7, [.null, .int 0])) :: W0) := by rw [eW0]; exact hD
  refine lv_aload_n hx hb d_X7i_0 rfl (lv_at hl 0 rfl) ?_
  refine W.objInit hx hb hown (hts _ wo_X7i) (hts _ w_obi) (hts _ w_obc) rfl (by rw [hml]; exact hl.1) rfl d_X7i_1 (Nat.le_of_ble_eq_true rfl) (Nat.le_of_ble_eq_true rfl) ?_
  refine W.eq (g2 := F0 m 4 ls []) rfl ?_
  refine lv_aload_n hx hb d_X7i_4 rfl (lv_at hl 0 rfl) ?_
  refine lv_sipush (v := 1500) hx hb d_X7i_5 (by decide) ?_
  refine k_newI hx hb hts hK hP hD hS hA 1500 (by decide) (by decide) (by decide) (by decide) (by decide) d_X7i_8 (fun a0 H hP hD hS => ?_)
  refine va_putF (D := D) (ci := 7) (v := .ref a0) (ty := .array .int) (C := RX7) (T := TX7) (N := 2) hx hb hts uin_X7 tyX7 tyX7_ok nmX7 hown hK hP hD hS 0 rfl rfl 0 (by decide) (hts _ wf_X7i_11) (fun _ h9 => h9) rfl hin rfl rfl rfl rfl (Nat.le_of_ble_eq_true rfl) d_X7i_10 (fun H locs hP hD hS => ?_)
  have hP : va_P D vwCl ((h0, .inr (7, [.ref a0, .int 0])) :: (W0 ++ [(a0, .inl (cI, 1500, .inl (fun _ => 0)))])) H := hP
  have hD : va_D (va_A [(h0, .inr (7, [.null, .int 0]))] sz) ((h0, .inr (7, [.ref a0, .int 0])) :: (W0 ++ [(a0, .inl (cI, 1500, .inl (fun _ => 0)))])) := hD
  obtain ⟨W1, eW1⟩ : ∃ W : va_W, W = (W0 ++ [(a0, .inl (cI, 1500, .inl (fun _ => 0)))]) := ⟨_, rfl⟩
  rw [← eW1] at hP hD
  refine W.widen (k := 1) (n := 1500) (by decide) (by decide) ?_
  exact W.vret hx hb hr (fun t ht hW => ⟨⟨_, rfl, ⟨a0, by rw [eW1, eW0]; rfl⟩, by rw [ht]; exact hP, hD⟩, hS.F ht⟩) hS.2.2 d_X7i_13 hlk
theorem d_X8i_0 : decode cX8_init 0 = .ok (.aload_n 0, 1) := by decide +kernel
theorem d_X8i_1 : decode cX8_init 1 = .ok (.invokespecial 3, 3) := by decide +kernel
theorem d_X8i_4 : decode cX8_init 4 = .ok (.aload_n 0, 1) := by decide +kernel
theorem d_X8i_5 : decode cX8_init 5 = .ok (.bipush 16, 2) := by decide +kernel
theorem d_X8i_7 : decode cX8_init 7 = .ok (.newarray .int, 2) := by decide +kernel
theorem d_X8i_9 : decode cX8_init 9 = .ok (.putfield 9, 3) := by decide +kernel
theorem d_X8i_12 : decode cX8_init 12 = .ok (.aload_n 0, 1) := by decide +kernel
theorem d_X8i_13 : decode cX8_init 13 = .ok (.bipush 24, 2) := by decide +kernel
theorem d_X8i_15 : decode cX8_init 15 = .ok (.newarray .int, 2) := by decide +kernel
theorem d_X8i_17 : decode cX8_init 17 = .ok (.putfield 15, 3) := by decide +kernel
theorem d_X8i_20 : decode cX8_init 20 = .ok (.aload_n 0, 1) := by decide +kernel
theorem d_X8i_21 : decode cX8_init 21 = .ok (.bipush 10, 2) := by decide +kernel
theorem d_X8i_23 : decode cX8_init 23 = .ok (.newarray .int, 2) := by decide +kernel
theorem d_X8i_25 : decode cX8_init 25 = .ok (.putfield 18, 3) := by decide +kernel
theorem d_X8i_28 : decode cX8_init 28 = .ok (.aload_n 0, 1) := by decide +kernel
theorem d_X8i_29 : decode cX8_init 29 = .ok (.bipush 10, 2) := by decide +kernel
theorem d_X8i_31 : decode cX8_init 31 = .ok (.newarray .int, 2) := by decide +kernel
theorem d_X8i_33 : decode cX8_init 33 = .ok (.putfield 21, 3) := by decide +kernel
theorem d_X8i_36 : decode cX8_init 36 = .ok (.aload_n 0, 1) := by decide +kernel
theorem d_X8i_37 : decode cX8_init 37 = .ok (.bipush 10, 2) := by decide +kernel
theorem d_X8i_39 : decode cX8_init 39 = .ok (.newarray .boolean, 2) := by decide +kernel
theorem d_X8i_41 : decode cX8_init 41 = .ok (.putfield 24, 3) := by decide +kernel
theorem d_X8i_44 : decode cX8_init 44 = .ok (.aload_n 0, 1) := by decide +kernel
theorem d_X8i_45 : decode cX8_init 45 = .ok (.iconst 2, 1) := by decide +kernel
theorem d_X8i_46 : decode cX8_init 46 = .ok (.newarray .int, 2) := by decide +kernel
theorem d_X8i_48 : decode cX8_init 48 = .ok (.putfield 28, 3) := by decide +kernel
theorem d_X8i_51 : decode cX8_init 51 = .ok (.aload_n 0, 1) := by decide +kernel
theorem d_X8i_52 : decode cX8_init 52 = .ok (.iconst 3, 1) := by decide +kernel
theorem d_X8i_53 : decode cX8_init 53 = .ok (.newarray .int, 2) := by decide +kernel
theorem d_X8i_55 : decode cX8_init 55 = .ok (.putfield 31, 3) := by decide +kernel
theorem d_X8i_58 : decode cX8_init 58 = .ok (.iconst 0, 1) := by decide +kernel
theorem d_X8i_59 : decode cX8_init 59 = .ok (.istore_n 1, 1) := by decide +kernel
theorem d_X8i_60 : decode cX8_init 60 = .ok (.iload_n 1, 1) := by decide +kernel
theorem d_X8i_61 : decode cX8_init 61 = .ok (.aload_n 0, 1) := by decide +kernel
theorem d_X8i_62 : decode cX8_init 62 = .ok (.getfield 15, 3) := by decide +kernel
theorem d_X8i_65 : decode cX8_init 65 = .ok (.arraylength, 1) := by decide +kernel
theorem d_X8i_66 : decode cX8_init 66 = .ok (.if_icmp .ge 16, 3) := by decide +kernel
theorem d_X8i_69 : decode cX8_init 69 = .ok (.aload_n 0, 1) := by decide +kernel
theorem d_X8i_70 : decode cX8_init 70 = .ok (.getfield 15, 3) := by decide +kernel
theorem d_X8i_73 : decode cX8_init 73 = .ok (.iload_n 1, 1) := by decide +kernel
theorem d_X8i_74 : decode cX8_init 74 = .ok (.iconst (-1), 1) := by decide +kernel
theorem d_X8i_75 : decode cX8_init 75 = .ok (.iastore, 1) := by decide +kernel
theorem d_X8i_76 : decode cX8_init 76 = .ok (.iinc 1 1, 3) := by decide +kernel
theorem d_X8i_79 : decode cX8_init 79 = .ok (.goto (-19), 3) := by decide +kernel
theorem d_X8i_82 : decode cX8_init 82 = .ok (.return_, 1) := by decide +kernel
theorem uin_X8 : ∀ w ∈ u_ws RX8 TX8 10, w ∈ lw_w := fun w hw => lw_w_in (ax_us_in _ (List.mem_of_getElem? (l := vwCl) (i := 8) rfl) w hw).1 (ax_us_in _ (List.mem_of_getElem? (l := vwCl) (i := 8) rfl) w hw).2
theorem wf_X8i_15 : Cond.fieldLink RX8 15 RX8 "driverOf" "[I" ∈ lw_w := lw_w_in (by decide +kernel) rfl
theorem wf_X8i_18 : Cond.fieldLink RX8 18 RX8 "freePlaces" "[I" ∈ lw_w := lw_w_in (by decide +kernel) rfl
theorem wf_X8i_21 : Cond.fieldLink RX8 21 RX8 "freeDrivers" "[I" ∈ lw_w := lw_w_in (by decide +kernel) rfl
theorem wf_X8i_24 : Cond.fieldLink RX8 24 RX8 "given" "[Z" ∈ lw_w := lw_w_in (by decide +kernel) rfl
theorem wf_X8i_28 : Cond.fieldLink RX8 28 RX8 "shiftsLeft" "[I" ∈ lw_w := lw_w_in (by decide +kernel) rfl
theorem wf_X8i_31 : Cond.fieldLink RX8 31 RX8 "driversLeft" "[I" ∈ lw_w := lw_w_in (by decide +kernel) rfl
theorem wf_X8i_9 : Cond.fieldLink RX8 9 RX8 "wishes" "[I" ∈ lw_w := lw_w_in (by decide +kernel) rfl
theorem wo_X8i : Cond.methodLink RX8 3 Lib.objectInit ∈ lw_w := lw_w_in (by decide +kernel) rfl
set_option maxHeartbeats 4000000 in
set_option maxRecDepth 100000 in
theorem c_X8i (l : Launch) (D : va_G) (cI cZ : ClassId) (h0 sz : Nat) : Met l yX8_init (Cond.code yX8_init cX8_init 2 none :: lw_w) (k_rm 1 7 75 12) (va_Pc [.ref h0] (kPre D cI cZ h0 (.inr (8, [.null, .null, .int 0, .null, .null, .null, .int 0, .int 0, .null, .null])) sz)) (va_Qv (fun u => ∃ a0 a1 a2 a3 a4 a5 a6 : Nat, ∃ f : Nat → Int32, (∀ j, j < 24 → f j = -1) ∧ u = [(h0, .inr (8, [.ref a0, .ref a1, .int 0, .ref a2, .ref a3, .ref a4, .int 0, .int 0, .ref a5, .ref a6])), (a0, .inl (cI, 16, .inl (fun _ => 0))), (a1, .inl (cI, 24, .inl f)), (a2, .inl (cI, 10, .inl (fun _ => 0))), (a3, .inl (cI, 10, .inl (fun _ => 0))), (a4, .inl (cZ, 10, .inl (fun _ => 0))), (a5, .inl (cI, 2, .inl (fun _ => 0))), (a6, .inl (cI, 3, .inl (fun _ => 0)))]) (kB D (va_A [(h0, .inr (8, [.null, .null, .int 0, .null, .null, .null, .int 0, .int 0, .null, .null]))] sz)) (va_A [(h0, .inr (8, [.null, .null, .int 0, .null, .null, .null, .int 0, .int 0, .null, .null]))] sz)) 7 75 (va_A [(h0, .inr (8, [.null, .null, .int 0, .null, .null, .null, .int 0, .int 0, .null, .null]))] sz) := by
  refine k_met (by decide) (Nat.le_of_ble_eq_true rfl) ?_
  intro p e s m below meth c ls ⟨hx, hb, hml, hown, hts, hr, hlk, hin, hK, hl⟩ hP hD hS hA
  have hl : lv_has ls 2 [(0, .ref h0)] := hl
  obtain ⟨W0, eW0⟩ : ∃ W : va_W, W = [] := ⟨_, rfl⟩
  have hP : va_P D vwCl ((h0, .inr (8, [.null, .null, .int 0, .null, .null, .null, .int 0, .int 0, .null, .null])) :: W0) s.heap := by rw [eW0]; exact hP
  have hD : va_D (va_A [(h0, .inr (8, [.null, .null, .int 0, .null, .null, .null, .int 0, .int 0, .null, .null]))] sz) ((h0, .inr (8, [.null, .null, .int 0, .null, .null, .null, .int 0, .int 0, .null, .null])) :: W0) := by rw [eW0]; exact hD
  refine lv_aload_n hx hb d_X8i_0 rfl (lv_at hl 0 rfl) ?_
  refine W.objInit hx hb hown (hts _ wo_X8i) (hts _ w_obi) (hts _ w_obc) rfl (by rw [hml]; exact hl.1) rfl d_X8i_1 (Nat.le_of_ble_eq_true rfl) (Nat.le_of_ble_eq_true rfl) ?_
  refine W.eq (g2 := F0 m 4 ls []) rfl ?_
  refine lv_aload_n hx hb d_X8i_4 rfl (lv_at hl 0 rfl) ?_
  refine lv_bipush (v := 16) hx hb d_X8i_5 (by decide) ?_
  refine k_newI hx hb hts hK hP hD hS hA 16 (by decide) (by decide) (by decide) (by decide) (by decide) d_X8i_7 (fun a0 H hP hD hS => ?_)
  refine va_putF (D := D) (ci := 8) (v := .ref a0) (ty := .array .int) (C := RX8) (T := TX8) (N := 10) hx hb hts uin_X8 tyX8 tyX8_ok nmX8 hown hK hP hD hS 0 rfl rfl 0 (by decide) (hts _ wf_X8i_9) (fun _ h9 => h9) rfl hin rfl rfl rfl rfl (Nat.le_of_ble_eq_true rfl) d_X8i_9 (fun H locs hP hD hS => ?_)
  have hP : va_P D vwCl ((h0, .inr (8, [.ref a0, .null, .int 0, .null, .null, .null, .int 0, .int 0, .null, .null])) :: (W0 ++ [(a0, .inl (cI, 16, .inl (fun _ => 0)))])) H := hP
  have hD : va_D (va_A [(h0, .inr (8, [.null, .null, .int 0, .null, .null, .null, .int 0, .int 0, .null, .null]))] sz) ((h0, .inr (8, [.ref a0, .null, .int 0, .null, .null, .null, .int 0, .int 0, .null, .null])) :: (W0 ++ [(a0, .inl (cI, 16, .inl (fun _ => 0)))])) := hD
  obtain ⟨W1, eW1⟩ : ∃ W : va_W, W = (W0 ++ [(a0, .inl (cI, 16, .inl (fun _ => 0)))]) := ⟨_, rfl⟩
  rw [← eW1] at hP hD
  refine lv_aload_n hx hb d_X8i_12 rfl (lv_at hl 0 rfl) ?_
  refine lv_bipush (v := 24) hx hb d_X8i_13 (by decide) ?_
  refine k_newI hx hb hts hK hP hD hS hA 24 (by decide) (by decide) (by decide) (by decide) (by decide) d_X8i_15 (fun a1 H hP hD hS => ?_)
  refine va_putF (D := D) (ci := 8) (v := .ref a1) (ty := .array .int) (C := RX8) (T := TX8) (N := 10) hx hb hts uin_X8 tyX8 tyX8_ok nmX8 hown hK hP hD hS 0 rfl rfl 1 (by decide) (hts _ wf_X8i_15) (fun _ h9 => h9) rfl hin rfl rfl rfl rfl (Nat.le_of_ble_eq_true rfl) d_X8i_17 (fun H locs hP hD hS => ?_)
  have hP : va_P D vwCl ((h0, .inr (8, [.ref a0, .ref a1, .int 0, .null, .null, .null, .int 0, .int 0, .null, .null])) :: (W1 ++ [(a1, .inl (cI, 24, .inl (fun _ => 0)))])) H := hP
  have hD : va_D (va_A [(h0, .inr (8, [.null, .null, .int 0, .null, .null, .null, .int 0, .int 0, .null, .null]))] sz) ((h0, .inr (8, [.ref a0, .ref a1, .int 0, .null, .null, .null, .int 0, .int 0, .null, .null])) :: (W1 ++ [(a1, .inl (cI, 24, .inl (fun _ => 0)))])) := hD
  obtain ⟨W2, eW2⟩ : ∃ W : va_W, W = (W1 ++ [(a1, .inl (cI, 24, .inl (fun _ => 0)))]) := ⟨_, rfl⟩
  rw [← eW2] at hP hD
  refine lv_aload_n hx hb d_X8i_20 rfl (lv_at hl 0 rfl) ?_
  refine lv_bipush (v := 10) hx hb d_X8i_21 (by decide) ?_
  refine k_newI hx hb hts hK hP hD hS hA 10 (by decide) (by decide) (by decide) (by decide) (by decide) d_X8i_23 (fun a2 H hP hD hS => ?_)
  refine va_putF (D := D) (ci := 8) (v := .ref a2) (ty := .array .int) (C := RX8) (T := TX8) (N := 10) hx hb hts uin_X8 tyX8 tyX8_ok nmX8 hown hK hP hD hS 0 rfl rfl 3 (by decide) (hts _ wf_X8i_18) (fun _ h9 => h9) rfl hin rfl rfl rfl rfl (Nat.le_of_ble_eq_true rfl) d_X8i_25 (fun H locs hP hD hS => ?_)
  have hP : va_P D vwCl ((h0, .inr (8, [.ref a0, .ref a1, .int 0, .ref a2, .null, .null, .int 0, .int 0, .null, .null])) :: (W2 ++ [(a2, .inl (cI, 10, .inl (fun _ => 0)))])) H := hP
  have hD : va_D (va_A [(h0, .inr (8, [.null, .null, .int 0, .null, .null, .null, .int 0, .int 0, .null, .null]))] sz) ((h0, .inr (8, [.ref a0, .ref a1, .int 0, .ref a2, .null, .null, .int 0, .int 0, .null, .null])) :: (W2 ++ [(a2, .inl (cI, 10, .inl (fun _ => 0)))])) := hD
  obtain ⟨W3, eW3⟩ : ∃ W : va_W, W = (W2 ++ [(a2, .inl (cI, 10, .inl (fun _ => 0)))]) := ⟨_, rfl⟩
  rw [← eW3] at hP hD
  refine lv_aload_n hx hb d_X8i_28 rfl (lv_at hl 0 rfl) ?_
  refine lv_bipush (v := 10) hx hb d_X8i_29 (by decide) ?_
  refine k_newI hx hb hts hK hP hD hS hA 10 (by decide) (by decide) (by decide) (by decide) (by decide) d_X8i_31 (fun a3 H hP hD hS => ?_)
  refine va_putF (D := D) (ci := 8) (v := .ref a3) (ty := .array .int) (C := RX8) (T := TX8) (N := 10) hx hb hts uin_X8 tyX8 tyX8_ok nmX8 hown hK hP hD hS 0 rfl rfl 4 (by decide) (hts _ wf_X8i_21) (fun _ h9 => h9) rfl hin rfl rfl rfl rfl (Nat.le_of_ble_eq_true rfl) d_X8i_33 (fun H locs hP hD hS => ?_)
  have hP : va_P D vwCl ((h0, .inr (8, [.ref a0, .ref a1, .int 0, .ref a2, .ref a3, .null, .int 0, .int 0, .null, .null])) :: (W3 ++ [(a3, .inl (cI, 10, .inl (fun _ => 0)))])) H := hP
  have hD : va_D (va_A [(h0, .inr (8, [.null, .null, .int 0, .null, .null, .null, .int 0, .int 0, .null, .null]))] sz) ((h0, .inr (8, [.ref a0, .ref a1, .int 0, .ref a2, .ref a3, .null, .int 0, .int 0, .null, .null])) :: (W3 ++ [(a3, .inl (cI, 10, .inl (fun _ => 0)))])) := hD
  obtain ⟨W4, eW4⟩ : ∃ W : va_W, W = (W3 ++ [(a3, .inl (cI, 10, .inl (fun _ => 0)))]) := ⟨_, rfl⟩
  rw [← eW4] at hP hD
  refine lv_aload_n hx hb d_X8i_36 rfl (lv_at hl 0 rfl) ?_
  refine lv_bipush (v := 10) hx hb d_X8i_37 (by decide) ?_
  refine k_newZ hx hb hts hK hP hD hS hA 10 (by decide) (by decide) (by decide) (by decide) (by decide) d_X8i_39 (fun a4 H hP hD hS => ?_)
  refine va_putF (D := D) (ci := 8) (v := .ref a4) (ty := .array .boolean) (C := RX8) (T := TX8) (N := 10) hx hb hts uin_X8 tyX8 tyX8_ok nmX8 hown hK hP hD hS 0 rfl rfl 5 (by decide) (hts _ wf_X8i_24) (fun _ h9 => h9) rfl hin rfl rfl rfl rfl (Nat.le_of_ble_eq_true rfl) d_X8i_41 (fun H locs hP hD hS => ?_)
  have hP : va_P D vwCl ((h0, .inr (8, [.ref a0, .ref a1, .int 0, .ref a2, .ref a3, .ref a4, .int 0, .int 0, .null, .null])) :: (W4 ++ [(a4, .inl (cZ, 10, .inl (fun _ => 0)))])) H := hP
  have hD : va_D (va_A [(h0, .inr (8, [.null, .null, .int 0, .null, .null, .null, .int 0, .int 0, .null, .null]))] sz) ((h0, .inr (8, [.ref a0, .ref a1, .int 0, .ref a2, .ref a3, .ref a4, .int 0, .int 0, .null, .null])) :: (W4 ++ [(a4, .inl (cZ, 10, .inl (fun _ => 0)))])) := hD
  obtain ⟨W5, eW5⟩ : ∃ W : va_W, W = (W4 ++ [(a4, .inl (cZ, 10, .inl (fun _ => 0)))]) := ⟨_, rfl⟩
  rw [← eW5] at hP hD
  refine lv_aload_n hx hb d_X8i_44 rfl (lv_at hl 0 rfl) ?_
  refine lv_iconst (v := 2) hx hb d_X8i_45 (by decide) ?_
  refine k_newI hx hb hts hK hP hD hS hA 2 (by decide) (by decide) (by decide) (by decide) (by decide) d_X8i_46 (fun a5 H hP hD hS => ?_)
  refine va_putF (D := D) (ci := 8) (v := .ref a5) (ty := .array .int) (C := RX8) (T := TX8) (N := 10) hx hb hts uin_X8 tyX8 tyX8_ok nmX8 hown hK hP hD hS 0 rfl rfl 8 (by decide) (hts _ wf_X8i_28) (fun _ h9 => h9) rfl hin rfl rfl rfl rfl (Nat.le_of_ble_eq_true rfl) d_X8i_48 (fun H locs hP hD hS => ?_)
  have hP : va_P D vwCl ((h0, .inr (8, [.ref a0, .ref a1, .int 0, .ref a2, .ref a3, .ref a4, .int 0, .int 0, .ref a5, .null])) :: (W5 ++ [(a5, .inl (cI, 2, .inl (fun _ => 0)))])) H := hP
  have hD : va_D (va_A [(h0, .inr (8, [.null, .null, .int 0, .null, .null, .null, .int 0, .int 0, .null, .null]))] sz) ((h0, .inr (8, [.ref a0, .ref a1, .int 0, .ref a2, .ref a3, .ref a4, .int 0, .int 0, .ref a5, .null])) :: (W5 ++ [(a5, .inl (cI, 2, .inl (fun _ => 0)))])) := hD
  obtain ⟨W6, eW6⟩ : ∃ W : va_W, W = (W5 ++ [(a5, .inl (cI, 2, .inl (fun _ => 0)))]) := ⟨_, rfl⟩
  rw [← eW6] at hP hD
  refine lv_aload_n hx hb d_X8i_51 rfl (lv_at hl 0 rfl) ?_
  refine lv_iconst (v := 3) hx hb d_X8i_52 (by decide) ?_
  refine k_newI hx hb hts hK hP hD hS hA 3 (by decide) (by decide) (by decide) (by decide) (by decide) d_X8i_53 (fun a6 H hP hD hS => ?_)
  refine va_putF (D := D) (ci := 8) (v := .ref a6) (ty := .array .int) (C := RX8) (T := TX8) (N := 10) hx hb hts uin_X8 tyX8 tyX8_ok nmX8 hown hK hP hD hS 0 rfl rfl 9 (by decide) (hts _ wf_X8i_31) (fun _ h9 => h9) rfl hin rfl rfl rfl rfl (Nat.le_of_ble_eq_true rfl) d_X8i_55 (fun H locs hP hD hS => ?_)
  have hP : va_P D vwCl ((h0, .inr (8, [.ref a0, .ref a1, .int 0, .ref a2, .ref a3, .ref a4, .int 0, .int 0, .ref a5, .ref a6])) :: (W6 ++ [(a6, .inl (cI, 3, .inl (fun _ => 0)))])) H := hP
  have hD : va_D (va_A [(h0, .inr (8, [.null, .null, .int 0, .null, .null, .null, .int 0, .int 0, .null, .null]))] sz) ((h0, .inr (8, [.ref a0, .ref a1, .int 0, .ref a2, .ref a3, .ref a4, .int 0, .int 0, .ref a5, .ref a6])) :: (W6 ++ [(a6, .inl (cI, 3, .inl (fun _ => 0)))])) := hD
  obtain ⟨W7, eW7⟩ : ∃ W : va_W, W = (W6 ++ [(a6, .inl (cI, 3, .inl (fun _ => 0)))]) := ⟨_, rfl⟩
  rw [← eW7] at hP hD
  have eW : W7 = [(a0, .inl (cI, 16, .inl (fun _ => 0))), (a1, .inl (cI, 24, .inl (fun _ => 0))), (a2, .inl (cI, 10, .inl (fun _ => 0))), (a3, .inl (cI, 10, .inl (fun _ => 0))), (a4, .inl (cZ, 10, .inl (fun _ => 0))), (a5, .inl (cI, 2, .inl (fun _ => 0))), (a6, .inl (cI, 3, .inl (fun _ => 0)))] := by rw [eW7, eW6, eW5, eW4, eW3, eW2, eW1, eW0]; rfl
  rw [eW] at hP hD
  refine W.widen (k := 7) (n := 75) (by decide) (by decide) ?_
  have loop : ∀ mm i f H locs ls, 24 - i = mm → i ≤ 24 → (∀ j, j < i → f j = -1) → va_P D vwCl [(h0, .inr (8, [.ref a0, .ref a1, .int 0, .ref a2, .ref a3, .ref a4, .int 0, .int 0, .ref a5, .ref a6])), (a0, .inl (cI, 16, .inl (fun _ => 0))), (a1, .inl (cI, 24, .inl f)), (a2, .inl (cI, 10, .inl (fun _ => 0))), (a3, .inl (cI, 10, .inl (fun _ => 0))), (a4, .inl (cZ, 10, .inl (fun _ => 0))), (a5, .inl (cI, 2, .inl (fun _ => 0))), (a6, .inl (cI, 3, .inl (fun _ => 0)))] H → va_D (va_A [(h0, .inr (8, [.null, .null, .int 0, .null, .null, .null, .int 0, .int 0, .null, .null]))] sz) [(h0, .inr (8, [.ref a0, .ref a1, .int 0, .ref a2, .ref a3, .ref a4, .int 0, .int 0, .ref a5, .ref a6])), (a0, .inl (cI, 16, .inl (fun _ => 0))), (a1, .inl (cI, 24, .inl f)), (a2, .inl (cI, 10, .inl (fun _ => 0))), (a3, .inl (cI, 10, .inl (fun _ => 0))), (a4, .inl (cZ, 10, .inl (fun _ => 0))), (a5, .inl (cI, 2, .inl (fun _ => 0))), (a6, .inl (cI, 3, .inl (fun _ => 0)))] → va_S (va_A [(h0, .inr (8, [.null, .null, .int 0, .null, .null, .null, .int 0, .int 0, .null, .null]))] sz) s.heap H locs → lv_has ls 2 [(1, .int (nI i)), (0, .ref h0)] → W p l e (k_rm 1 7 75 12) s m ([.ref h0] : List Value).toArray below meth c H locs 7 75 (MQ below (va_Qv (fun u => ∃ a0 a1 a2 a3 a4 a5 a6 : Nat, ∃ f : Nat → Int32, (∀ j, j < 24 → f j = -1) ∧ u = [(h0, .inr (8, [.ref a0, .ref a1, .int 0, .ref a2, .ref a3, .ref a4, .int 0, .int 0, .ref a5, .ref a6])), (a0, .inl (cI, 16, .inl (fun _ => 0))), (a1, .inl (cI, 24, .inl f)), (a2, .inl (cI, 10, .inl (fun _ => 0))), (a3, .inl (cI, 10, .inl (fun _ => 0))), (a4, .inl (cZ, 10, .inl (fun _ => 0))), (a5, .inl (cI, 2, .inl (fun _ => 0))), (a6, .inl (cI, 3, .inl (fun _ => 0)))]) (kB D (va_A [(h0, .inr (8, [.null, .null, .int 0, .null, .null, .null, .int 0, .int 0, .null, .null]))] sz)) (va_A [(h0, .inr (8, [.null, .null, .int 0, .null, .null, .null, .int 0, .int 0, .null, .null]))] sz)) ([.ref h0] : List Value).toArray s 7 75 (va_A [(h0, .inr (8, [.null, .null, .int 0, .null, .null, .null, .int 0, .int 0, .null, .null]))] sz)) (F0 m 60 ls []) := by
    intro mm
    induction mm with
    | zero =>
      intro i f H locs ls hm hi hf hP hD hS hl
      have : i = 24 := by omega
      subst this
      refine lv_iload_n hx hb d_X8i_60 rfl (lv_at hl 0 rfl) ?_
      refine lv_aload_n hx hb d_X8i_61 rfl (lv_at hl 1 rfl) ?_
      refine va_get (ci := 8) (C := RX8) (T := TX8) (N := 10) hx hb hts uin_X8 hown hK hP 0 rfl rfl 1 (by decide) (hts _ wf_X8i_15) (fun _ h9 => h9) rfl d_X8i_62 ?_
      refine va_alen hx hb hK hP 2 0 rfl rfl (v := 24) rfl d_X8i_65 ?_
      refine lv_icmp_ge hx hb d_X8i_66 (tgt := 82) rfl (fun _ => ?_) (fun q => absurd (by decide) q)
      exact W.vret hx hb hr (fun t ht hW => ⟨⟨_, rfl, ⟨a0, a1, a2, a3, a4, a5, a6, f, fun j hj => hf j hj, rfl⟩, by rw [ht]; exact hP, hD⟩, hS.F ht⟩) hS.2.2 d_X8i_82 hlk
    | succ mm ih =>
      intro i f H locs ls hm hi hf hP hD hS hl
      refine lv_iload_n hx hb d_X8i_60 rfl (lv_at hl 0 rfl) ?_
      refine lv_aload_n hx hb d_X8i_61 rfl (lv_at hl 1 rfl) ?_
      refine va_get (ci := 8) (C := RX8) (T := TX8) (N := 10) hx hb hts uin_X8 hown hK hP 0 rfl rfl 1 (by decide) (hts _ wf_X8i_15) (fun _ h9 => h9) rfl d_X8i_62 ?_
      refine va_alen hx hb hK hP 2 0 rfl rfl (v := 24) rfl d_X8i_65 ?_
      refine lv_icmp_ge hx hb d_X8i_66 (tgt := 82) rfl (fun q => absurd q ?_) (fun _ => ?_)
      · rw [Int32.not_le]; exact nI_lt (b := 24) (by omega) (by omega)
      · refine lv_aload_n hx hb d_X8i_69 rfl (lv_at hl 1 rfl) ?_
        refine va_get (ci := 8) (C := RX8) (T := TX8) (N := 10) hx hb hts uin_X8 hown hK hP 0 rfl rfl 1 (by decide) (hts _ wf_X8i_15) (fun _ h9 => h9) rfl d_X8i_70 ?_
        refine lv_iload_n hx hb d_X8i_73 rfl (lv_at hl 0 rfl) ?_
        refine lv_iconst (v := -1) hx hb d_X8i_74 (by decide) ?_
        refine va_iast hx hb hK hP hD hS 2 0 rfl rfl (in_nI (by omega) (by decide)) d_X8i_75 (fun H locs hP hD hS => ?_)
        refine lv_iinc (v := nI (i + 1)) (k := 0) (lv' := [(1, .int (nI (i + 1))), (0, .ref h0)]) hx hb d_X8i_76 hl rfl (nI_1 i) (by decide) rfl (fun ls hl => ?_)
        refine lv_goto hx hb d_X8i_79 (tgt := 60) rfl ?_
        exact ih (i + 1) (upd f (Int32.toNatClampNeg (nI i)) (-1)) H locs ls (by omega) (by omega) (fun j hj => by
          rw [cl_nI (by omega)]
          by_cases c : j = i
          · rw [c, upd_s]
          · rw [upd_n _ _ c]; exact hf j (by omega)) hP hD hS hl
  refine lv_iconst (v := 0) hx hb d_X8i_58 (by decide) ?_
  refine lv_istore_n (lv' := [(1, .int (nI 0)), (0, .ref h0)]) hx hb d_X8i_59 rfl hl (by decide) rfl (fun ls hl => ?_)
  exact loop 24 0 _ _ _ ls (by omega) (by omega) (fun j hj => absurd hj (by omega)) hP hD hS hl
theorem d_X2i_0 : decode cX2_init 0 = .ok (.aload_n 0, 1) := by decide +kernel
theorem d_X2i_1 : decode cX2_init 1 = .ok (.invokespecial 3, 3) := by decide +kernel
theorem d_X2i_4 : decode cX2_init 4 = .ok (.aload_n 0, 1) := by decide +kernel
theorem d_X2i_5 : decode cX2_init 5 = .ok (.bipush 6, 2) := by decide +kernel
theorem d_X2i_7 : decode cX2_init 7 = .ok (.newarray .int, 2) := by decide +kernel
theorem d_X2i_9 : decode cX2_init 9 = .ok (.putfield 9, 3) := by decide +kernel
theorem d_X2i_12 : decode cX2_init 12 = .ok (.aload_n 0, 1) := by decide +kernel
theorem d_X2i_13 : decode cX2_init 13 = .ok (.bipush 64, 2) := by decide +kernel
theorem d_X2i_15 : decode cX2_init 15 = .ok (.newarray .int, 2) := by decide +kernel
theorem d_X2i_17 : decode cX2_init 17 = .ok (.putfield 13, 3) := by decide +kernel
theorem d_X2i_20 : decode cX2_init 20 = .ok (.aload_n 0, 1) := by decide +kernel
theorem d_X2i_21 : decode cX2_init 21 = .ok (.bipush 64, 2) := by decide +kernel
theorem d_X2i_23 : decode cX2_init 23 = .ok (.newarray .int, 2) := by decide +kernel
theorem d_X2i_25 : decode cX2_init 25 = .ok (.putfield 16, 3) := by decide +kernel
theorem d_X2i_28 : decode cX2_init 28 = .ok (.aload_n 0, 1) := by decide +kernel
theorem d_X2i_29 : decode cX2_init 29 = .ok (.aload_n 1, 1) := by decide +kernel
theorem d_X2i_30 : decode cX2_init 30 = .ok (.putfield 19, 3) := by decide +kernel
theorem d_X2i_33 : decode cX2_init 33 = .ok (.return_, 1) := by decide +kernel
theorem uin_X2 : ∀ w ∈ u_ws RX2 TX2 6, w ∈ lw_w := fun w hw => lw_w_in (ax_us_in _ (List.mem_of_getElem? (l := vwCl) (i := 2) rfl) w hw).1 (ax_us_in _ (List.mem_of_getElem? (l := vwCl) (i := 2) rfl) w hw).2
theorem wf_X2i_13 : Cond.fieldLink RX2 13 RX2 "ratings" "[I" ∈ lw_w := lw_w_in (by decide +kernel) rfl
theorem wf_X2i_16 : Cond.fieldLink RX2 16 RX2 "added" "[I" ∈ lw_w := lw_w_in (by decide +kernel) rfl
theorem wf_X2i_19 : Cond.fieldLink RX2 19 RX2 "asks" "LPlateHire$Asks;" ∈ lw_w := lw_w_in (by decide +kernel) rfl
theorem wf_X2i_9 : Cond.fieldLink RX2 9 RX2 "sets" "[I" ∈ lw_w := lw_w_in (by decide +kernel) rfl
theorem wo_X2i : Cond.methodLink RX2 3 Lib.objectInit ∈ lw_w := lw_w_in (by decide +kernel) rfl
set_option maxHeartbeats 4000000 in
set_option maxRecDepth 100000 in
theorem c_X2i (l : Launch) (D : va_G) (cI cZ : ClassId) (h0 sz : Nat) (r1 : Nat) : Met l yX2_init (Cond.code yX2_init cX2_init 2 none :: lw_w) (k_rm 1 3 134 12) (va_Pc [.ref h0, .ref r1] (kPre D cI cZ h0 (.inr (2, [.null, .null, .int 0, .null, .null, .int 0])) sz)) (va_Qv (fun u => ∃ a0 a1 a2 : Nat, u = [(h0, .inr (2, [.ref r1, .ref a0, .int 0, .ref a1, .ref a2, .int 0])), (a0, .inl (cI, 6, .inl (fun _ => 0))), (a1, .inl (cI, 64, .inl (fun _ => 0))), (a2, .inl (cI, 64, .inl (fun _ => 0)))]) (kB D (va_A [(h0, .inr (2, [.null, .null, .int 0, .null, .null, .int 0]))] sz)) (va_A [(h0, .inr (2, [.null, .null, .int 0, .null, .null, .int 0]))] sz)) 3 134 (va_A [(h0, .inr (2, [.null, .null, .int 0, .null, .null, .int 0]))] sz) := by
  refine k_met (by decide) (Nat.le_of_ble_eq_true rfl) ?_
  intro p e s m below meth c ls ⟨hx, hb, hml, hown, hts, hr, hlk, hin, hK, hl⟩ hP hD hS hA
  have hl : lv_has ls 2 [(0, .ref h0), (1, .ref r1)] := hl
  obtain ⟨W0, eW0⟩ : ∃ W : va_W, W = [] := ⟨_, rfl⟩
  have hP : va_P D vwCl ((h0, .inr (2, [.null, .null, .int 0, .null, .null, .int 0])) :: W0) s.heap := by rw [eW0]; exact hP
  have hD : va_D (va_A [(h0, .inr (2, [.null, .null, .int 0, .null, .null, .int 0]))] sz) ((h0, .inr (2, [.null, .null, .int 0, .null, .null, .int 0])) :: W0) := by rw [eW0]; exact hD
  refine lv_aload_n hx hb d_X2i_0 rfl (lv_at hl 0 rfl) ?_
  refine W.objInit hx hb hown (hts _ wo_X2i) (hts _ w_obi) (hts _ w_obc) rfl (by rw [hml]; exact hl.1) rfl d_X2i_1 (Nat.le_of_ble_eq_true rfl) (Nat.le_of_ble_eq_true rfl) ?_
  refine W.eq (g2 := F0 m 4 ls []) rfl ?_
  refine lv_aload_n hx hb d_X2i_4 rfl (lv_at hl 0 rfl) ?_
  refine lv_bipush (v := 6) hx hb d_X2i_5 (by decide) ?_
  refine k_newI hx hb hts hK hP hD hS hA 6 (by decide) (by decide) (by decide) (by decide) (by decide) d_X2i_7 (fun a0 H hP hD hS => ?_)
  refine va_putF (D := D) (ci := 2) (v := .ref a0) (ty := .array .int) (C := RX2) (T := TX2) (N := 6) hx hb hts uin_X2 tyX2 tyX2_ok nmX2 hown hK hP hD hS 0 rfl rfl 1 (by decide) (hts _ wf_X2i_9) (fun _ h9 => h9) rfl hin rfl rfl rfl rfl (Nat.le_of_ble_eq_true rfl) d_X2i_9 (fun H locs hP hD hS => ?_)
  have hP : va_P D vwCl ((h0, .inr (2, [.null, .ref a0, .int 0, .null, .null, .int 0])) :: (W0 ++ [(a0, .inl (cI, 6, .inl (fun _ => 0)))])) H := hP
  have hD : va_D (va_A [(h0, .inr (2, [.null, .null, .int 0, .null, .null, .int 0]))] sz) ((h0, .inr (2, [.null, .ref a0, .int 0, .null, .null, .int 0])) :: (W0 ++ [(a0, .inl (cI, 6, .inl (fun _ => 0)))])) := hD
  obtain ⟨W1, eW1⟩ : ∃ W : va_W, W = (W0 ++ [(a0, .inl (cI, 6, .inl (fun _ => 0)))]) := ⟨_, rfl⟩
  rw [← eW1] at hP hD
  refine lv_aload_n hx hb d_X2i_12 rfl (lv_at hl 0 rfl) ?_
  refine lv_bipush (v := 64) hx hb d_X2i_13 (by decide) ?_
  refine k_newI hx hb hts hK hP hD hS hA 64 (by decide) (by decide) (by decide) (by decide) (by decide) d_X2i_15 (fun a1 H hP hD hS => ?_)
  refine va_putF (D := D) (ci := 2) (v := .ref a1) (ty := .array .int) (C := RX2) (T := TX2) (N := 6) hx hb hts uin_X2 tyX2 tyX2_ok nmX2 hown hK hP hD hS 0 rfl rfl 3 (by decide) (hts _ wf_X2i_13) (fun _ h9 => h9) rfl hin rfl rfl rfl rfl (Nat.le_of_ble_eq_true rfl) d_X2i_17 (fun H locs hP hD hS => ?_)
  have hP : va_P D vwCl ((h0, .inr (2, [.null, .ref a0, .int 0, .ref a1, .null, .int 0])) :: (W1 ++ [(a1, .inl (cI, 64, .inl (fun _ => 0)))])) H := hP
  have hD : va_D (va_A [(h0, .inr (2, [.null, .null, .int 0, .null, .null, .int 0]))] sz) ((h0, .inr (2, [.null, .ref a0, .int 0, .ref a1, .null, .int 0])) :: (W1 ++ [(a1, .inl (cI, 64, .inl (fun _ => 0)))])) := hD
  obtain ⟨W2, eW2⟩ : ∃ W : va_W, W = (W1 ++ [(a1, .inl (cI, 64, .inl (fun _ => 0)))]) := ⟨_, rfl⟩
  rw [← eW2] at hP hD
  refine lv_aload_n hx hb d_X2i_20 rfl (lv_at hl 0 rfl) ?_
  refine lv_bipush (v := 64) hx hb d_X2i_21 (by decide) ?_
  refine k_newI hx hb hts hK hP hD hS hA 64 (by decide) (by decide) (by decide) (by decide) (by decide) d_X2i_23 (fun a2 H hP hD hS => ?_)
  refine va_putF (D := D) (ci := 2) (v := .ref a2) (ty := .array .int) (C := RX2) (T := TX2) (N := 6) hx hb hts uin_X2 tyX2 tyX2_ok nmX2 hown hK hP hD hS 0 rfl rfl 4 (by decide) (hts _ wf_X2i_16) (fun _ h9 => h9) rfl hin rfl rfl rfl rfl (Nat.le_of_ble_eq_true rfl) d_X2i_25 (fun H locs hP hD hS => ?_)
  have hP : va_P D vwCl ((h0, .inr (2, [.null, .ref a0, .int 0, .ref a1, .ref a2, .int 0])) :: (W2 ++ [(a2, .inl (cI, 64, .inl (fun _ => 0)))])) H := hP
  have hD : va_D (va_A [(h0, .inr (2, [.null, .null, .int 0, .null, .null, .int 0]))] sz) ((h0, .inr (2, [.null, .ref a0, .int 0, .ref a1, .ref a2, .int 0])) :: (W2 ++ [(a2, .inl (cI, 64, .inl (fun _ => 0)))])) := hD
  obtain ⟨W3, eW3⟩ : ∃ W : va_W, W = (W2 ++ [(a2, .inl (cI, 64, .inl (fun _ => 0)))]) := ⟨_, rfl⟩
  rw [← eW3] at hP hD
  refine lv_aload_n hx hb d_X2i_28 rfl (lv_at hl 0 rfl) ?_
  refine lv_aload_n hx hb d_X2i_29 rfl (lv_at hl 1 rfl) ?_
  refine va_putF (D := D) (ci := 2) (v := .ref r1) (ty := .object "PlateHire$Asks") (C := RX2) (T := TX2) (N := 6) hx hb hts uin_X2 tyX2 tyX2_ok nmX2 hown hK hP hD hS 0 rfl rfl 0 (by decide) (hts _ wf_X2i_19) (fun _ h9 => h9) rfl hin rfl rfl rfl rfl (Nat.le_of_ble_eq_true rfl) d_X2i_30 (fun H locs hP hD hS => ?_)
  have hP : va_P D vwCl ((h0, .inr (2, [.ref r1, .ref a0, .int 0, .ref a1, .ref a2, .int 0])) :: W3) H := hP
  have hD : va_D (va_A [(h0, .inr (2, [.null, .null, .int 0, .null, .null, .int 0]))] sz) ((h0, .inr (2, [.ref r1, .ref a0, .int 0, .ref a1, .ref a2, .int 0])) :: W3) := hD
  refine W.widen (k := 3) (n := 134) (by decide) (by decide) ?_
  exact W.vret hx hb hr (fun t ht hW => ⟨⟨_, rfl, ⟨a0, a1, a2, by rw [eW3, eW2, eW1, eW0]; rfl⟩, by rw [ht]; exact hP, hD⟩, hS.F ht⟩) hS.2.2 d_X2i_33 hlk
