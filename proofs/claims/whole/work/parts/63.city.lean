/-! making a city. Written by wip/whole/gen/gen_ctor.py -/
theorem d_X1i_0 : decode cX1_init 0 = .ok (.aload_n 0, 1) := by decide +kernel
theorem d_X1i_1 : decode cX1_init 1 = .ok (.invokespecial 5, 3) := by decide +kernel
theorem d_X1i_4 : decode cX1_init 4 = .ok (.aload_n 0, 1) := by decide +kernel
theorem d_X1i_5 : decode cX1_init 5 = .ok (.bipush 12, 2) := by decide +kernel
theorem d_X1i_7 : decode cX1_init 7 = .ok (.newarray .int, 2) := by decide +kernel
theorem d_X1i_9 : decode cX1_init 9 = .ok (.putfield 11, 3) := by decide +kernel
theorem d_X1i_12 : decode cX1_init 12 = .ok (.aload_n 0, 1) := by decide +kernel
theorem d_X1i_13 : decode cX1_init 13 = .ok (.bipush 12, 2) := by decide +kernel
theorem d_X1i_15 : decode cX1_init 15 = .ok (.newarray .int, 2) := by decide +kernel
theorem d_X1i_17 : decode cX1_init 17 = .ok (.putfield 15, 3) := by decide +kernel
theorem d_X1i_20 : decode cX1_init 20 = .ok (.aload_n 0, 1) := by decide +kernel
theorem d_X1i_21 : decode cX1_init 21 = .ok (.bipush 12, 2) := by decide +kernel
theorem d_X1i_23 : decode cX1_init 23 = .ok (.newarray .int, 2) := by decide +kernel
theorem d_X1i_25 : decode cX1_init 25 = .ok (.putfield 18, 3) := by decide +kernel
theorem d_X1i_28 : decode cX1_init 28 = .ok (.aload_n 0, 1) := by decide +kernel
theorem d_X1i_29 : decode cX1_init 29 = .ok (.bipush 16, 2) := by decide +kernel
theorem d_X1i_31 : decode cX1_init 31 = .ok (.newarray .int, 2) := by decide +kernel
theorem d_X1i_33 : decode cX1_init 33 = .ok (.putfield 21, 3) := by decide +kernel
theorem d_X1i_36 : decode cX1_init 36 = .ok (.aload_n 0, 1) := by decide +kernel
theorem d_X1i_37 : decode cX1_init 37 = .ok (.bipush 16, 2) := by decide +kernel
theorem d_X1i_39 : decode cX1_init 39 = .ok (.newarray .int, 2) := by decide +kernel
theorem d_X1i_41 : decode cX1_init 41 = .ok (.putfield 24, 3) := by decide +kernel
theorem d_X1i_44 : decode cX1_init 44 = .ok (.aload_n 0, 1) := by decide +kernel
theorem d_X1i_45 : decode cX1_init 45 = .ok (.bipush 15, 2) := by decide +kernel
theorem d_X1i_47 : decode cX1_init 47 = .ok (.newarray .int, 2) := by decide +kernel
theorem d_X1i_49 : decode cX1_init 49 = .ok (.putfield 27, 3) := by decide +kernel
theorem d_X1i_52 : decode cX1_init 52 = .ok (.aload_n 0, 1) := by decide +kernel
theorem d_X1i_53 : decode cX1_init 53 = .ok (.iconst 5, 1) := by decide +kernel
theorem d_X1i_54 : decode cX1_init 54 = .ok (.newarray .int, 2) := by decide +kernel
theorem d_X1i_56 : decode cX1_init 56 = .ok (.putfield 30, 3) := by decide +kernel
theorem d_X1i_59 : decode cX1_init 59 = .ok (.aload_n 0, 1) := by decide +kernel
theorem d_X1i_60 : decode cX1_init 60 = .ok (.bipush 12, 2) := by decide +kernel
theorem d_X1i_62 : decode cX1_init 62 = .ok (.newarray .boolean, 2) := by decide +kernel
theorem d_X1i_64 : decode cX1_init 64 = .ok (.putfield 33, 3) := by decide +kernel
theorem d_X1i_67 : decode cX1_init 67 = .ok (.aload_n 0, 1) := by decide +kernel
theorem d_X1i_68 : decode cX1_init 68 = .ok (.aload_n 1, 1) := by decide +kernel
theorem d_X1i_69 : decode cX1_init 69 = .ok (.putfield 37, 3) := by decide +kernel
theorem d_X1i_72 : decode cX1_init 72 = .ok (.aload_n 0, 1) := by decide +kernel
theorem d_X1i_73 : decode cX1_init 73 = .ok (.aload_n 2, 1) := by decide +kernel
theorem d_X1i_74 : decode cX1_init 74 = .ok (.putfield 41, 3) := by decide +kernel
theorem d_X1i_77 : decode cX1_init 77 = .ok (.aload_n 0, 1) := by decide +kernel
theorem d_X1i_78 : decode cX1_init 78 = .ok (.aload_n 3, 1) := by decide +kernel
theorem d_X1i_79 : decode cX1_init 79 = .ok (.putfield 45, 3) := by decide +kernel
theorem d_X1i_82 : decode cX1_init 82 = .ok (.aload_n 0, 1) := by decide +kernel
theorem d_X1i_83 : decode cX1_init 83 = .ok (.aload 4, 2) := by decide +kernel
theorem d_X1i_85 : decode cX1_init 85 = .ok (.putfield 49, 3) := by decide +kernel
theorem d_X1i_88 : decode cX1_init 88 = .ok (.aload_n 0, 1) := by decide +kernel
theorem d_X1i_89 : decode cX1_init 89 = .ok (.aload 5, 2) := by decide +kernel
theorem d_X1i_91 : decode cX1_init 91 = .ok (.putfield 53, 3) := by decide +kernel
theorem d_X1i_94 : decode cX1_init 94 = .ok (.iconst 0, 1) := by decide +kernel
theorem d_X1i_95 : decode cX1_init 95 = .ok (.istore 6, 2) := by decide +kernel
theorem d_X1i_97 : decode cX1_init 97 = .ok (.iload 6, 2) := by decide +kernel
theorem d_X1i_99 : decode cX1_init 99 = .ok (.bipush 12, 2) := by decide +kernel
theorem d_X1i_101 : decode cX1_init 101 = .ok (.if_icmp .ge 17, 3) := by decide +kernel
theorem d_X1i_104 : decode cX1_init 104 = .ok (.aload_n 0, 1) := by decide +kernel
theorem d_X1i_105 : decode cX1_init 105 = .ok (.getfield 11, 3) := by decide +kernel
theorem d_X1i_108 : decode cX1_init 108 = .ok (.iload 6, 2) := by decide +kernel
theorem d_X1i_110 : decode cX1_init 110 = .ok (.iconst (-1), 1) := by decide +kernel
theorem d_X1i_111 : decode cX1_init 111 = .ok (.iastore, 1) := by decide +kernel
theorem d_X1i_112 : decode cX1_init 112 = .ok (.iinc 6 1, 3) := by decide +kernel
theorem d_X1i_115 : decode cX1_init 115 = .ok (.goto (-18), 3) := by decide +kernel
theorem d_X1i_118 : decode cX1_init 118 = .ok (.return_, 1) := by decide +kernel
theorem uin_X1 : ∀ w ∈ u_ws RX1 TX1 18, w ∈ lw_w := fun w hw => lw_w_in (ax_us_in _ (List.mem_of_getElem? (l := vwCl) (i := 1) rfl) w hw).1 (ax_us_in _ (List.mem_of_getElem? (l := vwCl) (i := 1) rfl) w hw).2
theorem wf_X1i_11 : Cond.fieldLink RX1 11 RX1 "where" "[I" ∈ lw_w := lw_w_in (by decide +kernel) rfl
theorem wf_X1i_15 : Cond.fieldLink RX1 15 RX1 "hours" "[I" ∈ lw_w := lw_w_in (by decide +kernel) rfl
theorem wf_X1i_18 : Cond.fieldLink RX1 18 RX1 "took" "[I" ∈ lw_w := lw_w_in (by decide +kernel) rfl
theorem wf_X1i_21 : Cond.fieldLink RX1 21 RX1 "driverHours" "[I" ∈ lw_w := lw_w_in (by decide +kernel) rfl
theorem wf_X1i_24 : Cond.fieldLink RX1 24 RX1 "earned" "[I" ∈ lw_w := lw_w_in (by decide +kernel) rfl
theorem wf_X1i_27 : Cond.fieldLink RX1 27 RX1 "waiting" "[I" ∈ lw_w := lw_w_in (by decide +kernel) rfl
theorem wf_X1i_30 : Cond.fieldLink RX1 30 RX1 "turns" "[I" ∈ lw_w := lw_w_in (by decide +kernel) rfl
theorem wf_X1i_33 : Cond.fieldLink RX1 33 RX1 "roams" "[Z" ∈ lw_w := lw_w_in (by decide +kernel) rfl
theorem wf_X1i_37 : Cond.fieldLink RX1 37 RX1 "plates" "LPlateHire$Plates;" ∈ lw_w := lw_w_in (by decide +kernel) rfl
theorem wf_X1i_41 : Cond.fieldLink RX1 41 RX1 "roster" "LPlateHire$Roster;" ∈ lw_w := lw_w_in (by decide +kernel) rfl
theorem wf_X1i_45 : Cond.fieldLink RX1 45 RX1 "meter" "LPlateHire$Meter;" ∈ lw_w := lw_w_in (by decide +kernel) rfl
theorem wf_X1i_49 : Cond.fieldLink RX1 49 RX1 "asks" "LPlateHire$Asks;" ∈ lw_w := lw_w_in (by decide +kernel) rfl
theorem wf_X1i_53 : Cond.fieldLink RX1 53 RX1 "kept" "LPlateHire$Rides;" ∈ lw_w := lw_w_in (by decide +kernel) rfl
theorem wo_X1i : Cond.methodLink RX1 5 Lib.objectInit ∈ lw_w := lw_w_in (by decide +kernel) rfl
set_option maxHeartbeats 4000000 in
set_option maxRecDepth 100000 in
theorem c_X1i (l : Launch) (D : va_G) (cI cZ : ClassId) (h0 sz : Nat) (r1 r2 r3 r4 r5 : Nat) : Met l yX1_init (Cond.code yX1_init cX1_init 7 none :: lw_w) (k_rm 1 8 100 12) (va_Pc [.ref h0, .ref r1, .ref r2, .ref r3, .ref r4, .ref r5] (kPre D cI cZ h0 (.inr (1, [.null, .null, .null, .null, .null, .null, .null, .null, .null, .null, .null, .null, .null, .int 0, .int 0, .int 0, .int 0, .int 0])) sz)) (va_Qv (fun u => ∃ a0 a1 a2 a3 a4 a5 a6 a7 : Nat, ∃ f : Nat → Int32, (∀ j, j < 12 → f j = -1) ∧ u = [(h0, .inr (1, [.ref r1, .ref r2, .ref r3, .ref r4, .ref r5, .ref a0, .ref a1, .ref a2, .ref a3, .ref a4, .ref a5, .ref a6, .ref a7, .int 0, .int 0, .int 0, .int 0, .int 0])), (a0, .inl (cI, 12, .inl f)), (a1, .inl (cI, 12, .inl (fun _ => 0))), (a2, .inl (cI, 12, .inl (fun _ => 0))), (a3, .inl (cI, 16, .inl (fun _ => 0))), (a4, .inl (cI, 16, .inl (fun _ => 0))), (a5, .inl (cI, 15, .inl (fun _ => 0))), (a6, .inl (cI, 5, .inl (fun _ => 0))), (a7, .inl (cZ, 12, .inl (fun _ => 0)))]) (kB D (va_A [(h0, .inr (1, [.null, .null, .null, .null, .null, .null, .null, .null, .null, .null, .null, .null, .null, .int 0, .int 0, .int 0, .int 0, .int 0]))] sz)) (va_A [(h0, .inr (1, [.null, .null, .null, .null, .null, .null, .null, .null, .null, .null, .null, .null, .null, .int 0, .int 0, .int 0, .int 0, .int 0]))] sz)) 8 100 (va_A [(h0, .inr (1, [.null, .null, .null, .null, .null, .null, .null, .null, .null, .null, .null, .null, .null, .int 0, .int 0, .int 0, .int 0, .int 0]))] sz) := by
  refine k_met (by decide) (Nat.le_of_ble_eq_true rfl) ?_
  intro p e s m below meth c ls ⟨hx, hb, hml, hown, hts, hr, hlk, hin, hK, hl⟩ hP hD hS hA
  have hl : lv_has ls 7 [(0, .ref h0), (1, .ref r1), (2, .ref r2), (3, .ref r3), (4, .ref r4), (5, .ref r5)] := hl
  obtain ⟨W0, eW0⟩ : ∃ W : va_W, W = [] := ⟨_, rfl⟩
  have hP : va_P D vwCl ((h0, .inr (1, [.null, .null, .null, .null, .null, .null, .null, .null, .null, .null, .null, .null, .null, .int 0, .int 0, .int 0, .int 0, .int 0])) :: W0) s.heap := by rw [eW0]; exact hP
  have hD : va_D (va_A [(h0, .inr (1, [.null, .null, .null, .null, .null, .null, .null, .null, .null, .null, .null, .null, .null, .int 0, .int 0, .int 0, .int 0, .int 0]))] sz) ((h0, .inr (1, [.null, .null, .null, .null, .null, .null, .null, .null, .null, .null, .null, .null, .null, .int 0, .int 0, .int 0, .int 0, .int 0])) :: W0) := by rw [eW0]; exact hD
  refine lv_aload_n hx hb d_X1i_0 rfl (lv_at hl 0 rfl) ?_
  refine W.objInit hx hb hown (hts _ wo_X1i) (hts _ w_obi) (hts _ w_obc) rfl (by rw [hml]; exact hl.1) rfl d_X1i_1 (Nat.le_of_ble_eq_true rfl) (Nat.le_of_ble_eq_true rfl) ?_
  refine W.eq (g2 := F0 m 4 ls []) rfl ?_
  refine lv_aload_n hx hb d_X1i_4 rfl (lv_at hl 0 rfl) ?_
  refine lv_bipush (v := 12) hx hb d_X1i_5 (by decide) ?_
  refine k_newI hx hb hts hK hP hD hS hA 12 (by decide) (by decide) (by decide) (by decide) (by decide) d_X1i_7 (fun a0 H hP hD hS => ?_)
  refine va_putF (D := D) (ci := 1) (v := .ref a0) (ty := .array .int) (C := RX1) (T := TX1) (N := 18) hx hb hts uin_X1 tyX1 tyX1_ok nmX1 hown hK hP hD hS 0 rfl rfl 5 (by decide) (hts _ wf_X1i_11) (fun _ h9 => h9) rfl hin rfl rfl rfl rfl (Nat.le_of_ble_eq_true rfl) d_X1i_9 (fun H locs hP hD hS => ?_)
  have hP : va_P D vwCl ((h0, .inr (1, [.null, .null, .null, .null, .null, .ref a0, .null, .null, .null, .null, .null, .null, .null, .int 0, .int 0, .int 0, .int 0, .int 0])) :: (W0 ++ [(a0, .inl (cI, 12, .inl (fun _ => 0)))])) H := hP
  have hD : va_D (va_A [(h0, .inr (1, [.null, .null, .null, .null, .null, .null, .null, .null, .null, .null, .null, .null, .null, .int 0, .int 0, .int 0, .int 0, .int 0]))] sz) ((h0, .inr (1, [.null, .null, .null, .null, .null, .ref a0, .null, .null, .null, .null, .null, .null, .null, .int 0, .int 0, .int 0, .int 0, .int 0])) :: (W0 ++ [(a0, .inl (cI, 12, .inl (fun _ => 0)))])) := hD
  obtain ⟨W1, eW1⟩ : ∃ W : va_W, W = (W0 ++ [(a0, .inl (cI, 12, .inl (fun _ => 0)))]) := ⟨_, rfl⟩
  rw [← eW1] at hP hD
  refine lv_aload_n hx hb d_X1i_12 rfl (lv_at hl 0 rfl) ?_
  refine lv_bipush (v := 12) hx hb d_X1i_13 (by decide) ?_
  refine k_newI hx hb hts hK hP hD hS hA 12 (by decide) (by decide) (by decide) (by decide) (by decide) d_X1i_15 (fun a1 H hP hD hS => ?_)
  refine va_putF (D := D) (ci := 1) (v := .ref a1) (ty := .array .int) (C := RX1) (T := TX1) (N := 18) hx hb hts uin_X1 tyX1 tyX1_ok nmX1 hown hK hP hD hS 0 rfl rfl 6 (by decide) (hts _ wf_X1i_15) (fun _ h9 => h9) rfl hin rfl rfl rfl rfl (Nat.le_of_ble_eq_true rfl) d_X1i_17 (fun H locs hP hD hS => ?_)
  have hP : va_P D vwCl ((h0, .inr (1, [.null, .null, .null, .null, .null, .ref a0, .ref a1, .null, .null, .null, .null, .null, .null, .int 0, .int 0, .int 0, .int 0, .int 0])) :: (W1 ++ [(a1, .inl (cI, 12, .inl (fun _ => 0)))])) H := hP
  have hD : va_D (va_A [(h0, .inr (1, [.null, .null, .null, .null, .null, .null, .null, .null, .null, .null, .null, .null, .null, .int 0, .int 0, .int 0, .int 0, .int 0]))] sz) ((h0, .inr (1, [.null, .null, .null, .null, .null, .ref a0, .ref a1, .null, .null, .null, .null, .null, .null, .int 0, .int 0, .int 0, .int 0, .int 0])) :: (W1 ++ [(a1, .inl (cI, 12, .inl (fun _ => 0)))])) := hD
  obtain ⟨W2, eW2⟩ : ∃ W : va_W, W = (W1 ++ [(a1, .inl (cI, 12, .inl (fun _ => 0)))]) := ⟨_, rfl⟩
  rw [← eW2] at hP hD
  refine lv_aload_n hx hb d_X1i_20 rfl (lv_at hl 0 rfl) ?_
  refine lv_bipush (v := 12) hx hb d_X1i_21 (by decide) ?_
  refine k_newI hx hb hts hK hP hD hS hA 12 (by decide) (by decide) (by decide) (by decide) (by decide) d_X1i_23 (fun a2 H hP hD hS => ?_)
  refine va_putF (D := D) (ci := 1) (v := .ref a2) (ty := .array .int) (C := RX1) (T := TX1) (N := 18) hx hb hts uin_X1 tyX1 tyX1_ok nmX1 hown hK hP hD hS 0 rfl rfl 7 (by decide) (hts _ wf_X1i_18) (fun _ h9 => h9) rfl hin rfl rfl rfl rfl (Nat.le_of_ble_eq_true rfl) d_X1i_25 (fun H locs hP hD hS => ?_)
  have hP : va_P D vwCl ((h0, .inr (1, [.null, .null, .null, .null, .null, .ref a0, .ref a1, .ref a2, .null, .null, .null, .null, .null, .int 0, .int 0, .int 0, .int 0, .int 0])) :: (W2 ++ [(a2, .inl (cI, 12, .inl (fun _ => 0)))])) H := hP
  have hD : va_D (va_A [(h0, .inr (1, [.null, .null, .null, .null, .null, .null, .null, .null, .null, .null, .null, .null, .null, .int 0, .int 0, .int 0, .int 0, .int 0]))] sz) ((h0, .inr (1, [.null, .null, .null, .null, .null, .ref a0, .ref a1, .ref a2, .null, .null, .null, .null, .null, .int 0, .int 0, .int 0, .int 0, .int 0])) :: (W2 ++ [(a2, .inl (cI, 12, .inl (fun _ => 0)))])) := hD
  obtain ⟨W3, eW3⟩ : ∃ W : va_W, W = (W2 ++ [(a2, .inl (cI, 12, .inl (fun _ => 0)))]) := ⟨_, rfl⟩
  rw [← eW3] at hP hD
  refine lv_aload_n hx hb d_X1i_28 rfl (lv_at hl 0 rfl) ?_
  refine lv_bipush (v := 16) hx hb d_X1i_29 (by decide) ?_
  refine k_newI hx hb hts hK hP hD hS hA 16 (by decide) (by decide) (by decide) (by decide) (by decide) d_X1i_31 (fun a3 H hP hD hS => ?_)
  refine va_putF (D := D) (ci := 1) (v := .ref a3) (ty := .array .int) (C := RX1) (T := TX1) (N := 18) hx hb hts uin_X1 tyX1 tyX1_ok nmX1 hown hK hP hD hS 0 rfl rfl 8 (by decide) (hts _ wf_X1i_21) (fun _ h9 => h9) rfl hin rfl rfl rfl rfl (Nat.le_of_ble_eq_true rfl) d_X1i_33 (fun H locs hP hD hS => ?_)
  have hP : va_P D vwCl ((h0, .inr (1, [.null, .null, .null, .null, .null, .ref a0, .ref a1, .ref a2, .ref a3, .null, .null, .null, .null, .int 0, .int 0, .int 0, .int 0, .int 0])) :: (W3 ++ [(a3, .inl (cI, 16, .inl (fun _ => 0)))])) H := hP
  have hD : va_D (va_A [(h0, .inr (1, [.null, .null, .null, .null, .null, .null, .null, .null, .null, .null, .null, .null, .null, .int 0, .int 0, .int 0, .int 0, .int 0]))] sz) ((h0, .inr (1, [.null, .null, .null, .null, .null, .ref a0, .ref a1, .ref a2, .ref a3, .null, .null, .null, .null, .int 0, .int 0, .int 0, .int 0, .int 0])) :: (W3 ++ [(a3, .inl (cI, 16, .inl (fun _ => 0)))])) := hD
  obtain ⟨W4, eW4⟩ : ∃ W : va_W, W = (W3 ++ [(a3, .inl (cI, 16, .inl (fun _ => 0)))]) := ⟨_, rfl⟩
  rw [← eW4] at hP hD
  refine lv_aload_n hx hb d_X1i_36 rfl (lv_at hl 0 rfl) ?_
  refine lv_bipush (v := 16) hx hb d_X1i_37 (by decide) ?_
  refine k_newI hx hb hts hK hP hD hS hA 16 (by decide) (by decide) (by decide) (by decide) (by decide) d_X1i_39 (fun a4 H hP hD hS => ?_)
  refine va_putF (D := D) (ci := 1) (v := .ref a4) (ty := .array .int) (C := RX1) (T := TX1) (N := 18) hx hb hts uin_X1 tyX1 tyX1_ok nmX1 hown hK hP hD hS 0 rfl rfl 9 (by decide) (hts _ wf_X1i_24) (fun _ h9 => h9) rfl hin rfl rfl rfl rfl (Nat.le_of_ble_eq_true rfl) d_X1i_41 (fun H locs hP hD hS => ?_)
  have hP : va_P D vwCl ((h0, .inr (1, [.null, .null, .null, .null, .null, .ref a0, .ref a1, .ref a2, .ref a3, .ref a4, .null, .null, .null, .int 0, .int 0, .int 0, .int 0, .int 0])) :: (W4 ++ [(a4, .inl (cI, 16, .inl (fun _ => 0)))])) H := hP
  have hD : va_D (va_A [(h0, .inr (1, [.null, .null, .null, .null, .null, .null, .null, .null, .null, .null, .null, .null, .null, .int 0, .int 0, .int 0, .int 0, .int 0]))] sz) ((h0, .inr (1, [.null, .null, .null, .null, .null, .ref a0, .ref a1, .ref a2, .ref a3, .ref a4, .null, .null, .null, .int 0, .int 0, .int 0, .int 0, .int 0])) :: (W4 ++ [(a4, .inl (cI, 16, .inl (fun _ => 0)))])) := hD
  obtain ⟨W5, eW5⟩ : ∃ W : va_W, W = (W4 ++ [(a4, .inl (cI, 16, .inl (fun _ => 0)))]) := ⟨_, rfl⟩
  rw [← eW5] at hP hD
  refine lv_aload_n hx hb d_X1i_44 rfl (lv_at hl 0 rfl) ?_
  refine lv_bipush (v := 15) hx hb d_X1i_45 (by decide) ?_
  refine k_newI hx hb hts hK hP hD hS hA 15 (by decide) (by decide) (by decide) (by decide) (by decide) d_X1i_47 (fun a5 H hP hD hS => ?_)
  refine va_putF (D := D) (ci := 1) (v := .ref a5) (ty := .array .int) (C := RX1) (T := TX1) (N := 18) hx hb hts uin_X1 tyX1 tyX1_ok nmX1 hown hK hP hD hS 0 rfl rfl 10 (by decide) (hts _ wf_X1i_27) (fun _ h9 => h9) rfl hin rfl rfl rfl rfl (Nat.le_of_ble_eq_true rfl) d_X1i_49 (fun H locs hP hD hS => ?_)
  have hP : va_P D vwCl ((h0, .inr (1, [.null, .null, .null, .null, .null, .ref a0, .ref a1, .ref a2, .ref a3, .ref a4, .ref a5, .null, .null, .int 0, .int 0, .int 0, .int 0, .int 0])) :: (W5 ++ [(a5, .inl (cI, 15, .inl (fun _ => 0)))])) H := hP
  have hD : va_D (va_A [(h0, .inr (1, [.null, .null, .null, .null, .null, .null, .null, .null, .null, .null, .null, .null, .null, .int 0, .int 0, .int 0, .int 0, .int 0]))] sz) ((h0, .inr (1, [.null, .null, .null, .null, .null, .ref a0, .ref a1, .ref a2, .ref a3, .ref a4, .ref a5, .null, .null, .int 0, .int 0, .int 0, .int 0, .int 0])) :: (W5 ++ [(a5, .inl (cI, 15, .inl (fun _ => 0)))])) := hD
  obtain ⟨W6, eW6⟩ : ∃ W : va_W, W = (W5 ++ [(a5, .inl (cI, 15, .inl (fun _ => 0)))]) := ⟨_, rfl⟩
  rw [← eW6] at hP hD
  refine lv_aload_n hx hb d_X1i_52 rfl (lv_at hl 0 rfl) ?_
  refine lv_iconst (v := 5) hx hb d_X1i_53 (by decide) ?_
  refine k_newI hx hb hts hK hP hD hS hA 5 (by decide) (by decide) (by decide) (by decide) (by decide) d_X1i_54 (fun a6 H hP hD hS => ?_)
  refine va_putF (D := D) (ci := 1) (v := .ref a6) (ty := .array .int) (C := RX1) (T := TX1) (N := 18) hx hb hts uin_X1 tyX1 tyX1_ok nmX1 hown hK hP hD hS 0 rfl rfl 11 (by decide) (hts _ wf_X1i_30) (fun _ h9 => h9) rfl hin rfl rfl rfl rfl (Nat.le_of_ble_eq_true rfl) d_X1i_56 (fun H locs hP hD hS => ?_)
  have hP : va_P D vwCl ((h0, .inr (1, [.null, .null, .null, .null, .null, .ref a0, .ref a1, .ref a2, .ref a3, .ref a4, .ref a5, .ref a6, .null, .int 0, .int 0, .int 0, .int 0, .int 0])) :: (W6 ++ [(a6, .inl (cI, 5, .inl (fun _ => 0)))])) H := hP
  have hD : va_D (va_A [(h0, .inr (1, [.null, .null, .null, .null, .null, .null, .null, .null, .null, .null, .null, .null, .null, .int 0, .int 0, .int 0, .int 0, .int 0]))] sz) ((h0, .inr (1, [.null, .null, .null, .null, .null, .ref a0, .ref a1, .ref a2, .ref a3, .ref a4, .ref a5, .ref a6, .null, .int 0, .int 0, .int 0, .int 0, .int 0])) :: (W6 ++ [(a6, .inl (cI, 5, .inl (fun _ => 0)))])) := hD
  obtain ⟨W7, eW7⟩ : ∃ W : va_W, W = (W6 ++ [(a6, .inl (cI, 5, .inl (fun _ => 0)))]) := ⟨_, rfl⟩
  rw [← eW7] at hP hD
  refine lv_aload_n hx hb d_X1i_59 rfl (lv_at hl 0 rfl) ?_
  refine lv_bipush (v := 12) hx hb d_X1i_60 (by decide) ?_
  refine k_newZ hx hb hts hK hP hD hS hA 12 (by decide) (by decide) (by decide) (by decide) (by decide) d_X1i_62 (fun a7 H hP hD hS => ?_)
  refine va_putF (D := D) (ci := 1) (v := .ref a7) (ty := .array .boolean) (C := RX1) (T := TX1) (N := 18) hx hb hts uin_X1 tyX1 tyX1_ok nmX1 hown hK hP hD hS 0 rfl rfl 12 (by decide) (hts _ wf_X1i_33) (fun _ h9 => h9) rfl hin rfl rfl rfl rfl (Nat.le_of_ble_eq_true rfl) d_X1i_64 (fun H locs hP hD hS => ?_)
  have hP : va_P D vwCl ((h0, .inr (1, [.null, .null, .null, .null, .null, .ref a0, .ref a1, .ref a2, .ref a3, .ref a4, .ref a5, .ref a6, .ref a7, .int 0, .int 0, .int 0, .int 0, .int 0])) :: (W7 ++ [(a7, .inl (cZ, 12, .inl (fun _ => 0)))])) H := hP
  have hD : va_D (va_A [(h0, .inr (1, [.null, .null, .null, .null, .null, .null, .null, .null, .null, .null, .null, .null, .null, .int 0, .int 0, .int 0, .int 0, .int 0]))] sz) ((h0, .inr (1, [.null, .null, .null, .null, .null, .ref a0, .ref a1, .ref a2, .ref a3, .ref a4, .ref a5, .ref a6, .ref a7, .int 0, .int 0, .int 0, .int 0, .int 0])) :: (W7 ++ [(a7, .inl (cZ, 12, .inl (fun _ => 0)))])) := hD
  obtain ⟨W8, eW8⟩ : ∃ W : va_W, W = (W7 ++ [(a7, .inl (cZ, 12, .inl (fun _ => 0)))]) := ⟨_, rfl⟩
  rw [← eW8] at hP hD
  refine lv_aload_n hx hb d_X1i_67 rfl (lv_at hl 0 rfl) ?_
  refine lv_aload_n hx hb d_X1i_68 rfl (lv_at hl 1 rfl) ?_
  refine va_putF (D := D) (ci := 1) (v := .ref r1) (ty := .object "PlateHire$Plates") (C := RX1) (T := TX1) (N := 18) hx hb hts uin_X1 tyX1 tyX1_ok nmX1 hown hK hP hD hS 0 rfl rfl 0 (by decide) (hts _ wf_X1i_37) (fun _ h9 => h9) rfl hin rfl rfl rfl rfl (Nat.le_of_ble_eq_true rfl) d_X1i_69 (fun H locs hP hD hS => ?_)
  have hP : va_P D vwCl ((h0, .inr (1, [.ref r1, .null, .null, .null, .null, .ref a0, .ref a1, .ref a2, .ref a3, .ref a4, .ref a5, .ref a6, .ref a7, .int 0, .int 0, .int 0, .int 0, .int 0])) :: W8) H := hP
  have hD : va_D (va_A [(h0, .inr (1, [.null, .null, .null, .null, .null, .null, .null, .null, .null, .null, .null, .null, .null, .int 0, .int 0, .int 0, .int 0, .int 0]))] sz) ((h0, .inr (1, [.ref r1, .null, .null, .null, .null, .ref a0, .ref a1, .ref a2, .ref a3, .ref a4, .ref a5, .ref a6, .ref a7, .int 0, .int 0, .int 0, .int 0, .int 0])) :: W8) := hD
  refine lv_aload_n hx hb d_X1i_72 rfl (lv_at hl 0 rfl) ?_
  refine lv_aload_n hx hb d_X1i_73 rfl (lv_at hl 2 rfl) ?_
  refine va_putF (D := D) (ci := 1) (v := .ref r2) (ty := .object "PlateHire$Roster") (C := RX1) (T := TX1) (N := 18) hx hb hts uin_X1 tyX1 tyX1_ok nmX1 hown hK hP hD hS 0 rfl rfl 1 (by decide) (hts _ wf_X1i_41) (fun _ h9 => h9) rfl hin rfl rfl rfl rfl (Nat.le_of_ble_eq_true rfl) d_X1i_74 (fun H locs hP hD hS => ?_)
  have hP : va_P D vwCl ((h0, .inr (1, [.ref r1, .ref r2, .null, .null, .null, .ref a0, .ref a1, .ref a2, .ref a3, .ref a4, .ref a5, .ref a6, .ref a7, .int 0, .int 0, .int 0, .int 0, .int 0])) :: W8) H := hP
  have hD : va_D (va_A [(h0, .inr (1, [.null, .null, .null, .null, .null, .null, .null, .null, .null, .null, .null, .null, .null, .int 0, .int 0, .int 0, .int 0, .int 0]))] sz) ((h0, .inr (1, [.ref r1, .ref r2, .null, .null, .null, .ref a0, .ref a1, .ref a2, .ref a3, .ref a4, .ref a5, .ref a6, .ref a7, .int 0, .int 0, .int 0, .int 0, .int 0])) :: W8) := hD
  refine lv_aload_n hx hb d_X1i_77 rfl (lv_at hl 0 rfl) ?_
  refine lv_aload_n hx hb d_X1i_78 rfl (lv_at hl 3 rfl) ?_
  refine va_putF (D := D) (ci := 1) (v := .ref r3) (ty := .object "PlateHire$Meter") (C := RX1) (T := TX1) (N := 18) hx hb hts uin_X1 tyX1 tyX1_ok nmX1 hown hK hP hD hS 0 rfl rfl 2 (by decide) (hts _ wf_X1i_45) (fun _ h9 => h9) rfl hin rfl rfl rfl rfl (Nat.le_of_ble_eq_true rfl) d_X1i_79 (fun H locs hP hD hS => ?_)
  have hP : va_P D vwCl ((h0, .inr (1, [.ref r1, .ref r2, .ref r3, .null, .null, .ref a0, .ref a1, .ref a2, .ref a3, .ref a4, .ref a5, .ref a6, .ref a7, .int 0, .int 0, .int 0, .int 0, .int 0])) :: W8) H := hP
  have hD : va_D (va_A [(h0, .inr (1, [.null, .null, .null, .null, .null, .null, .null, .null, .null, .null, .null, .null, .null, .int 0, .int 0, .int 0, .int 0, .int 0]))] sz) ((h0, .inr (1, [.ref r1, .ref r2, .ref r3, .null, .null, .ref a0, .ref a1, .ref a2, .ref a3, .ref a4, .ref a5, .ref a6, .ref a7, .int 0, .int 0, .int 0, .int 0, .int 0])) :: W8) := hD
  refine lv_aload_n hx hb d_X1i_82 rfl (lv_at hl 0 rfl) ?_
  refine lv_aload hx hb d_X1i_83 (lv_at hl 4 rfl) ?_
  refine va_putF (D := D) (ci := 1) (v := .ref r4) (ty := .object "PlateHire$Asks") (C := RX1) (T := TX1) (N := 18) hx hb hts uin_X1 tyX1 tyX1_ok nmX1 hown hK hP hD hS 0 rfl rfl 3 (by decide) (hts _ wf_X1i_49) (fun _ h9 => h9) rfl hin rfl rfl rfl rfl (Nat.le_of_ble_eq_true rfl) d_X1i_85 (fun H locs hP hD hS => ?_)
  have hP : va_P D vwCl ((h0, .inr (1, [.ref r1, .ref r2, .ref r3, .ref r4, .null, .ref a0, .ref a1, .ref a2, .ref a3, .ref a4, .ref a5, .ref a6, .ref a7, .int 0, .int 0, .int 0, .int 0, .int 0])) :: W8) H := hP
  have hD : va_D (va_A [(h0, .inr (1, [.null, .null, .null, .null, .null, .null, .null, .null, .null, .null, .null, .null, .null, .int 0, .int 0, .int 0, .int 0, .int 0]))] sz) ((h0, .inr (1, [.ref r1, .ref r2, .ref r3, .ref r4, .null, .ref a0, .ref a1, .ref a2, .ref a3, .ref a4, .ref a5, .ref a6, .ref a7, .int 0, .int 0, .int 0, .int 0, .int 0])) :: W8) := hD
  refine lv_aload_n hx hb d_X1i_88 rfl (lv_at hl 0 rfl) ?_
  refine lv_aload hx hb d_X1i_89 (lv_at hl 5 rfl) ?_
  refine va_putF (D := D) (ci := 1) (v := .ref r5) (ty := .object "PlateHire$Rides") (C := RX1) (T := TX1) (N := 18) hx hb hts uin_X1 tyX1 tyX1_ok nmX1 hown hK hP hD hS 0 rfl rfl 4 (by decide) (hts _ wf_X1i_53) (fun _ h9 => h9) rfl hin rfl rfl rfl rfl (Nat.le_of_ble_eq_true rfl) d_X1i_91 (fun H locs hP hD hS => ?_)
  have hP : va_P D vwCl ((h0, .inr (1, [.ref r1, .ref r2, .ref r3, .ref r4, .ref r5, .ref a0, .ref a1, .ref a2, .ref a3, .ref a4, .ref a5, .ref a6, .ref a7, .int 0, .int 0, .int 0, .int 0, .int 0])) :: W8) H := hP
  have hD : va_D (va_A [(h0, .inr (1, [.null, .null, .null, .null, .null, .null, .null, .null, .null, .null, .null, .null, .null, .int 0, .int 0, .int 0, .int 0, .int 0]))] sz) ((h0, .inr (1, [.ref r1, .ref r2, .ref r3, .ref r4, .ref r5, .ref a0, .ref a1, .ref a2, .ref a3, .ref a4, .ref a5, .ref a6, .ref a7, .int 0, .int 0, .int 0, .int 0, .int 0])) :: W8) := hD
  have eW : W8 = [(a0, .inl (cI, 12, .inl (fun _ => 0))), (a1, .inl (cI, 12, .inl (fun _ => 0))), (a2, .inl (cI, 12, .inl (fun _ => 0))), (a3, .inl (cI, 16, .inl (fun _ => 0))), (a4, .inl (cI, 16, .inl (fun _ => 0))), (a5, .inl (cI, 15, .inl (fun _ => 0))), (a6, .inl (cI, 5, .inl (fun _ => 0))), (a7, .inl (cZ, 12, .inl (fun _ => 0)))] := by rw [eW8, eW7, eW6, eW5, eW4, eW3, eW2, eW1, eW0]; rfl
  rw [eW] at hP hD
  refine W.widen (k := 8) (n := 100) (by decide) (by decide) ?_
  have loop : ∀ mm i f H locs ls, 12 - i = mm → i ≤ 12 → (∀ j, j < i → f j = -1) → va_P D vwCl [(h0, .inr (1, [.ref r1, .ref r2, .ref r3, .ref r4, .ref r5, .ref a0, .ref a1, .ref a2, .ref a3, .ref a4, .ref a5, .ref a6, .ref a7, .int 0, .int 0, .int 0, .int 0, .int 0])), (a0, .inl (cI, 12, .inl f)), (a1, .inl (cI, 12, .inl (fun _ => 0))), (a2, .inl (cI, 12, .inl (fun _ => 0))), (a3, .inl (cI, 16, .inl (fun _ => 0))), (a4, .inl (cI, 16, .inl (fun _ => 0))), (a5, .inl (cI, 15, .inl (fun _ => 0))), (a6, .inl (cI, 5, .inl (fun _ => 0))), (a7, .inl (cZ, 12, .inl (fun _ => 0)))] H → va_D (va_A [(h0, .inr (1, [.null, .null, .null, .null, .null, .null, .null, .null, .null, .null, .null, .null, .null, .int 0, .int 0, .int 0, .int 0, .int 0]))] sz) [(h0, .inr (1, [.ref r1, .ref r2, .ref r3, .ref r4, .ref r5, .ref a0, .ref a1, .ref a2, .ref a3, .ref a4, .ref a5, .ref a6, .ref a7, .int 0, .int 0, .int 0, .int 0, .int 0])), (a0, .inl (cI, 12, .inl f)), (a1, .inl (cI, 12, .inl (fun _ => 0))), (a2, .inl (cI, 12, .inl (fun _ => 0))), (a3, .inl (cI, 16, .inl (fun _ => 0))), (a4, .inl (cI, 16, .inl (fun _ => 0))), (a5, .inl (cI, 15, .inl (fun _ => 0))), (a6, .inl (cI, 5, .inl (fun _ => 0))), (a7, .inl (cZ, 12, .inl (fun _ => 0)))] → va_S (va_A [(h0, .inr (1, [.null, .null, .null, .null, .null, .null, .null, .null, .null, .null, .null, .null, .null, .int 0, .int 0, .int 0, .int 0, .int 0]))] sz) s.heap H locs → lv_has ls 7 [(6, .int (nI i)), (0, .ref h0), (1, .ref r1), (2, .ref r2), (3, .ref r3), (4, .ref r4), (5, .ref r5)] → W p l e (k_rm 1 8 100 12) s m ([.ref h0, .ref r1, .ref r2, .ref r3, .ref r4, .ref r5] : List Value).toArray below meth c H locs 8 100 (MQ below (va_Qv (fun u => ∃ a0 a1 a2 a3 a4 a5 a6 a7 : Nat, ∃ f : Nat → Int32, (∀ j, j < 12 → f j = -1) ∧ u = [(h0, .inr (1, [.ref r1, .ref r2, .ref r3, .ref r4, .ref r5, .ref a0, .ref a1, .ref a2, .ref a3, .ref a4, .ref a5, .ref a6, .ref a7, .int 0, .int 0, .int 0, .int 0, .int 0])), (a0, .inl (cI, 12, .inl f)), (a1, .inl (cI, 12, .inl (fun _ => 0))), (a2, .inl (cI, 12, .inl (fun _ => 0))), (a3, .inl (cI, 16, .inl (fun _ => 0))), (a4, .inl (cI, 16, .inl (fun _ => 0))), (a5, .inl (cI, 15, .inl (fun _ => 0))), (a6, .inl (cI, 5, .inl (fun _ => 0))), (a7, .inl (cZ, 12, .inl (fun _ => 0)))]) (kB D (va_A [(h0, .inr (1, [.null, .null, .null, .null, .null, .null, .null, .null, .null, .null, .null, .null, .null, .int 0, .int 0, .int 0, .int 0, .int 0]))] sz)) (va_A [(h0, .inr (1, [.null, .null, .null, .null, .null, .null, .null, .null, .null, .null, .null, .null, .null, .int 0, .int 0, .int 0, .int 0, .int 0]))] sz)) ([.ref h0, .ref r1, .ref r2, .ref r3, .ref r4, .ref r5] : List Value).toArray s 8 100 (va_A [(h0, .inr (1, [.null, .null, .null, .null, .null, .null, .null, .null, .null, .null, .null, .null, .null, .int 0, .int 0, .int 0, .int 0, .int 0]))] sz)) (F0 m 97 ls []) := by
    intro mm
    induction mm with
    | zero =>
      intro i f H locs ls hm hi hf hP hD hS hl
      have : i = 12 := by omega
      subst this
      refine lv_iload hx hb d_X1i_97 (lv_at hl 0 rfl) ?_
      refine lv_bipush (v := 12) hx hb d_X1i_99 (by decide) ?_
      refine lv_icmp_ge hx hb d_X1i_101 (tgt := 118) rfl (fun _ => ?_) (fun q => absurd (by decide) q)
      exact W.vret hx hb hr (fun t ht hW => ⟨⟨_, rfl, ⟨a0, a1, a2, a3, a4, a5, a6, a7, f, fun j hj => hf j hj, rfl⟩, by rw [ht]; exact hP, hD⟩, hS.F ht⟩) hS.2.2 d_X1i_118 hlk
    | succ mm ih =>
      intro i f H locs ls hm hi hf hP hD hS hl
      refine lv_iload hx hb d_X1i_97 (lv_at hl 0 rfl) ?_
      refine lv_bipush (v := 12) hx hb d_X1i_99 (by decide) ?_
      refine lv_icmp_ge hx hb d_X1i_101 (tgt := 118) rfl (fun q => absurd q ?_) (fun _ => ?_)
      · rw [Int32.not_le]; exact nI_lt (b := 12) (by omega) (by omega)
      · refine lv_aload_n hx hb d_X1i_104 rfl (lv_at hl 1 rfl) ?_
        refine va_get (ci := 1) (C := RX1) (T := TX1) (N := 18) hx hb hts uin_X1 hown hK hP 0 rfl rfl 5 (by decide) (hts _ wf_X1i_11) (fun _ h9 => h9) rfl d_X1i_105 ?_
        refine lv_iload hx hb d_X1i_108 (lv_at hl 0 rfl) ?_
        refine lv_iconst (v := -1) hx hb d_X1i_110 (by decide) ?_
        refine va_iast hx hb hK hP hD hS 1 0 rfl rfl (in_nI (by omega) (by decide)) d_X1i_111 (fun H locs hP hD hS => ?_)
        refine lv_iinc (v := nI (i + 1)) (k := 0) (lv' := [(6, .int (nI (i + 1))), (0, .ref h0), (1, .ref r1), (2, .ref r2), (3, .ref r3), (4, .ref r4), (5, .ref r5)]) hx hb d_X1i_112 hl rfl (nI_1 i) (by decide) rfl (fun ls hl => ?_)
        refine lv_goto hx hb d_X1i_115 (tgt := 97) rfl ?_
        exact ih (i + 1) (upd f (Int32.toNatClampNeg (nI i)) (-1)) H locs ls (by omega) (by omega) (fun j hj => by
          rw [cl_nI (by omega)]
          by_cases c : j = i
          · rw [c, upd_s]
          · rw [upd_n _ _ c]; exact hf j (by omega)) hP hD hS hl
  refine lv_iconst (v := 0) hx hb d_X1i_94 (by decide) ?_
  refine lv_istore (lv' := [(6, .int (nI 0)), (0, .ref h0), (1, .ref r1), (2, .ref r2), (3, .ref r3), (4, .ref r4), (5, .ref r5)]) hx hb d_X1i_95 hl (by decide) rfl (fun ls hl => ?_)
  exact loop 12 0 _ _ _ ls (by omega) (by omega) (fun j hj => absurd hj (by omega)) hP hD hS hl
set_option maxHeartbeats 4000000 in
set_option maxRecDepth 100000 in
theorem c_X1in (l : Launch) (D : va_G) (cI cZ : ClassId) (h0 sz : Nat) (r1 r2 r3 r4 : Nat) : Met l yX1_init (Cond.code yX1_init cX1_init 7 none :: lw_w) (k_rm 1 8 100 12) (va_Pc [.ref h0, .ref r1, .ref r2, .ref r3, .ref r4, .null] (kPre D cI cZ h0 (.inr (1, [.null, .null, .null, .null, .null, .null, .null, .null, .null, .null, .null, .null, .null, .int 0, .int 0, .int 0, .int 0, .int 0])) sz)) (va_Qv (fun u => ∃ a0 a1 a2 a3 a4 a5 a6 a7 : Nat, ∃ f : Nat → Int32, (∀ j, j < 12 → f j = -1) ∧ u = [(h0, .inr (1, [.ref r1, .ref r2, .ref r3, .ref r4, .null, .ref a0, .ref a1, .ref a2, .ref a3, .ref a4, .ref a5, .ref a6, .ref a7, .int 0, .int 0, .int 0, .int 0, .int 0])), (a0, .inl (cI, 12, .inl f)), (a1, .inl (cI, 12, .inl (fun _ => 0))), (a2, .inl (cI, 12, .inl (fun _ => 0))), (a3, .inl (cI, 16, .inl (fun _ => 0))), (a4, .inl (cI, 16, .inl (fun _ => 0))), (a5, .inl (cI, 15, .inl (fun _ => 0))), (a6, .inl (cI, 5, .inl (fun _ => 0))), (a7, .inl (cZ, 12, .inl (fun _ => 0)))]) (kB D (va_A [(h0, .inr (1, [.null, .null, .null, .null, .null, .null, .null, .null, .null, .null, .null, .null, .null, .int 0, .int 0, .int 0, .int 0, .int 0]))] sz)) (va_A [(h0, .inr (1, [.null, .null, .null, .null, .null, .null, .null, .null, .null, .null, .null, .null, .null, .int 0, .int 0, .int 0, .int 0, .int 0]))] sz)) 8 100 (va_A [(h0, .inr (1, [.null, .null, .null, .null, .null, .null, .null, .null, .null, .null, .null, .null, .null, .int 0, .int 0, .int 0, .int 0, .int 0]))] sz) := by
  refine k_met (by decide) (Nat.le_of_ble_eq_true rfl) ?_
  intro p e s m below meth c ls ⟨hx, hb, hml, hown, hts, hr, hlk, hin, hK, hl⟩ hP hD hS hA
  have hl : lv_has ls 7 [(0, .ref h0), (1, .ref r1), (2, .ref r2), (3, .ref r3), (4, .ref r4), (5, .null)] := hl
  obtain ⟨W0, eW0⟩ : ∃ W : va_W, W = [] := ⟨_, rfl⟩
  have hP : va_P D vwCl ((h0, .inr (1, [.null, .null, .null, .null, .null, .null, .null, .null, .null, .null, .null, .null, .null, .int 0, .int 0, .int 0, .int 0, .int 0])) :: W0) s.heap := by rw [eW0]; exact hP
  have hD : va_D (va_A [(h0, .inr (1, [.null, .null, .null, .null, .null, .null, .null, .null, .null, .null, .null, .null, .null, .int 0, .int 0, .int 0, .int 0, .int 0]))] sz) ((h0, .inr (1, [.null, .null, .null, .null, .null, .null, .null, .null, .null, .null, .null, .null, .null, .int 0, .int 0, .int 0, .int 0, .int 0])) :: W0) := by rw [eW0]; exact hD
  refine lv_aload_n hx hb d_X1i_0 rfl (lv_at hl 0 rfl) ?_
  refine W.objInit hx hb hown (hts _ wo_X1i) (hts _ w_obi) (hts _ w_obc) rfl (by rw [hml]; exact hl.1) rfl d_X1i_1 (Nat.le_of_ble_eq_true rfl) (Nat.le_of_ble_eq_true rfl) ?_
  refine W.eq (g2 := F0 m 4 ls []) rfl ?_
  refine lv_aload_n hx hb d_X1i_4 rfl (lv_at hl 0 rfl) ?_
  refine lv_bipush (v := 12) hx hb d_X1i_5 (by decide) ?_
  refine k_newI hx hb hts hK hP hD hS hA 12 (by decide) (by decide) (by decide) (by decide) (by decide) d_X1i_7 (fun a0 H hP hD hS => ?_)
  refine va_putF (D := D) (ci := 1) (v := .ref a0) (ty := .array .int) (C := RX1) (T := TX1) (N := 18) hx hb hts uin_X1 tyX1 tyX1_ok nmX1 hown hK hP hD hS 0 rfl rfl 5 (by decide) (hts _ wf_X1i_11) (fun _ h9 => h9) rfl hin rfl rfl rfl rfl (Nat.le_of_ble_eq_true rfl) d_X1i_9 (fun H locs hP hD hS => ?_)
  have hP : va_P D vwCl ((h0, .inr (1, [.null, .null, .null, .null, .null, .ref a0, .null, .null, .null, .null, .null, .null, .null, .int 0, .int 0, .int 0, .int 0, .int 0])) :: (W0 ++ [(a0, .inl (cI, 12, .inl (fun _ => 0)))])) H := hP
  have hD : va_D (va_A [(h0, .inr (1, [.null, .null, .null, .null, .null, .null, .null, .null, .null, .null, .null, .null, .null, .int 0, .int 0, .int 0, .int 0, .int 0]))] sz) ((h0, .inr (1, [.null, .null, .null, .null, .null, .ref a0, .null, .null, .null, .null, .null, .null, .null, .int 0, .int 0, .int 0, .int 0, .int 0])) :: (W0 ++ [(a0, .inl (cI, 12, .inl (fun _ => 0)))])) := hD
  obtain ⟨W1, eW1⟩ : ∃ W : va_W, W = (W0 ++ [(a0, .inl (cI, 12, .inl (fun _ => 0)))]) := ⟨_, rfl⟩
  rw [← eW1] at hP hD
  refine lv_aload_n hx hb d_X1i_12 rfl (lv_at hl 0 rfl) ?_
  refine lv_bipush (v := 12) hx hb d_X1i_13 (by decide) ?_
  refine k_newI hx hb hts hK hP hD hS hA 12 (by decide) (by decide) (by decide) (by decide) (by decide) d_X1i_15 (fun a1 H hP hD hS => ?_)
  refine va_putF (D := D) (ci := 1) (v := .ref a1) (ty := .array .int) (C := RX1) (T := TX1) (N := 18) hx hb hts uin_X1 tyX1 tyX1_ok nmX1 hown hK hP hD hS 0 rfl rfl 6 (by decide) (hts _ wf_X1i_15) (fun _ h9 => h9) rfl hin rfl rfl rfl rfl (Nat.le_of_ble_eq_true rfl) d_X1i_17 (fun H locs hP hD hS => ?_)
  have hP : va_P D vwCl ((h0, .inr (1, [.null, .null, .null, .null, .null, .ref a0, .ref a1, .null, .null, .null, .null, .null, .null, .int 0, .int 0, .int 0, .int 0, .int 0])) :: (W1 ++ [(a1, .inl (cI, 12, .inl (fun _ => 0)))])) H := hP
  have hD : va_D (va_A [(h0, .inr (1, [.null, .null, .null, .null, .null, .null, .null, .null, .null, .null, .null, .null, .null, .int 0, .int 0, .int 0, .int 0, .int 0]))] sz) ((h0, .inr (1, [.null, .null, .null, .null, .null, .ref a0, .ref a1, .null, .null, .null, .null, .null, .null, .int 0, .int 0, .int 0, .int 0, .int 0])) :: (W1 ++ [(a1, .inl (cI, 12, .inl (fun _ => 0)))])) := hD
  obtain ⟨W2, eW2⟩ : ∃ W : va_W, W = (W1 ++ [(a1, .inl (cI, 12, .inl (fun _ => 0)))]) := ⟨_, rfl⟩
  rw [← eW2] at hP hD
  refine lv_aload_n hx hb d_X1i_20 rfl (lv_at hl 0 rfl) ?_
  refine lv_bipush (v := 12) hx hb d_X1i_21 (by decide) ?_
  refine k_newI hx hb hts hK hP hD hS hA 12 (by decide) (by decide) (by decide) (by decide) (by decide) d_X1i_23 (fun a2 H hP hD hS => ?_)
  refine va_putF (D := D) (ci := 1) (v := .ref a2) (ty := .array .int) (C := RX1) (T := TX1) (N := 18) hx hb hts uin_X1 tyX1 tyX1_ok nmX1 hown hK hP hD hS 0 rfl rfl 7 (by decide) (hts _ wf_X1i_18) (fun _ h9 => h9) rfl hin rfl rfl rfl rfl (Nat.le_of_ble_eq_true rfl) d_X1i_25 (fun H locs hP hD hS => ?_)
  have hP : va_P D vwCl ((h0, .inr (1, [.null, .null, .null, .null, .null, .ref a0, .ref a1, .ref a2, .null, .null, .null, .null, .null, .int 0, .int 0, .int 0, .int 0, .int 0])) :: (W2 ++ [(a2, .inl (cI, 12, .inl (fun _ => 0)))])) H := hP
  have hD : va_D (va_A [(h0, .inr (1, [.null, .null, .null, .null, .null, .null, .null, .null, .null, .null, .null, .null, .null, .int 0, .int 0, .int 0, .int 0, .int 0]))] sz) ((h0, .inr (1, [.null, .null, .null, .null, .null, .ref a0, .ref a1, .ref a2, .null, .null, .null, .null, .null, .int 0, .int 0, .int 0, .int 0, .int 0])) :: (W2 ++ [(a2, .inl (cI, 12, .inl (fun _ => 0)))])) := hD
  obtain ⟨W3, eW3⟩ : ∃ W : va_W, W = (W2 ++ [(a2, .inl (cI, 12, .inl (fun _ => 0)))]) := ⟨_, rfl⟩
  rw [← eW3] at hP hD
  refine lv_aload_n hx hb d_X1i_28 rfl (lv_at hl 0 rfl) ?_
  refine lv_bipush (v := 16) hx hb d_X1i_29 (by decide) ?_
  refine k_newI hx hb hts hK hP hD hS hA 16 (by decide) (by decide) (by decide) (by decide) (by decide) d_X1i_31 (fun a3 H hP hD hS => ?_)
  refine va_putF (D := D) (ci := 1) (v := .ref a3) (ty := .array .int) (C := RX1) (T := TX1) (N := 18) hx hb hts uin_X1 tyX1 tyX1_ok nmX1 hown hK hP hD hS 0 rfl rfl 8 (by decide) (hts _ wf_X1i_21) (fun _ h9 => h9) rfl hin rfl rfl rfl rfl (Nat.le_of_ble_eq_true rfl) d_X1i_33 (fun H locs hP hD hS => ?_)
  have hP : va_P D vwCl ((h0, .inr (1, [.null, .null, .null, .null, .null, .ref a0, .ref a1, .ref a2, .ref a3, .null, .null, .null, .null, .int 0, .int 0, .int 0, .int 0, .int 0])) :: (W3 ++ [(a3, .inl (cI, 16, .inl (fun _ => 0)))])) H := hP
  have hD : va_D (va_A [(h0, .inr (1, [.null, .null, .null, .null, .null, .null, .null, .null, .null, .null, .null, .null, .null, .int 0, .int 0, .int 0, .int 0, .int 0]))] sz) ((h0, .inr (1, [.null, .null, .null, .null, .null, .ref a0, .ref a1, .ref a2, .ref a3, .null, .null, .null, .null, .int 0, .int 0, .int 0, .int 0, .int 0])) :: (W3 ++ [(a3, .inl (cI, 16, .inl (fun _ => 0)))])) := hD
  obtain ⟨W4, eW4⟩ : ∃ W : va_W, W = (W3 ++ [(a3, .inl (cI, 16, .inl (fun _ => 0)))]) := ⟨_, rfl⟩
  rw [← eW4] at hP hD
  refine lv_aload_n hx hb d_X1i_36 rfl (lv_at hl 0 rfl) ?_
  refine lv_bipush (v := 16) hx hb d_X1i_37 (by decide) ?_
  refine k_newI hx hb hts hK hP hD hS hA 16 (by decide) (by decide) (by decide) (by decide) (by decide) d_X1i_39 (fun a4 H hP hD hS => ?_)
  refine va_putF (D := D) (ci := 1) (v := .ref a4) (ty := .array .int) (C := RX1) (T := TX1) (N := 18) hx hb hts uin_X1 tyX1 tyX1_ok nmX1 hown hK hP hD hS 0 rfl rfl 9 (by decide) (hts _ wf_X1i_24) (fun _ h9 => h9) rfl hin rfl rfl rfl rfl (Nat.le_of_ble_eq_true rfl) d_X1i_41 (fun H locs hP hD hS => ?_)
  have hP : va_P D vwCl ((h0, .inr (1, [.null, .null, .null, .null, .null, .ref a0, .ref a1, .ref a2, .ref a3, .ref a4, .null, .null, .null, .int 0, .int 0, .int 0, .int 0, .int 0])) :: (W4 ++ [(a4, .inl (cI, 16, .inl (fun _ => 0)))])) H := hP
  have hD : va_D (va_A [(h0, .inr (1, [.null, .null, .null, .null, .null, .null, .null, .null, .null, .null, .null, .null, .null, .int 0, .int 0, .int 0, .int 0, .int 0]))] sz) ((h0, .inr (1, [.null, .null, .null, .null, .null, .ref a0, .ref a1, .ref a2, .ref a3, .ref a4, .null, .null, .null, .int 0, .int 0, .int 0, .int 0, .int 0])) :: (W4 ++ [(a4, .inl (cI, 16, .inl (fun _ => 0)))])) := hD
  obtain ⟨W5, eW5⟩ : ∃ W : va_W, W = (W4 ++ [(a4, .inl (cI, 16, .inl (fun _ => 0)))]) := ⟨_, rfl⟩
  rw [← eW5] at hP hD
  refine lv_aload_n hx hb d_X1i_44 rfl (lv_at hl 0 rfl) ?_
  refine lv_bipush (v := 15) hx hb d_X1i_45 (by decide) ?_
  refine k_newI hx hb hts hK hP hD hS hA 15 (by decide) (by decide) (by decide) (by decide) (by decide) d_X1i_47 (fun a5 H hP hD hS => ?_)
  refine va_putF (D := D) (ci := 1) (v := .ref a5) (ty := .array .int) (C := RX1) (T := TX1) (N := 18) hx hb hts uin_X1 tyX1 tyX1_ok nmX1 hown hK hP hD hS 0 rfl rfl 10 (by decide) (hts _ wf_X1i_27) (fun _ h9 => h9) rfl hin rfl rfl rfl rfl (Nat.le_of_ble_eq_true rfl) d_X1i_49 (fun H locs hP hD hS => ?_)
  have hP : va_P D vwCl ((h0, .inr (1, [.null, .null, .null, .null, .null, .ref a0, .ref a1, .ref a2, .ref a3, .ref a4, .ref a5, .null, .null, .int 0, .int 0, .int 0, .int 0, .int 0])) :: (W5 ++ [(a5, .inl (cI, 15, .inl (fun _ => 0)))])) H := hP
  have hD : va_D (va_A [(h0, .inr (1, [.null, .null, .null, .null, .null, .null, .null, .null, .null, .null, .null, .null, .null, .int 0, .int 0, .int 0, .int 0, .int 0]))] sz) ((h0, .inr (1, [.null, .null, .null, .null, .null, .ref a0, .ref a1, .ref a2, .ref a3, .ref a4, .ref a5, .null, .null, .int 0, .int 0, .int 0, .int 0, .int 0])) :: (W5 ++ [(a5, .inl (cI, 15, .inl (fun _ => 0)))])) := hD
  obtain ⟨W6, eW6⟩ : ∃ W : va_W, W = (W5 ++ [(a5, .inl (cI, 15, .inl (fun _ => 0)))]) := ⟨_, rfl⟩
  rw [← eW6] at hP hD
  refine lv_aload_n hx hb d_X1i_52 rfl (lv_at hl 0 rfl) ?_
  refine lv_iconst (v := 5) hx hb d_X1i_53 (by decide) ?_
  refine k_newI hx hb hts hK hP hD hS hA 5 (by decide) (by decide) (by decide) (by decide) (by decide) d_X1i_54 (fun a6 H hP hD hS => ?_)
  refine va_putF (D := D) (ci := 1) (v := .ref a6) (ty := .array .int) (C := RX1) (T := TX1) (N := 18) hx hb hts uin_X1 tyX1 tyX1_ok nmX1 hown hK hP hD hS 0 rfl rfl 11 (by decide) (hts _ wf_X1i_30) (fun _ h9 => h9) rfl hin rfl rfl rfl rfl (Nat.le_of_ble_eq_true rfl) d_X1i_56 (fun H locs hP hD hS => ?_)
  have hP : va_P D vwCl ((h0, .inr (1, [.null, .null, .null, .null, .null, .ref a0, .ref a1, .ref a2, .ref a3, .ref a4, .ref a5, .ref a6, .null, .int 0, .int 0, .int 0, .int 0, .int 0])) :: (W6 ++ [(a6, .inl (cI, 5, .inl (fun _ => 0)))])) H := hP
  have hD : va_D (va_A [(h0, .inr (1, [.null, .null, .null, .null, .null, .null, .null, .null, .null, .null, .null, .null, .null, .int 0, .int 0, .int 0, .int 0, .int 0]))] sz) ((h0, .inr (1, [.null, .null, .null, .null, .null, .ref a0, .ref a1, .ref a2, .ref a3, .ref a4, .ref a5, .ref a6, .null, .int 0, .int 0, .int 0, .int 0, .int 0])) :: (W6 ++ [(a6, .inl (cI, 5, .inl (fun _ => 0)))])) := hD
  obtain ⟨W7, eW7⟩ : ∃ W : va_W, W = (W6 ++ [(a6, .inl (cI, 5, .inl (fun _ => 0)))]) := ⟨_, rfl⟩
  rw [← eW7] at hP hD
  refine lv_aload_n hx hb d_X1i_59 rfl (lv_at hl 0 rfl) ?_
  refine lv_bipush (v := 12) hx hb d_X1i_60 (by decide) ?_
  refine k_newZ hx hb hts hK hP hD hS hA 12 (by decide) (by decide) (by decide) (by decide) (by decide) d_X1i_62 (fun a7 H hP hD hS => ?_)
  refine va_putF (D := D) (ci := 1) (v := .ref a7) (ty := .array .boolean) (C := RX1) (T := TX1) (N := 18) hx hb hts uin_X1 tyX1 tyX1_ok nmX1 hown hK hP hD hS 0 rfl rfl 12 (by decide) (hts _ wf_X1i_33) (fun _ h9 => h9) rfl hin rfl rfl rfl rfl (Nat.le_of_ble_eq_true rfl) d_X1i_64 (fun H locs hP hD hS => ?_)
  have hP : va_P D vwCl ((h0, .inr (1, [.null, .null, .null, .null, .null, .ref a0, .ref a1, .ref a2, .ref a3, .ref a4, .ref a5, .ref a6, .ref a7, .int 0, .int 0, .int 0, .int 0, .int 0])) :: (W7 ++ [(a7, .inl (cZ, 12, .inl (fun _ => 0)))])) H := hP
  have hD : va_D (va_A [(h0, .inr (1, [.null, .null, .null, .null, .null, .null, .null, .null, .null, .null, .null, .null, .null, .int 0, .int 0, .int 0, .int 0, .int 0]))] sz) ((h0, .inr (1, [.null, .null, .null, .null, .null, .ref a0, .ref a1, .ref a2, .ref a3, .ref a4, .ref a5, .ref a6, .ref a7, .int 0, .int 0, .int 0, .int 0, .int 0])) :: (W7 ++ [(a7, .inl (cZ, 12, .inl (fun _ => 0)))])) := hD
  obtain ⟨W8, eW8⟩ : ∃ W : va_W, W = (W7 ++ [(a7, .inl (cZ, 12, .inl (fun _ => 0)))]) := ⟨_, rfl⟩
  rw [← eW8] at hP hD
  refine lv_aload_n hx hb d_X1i_67 rfl (lv_at hl 0 rfl) ?_
  refine lv_aload_n hx hb d_X1i_68 rfl (lv_at hl 1 rfl) ?_
  refine va_putF (D := D) (ci := 1) (v := .ref r1) (ty := .object "PlateHire$Plates") (C := RX1) (T := TX1) (N := 18) hx hb hts uin_X1 tyX1 tyX1_ok nmX1 hown hK hP hD hS 0 rfl rfl 0 (by decide) (hts _ wf_X1i_37) (fun _ h9 => h9) rfl hin rfl rfl rfl rfl (Nat.le_of_ble_eq_true rfl) d_X1i_69 (fun H locs hP hD hS => ?_)
  have hP : va_P D vwCl ((h0, .inr (1, [.ref r1, .null, .null, .null, .null, .ref a0, .ref a1, .ref a2, .ref a3, .ref a4, .ref a5, .ref a6, .ref a7, .int 0, .int 0, .int 0, .int 0, .int 0])) :: W8) H := hP
  have hD : va_D (va_A [(h0, .inr (1, [.null, .null, .null, .null, .null, .null, .null, .null, .null, .null, .null, .null, .null, .int 0, .int 0, .int 0, .int 0, .int 0]))] sz) ((h0, .inr (1, [.ref r1, .null, .null, .null, .null, .ref a0, .ref a1, .ref a2, .ref a3, .ref a4, .ref a5, .ref a6, .ref a7, .int 0, .int 0, .int 0, .int 0, .int 0])) :: W8) := hD
  refine lv_aload_n hx hb d_X1i_72 rfl (lv_at hl 0 rfl) ?_
  refine lv_aload_n hx hb d_X1i_73 rfl (lv_at hl 2 rfl) ?_
  refine va_putF (D := D) (ci := 1) (v := .ref r2) (ty := .object "PlateHire$Roster") (C := RX1) (T := TX1) (N := 18) hx hb hts uin_X1 tyX1 tyX1_ok nmX1 hown hK hP hD hS 0 rfl rfl 1 (by decide) (hts _ wf_X1i_41) (fun _ h9 => h9) rfl hin rfl rfl rfl rfl (Nat.le_of_ble_eq_true rfl) d_X1i_74 (fun H locs hP hD hS => ?_)
  have hP : va_P D vwCl ((h0, .inr (1, [.ref r1, .ref r2, .null, .null, .null, .ref a0, .ref a1, .ref a2, .ref a3, .ref a4, .ref a5, .ref a6, .ref a7, .int 0, .int 0, .int 0, .int 0, .int 0])) :: W8) H := hP
  have hD : va_D (va_A [(h0, .inr (1, [.null, .null, .null, .null, .null, .null, .null, .null, .null, .null, .null, .null, .null, .int 0, .int 0, .int 0, .int 0, .int 0]))] sz) ((h0, .inr (1, [.ref r1, .ref r2, .null, .null, .null, .ref a0, .ref a1, .ref a2, .ref a3, .ref a4, .ref a5, .ref a6, .ref a7, .int 0, .int 0, .int 0, .int 0, .int 0])) :: W8) := hD
  refine lv_aload_n hx hb d_X1i_77 rfl (lv_at hl 0 rfl) ?_
  refine lv_aload_n hx hb d_X1i_78 rfl (lv_at hl 3 rfl) ?_
  refine va_putF (D := D) (ci := 1) (v := .ref r3) (ty := .object "PlateHire$Meter") (C := RX1) (T := TX1) (N := 18) hx hb hts uin_X1 tyX1 tyX1_ok nmX1 hown hK hP hD hS 0 rfl rfl 2 (by decide) (hts _ wf_X1i_45) (fun _ h9 => h9) rfl hin rfl rfl rfl rfl (Nat.le_of_ble_eq_true rfl) d_X1i_79 (fun H locs hP hD hS => ?_)
  have hP : va_P D vwCl ((h0, .inr (1, [.ref r1, .ref r2, .ref r3, .null, .null, .ref a0, .ref a1, .ref a2, .ref a3, .ref a4, .ref a5, .ref a6, .ref a7, .int 0, .int 0, .int 0, .int 0, .int 0])) :: W8) H := hP
  have hD : va_D (va_A [(h0, .inr (1, [.null, .null, .null, .null, .null, .null, .null, .null, .null, .null, .null, .null, .null, .int 0, .int 0, .int 0, .int 0, .int 0]))] sz) ((h0, .inr (1, [.ref r1, .ref r2, .ref r3, .null, .null, .ref a0, .ref a1, .ref a2, .ref a3, .ref a4, .ref a5, .ref a6, .ref a7, .int 0, .int 0, .int 0, .int 0, .int 0])) :: W8) := hD
  refine lv_aload_n hx hb d_X1i_82 rfl (lv_at hl 0 rfl) ?_
  refine lv_aload hx hb d_X1i_83 (lv_at hl 4 rfl) ?_
  refine va_putF (D := D) (ci := 1) (v := .ref r4) (ty := .object "PlateHire$Asks") (C := RX1) (T := TX1) (N := 18) hx hb hts uin_X1 tyX1 tyX1_ok nmX1 hown hK hP hD hS 0 rfl rfl 3 (by decide) (hts _ wf_X1i_49) (fun _ h9 => h9) rfl hin rfl rfl rfl rfl (Nat.le_of_ble_eq_true rfl) d_X1i_85 (fun H locs hP hD hS => ?_)
  have hP : va_P D vwCl ((h0, .inr (1, [.ref r1, .ref r2, .ref r3, .ref r4, .null, .ref a0, .ref a1, .ref a2, .ref a3, .ref a4, .ref a5, .ref a6, .ref a7, .int 0, .int 0, .int 0, .int 0, .int 0])) :: W8) H := hP
  have hD : va_D (va_A [(h0, .inr (1, [.null, .null, .null, .null, .null, .null, .null, .null, .null, .null, .null, .null, .null, .int 0, .int 0, .int 0, .int 0, .int 0]))] sz) ((h0, .inr (1, [.ref r1, .ref r2, .ref r3, .ref r4, .null, .ref a0, .ref a1, .ref a2, .ref a3, .ref a4, .ref a5, .ref a6, .ref a7, .int 0, .int 0, .int 0, .int 0, .int 0])) :: W8) := hD
  refine lv_aload_n hx hb d_X1i_88 rfl (lv_at hl 0 rfl) ?_
  refine lv_aloadN hx hb d_X1i_89 (lv_at hl 5 rfl) ?_
  refine va_putF (D := D) (ci := 1) (v := .null) (ty := .object "PlateHire$Rides") (C := RX1) (T := TX1) (N := 18) hx hb hts uin_X1 tyX1 tyX1_ok nmX1 hown hK hP hD hS 0 rfl rfl 4 (by decide) (hts _ wf_X1i_53) (fun _ h9 => h9) rfl hin rfl rfl rfl rfl (Nat.le_of_ble_eq_true rfl) d_X1i_91 (fun H locs hP hD hS => ?_)
  have hP : va_P D vwCl ((h0, .inr (1, [.ref r1, .ref r2, .ref r3, .ref r4, .null, .ref a0, .ref a1, .ref a2, .ref a3, .ref a4, .ref a5, .ref a6, .ref a7, .int 0, .int 0, .int 0, .int 0, .int 0])) :: W8) H := hP
  have hD : va_D (va_A [(h0, .inr (1, [.null, .null, .null, .null, .null, .null, .null, .null, .null, .null, .null, .null, .null, .int 0, .int 0, .int 0, .int 0, .int 0]))] sz) ((h0, .inr (1, [.ref r1, .ref r2, .ref r3, .ref r4, .null, .ref a0, .ref a1, .ref a2, .ref a3, .ref a4, .ref a5, .ref a6, .ref a7, .int 0, .int 0, .int 0, .int 0, .int 0])) :: W8) := hD
  have eW : W8 = [(a0, .inl (cI, 12, .inl (fun _ => 0))), (a1, .inl (cI, 12, .inl (fun _ => 0))), (a2, .inl (cI, 12, .inl (fun _ => 0))), (a3, .inl (cI, 16, .inl (fun _ => 0))), (a4, .inl (cI, 16, .inl (fun _ => 0))), (a5, .inl (cI, 15, .inl (fun _ => 0))), (a6, .inl (cI, 5, .inl (fun _ => 0))), (a7, .inl (cZ, 12, .inl (fun _ => 0)))] := by rw [eW8, eW7, eW6, eW5, eW4, eW3, eW2, eW1, eW0]; rfl
  rw [eW] at hP hD
  refine W.widen (k := 8) (n := 100) (by decide) (by decide) ?_
  have loop : ∀ mm i f H locs ls, 12 - i = mm → i ≤ 12 → (∀ j, j < i → f j = -1) → va_P D vwCl [(h0, .inr (1, [.ref r1, .ref r2, .ref r3, .ref r4, .null, .ref a0, .ref a1, .ref a2, .ref a3, .ref a4, .ref a5, .ref a6, .ref a7, .int 0, .int 0, .int 0, .int 0, .int 0])), (a0, .inl (cI, 12, .inl f)), (a1, .inl (cI, 12, .inl (fun _ => 0))), (a2, .inl (cI, 12, .inl (fun _ => 0))), (a3, .inl (cI, 16, .inl (fun _ => 0))), (a4, .inl (cI, 16, .inl (fun _ => 0))), (a5, .inl (cI, 15, .inl (fun _ => 0))), (a6, .inl (cI, 5, .inl (fun _ => 0))), (a7, .inl (cZ, 12, .inl (fun _ => 0)))] H → va_D (va_A [(h0, .inr (1, [.null, .null, .null, .null, .null, .null, .null, .null, .null, .null, .null, .null, .null, .int 0, .int 0, .int 0, .int 0, .int 0]))] sz) [(h0, .inr (1, [.ref r1, .ref r2, .ref r3, .ref r4, .null, .ref a0, .ref a1, .ref a2, .ref a3, .ref a4, .ref a5, .ref a6, .ref a7, .int 0, .int 0, .int 0, .int 0, .int 0])), (a0, .inl (cI, 12, .inl f)), (a1, .inl (cI, 12, .inl (fun _ => 0))), (a2, .inl (cI, 12, .inl (fun _ => 0))), (a3, .inl (cI, 16, .inl (fun _ => 0))), (a4, .inl (cI, 16, .inl (fun _ => 0))), (a5, .inl (cI, 15, .inl (fun _ => 0))), (a6, .inl (cI, 5, .inl (fun _ => 0))), (a7, .inl (cZ, 12, .inl (fun _ => 0)))] → va_S (va_A [(h0, .inr (1, [.null, .null, .null, .null, .null, .null, .null, .null, .null, .null, .null, .null, .null, .int 0, .int 0, .int 0, .int 0, .int 0]))] sz) s.heap H locs → lv_has ls 7 [(6, .int (nI i)), (0, .ref h0), (1, .ref r1), (2, .ref r2), (3, .ref r3), (4, .ref r4), (5, .null)] → W p l e (k_rm 1 8 100 12) s m ([.ref h0, .ref r1, .ref r2, .ref r3, .ref r4, .null] : List Value).toArray below meth c H locs 8 100 (MQ below (va_Qv (fun u => ∃ a0 a1 a2 a3 a4 a5 a6 a7 : Nat, ∃ f : Nat → Int32, (∀ j, j < 12 → f j = -1) ∧ u = [(h0, .inr (1, [.ref r1, .ref r2, .ref r3, .ref r4, .null, .ref a0, .ref a1, .ref a2, .ref a3, .ref a4, .ref a5, .ref a6, .ref a7, .int 0, .int 0, .int 0, .int 0, .int 0])), (a0, .inl (cI, 12, .inl f)), (a1, .inl (cI, 12, .inl (fun _ => 0))), (a2, .inl (cI, 12, .inl (fun _ => 0))), (a3, .inl (cI, 16, .inl (fun _ => 0))), (a4, .inl (cI, 16, .inl (fun _ => 0))), (a5, .inl (cI, 15, .inl (fun _ => 0))), (a6, .inl (cI, 5, .inl (fun _ => 0))), (a7, .inl (cZ, 12, .inl (fun _ => 0)))]) (kB D (va_A [(h0, .inr (1, [.null, .null, .null, .null, .null, .null, .null, .null, .null, .null, .null, .null, .null, .int 0, .int 0, .int 0, .int 0, .int 0]))] sz)) (va_A [(h0, .inr (1, [.null, .null, .null, .null, .null, .null, .null, .null, .null, .null, .null, .null, .null, .int 0, .int 0, .int 0, .int 0, .int 0]))] sz)) ([.ref h0, .ref r1, .ref r2, .ref r3, .ref r4, .null] : List Value).toArray s 8 100 (va_A [(h0, .inr (1, [.null, .null, .null, .null, .null, .null, .null, .null, .null, .null, .null, .null, .null, .int 0, .int 0, .int 0, .int 0, .int 0]))] sz)) (F0 m 97 ls []) := by
    intro mm
    induction mm with
    | zero =>
      intro i f H locs ls hm hi hf hP hD hS hl
      have : i = 12 := by omega
      subst this
      refine lv_iload hx hb d_X1i_97 (lv_at hl 0 rfl) ?_
      refine lv_bipush (v := 12) hx hb d_X1i_99 (by decide) ?_
      refine lv_icmp_ge hx hb d_X1i_101 (tgt := 118) rfl (fun _ => ?_) (fun q => absurd (by decide) q)
      exact W.vret hx hb hr (fun t ht hW => ⟨⟨_, rfl, ⟨a0, a1, a2, a3, a4, a5, a6, a7, f, fun j hj => hf j hj, rfl⟩, by rw [ht]; exact hP, hD⟩, hS.F ht⟩) hS.2.2 d_X1i_118 hlk
    | succ mm ih =>
      intro i f H locs ls hm hi hf hP hD hS hl
      refine lv_iload hx hb d_X1i_97 (lv_at hl 0 rfl) ?_
      refine lv_bipush (v := 12) hx hb d_X1i_99 (by decide) ?_
      refine lv_icmp_ge hx hb d_X1i_101 (tgt := 118) rfl (fun q => absurd q ?_) (fun _ => ?_)
      · rw [Int32.not_le]; exact nI_lt (b := 12) (by omega) (by omega)
      · refine lv_aload_n hx hb d_X1i_104 rfl (lv_at hl 1 rfl) ?_
        refine va_get (ci := 1) (C := RX1) (T := TX1) (N := 18) hx hb hts uin_X1 hown hK hP 0 rfl rfl 5 (by decide) (hts _ wf_X1i_11) (fun _ h9 => h9) rfl d_X1i_105 ?_
        refine lv_iload hx hb d_X1i_108 (lv_at hl 0 rfl) ?_
        refine lv_iconst (v := -1) hx hb d_X1i_110 (by decide) ?_
        refine va_iast hx hb hK hP hD hS 1 0 rfl rfl (in_nI (by omega) (by decide)) d_X1i_111 (fun H locs hP hD hS => ?_)
        refine lv_iinc (v := nI (i + 1)) (k := 0) (lv' := [(6, .int (nI (i + 1))), (0, .ref h0), (1, .ref r1), (2, .ref r2), (3, .ref r3), (4, .ref r4), (5, .null)]) hx hb d_X1i_112 hl rfl (nI_1 i) (by decide) rfl (fun ls hl => ?_)
        refine lv_goto hx hb d_X1i_115 (tgt := 97) rfl ?_
        exact ih (i + 1) (upd f (Int32.toNatClampNeg (nI i)) (-1)) H locs ls (by omega) (by omega) (fun j hj => by
          rw [cl_nI (by omega)]
          by_cases c : j = i
          · rw [c, upd_s]
          · rw [upd_n _ _ c]; exact hf j (by omega)) hP hD hS hl
  refine lv_iconst (v := 0) hx hb d_X1i_94 (by decide) ?_
  refine lv_istore (lv' := [(6, .int (nI 0)), (0, .ref h0), (1, .ref r1), (2, .ref r2), (3, .ref r3), (4, .ref r4), (5, .null)]) hx hb d_X1i_95 hl (by decide) rfl (fun ls hl => ?_)
  exact loop 12 0 _ _ _ ls (by omega) (by omega) (fun j hj => absurd hj (by omega)) hP hD hS hl
