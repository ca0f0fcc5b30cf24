/-! the start -/
theorem fl_ex : ∀ i : Fin 6, Cond.exactly (Term.string "PlateHire$Tape" (75 + 2 * i.val)) "java/lang/String" ∈ flatC (Jvm.Cond.and given_1 narrow_1) := by decide +kernel
theorem fl_co : ∀ i : Fin 6, Cond.eq (.field (Term.string "PlateHire$Tape" (75 + 2 * i.val)) "java/lang/String" "coder" "B") (.int 0) ∈ flatC (Jvm.Cond.and given_1 narrow_1) := by decide +kernel
theorem fl_ar : ∀ i : Fin 6, Cond.arrayOf (.field (Term.string "PlateHire$Tape" (75 + 2 * i.val)) "java/lang/String" "value" "[B") .byte ∈ flatC (Jvm.Cond.and given_1 narrow_1) := by decide +kernel
theorem fl_le : ∀ i : Fin 6, Cond.eq (.length (.field (Term.string "PlateHire$Tape" (75 + 2 * i.val)) "java/lang/String" "value" "[B")) (.int (Int32.ofNat (ax_ln.getD i.val 0))) ∈ flatC (Jvm.Cond.and given_1 narrow_1) := by decide +kernel
theorem fl_el : ∀ i : Fin 6, ∀ j : Fin 6, j.val < ax_ln.getD i.val 0 → Cond.eq (.elem (.field (Term.string "PlateHire$Tape" (75 + 2 * i.val)) "java/lang/String" "value" "[B") (.int (Int32.ofNat j.val))) (.int ((ax_tx.getD i.val []).getD j.val 0)) ∈ flatC (Jvm.Cond.and given_1 narrow_1) := by decide +kernel
theorem fl_ne : ∀ i j : Fin 6, i ≠ j → Cond.not (Cond.eq (Term.string "PlateHire$Tape" (75 + 2 * i.val)) (Term.string "PlateHire$Tape" (75 + 2 * j.val))) ∈ flatC (Jvm.Cond.and given_1 narrow_1) ∨ Cond.not (Cond.eq (Term.string "PlateHire$Tape" (75 + 2 * j.val)) (Term.string "PlateHire$Tape" (75 + 2 * i.val))) ∈ flatC (Jvm.Cond.and given_1 narrow_1) := by decide +kernel
theorem fl_cs : Cond.eq (Term.static "java/lang/String" "COMPACT_STRINGS" "Z") (.int 1) ∈ flatC (Jvm.Cond.and given_1 narrow_1) := by decide +kernel
theorem fl_si : Cond.isRef (Term.static "jdk/internal/util/Preconditions" "SIOOBE_FORMATTER" "Ljava/util/function/BiFunction;") ∈ flatC (Jvm.Cond.and given_1 narrow_1) := by decide +kernel
theorem tb_sr : ∀ i : Fin 6, Cond.stringRef "PlateHire$Tape" (75 + 2 * i.val) (ax_sx.getD i.val "") ∈ lw_tbl := by decide +kernel
theorem tb_l1 : Cond.laysStatic "java/lang/String" "COMPACT_STRINGS" "Z" ∈ lw_tbl := by decide +kernel
theorem tb_l2 : Cond.laysStatic "jdk/internal/util/Preconditions" "SIOOBE_FORMATTER" "Ljava/util/function/BiFunction;" ∈ lw_tbl := by decide +kernel
theorem tb_i1 : Cond.initialized "java/lang/String" ∈ lw_tbl := by decide +kernel
theorem tb_i2 : Cond.initialized "jdk/internal/util/Preconditions" ∈ lw_tbl := by decide +kernel
theorem k_strs {s : State} {args : Array Value} {A : Nat → Prop} (hts : ∀ w ∈ lw_tbl, w.before args s = true) (hgv : (Jvm.Cond.and given_1 narrow_1).before args s = true) (hA : ∀ a : Nat, a < s.heap.size → ¬ A a) : ∃ adK : Nat → Nat, (∀ i, i < 6 → vk_R "PlateHire$Tape" (75 + 2 * i) (ax_sx.getD i "") (adK i) s) ∧ (∃ adV : Nat → Nat, vk_S 6 ax_ln ax_tx adK adV A s s.heap) ∧ va_Z "java/lang/String" "COMPACT_STRINGS" "Z" (.int 1) A s s.heap ∧ va_Zq "jdk/internal/util/Preconditions" "SIOOBE_FORMATTER" "Ljava/util/function/BiFunction;" A s s.heap := by
  have hs := flat_of_before _ hgv
  have hl6 : ∀ i : Fin 6, ax_ln.getD i.val 0 ≤ 6 := by decide
  obtain ⟨adK, adV, hV, hE⟩ := vk_Sof (args := args) (s := s) (N := 6) (tm := fun i => Term.string "PlateHire$Tape" (75 + 2 * i)) (len := ax_ln) (byt := ax_tx) (A := A) (fun i hi => by have := hl6 ⟨i, hi⟩; exact Nat.lt_of_le_of_lt this (by decide)) (fun i hi => hs _ (fl_ex ⟨i, hi⟩)) (fun i hi => hs _ (fl_co ⟨i, hi⟩)) (fun i hi => hs _ (fl_ar ⟨i, hi⟩)) (fun i hi => hs _ (fl_le ⟨i, hi⟩)) (fun i hi j hj => hs _ (fl_el ⟨i, hi⟩ ⟨j, Nat.lt_of_lt_of_le hj (hl6 ⟨i, hi⟩)⟩ hj)) (fun i j hi hj hij => by
    rcases fl_ne ⟨i, hi⟩ ⟨j, hj⟩ (fun e => hij (Fin.mk.inj e)) with h | h
    · exact Or.inl (hs _ h)
    · exact Or.inr (hs _ h)) hA
  exact ⟨adK, fun i hi => vk_R.of (hts _ (tb_sr ⟨i, hi⟩)) (hE i hi), ⟨adV, hV⟩, va_Zof (hts _ tb_l1) (hts _ tb_i1) (va_eqt (hs _ fl_cs)) hA, va_Zqof (hts _ tb_l2) (hts _ tb_i2) (hs _ fl_si) hA⟩
theorem vk_S_congr {adK ad' adV : Nat → Nat} {A : Nat → Prop} {U : State} {H : Heap} (h : ∀ i, i < 6 → ad' i = adK i) (h0 : vk_S 6 ax_ln ax_tx adK adV A U H) : vk_S 6 ax_ln ax_tx ad' adV A U H :=
  ⟨fun i hi => by rw [h i hi]; exact h0.1 i hi, fun i j hi hj e => h0.2 i j hi hj (by rw [← h i hi, ← h j hj]; exact e)⟩
theorem mu_str {xa ma adK : Nat → Nat} {b i : Nat} (hi : i < 6) : mu xa ma adK b (1000 + i) = adK i := by
  unfold mu
  rw [if_neg (by omega), if_neg (by omega), show 1000 + i - 1000 = i by omega]
theorem inv0 {f0 f1 f2 : Nat → Int32} (h0 : ∀ j, j < 24 → f0 j = -1) (h1 : ∀ j, j < 12 → f1 j = -1) : Inv (sg0 f0 f1 f2) := by
  refine ⟨0, 0, 0, 0, 0, 0, 0, 0, 0, ⟨by omega, rfl, rfl, fun p hp => absurd hp (by omega)⟩, ⟨by omega, rfl, rfl, fun p hp => absurd hp (by omega)⟩, ⟨fun p hp => absurd hp (by omega), fun i _ hi => h0 i hi, fun i hi => Or.inl (h0 i hi), fun i j hi hj e hne => absurd (h0 i hi) hne⟩, ⟨by omega, rfl, rfl, fun p hp => absurd hp (by omega)⟩, ⟨by omega, rfl, rfl, fun p hp => absurd hp (by omega)⟩, fun i hi => ⟨rfl, ?_⟩, ⟨by omega, rfl, rfl, rfl, rfl, rfl, fun p hp => absurd hp (by omega), fun p _ hp => h1 p hp, fun p hp => ⟨rfl, rfl, ?_⟩, fun k hk => ⟨rfl, rfl⟩, fun i hi => ⟨rfl, ?_⟩, fun w hw => rfl, fun w hw => ⟨0, by omega, rfl, rfl⟩⟩, ⟨by omega, rfl, rfl, fun p hp => absurd hp (by omega)⟩, ⟨by omega, rfl, rfl, fun p hp => absurd hp (by omega)⟩, ⟨by omega, rfl, rfl, fun p hp => absurd hp (by omega)⟩, ⟨by omega, rfl, rfl, fun p hp => absurd hp (by omega), fun i j hi => absurd hi (by omega)⟩⟩
  · show rg 0 20 0
    unfold rg; decide
  · show rg 0 ((0 : Nat) : Int) 0
    unfold rg; decide
  · show rg 0 20 0
    unfold rg; decide
theorem mu_ad {xa ma adK : Nat → Nat} {b : Nat} {f0 f1 f2 : Nat → Int32} {cI cZ : ClassId} {A : Nat → Prop} (hD : va_D A (wX xa f0 f1 f2 cI cZ ++ wM ma cI cZ)) : ax_ad (mu xa ma adK b) A := by
  have key : ∀ i, i < 93 → ∃ e : va_E, (wX xa f0 f1 f2 cI cZ ++ wM ma cI cZ)[gL.getD i 0]? = some (mu xa ma adK b i, e) := by
    intro i hi
    have hlt : i < ax_sh.length := by rw [ax_sh_len]; exact hi
    refine ⟨_, wa_all (adK := adK) (b := b) i (mu xa ma adK b i, ax_ce (mu xa ma adK b) cI cZ (sg0 f0 f1 f2) i ax_sh[i]) ?_⟩
    rw [ax_ws_at, List.getElem?_eq_getElem hlt]; rfl
  refine ⟨fun i j hi hj e => ?_, fun i hi => ?_⟩
  · obtain ⟨e1, h1⟩ := key i hi
    obtain ⟨e2, h2⟩ := key j hj
    have := hD.1 _ _ _ _ h1 h2 e
    exact Fin.mk.inj (gL_inj ⟨i, hi⟩ ⟨j, hj⟩ this)
  · obtain ⟨e1, h1⟩ := key i hi
    exact hD.2 _ _ h1
theorem wq_0 : Cond.instantiable RX0 1 ∈ lw_w := lw_w_in (by decide +kernel) rfl
theorem wq_1 : Cond.instantiable RX1 18 ∈ lw_w := lw_w_in (by decide +kernel) rfl
theorem wq_2 : Cond.instantiable RX2 6 ∈ lw_w := lw_w_in (by decide +kernel) rfl
theorem wq_3 : Cond.instantiable RX3 2 ∈ lw_w := lw_w_in (by decide +kernel) rfl
theorem wq_4 : Cond.instantiable RX4 5 ∈ lw_w := lw_w_in (by decide +kernel) rfl
theorem wq_5 : Cond.instantiable RX5 4 ∈ lw_w := lw_w_in (by decide +kernel) rfl
theorem wq_6 : Cond.instantiable RX6 5 ∈ lw_w := lw_w_in (by decide +kernel) rfl
theorem wq_7 : Cond.instantiable RX7 2 ∈ lw_w := lw_w_in (by decide +kernel) rfl
theorem wq_8 : Cond.instantiable RX8 10 ∈ lw_w := lw_w_in (by decide +kernel) rfl
theorem wq_9 : Cond.instantiable RX9 4 ∈ lw_w := lw_w_in (by decide +kernel) rfl
theorem wq_10 : Cond.instantiable RX10 11 ∈ lw_w := lw_w_in (by decide +kernel) rfl
theorem wq_11 : Cond.instantiable RX11 52 ∈ lw_w := lw_w_in (by decide +kernel) rfl
theorem d_law_0 : decode code 0 = .ok (.new 7, 3) := by decide +kernel
theorem d_law_3 : decode code 3 = .ok (.dup, 1) := by decide +kernel
theorem d_law_4 : decode code 4 = .ok (.invokespecial 9, 3) := by decide +kernel
theorem d_law_7 : decode code 7 = .ok (.astore_n 1, 1) := by decide +kernel
theorem d_law_8 : decode code 8 = .ok (.new 10, 3) := by decide +kernel
theorem d_law_11 : decode code 11 = .ok (.dup, 1) := by decide +kernel
theorem d_law_12 : decode code 12 = .ok (.invokespecial 12, 3) := by decide +kernel
theorem d_law_15 : decode code 15 = .ok (.astore_n 2, 1) := by decide +kernel
theorem d_law_16 : decode code 16 = .ok (.iconst 0, 1) := by decide +kernel
theorem d_law_17 : decode code 17 = .ok (.istore_n 3, 1) := by decide +kernel
theorem wlc_10 : Cond.classLink R_law 7 RX10 ∈ lw_w := lw_w_in (by decide +kernel) rfl
theorem wlc_11 : Cond.classLink R_law 10 RX11 ∈ lw_w := lw_w_in (by decide +kernel) rfl
theorem wln_10 : Cond.initialized RX10 ∈ lw_w := lw_w_in (by decide +kernel) rfl
theorem wln_11 : Cond.initialized RX11 ∈ lw_w := lw_w_in (by decide +kernel) rfl
theorem wlm_10 : Cond.methodLink R_law 9 yX10_init ∈ lw_w := lw_w_in (by decide +kernel) rfl
theorem wlm_11 : Cond.methodLink R_law 12 yX11_init ∈ lw_w := lw_w_in (by decide +kernel) rfl
theorem wlj_10 : Cond.instanceMethod yX10_init ∈ lw_w := lw_w_in (by decide +kernel) rfl
theorem wlj_11 : Cond.instanceMethod yX11_init ∈ lw_w := lw_w_in (by decide +kernel) rfl
theorem wlk_10 : Cond.code yX10_init cX10_init 1 none ∈ lw_w := lw_w_in (by decide +kernel) rfl
theorem wlk_11 : Cond.code yX11_init cX11_init 1 none ∈ lw_w := lw_w_in (by decide +kernel) rfl
