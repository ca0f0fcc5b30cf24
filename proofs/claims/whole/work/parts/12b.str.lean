/-! String.length and String.charAt of the six texts, over the library's own bytecode -/
def sx_U (adK adV : Nat → Nat) (U : State) : Prop :=
  vk_S 6 ax_ln ax_tx adK adV (fun _ => False) U U.heap ∧ va_Z "java/lang/String" "COMPACT_STRINGS" "Z" (.int 1) (fun _ => False) U U.heap ∧ va_Zq "jdk/internal/util/Preconditions" "SIOOBE_FORMATTER" "Ljava/util/function/BiFunction;" (fun _ => False) U U.heap
theorem sx_U.go {adK adV : Nat → Nat} {s U : State} {H : Heap} (h : sx_U adK adV s) (hW : s.WarmedH U.vm) (hU : U.heap = H) (hq : ∀ q, q < s.heap.size → H[q]? = s.heap[q]?) : sx_U adK adV U := by
  obtain ⟨h2, h3, h4⟩ := h
  have hq' : ∀ a, a < s.heap.size → ¬ False → U.heap[a]? = s.heap[a]? := by rw [hU]; exact fun a ha _ => hq a ha
  exact ⟨(h2.kept hq').moved hW.alike, (h3.kept hq').moved hW.alike, (h4.kept hq').moved hW.alike⟩
theorem sx_U.same {adK adV : Nat → Nat} {u U : State} (h : sx_U adK adV u) (hv : U.vm = u.vm) (hh : U.heap = u.heap) : sx_U adK adV U := by
  obtain ⟨h2, h3, h4⟩ := h
  have ha : u.vm.Alike U.vm := by rw [hv]; exact Vm.Alike.refl u.vm
  exact ⟨by rw [hh]; exact h2.moved ha, by rw [hh]; exact h3.moved ha, by rw [hh]; exact h4.moved ha⟩
theorem sx_of {μ : Nat → Nat} {A : Nat → Prop} {U : State} (h : ax_str μ A U) : ∃ adV, sx_U (fun i => μ (1000 + i)) adV U := by
  obtain ⟨_, ⟨adV, h2⟩, h3, h4⟩ := h
  exact ⟨adV, h2.narrow (fun _ h => h.elim), h3.narrow (fun _ h => h.elim), h4.narrow (fun _ h => h.elim)⟩
def sx_Q (v : Option Value) : Array Value → State → Outcome → State → Prop := fun _ st o t => o = .returned v ∧ va_F (fun _ => False) st t
theorem sx_blind {adK adV : Nat → Nat} (as : List Value) : FrameBlind (va_Pc as (sx_U adK adV)) := by
  intro a U g mk h
  exact ⟨h.1, h.2.same rfl rfl⟩
def sx_rm (f n : Nat) : Room := { frames := f, cells := 0, slots := 0, locals := n }
/-- what stands at a body of the library's -/
def sx_cx (y : MethodName) (cc : ByteArray) (maxL : Nat) (ret : Option FieldType) (adK adV : Nat → Nat) (as : List Value) (p : Program) (s : State) (m : MethodId) (meth : Method) (c : Code) (ls : Array Slot) : Prop :=
  p.tables.exec = Jvm.exec ∧ c.code = cc ∧ c.maxLocals = maxL ∧ s.vm.findClass y.cls = some m.cls ∧ (∀ w ∈ lw_w, w.before as.toArray s = true) ∧ meth.sig.returnType = ret ∧ meth.locks = false ∧ sx_U adK adV s ∧ ls.size = maxL ∧ ∀ q ∈ lv_args 0 as, ls[q.1]? = some (.val q.2)
theorem sx_met {l : Launch} {y : MethodName} {cc : ByteArray} {maxL : Nat} {ret : Option FieldType} {rm : Room} {adK adV : Nat → Nat} {as : List Value} {v : Option Value} (hplain : plainFor y = true) (hlen : (lg_sl as).length ≤ maxL)
    (body : ∀ p e s m below meth c ls, sx_cx y cc maxL ret adK adV as p s m meth c ls → W p l e rm s m as.toArray below meth c s.heap [] 0 0 (MQ below (sx_Q v) as.toArray s 0 0 (fun _ => False)) (F0 m 0 ls [])) :
    Met l y (Cond.code y cc maxL ret :: lw_w) rm (va_Pc as (sx_U adK adV)) (sx_Q v) 0 0 (fun _ => False) := by
  refine va_MetF (cc := cc) (maxL := maxL) (ret := ret) hplain rfl ?_
  intro p e s m args below meth c s₁ B hml hv
  obtain ⟨rfl, hU⟩ := hv
  have hts := atoms_spec (ws := Cond.code y cc maxL ret :: lw_w) B.pre
  have hown : s.vm.findClass y.cls = some m.cls := findClass_of_methodNamed B.named
  have hl := lv_entry as (n := maxL) hlen
  rw [lg_entry_eq]
  generalize (lg_sl as ++ List.replicate (maxL - (lg_sl as).length) Slot.unset).toArray = ls at hl ⊢
  exact body p e s m below meth c ls ⟨B.exec, B.bytes, hml, hown, fun w hw => hts w (List.mem_cons_of_mem _ hw), B.returns, B.notSynchronized, hU, hl.1, hl.2.2⟩
section SxCall
variable {p : Program} {l : Launch} {e : Env} {R : Room} {s : State} {m : MethodId} {args : Array Value} {below : List Frame} {meth : Method} {c : Code} {H : Heap} {locs : List Loc} {cells slots : Nat} {Q : State → Prop}
variable {pc : Nat} {ls : Array Slot} {rest st0 : List Value} {A : Nat → Prop}
theorem sx_call {v : Option Value} {a : Array Value} (hr : va_Run p l e R s m args below meth c H locs cells slots 0 0 (F0 m pc ls st0) rest (sx_Q v a) (fun _ => False)) (hS : va_S A s.heap H locs)
    (kk : ∀ (H1 : Heap) (locs1 : List Loc), (∀ q, q < H.size → H1[q]? = H[q]?) → va_S A s.heap H1 locs1 → W p l e R s m args below meth c H1 locs1 cells slots Q (F0 m (pc + 3) ls (v.toList ++ rest))) : W p l e R s m args below meth c H locs cells slots Q (F0 m pc ls st0) := by
  intro T hT X
  obtain ⟨v', st₀, t, T', L, h0, X', hL, e1, e2, ⟨hv, hz, hk⟩, st⟩ := hr T hT X
  have hv : v' = v := by cases hv; rfl
  subst hv
  rw [h0] at hz hk
  obtain ⟨t2, a1, b1⟩ := kk T'.heap (locs ++ L) (fun q hq => by rw [e1]; exact hk q hq (fun z => z))
    ⟨Nat.le_trans hS.1 (by rw [e1]; exact hz), fun q h1 h2 => by rw [e1, hk q (Nat.lt_of_lt_of_le h1 hS.1) (fun z => z)]; exact hS.2.1 q h1 h2, fun q hq => by
      rcases List.mem_append.mp hq with h | h
      · exact hS.2.2 q h
      · exact (hL q h).elim⟩ T' rfl X'
  exact ⟨t2, st t2 a1, b1⟩
end SxCall
theorem sx_w {w : Cond} (h : w ∈ lw_tbl) (hg : ax_gw w = true) : w ∈ lw_w := lw_w_in h hg
section SxBody
variable {l : Launch} {adK adV : Nat → Nat}
theorem d_coder_0 : decode cJ0_coder_7d493 0 = .ok (.getstatic 38, 3) := by decide +kernel
theorem d_coder_3 : decode cJ0_coder_7d493 3 = .ok (.ifCond .eq 10, 3) := by decide +kernel
theorem d_coder_6 : decode cJ0_coder_7d493 6 = .ok (.aload_n 0, 1) := by decide +kernel
theorem d_coder_7 : decode cJ0_coder_7d493 7 = .ok (.getfield 15, 3) := by decide +kernel
theorem d_coder_10 : decode cJ0_coder_7d493 10 = .ok (.goto 4, 3) := by decide +kernel
theorem d_coder_14 : decode cJ0_coder_7d493 14 = .ok (.ireturn, 1) := by decide +kernel
theorem w_comp : Cond.fieldLink "java/lang/String" 38 "java/lang/String" "COMPACT_STRINGS" "Z" ∈ lw_w := sx_w (by decide +kernel) rfl
theorem w_codf : Cond.fieldLink "java/lang/String" 15 "java/lang/String" "coder" "B" ∈ lw_w := sx_w (by decide +kernel) rfl
theorem w_valf : Cond.fieldLink "java/lang/String" 9 "java/lang/String" "value" "[B" ∈ lw_w := sx_w (by decide +kernel) rfl
theorem sx_coder {i : Nat} (hi : i < 6) : Met l yJ0_coder_7d493 (Cond.code yJ0_coder_7d493 cJ0_coder_7d493 1 (some .byte) :: lw_w) (sx_rm 0 0) (va_Pc [.ref (adK i)] (sx_U adK adV)) (sx_Q (some (.int 0))) 0 0 (fun _ => False) := by
  refine sx_met (by decide) (Nat.le_refl _) ?_
  intro p e s m below meth c ls ⟨hx, hb, hml, hown, hts, hr, hlk, hU, hls, hl⟩
  have hS : va_S (fun _ => False) s.heap s.heap [] := va_S.rf
  have hl0 : ls[0]? = some (.val (.ref (adK i))) := hl (0, _) List.mem_cons_self
  refine va_gets hx hb hU.2.1 hS hown (hts _ w_comp) (fun _ h => h) d_coder_0 ?_
  refine lv_if_eq hx hb d_coder_3 (tgt := 13) rfl (fun q => absurd q (by decide)) (fun _ => ?_)
  refine lv_aload_n hx hb d_coder_6 (i := 0) rfl hl0 ?_
  refine vk_getf hx hb (hU.1.1 i hi).2.1 hS hown (hts _ w_codf) (fun _ h => h) d_coder_7 ?_
  refine lv_goto hx hb d_coder_10 (tgt := 14) rfl ?_
  exact W.zret (v := 0) hx hb hr rfl (fun t ht hW => ⟨rfl, hS.F ht⟩) hS.2.2 d_coder_14 hlk
theorem d_lat_0 : decode cJ0_isLatin1_aae02 0 = .ok (.getstatic 38, 3) := by decide +kernel
theorem d_lat_3 : decode cJ0_isLatin1_aae02 3 = .ok (.ifCond .eq 14, 3) := by decide +kernel
theorem d_lat_6 : decode cJ0_isLatin1_aae02 6 = .ok (.aload_n 0, 1) := by decide +kernel
theorem d_lat_7 : decode cJ0_isLatin1_aae02 7 = .ok (.getfield 15, 3) := by decide +kernel
theorem d_lat_10 : decode cJ0_isLatin1_aae02 10 = .ok (.ifCond .ne 7, 3) := by decide +kernel
theorem d_lat_13 : decode cJ0_isLatin1_aae02 13 = .ok (.iconst 1, 1) := by decide +kernel
theorem d_lat_14 : decode cJ0_isLatin1_aae02 14 = .ok (.goto 4, 3) := by decide +kernel
theorem d_lat_18 : decode cJ0_isLatin1_aae02 18 = .ok (.ireturn, 1) := by decide +kernel
theorem sx_isLat {i : Nat} (hi : i < 6) : Met l yJ0_isLatin1_aae02 (Cond.code yJ0_isLatin1_aae02 cJ0_isLatin1_aae02 1 (some .boolean) :: lw_w) (sx_rm 0 0) (va_Pc [.ref (adK i)] (sx_U adK adV)) (sx_Q (some (.int 1))) 0 0 (fun _ => False) := by
  refine sx_met (by decide) (Nat.le_refl _) ?_
  intro p e s m below meth c ls ⟨hx, hb, hml, hown, hts, hr, hlk, hU, hls, hl⟩
  have hS : va_S (fun _ => False) s.heap s.heap [] := va_S.rf
  have hl0 : ls[0]? = some (.val (.ref (adK i))) := hl (0, _) List.mem_cons_self
  refine va_gets hx hb hU.2.1 hS hown (hts _ w_comp) (fun _ h => h) d_lat_0 ?_
  refine lv_if_eq hx hb d_lat_3 (tgt := 17) rfl (fun q => absurd q (by decide)) (fun _ => ?_)
  refine lv_aload_n hx hb d_lat_6 (i := 0) rfl hl0 ?_
  refine vk_getf hx hb (hU.1.1 i hi).2.1 hS hown (hts _ w_codf) (fun _ h => h) d_lat_7 ?_
  refine lv_if_ne hx hb d_lat_10 (tgt := 17) rfl (fun q => absurd rfl q) (fun _ => ?_)
  refine lv_iconst hx hb d_lat_13 (v := 1) rfl ?_
  refine lv_goto hx hb d_lat_14 (tgt := 18) rfl ?_
  exact W.zret (v := 1) hx hb hr rfl (fun t ht hW => ⟨rfl, hS.F ht⟩) hS.2.2 d_lat_18 hlk
theorem d_pre_0 : decode cJ3_checkIndex_8e157 0 = .ok (.iload_n 0, 1) := by decide +kernel
theorem d_pre_1 : decode cJ3_checkIndex_8e157 1 = .ok (.ifCond .lt 8, 3) := by decide +kernel
theorem d_pre_4 : decode cJ3_checkIndex_8e157 4 = .ok (.iload_n 0, 1) := by decide +kernel
theorem d_pre_5 : decode cJ3_checkIndex_8e157 5 = .ok (.iload_n 1, 1) := by decide +kernel
theorem d_pre_6 : decode cJ3_checkIndex_8e157 6 = .ok (.if_icmp .lt 10, 3) := by decide +kernel
theorem d_pre_16 : decode cJ3_checkIndex_8e157 16 = .ok (.iload_n 0, 1) := by decide +kernel
theorem d_pre_17 : decode cJ3_checkIndex_8e157 17 = .ok (.ireturn, 1) := by decide +kernel
theorem sx_pre {x n : Int32} {v : Value} (hv : v = .null ∨ ∃ t, v = .ref t) (h0 : ¬ x < 0) (h1 : x < n) : Met l yJ3_checkIndex_8e157 (Cond.code yJ3_checkIndex_8e157 cJ3_checkIndex_8e157 3 (some .int) :: lw_w) (sx_rm 0 0) (va_Pc [.int x, .int n, v] (sx_U adK adV)) (sx_Q (some (.int x))) 0 0 (fun _ => False) := by
  refine sx_met (by decide) (by rcases hv with rfl | ⟨t, rfl⟩ <;> exact Nat.le_refl _) ?_
  intro p e s m below meth c ls ⟨hx, hb, hml, hown, hts, hr, hlk, hU, hls, hl⟩
  have hS : va_S (fun _ => False) s.heap s.heap [] := va_S.rf
  have hl0 : ls[0]? = some (.val (.int x)) := hl (0, _) List.mem_cons_self
  have hl1 : ls[1]? = some (.val (.int n)) := hl (1, _) (List.mem_cons_of_mem _ List.mem_cons_self)
  refine lv_iload_n hx hb d_pre_0 (i := 0) rfl hl0 ?_
  refine lv_if_lt hx hb d_pre_1 (tgt := 9) rfl (fun q => absurd q h0) (fun _ => ?_)
  refine lv_iload_n hx hb d_pre_4 (i := 0) rfl hl0 ?_
  refine lv_iload_n hx hb d_pre_5 (i := 1) rfl hl1 ?_
  refine lv_icmp_lt hx hb d_pre_6 (tgt := 16) rfl (fun _ => ?_) (fun q => absurd h1 q)
  refine lv_iload_n hx hb d_pre_16 (i := 0) rfl hl0 ?_
  exact W.iret (v := x) hx hb hr (fun t ht hW => ⟨rfl, hS.F ht⟩) hS.2.2 d_pre_17 hlk
theorem sx_pay {y : MethodName} {cc : ByteArray} {maxL : Nat} {ret : Option FieldType} {args : Array Value} {s : State} (hts : ∀ w ∈ lw_w, w.before args s = true) (hc : Cond.code y cc maxL ret ∈ lw_w) : ∀ w ∈ (Cond.code y cc maxL ret :: lw_w), ∀ (a' : Array Value) (U : State), s.WarmedH U.vm → w.before a' U = true := fun w hw a' U hW => by
  rcases List.mem_cons.mp hw with rfl | h
  · exact ax_pay hts hc a' U hW
  · exact ax_pay hts h a' U hW
theorem d_chk_0 : decode cJ0_checkIndex_df160 0 = .ok (.iload_n 0, 1) := by decide +kernel
theorem d_chk_1 : decode cJ0_checkIndex_df160 1 = .ok (.iload_n 1, 1) := by decide +kernel
theorem d_chk_2 : decode cJ0_checkIndex_df160 2 = .ok (.getstatic 1053, 3) := by decide +kernel
theorem d_chk_5 : decode cJ0_checkIndex_df160 5 = .ok (.invokestatic 1059, 3) := by decide +kernel
theorem d_chk_8 : decode cJ0_checkIndex_df160 8 = .ok (.pop, 1) := by decide +kernel
theorem d_chk_9 : decode cJ0_checkIndex_df160 9 = .ok (.return_, 1) := by decide +kernel
theorem w_sio : Cond.fieldLink "java/lang/String" 1053 "jdk/internal/util/Preconditions" "SIOOBE_FORMATTER" "Ljava/util/function/BiFunction;" ∈ lw_w := sx_w (by decide +kernel) rfl
theorem w_prec : Cond.code yJ3_checkIndex_8e157 cJ3_checkIndex_8e157 3 (some .int) ∈ lw_w := sx_w (by decide +kernel) rfl
theorem w_prei : Cond.initialized "jdk/internal/util/Preconditions" ∈ lw_w := sx_w (by decide +kernel) rfl
theorem w_prel : Cond.methodLink "java/lang/String" 1059 yJ3_checkIndex_8e157 ∈ lw_w := sx_w (by decide +kernel) rfl
theorem w_pres : Cond.static yJ3_checkIndex_8e157 ∈ lw_w := sx_w (by decide +kernel) rfl
theorem sx_chk {x n : Int32} (h0 : ¬ x < 0) (h1 : x < n) : Met l yJ0_checkIndex_df160 (Cond.code yJ0_checkIndex_df160 cJ0_checkIndex_df160 2 none :: lw_w) (sx_rm 1 22) (va_Pc [.int x, .int n] (sx_U adK adV)) (sx_Q none) 0 0 (fun _ => False) := by
  refine sx_met (by decide) (Nat.le_refl _) ?_
  intro p e s m below meth c ls ⟨hx, hb, hml, hown, hts, hr, hlk, hU, hls, hl⟩
  have hS : va_S (fun _ => False) s.heap s.heap [] := va_S.rf
  have hl0 : ls[0]? = some (.val (.int x)) := hl (0, _) List.mem_cons_self
  have hl1 : ls[1]? = some (.val (.int n)) := hl (1, _) (List.mem_cons_of_mem _ List.mem_cons_self)
  refine lv_iload_n hx hb d_chk_0 (i := 0) rfl hl0 ?_
  refine lv_iload_n hx hb d_chk_1 (i := 1) rfl hl1 ?_
  have hz : ∃ v : Value, (v = .null ∨ ∃ t, v = .ref t) ∧ va_Z "jdk/internal/util/Preconditions" "SIOOBE_FORMATTER" "Ljava/util/function/BiFunction;" v (fun _ => False) s s.heap := by
    rcases hU.2.2 with h | ⟨t, h⟩
    · exact ⟨.null, Or.inl rfl, h⟩
    · exact ⟨.ref t, Or.inr ⟨t, rfl⟩, h⟩
  obtain ⟨v, hv, hz⟩ := hz
  refine va_gets hx hb hz hS hown (hts _ w_sio) (fun _ h => h) d_chk_2 ?_
  have run := va_runS (p := p) (e := e) (R := sx_rm 1 22) (s := s) (m := m) (args := [Value.int x, Value.int n].toArray) (below := below) (meth := meth) (c := c) (H := s.heap) (locs := []) (cells := 0) (slots := 0) (nL := 2) (Ts := lw_w) (own := "java/lang/String") (bytes := cJ3_checkIndex_8e157) (maxL := 3) (ret := some .int) (n := 3) (g := F0 m 5 ls [v, .int n, .int x]) (rest := []) ⟨hx, hb, hml, hown, hts⟩ (sx_pre (l := l) (adK := adK) (adV := adV) hv h0 h1) ⟨⟨rfl, rfl, by decide, by decide, sx_pay hts w_prec, List.mem_cons_self, hts _ w_prec, hts _ w_prei, ⟨by decide, by decide⟩, fun sig h => by cases h; rfl, hts _ w_prel⟩, hts _ w_pres⟩ ⟨sx_blind _, fun U hU' hW => ⟨rfl, hU.go hW hU' (fun _ _ => rfl)⟩⟩ rfl rfl hls rfl (lv_room (by decide)) d_chk_5 ⟨Nat.le_refl _, Nat.le_refl _⟩
  refine sx_call run hS (fun H1 locs1 hH hS1 => ?_)
  refine lv_pop hx hb d_chk_8 (va := .int x) rfl ?_
  exact W.vret hx hb hr (fun t ht hW => ⟨rfl, hS1.F ht⟩) hS1.2.2 d_chk_9 hlk
theorem d_lch_0 : decode cJ1_charAt_3b067 0 = .ok (.iload_n 1, 1) := by decide +kernel
theorem d_lch_1 : decode cJ1_charAt_3b067 1 = .ok (.aload_n 0, 1) := by decide +kernel
theorem d_lch_2 : decode cJ1_charAt_3b067 2 = .ok (.arraylength, 1) := by decide +kernel
theorem d_lch_3 : decode cJ1_charAt_3b067 3 = .ok (.invokestatic 9, 3) := by decide +kernel
theorem d_lch_6 : decode cJ1_charAt_3b067 6 = .ok (.aload_n 0, 1) := by decide +kernel
theorem d_lch_7 : decode cJ1_charAt_3b067 7 = .ok (.iload_n 1, 1) := by decide +kernel
theorem d_lch_8 : decode cJ1_charAt_3b067 8 = .ok (.baload, 1) := by decide +kernel
theorem d_lch_9 : decode cJ1_charAt_3b067 9 = .ok (.sipush 255, 3) := by decide +kernel
theorem d_lch_12 : decode cJ1_charAt_3b067 12 = .ok (.iand, 1) := by decide +kernel
theorem d_lch_13 : decode cJ1_charAt_3b067 13 = .ok (.i2c, 1) := by decide +kernel
theorem d_lch_14 : decode cJ1_charAt_3b067 14 = .ok (.ireturn, 1) := by decide +kernel
theorem w_chkc : Cond.code yJ0_checkIndex_df160 cJ0_checkIndex_df160 2 none ∈ lw_w := sx_w (by decide +kernel) rfl
theorem w_stri : Cond.initialized "java/lang/String" ∈ lw_w := sx_w (by decide +kernel) rfl
theorem w_chkl : Cond.methodLink "java/lang/StringLatin1" 9 yJ0_checkIndex_df160 ∈ lw_w := sx_w (by decide +kernel) rfl
theorem w_chks : Cond.static yJ0_checkIndex_df160 ∈ lw_w := sx_w (by decide +kernel) rfl
theorem tx_and : ∀ k : Fin 6, ∀ i : Fin 6, (((((ax_tx.getD k.val []).getD i.val 0) &&& 255).toUInt32 % 65536).toInt32) = (ax_tx.getD k.val []).getD i.val 0 := by decide
theorem tx_len : ∀ k : Fin 6, ax_ln.getD k.val 0 = (ax_tx.getD k.val []).length ∧ (ax_tx.getD k.val []).length ≤ 6 := by decide
theorem nar_c (v : Int32) : narrow .char (.int v) = .int ((v.toUInt32 % 65536).toInt32) := rfl
theorem tx_nar : ∀ k : Fin 6, ∀ i : Fin 6, ((((ax_tx.getD k.val []).getD i.val 0).toUInt32 % 65536).toInt32) = (ax_tx.getD k.val []).getD i.val 0 := by decide
theorem sx_latc {i : Nat} (hi : i < 6) {x : Int32} (hin : vp_in x (ax_tx.getD i []).length) : Met l yJ1_charAt_3b067 (Cond.code yJ1_charAt_3b067 cJ1_charAt_3b067 2 (some .char) :: lw_w) (sx_rm 2 43) (va_Pc [.ref (adV i), .int x] (sx_U adK adV)) (sx_Q (some (.int ((ax_tx.getD i []).getD x.toNatClampNeg 0)))) 0 0 (fun _ => False) := by
  obtain ⟨hln, hl6⟩ := tx_len ⟨i, hi⟩
  have hln : ax_ln.getD i 0 = (ax_tx.getD i []).length := hln
  have hl6 : (ax_tx.getD i []).length ≤ 6 := hl6
  have hx0 : ¬ x < 0 := fun z => hin (Or.inl z)
  have h1 : x.toNatClampNeg < (ax_tx.getD i []).length := Nat.lt_of_not_le (fun z => hin (Or.inr z))
  have hx6 : x.toNatClampNeg < 6 := by omega
  refine sx_met (by decide) (Nat.le_refl _) ?_
  intro p e s m below meth c ls ⟨hx, hb, hml, hown, hts, hr, hlk, hU, hls, hl⟩
  have hS : va_S (fun _ => False) s.heap s.heap [] := va_S.rf
  have hl0 : ls[0]? = some (.val (.ref (adV i))) := hl (0, _) List.mem_cons_self
  have hl1 : ls[1]? = some (.val (.int x)) := hl (1, _) (List.mem_cons_of_mem _ List.mem_cons_self)
  have hTt := (hU.1.1 i hi).2.2.2
  refine lv_iload_n hx hb d_lch_0 (i := 1) rfl hl1 ?_
  refine lv_aload_n hx hb d_lch_1 (i := 0) rfl hl0 ?_
  refine va_tlen hx hb hTt hS rfl d_lch_2 ?_
  have hxn : x < Int32.ofNat (ax_ln.getD i 0) := by
    rw [hln, Int32.lt_iff_toInt_lt]
    have e1 : (Int32.ofNat (ax_tx.getD i []).length).toInt = ((ax_tx.getD i []).length : Int) := nI_toInt (by omega)
    have e2 : x.toNatClampNeg = x.toInt.toNat := rfl
    rw [Int32.lt_iff_toInt_lt] at hx0
    have e3 : (0 : Int32).toInt = 0 := by decide
    rw [e3] at hx0
    omega
  have run := va_runS (p := p) (e := e) (R := sx_rm 2 43) (s := s) (m := m) (args := [Value.ref (adV i), Value.int x].toArray) (below := below) (meth := meth) (c := c) (H := s.heap) (locs := []) (cells := 0) (slots := 0) (nL := 2) (Ts := lw_w) (own := "java/lang/StringLatin1") (bytes := cJ0_checkIndex_df160) (maxL := 2) (ret := none) (n := 2) (g := F0 m 3 ls [.int (Int32.ofNat (ax_ln.getD i 0)), .int x]) (rest := []) ⟨hx, hb, hml, hown, hts⟩ (sx_chk (l := l) (adK := adK) (adV := adV) hx0 hxn) ⟨⟨rfl, rfl, by decide, by decide, sx_pay hts w_chkc, List.mem_cons_self, hts _ w_chkc, hts _ w_stri, ⟨by decide, by decide⟩, fun sig h => by cases h; rfl, hts _ w_chkl⟩, hts _ w_chks⟩ ⟨sx_blind _, fun U hU' hW => ⟨rfl, hU.go hW hU' (fun _ _ => rfl)⟩⟩ rfl rfl hls rfl (lv_room (by decide)) d_lch_3 ⟨Nat.le_refl _, Nat.le_refl _⟩
  refine sx_call run hS (fun H1 locs1 hH hS1 => ?_)
  refine lv_aload_n hx hb d_lch_6 (i := 0) rfl hl0 ?_
  refine lv_iload_n hx hb d_lch_7 (i := 1) rfl hl1 ?_
  refine va_tb hx hb hTt hS1 (by rw [hln]; exact hin) rfl d_lch_8 ?_
  refine lv_sipush hx hb d_lch_9 (v := 255) rfl ?_
  refine lv_iand hx hb d_lch_12 ?_
  refine lv_i2c hx hb d_lch_13 (tx_and ⟨i, hi⟩ ⟨x.toNatClampNeg, hx6⟩) ?_
  exact W.zret (v := (ax_tx.getD i []).getD x.toNatClampNeg 0) hx hb hr (by rw [nar_c]; exact congrArg Value.int (tx_nar ⟨i, hi⟩ ⟨x.toNatClampNeg, hx6⟩)) (fun t ht hW => ⟨rfl, hS1.F ht⟩) hS1.2.2 d_lch_14 hlk
theorem d_len_0 : decode cJ0_length_8abf5 0 = .ok (.aload_n 0, 1) := by decide +kernel
theorem d_len_1 : decode cJ0_length_8abf5 1 = .ok (.getfield 9, 3) := by decide +kernel
theorem d_len_4 : decode cJ0_length_8abf5 4 = .ok (.arraylength, 1) := by decide +kernel
theorem d_len_5 : decode cJ0_length_8abf5 5 = .ok (.aload_n 0, 1) := by decide +kernel
theorem d_len_6 : decode cJ0_length_8abf5 6 = .ok (.invokevirtual 335, 3) := by decide +kernel
theorem d_len_9 : decode cJ0_length_8abf5 9 = .ok (.ishr, 1) := by decide +kernel
theorem d_len_10 : decode cJ0_length_8abf5 10 = .ok (.ireturn, 1) := by decide +kernel
theorem w_codc : Cond.code yJ0_coder_7d493 cJ0_coder_7d493 1 (some .byte) ∈ lw_w := sx_w (by decide +kernel) rfl
theorem w_codl : Cond.methodLink "java/lang/String" 335 yJ0_coder_7d493 ∈ lw_w := sx_w (by decide +kernel) rfl
theorem w_codi : Cond.instanceMethod yJ0_coder_7d493 ∈ lw_w := sx_w (by decide +kernel) rfl
theorem w_cods : Cond.selects "java/lang/String" yJ0_coder_7d493 yJ0_coder_7d493 ∈ lw_w := sx_w (by decide +kernel) rfl
theorem tx_shr : ∀ k : Fin 6, Int32.ofNat (ax_ln.getD k.val 0) >>> ((0 : Int32) &&& 31) = Int32.ofNat (ax_tx.getD k.val []).length := by decide
theorem sx_length {i : Nat} (hi : i < 6) : Met l yJ0_length_8abf5 (Cond.code yJ0_length_8abf5 cJ0_length_8abf5 1 (some .int) :: lw_w) (sx_rm 1 20) (va_Pc [.ref (adK i)] (sx_U adK adV)) (sx_Q (some (.int (Int32.ofNat (ax_tx.getD i []).length)))) 0 0 (fun _ => False) := by
  refine sx_met (by decide) (Nat.le_refl _) ?_
  intro p e s m below meth c ls ⟨hx, hb, hml, hown, hts, hr, hlk, hU, hls, hl⟩
  have hS : va_S (fun _ => False) s.heap s.heap [] := va_S.rf
  have hl0 : ls[0]? = some (.val (.ref (adK i))) := hl (0, _) List.mem_cons_self
  refine lv_aload_n hx hb d_len_0 (i := 0) rfl hl0 ?_
  refine vk_getf hx hb (hU.1.1 i hi).2.2.1 hS hown (hts _ w_valf) (fun _ h => h) d_len_1 ?_
  refine va_tlen hx hb (hU.1.1 i hi).2.2.2 hS rfl d_len_4 ?_
  refine lv_aload_n hx hb d_len_5 (i := 0) rfl hl0 ?_
  have run := va_runV (p := p) (e := e) (R := sx_rm 1 20) (s := s) (m := m) (args := [Value.ref (adK i)].toArray) (below := below) (meth := meth) (c := c) (H := s.heap) (locs := []) (cells := 0) (slots := 0) (nL := 1) (Ts := lw_w) (own := "java/lang/String") (C := "java/lang/String") (b := adK i) (As := []) (bytes := cJ0_coder_7d493) (maxL := 1) (ret := some .byte) (n := 0) (g := F0 m 6 ls [.ref (adK i), .int (Int32.ofNat (ax_ln.getD i 0))]) (rest := [.int (Int32.ofNat (ax_ln.getD i 0))]) ⟨hx, hb, hml, hown, hts⟩ (sx_coder (l := l) (adK := adK) (adV := adV) hi) ⟨⟨rfl, rfl, by decide, by decide, sx_pay hts w_codc, List.mem_cons_self, hts _ w_codc, hts _ w_stri, ⟨by decide, by decide⟩, fun sig h => by cases h; rfl, hts _ w_codl⟩, hts _ w_codi, hts _ w_cods⟩ ⟨sx_blind _, vk_recv hU.1 hi hS, fun U hU' hW => ⟨rfl, hU.go hW hU' (fun _ _ => rfl)⟩⟩ rfl rfl hls rfl (lv_room (show (1 : Nat) ≤ 8 by decide)) d_len_6 ⟨Nat.le_refl _, Nat.le_refl _⟩
  refine sx_call run hS (fun H1 locs1 hH hS1 => ?_)
  refine lv_ishr hx hb d_len_9 ?_
  rw [show Int32.ofNat (ax_ln.getD i 0) >>> ((0 : Int32) &&& 31) = Int32.ofNat (ax_tx.getD i []).length from tx_shr ⟨i, hi⟩]
  exact W.iret (v := Int32.ofNat (ax_tx.getD i []).length) hx hb hr (fun t ht hW => ⟨rfl, hS1.F ht⟩) hS1.2.2 d_len_10 hlk
theorem d_cha_0 : decode cJ0_charAt_5068e 0 = .ok (.aload_n 0, 1) := by decide +kernel
theorem d_cha_1 : decode cJ0_charAt_5068e 1 = .ok (.invokevirtual 492, 3) := by decide +kernel
theorem d_cha_4 : decode cJ0_charAt_5068e 4 = .ok (.ifCond .eq 12, 3) := by decide +kernel
theorem d_cha_7 : decode cJ0_charAt_5068e 7 = .ok (.aload_n 0, 1) := by decide +kernel
theorem d_cha_8 : decode cJ0_charAt_5068e 8 = .ok (.getfield 9, 3) := by decide +kernel
theorem d_cha_11 : decode cJ0_charAt_5068e 11 = .ok (.iload_n 1, 1) := by decide +kernel
theorem d_cha_12 : decode cJ0_charAt_5068e 12 = .ok (.invokestatic 495, 3) := by decide +kernel
theorem d_cha_15 : decode cJ0_charAt_5068e 15 = .ok (.ireturn, 1) := by decide +kernel
theorem w_latc : Cond.code yJ0_isLatin1_aae02 cJ0_isLatin1_aae02 1 (some .boolean) ∈ lw_w := sx_w (by decide +kernel) rfl
theorem w_latl : Cond.methodLink "java/lang/String" 492 yJ0_isLatin1_aae02 ∈ lw_w := sx_w (by decide +kernel) rfl
theorem w_lati : Cond.instanceMethod yJ0_isLatin1_aae02 ∈ lw_w := sx_w (by decide +kernel) rfl
theorem w_lats : Cond.selects "java/lang/String" yJ0_isLatin1_aae02 yJ0_isLatin1_aae02 ∈ lw_w := sx_w (by decide +kernel) rfl
theorem w_lchc : Cond.code yJ1_charAt_3b067 cJ1_charAt_3b067 2 (some .char) ∈ lw_w := sx_w (by decide +kernel) rfl
theorem w_lchl : Cond.methodLink "java/lang/String" 495 yJ1_charAt_3b067 ∈ lw_w := sx_w (by decide +kernel) rfl
theorem w_lchi : Cond.initialized "java/lang/StringLatin1" ∈ lw_w := sx_w (by decide +kernel) rfl
theorem w_lchs : Cond.static yJ1_charAt_3b067 ∈ lw_w := sx_w (by decide +kernel) rfl
theorem sx_charAt {i : Nat} (hi : i < 6) {x : Int32} (hin : vp_in x (ax_tx.getD i []).length) : Met l yJ0_charAt_5068e (Cond.code yJ0_charAt_5068e cJ0_charAt_5068e 2 (some .char) :: lw_w) (sx_rm 3 64) (va_Pc [.ref (adK i), .int x] (sx_U adK adV)) (sx_Q (some (.int ((ax_tx.getD i []).getD x.toNatClampNeg 0)))) 0 0 (fun _ => False) := by
  obtain ⟨hln, hl6⟩ := tx_len ⟨i, hi⟩
  have hl6 : (ax_tx.getD i []).length ≤ 6 := hl6
  have hx6 : x.toNatClampNeg < 6 := by
    have h1 : x.toNatClampNeg < (ax_tx.getD i []).length := Nat.lt_of_not_le (fun z => hin (Or.inr z))
    omega
  refine sx_met (by decide) (Nat.le_refl _) ?_
  intro p e s m below meth c ls ⟨hx, hb, hml, hown, hts, hr, hlk, hU, hls, hl⟩
  have hS : va_S (fun _ => False) s.heap s.heap [] := va_S.rf
  have hl0 : ls[0]? = some (.val (.ref (adK i))) := hl (0, _) List.mem_cons_self
  have hl1 : ls[1]? = some (.val (.int x)) := hl (1, _) (List.mem_cons_of_mem _ List.mem_cons_self)
  refine lv_aload_n hx hb d_cha_0 (i := 0) rfl hl0 ?_
  have run := va_runV (p := p) (e := e) (R := sx_rm 3 64) (s := s) (m := m) (args := [Value.ref (adK i), Value.int x].toArray) (below := below) (meth := meth) (c := c) (H := s.heap) (locs := []) (cells := 0) (slots := 0) (nL := 2) (Ts := lw_w) (own := "java/lang/String") (C := "java/lang/String") (b := adK i) (As := []) (bytes := cJ0_isLatin1_aae02) (maxL := 1) (ret := some .boolean) (n := 0) (g := F0 m 1 ls [.ref (adK i)]) (rest := []) ⟨hx, hb, hml, hown, hts⟩ (sx_isLat (l := l) (adK := adK) (adV := adV) hi) ⟨⟨rfl, rfl, by decide, by decide, sx_pay hts w_latc, List.mem_cons_self, hts _ w_latc, hts _ w_stri, ⟨by decide, by decide⟩, fun sig h => by cases h; rfl, hts _ w_latl⟩, hts _ w_lati, hts _ w_lats⟩ ⟨sx_blind _, vk_recv hU.1 hi hS, fun U hU' hW => ⟨rfl, hU.go hW hU' (fun _ _ => rfl)⟩⟩ rfl rfl hls rfl (lv_room (by decide)) d_cha_1 ⟨Nat.le_refl _, Nat.le_refl _⟩
  refine sx_call run hS (fun H1 locs1 hH hS1 => ?_)
  refine lv_if_eq hx hb d_cha_4 (tgt := 16) rfl (fun q => absurd q (by decide)) (fun _ => ?_)
  refine lv_aload_n hx hb d_cha_7 (i := 0) rfl hl0 ?_
  refine vk_getf hx hb (hU.1.1 i hi).2.2.1 hS1 hown (hts _ w_valf) (fun _ h => h) d_cha_8 ?_
  refine lv_iload_n hx hb d_cha_11 (i := 1) rfl hl1 ?_
  have run2 := va_runS (p := p) (e := e) (R := sx_rm 3 64) (s := s) (m := m) (args := [Value.ref (adK i), Value.int x].toArray) (below := below) (meth := meth) (c := c) (H := H1) (locs := locs1) (cells := 0) (slots := 0) (nL := 2) (Ts := lw_w) (own := "java/lang/String") (bytes := cJ1_charAt_3b067) (maxL := 2) (ret := some .char) (n := 2) (g := F0 m 12 ls [.int x, .ref (adV i)]) (rest := []) ⟨hx, hb, hml, hown, hts⟩ (sx_latc (l := l) (adK := adK) (adV := adV) hi hin) ⟨⟨rfl, rfl, by decide, by decide, sx_pay hts w_lchc, List.mem_cons_self, hts _ w_lchc, hts _ w_lchi, ⟨by decide, by decide⟩, fun sig h => by cases h; rfl, hts _ w_lchl⟩, hts _ w_lchs⟩ ⟨sx_blind _, fun U hU' hW => ⟨rfl, hU.go hW hU' hH⟩⟩ rfl rfl hls rfl (lv_room (by decide)) d_cha_12 ⟨Nat.le_refl _, Nat.le_refl _⟩
  refine sx_call run2 hS1 (fun H2 locs2 hH2 hS2 => ?_)
  exact W.zret (v := (ax_tx.getD i []).getD x.toNatClampNeg 0) hx hb hr (by rw [nar_c]; exact congrArg Value.int (tx_nar ⟨i, hi⟩ ⟨x.toNatClampNeg, hx6⟩)) (fun t ht hW => ⟨rfl, hS2.F ht⟩) hS2.2.2 d_cha_15 hlk
end SxBody
theorem w_lenc : Cond.code yJ0_length_8abf5 cJ0_length_8abf5 1 (some .int) ∈ lw_w := sx_w (by decide +kernel) rfl
theorem w_leni : Cond.instanceMethod yJ0_length_8abf5 ∈ lw_w := sx_w (by decide +kernel) rfl
theorem w_lens : Cond.selects "java/lang/String" yJ0_length_8abf5 yJ0_length_8abf5 ∈ lw_w := sx_w (by decide +kernel) rfl
theorem w_chac : Cond.code yJ0_charAt_5068e cJ0_charAt_5068e 2 (some .char) ∈ lw_w := sx_w (by decide +kernel) rfl
theorem w_chai : Cond.instanceMethod yJ0_charAt_5068e ∈ lw_w := sx_w (by decide +kernel) rfl
theorem w_chas : Cond.selects "java/lang/String" yJ0_charAt_5068e yJ0_charAt_5068e ∈ lw_w := sx_w (by decide +kernel) rfl
