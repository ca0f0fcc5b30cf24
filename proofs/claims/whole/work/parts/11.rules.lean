/-! what the tables' checks say, in the words of the rules -/
theorem ax_m_of {a : Nat} {m' : ax_Mi} (h : ax_mis[a]? = some m') : ax_m a = m' := by
  unfold ax_m
  rw [List.getD_eq_getElem?_getD, h]
  rfl
theorem ax_cok_of {oc fr lo b : Nat} {st : Bool} {sw : List (Int32 × Nat)} {o : Option ax_Mi} (h : ax_cok (oc, true) (0, st) fr lo b sw o = true) : ∃ m' : ax_Mi, o = some m' ∧ 0 < m'.2.2.2.2.2.2.2.1 ∧ m'.2.2.2.2.2.2.2.2.2.2.2 = st ∧ m'.2.2.2.2.1 = oc ∧ m'.2.2.2.2.2.1 + 1 ≤ fr ∧ 8 + (m'.2.2.1 + 11) + m'.2.2.2.2.2.2.1 ≤ lo ∧ (∃ x q, sw = [(x, m'.2.2.1), q]) ∧ (parseMethodDescriptor m'.1.desc).map (fun d => d.parameters.length) = some b := by
  cases o with
  | none => cases h
  | some m' =>
    obtain ⟨y, bb, mL, rt, oc', fr', lo', p0, p1, p2, p3, st'⟩ := m'
    simp only [ax_cok, Bool.and_eq_true, Nat.blt_eq, Nat.ble_eq, Nat.beq_eq, decide_eq_true_eq, beq_iff_eq] at h
    obtain ⟨⟨⟨⟨⟨⟨h1, h2⟩, h3⟩, h4⟩, h5⟩, h6⟩, h7⟩ := h
    refine ⟨_, rfl, h1, h2, h3, h4, h5, ?_, h7⟩
    split at h6
    · rename_i x n q
      have h6 : n = mL := Nat.eq_of_beq_eq_true h6
      exact ⟨x, q, by rw [h6]⟩
    · cases h6
theorem ax_good_code (y : MethodName) (b : ByteArray) (n : Nat) (rt : Option FieldType) : ax_gw (.code y b n rt) = true := rfl
theorem ax_mi_of {a : Nat} {m' : ax_Mi} (h : ax_mis[a]? = some m') (h0 : 0 < m'.2.2.2.2.2.2.2.1) : Cond.code m'.1 m'.2.1 m'.2.2.1 m'.2.2.2.1 ∈ lw_w ∧ Cond.initialized m'.1.cls ∈ lw_w ∧ (m'.2.2.2.2.2.2.2.2.2.2.2 = true → Cond.static m'.1 ∈ lw_w) ∧ (m'.2.2.2.2.2.2.2.2.2.2.2 = false → Cond.instanceMethod m'.1 ∈ lw_w ∧ Cond.selects m'.1.cls m'.1 m'.1 ∈ lw_w) ∧ m'.1.cls = ax_cnm m'.2.2.2.2.1 ∧ plainFor m'.1 = true ∧ (m'.1.cls ≠ "java/lang/invoke/MethodHandle" ∧ m'.1.cls ≠ "java/lang/invoke/VarHandle") := by
  have hc : Cond.code m'.1 m'.2.1 m'.2.2.1 m'.2.2.2.1 ∈ lw_tbl := by
    rcases mw_all m' (List.mem_of_getElem? h) with h1 | h1
    · omega
    · exact h1
  have hd : m' ∈ ax_mis.drop 1 := by
    cases a with
    | zero =>
      exfalso
      have e : ax_mis[0]? = some mi_L_law := rfl
      rw [e] at h
      cases h
      exact absurd h0 (by decide)
    | succ a =>
      refine List.mem_of_getElem? (i := a) ?_
      rw [List.getElem?_drop, Nat.add_comm 1 a]
      exact h
  have hm := List.all_eq_true.mp ax_mi_ok m' hd
  obtain ⟨y, bb, mL, rt, oc', fr', lo', p0, p1, p2, p3, st'⟩ := m'
  cases st' with
  | true =>
    simp only [ax_miok, Bool.and_eq_true, decide_eq_true_eq, cond_true] at hm
    obtain ⟨⟨⟨⟨h1, h2⟩, h3⟩, h4⟩, h5⟩ := hm
    exact ⟨lw_w_in hc rfl, lw_w_in (List.mem_of_getElem? h1) rfl, fun _ => lw_w_in (List.mem_of_getElem? h2) rfl, fun h => (by cases h), h3, h4, h5⟩
  | false =>
    simp only [ax_miok, Bool.and_eq_true, decide_eq_true_eq, cond_false] at hm
    obtain ⟨⟨⟨⟨h1, h2, h2'⟩, h3⟩, h4⟩, h5⟩ := hm
    exact ⟨lw_w_in hc rfl, lw_w_in (List.mem_of_getElem? h1) rfl, fun h => (by cases h), fun _ => ⟨lw_w_in (List.mem_of_getElem? h2) rfl, lw_w_in (List.mem_of_getElem? h2') rfl⟩, h3, h4, h5⟩
theorem ax_mok_of {oc x a : Nat} (h : ax_mok oc x a = true) : Cond.methodLink (ax_cnm oc) x (ax_nm a) ∈ lw_w ∨ Cond.methodLinkNest (ax_cnm oc) x (ax_nm a) "PlateHire" ∈ lw_w := by
  obtain ⟨q, hq, h1⟩ := List.any_eq_true.mp h
  have h2 := List.all_eq_true.mp ax_mt_ok q hq
  obtain ⟨oc', x', a', nest, p⟩ := q
  simp only [Bool.and_eq_true, Nat.beq_eq] at h1
  obtain ⟨⟨rfl, rfl⟩, rfl⟩ := h1
  have h2 := of_decide_eq_true h2
  cases nest with
  | true => exact Or.inr (lw_w_in (List.mem_of_getElem? h2) rfl)
  | false => exact Or.inl (lw_w_in (List.mem_of_getElem? h2) rfl)
theorem ax_iok_of {oc x : Nat} {v : Int32} (h : ax_iok oc x v = true) : Cond.constant (ax_cnm oc) x v ∈ lw_w := by
  obtain ⟨q, hq, h1⟩ := List.any_eq_true.mp h
  have h2 := List.all_eq_true.mp ax_ci_ok q hq
  obtain ⟨oc', x', v', p⟩ := q
  simp only [Bool.and_eq_true, Nat.beq_eq, decide_eq_true_eq] at h1
  obtain ⟨⟨rfl, rfl⟩, rfl⟩ := h1
  exact lw_w_in (List.mem_of_getElem? (of_decide_eq_true h2)) rfl
theorem ax_jok_of {oc x : Nat} {v : Int64} (h : ax_jok oc x v = true) : Cond.constantLong (ax_cnm oc) x v ∈ lw_w := by
  obtain ⟨q, hq, h1⟩ := List.any_eq_true.mp h
  have h2 := List.all_eq_true.mp ax_cj_ok q hq
  obtain ⟨oc', x', v', p⟩ := q
  simp only [Bool.and_eq_true, Nat.beq_eq, decide_eq_true_eq] at h1
  obtain ⟨⟨rfl, rfl⟩, rfl⟩ := h1
  exact lw_w_in (List.mem_of_getElem? (of_decide_eq_true h2)) rfl
theorem ax_us_in : ∀ q ∈ vwCl, ∀ w ∈ u_ws q.1 q.2.1 q.2.2, w ∈ lw_tbl ∧ ax_gw w = true := by decide +kernel
theorem ax_ty_in : ∀ q ∈ vwCl, (∃ ty : Nat → FieldType, ∀ k, k < q.2.2 → parseFieldDescriptor (q.2.1 k).2.2.1 = some (ty k)) ∧ ∀ a, a < q.2.2 → ∀ b, b < q.2.2 → a ≠ b → (q.2.1 a).2.1 ≠ (q.2.1 b).2.1 :=
  List.forall_mem_cons.mpr ⟨⟨⟨_, tyX0_ok⟩, nmX0⟩, List.forall_mem_cons.mpr ⟨⟨⟨_, tyX1_ok⟩, nmX1⟩, List.forall_mem_cons.mpr ⟨⟨⟨_, tyX2_ok⟩, nmX2⟩, List.forall_mem_cons.mpr ⟨⟨⟨_, tyX3_ok⟩, nmX3⟩, List.forall_mem_cons.mpr ⟨⟨⟨_, tyX4_ok⟩, nmX4⟩, List.forall_mem_cons.mpr ⟨⟨⟨_, tyX5_ok⟩, nmX5⟩, List.forall_mem_cons.mpr ⟨⟨⟨_, tyX6_ok⟩, nmX6⟩, List.forall_mem_cons.mpr ⟨⟨⟨_, tyX7_ok⟩, nmX7⟩, List.forall_mem_cons.mpr ⟨⟨⟨_, tyX8_ok⟩, nmX8⟩, List.forall_mem_cons.mpr ⟨⟨⟨_, tyX9_ok⟩, nmX9⟩, List.forall_mem_cons.mpr ⟨⟨⟨_, tyX10_ok⟩, nmX10⟩, List.forall_mem_cons.mpr ⟨⟨⟨_, tyX11_ok⟩, nmX11⟩, fun _ h => absurd h List.not_mem_nil⟩⟩⟩⟩⟩⟩⟩⟩⟩⟩⟩⟩
theorem ax_fok_of {oc x a b : Nat} (h : ax_fok oc x a b = true) : ∃ C T N, vwCl[a]? = some (C, T, N) ∧ b < N ∧ (∀ w ∈ u_ws C T N, w ∈ lw_w) ∧ ax_T a = T ∧ (Cond.fieldLink (ax_cnm oc) x (T b).1 (T b).2.1 (T b).2.2.1 ∈ lw_w ∨ Cond.fieldLinkNest (ax_cnm oc) x (T b).1 (T b).2.1 (T b).2.2.1 "PlateHire" ∈ lw_w) := by
  obtain ⟨q, hq, h1⟩ := List.any_eq_true.mp h
  have h2 := List.all_eq_true.mp ax_ft_ok q hq
  obtain ⟨oc', x', a', b', nest, p⟩ := q
  simp only [Bool.and_eq_true, Nat.beq_eq] at h1
  obtain ⟨⟨⟨rfl, rfl⟩, rfl⟩, rfl⟩ := h1
  simp only [Bool.and_eq_true, decide_eq_true_eq, Nat.blt_eq] at h2
  obtain ⟨⟨h3, h4⟩, h5⟩ := h2
  have hl : vwCl.length = 12 := rfl
  obtain ⟨⟨C, T, N⟩, hv⟩ : ∃ v, vwCl[a']? = some v := ⟨_, List.getElem?_eq_getElem (by rw [hl]; exact h4)⟩
  have hT : ax_T a' = T := by
    unfold ax_T
    rw [List.getD_eq_getElem?_getD, hv]
    rfl
  have hN : (vwCl.getD a' (RX0, TX0, 1)).2.2 = N := by
    rw [List.getD_eq_getElem?_getD, hv]
    rfl
  refine ⟨C, T, N, hv, by rw [← hN]; exact h5, fun w hw => ?_, hT, ?_⟩
  · obtain ⟨g1, g2⟩ := ax_us_in _ (List.mem_of_getElem? hv) w hw
    exact lw_w_in g1 g2
  · rw [← hT]
    cases nest with
    | true => exact Or.inr (lw_w_in (List.mem_of_getElem? h3) rfl)
    | false => exact Or.inl (lw_w_in (List.mem_of_getElem? h3) rfl)
theorem ax_dok_of {cc : ByteArray} {pc : Nat} {i : Instr} {r : Nat × Nat × Nat × Int32 × Int64 × List (Int32 × Nat)} (h : ax_dok cc (pc, i, r) = true) : ∃ n, decode cc pc = .ok (i, n) ∧ (ax_swi i = false → n = ax_len i) := by
  unfold ax_dok at h
  cases hd : decode cc pc with
  | error e => simp only [hd] at h; cases h
  | ok q =>
    obtain ⟨i', n⟩ := q
    simp only [hd, Bool.and_eq_true, decide_eq_true_eq, Bool.or_eq_true, Nat.beq_eq] at h
    obtain ⟨rfl, h2⟩ := h
    exact ⟨n, rfl, fun hs => by
      rcases h2 with h2 | h2
      · rw [hs] at h2; cases h2
      · exact h2⟩
theorem ax_li_of {L : ax_Lc} {i : Nat} {k : Int32 → Prop} (h : ax_li L i k) : ∃ x, ax_ld L i = some (.int x) ∧ k x := by
  unfold ax_li at h
  split at h
  · exact ⟨_, by assumption, h⟩
  · exact h.elim
theorem ax_ll_of {L : ax_Lc} {i : Nat} {k : Int64 → Prop} (h : ax_ll L i k) : ∃ x, ax_ld L i = some (.long x) ∧ k x := by
  unfold ax_ll at h
  split at h
  · exact ⟨_, by assumption, h⟩
  · exact h.elim
theorem ax_la_of {L : ax_Lc} {i : Nat} {k : Nat → Prop} (h : ax_la L i k) : ∃ x, ax_ld L i = some (.ref x) ∧ k x := by
  unfold ax_la at h
  split at h
  · exact ⟨_, by assumption, h⟩
  · exact h.elim
theorem ax_i1_of {st : List Value} {k : Int32 → List Value → Prop} (h : ax_i1 st k) : ∃ x r, st = .int x :: r ∧ k x r := by
  unfold ax_i1 at h
  split at h
  · exact ⟨_, _, rfl, h⟩
  · exact h.elim
theorem ax_i2_of {st : List Value} {k : Int32 → Int32 → List Value → Prop} (h : ax_i2 st k) : ∃ x y r, st = .int y :: .int x :: r ∧ k x y r := by
  unfold ax_i2 at h
  split at h
  · exact ⟨_, _, _, rfl, h⟩
  · exact h.elim
theorem ax_l1_of {st : List Value} {k : Int64 → List Value → Prop} (h : ax_l1 st k) : ∃ x r, st = .long x :: r ∧ k x r := by
  unfold ax_l1 at h
  split at h
  · exact ⟨_, _, rfl, h⟩
  · exact h.elim
theorem ax_l2_of {st : List Value} {k : Int64 → Int64 → List Value → Prop} (h : ax_l2 st k) : ∃ x y r, st = .long y :: .long x :: r ∧ k x y r := by
  unfold ax_l2 at h
  split at h
  · exact ⟨_, _, _, rfl, h⟩
  · exact h.elim
theorem ax_li2_of {st : List Value} {k : Int64 → Int32 → List Value → Prop} (h : ax_li2 st k) : ∃ x y r, st = .int y :: .long x :: r ∧ k x y r := by
  unfold ax_li2 at h
  split at h
  · exact ⟨_, _, _, rfl, h⟩
  · exact h.elim
theorem ax_r1_of {st : List Value} {k : Nat → List Value → Prop} (h : ax_r1 st k) : ∃ x r, st = .ref x :: r ∧ k x r := by
  unfold ax_r1 at h
  split at h
  · exact ⟨_, _, rfl, h⟩
  · exact h.elim
theorem ax_ri_of {st : List Value} {k : Nat → Int32 → List Value → Prop} (h : ax_ri st k) : ∃ x i r, st = .int i :: .ref x :: r ∧ k x i r := by
  unfold ax_ri at h
  split at h
  · exact ⟨_, _, _, rfl, h⟩
  · exact h.elim
theorem ax_rii_of {st : List Value} {k : Nat → Int32 → Int32 → List Value → Prop} (h : ax_rii st k) : ∃ x i v r, st = .int v :: .int i :: .ref x :: r ∧ k x i v r := by
  unfold ax_rii at h
  split at h
  · exact ⟨_, _, _, _, rfl, h⟩
  · exact h.elim
theorem ax_cell_of {x t : Nat} {k : Nat → List (Option (Option Nat)) → Prop} (h : ax_cell x t k) : ∃ n fs, ax_sh[x]? = some (t, n, fs) ∧ k n fs := by
  unfold ax_cell at h
  split at h
  · rename_i t' n fs hs
    cases hb : Nat.beq t' t with
    | true => rw [hb] at h; exact ⟨n, fs, by rw [← Nat.eq_of_beq_eq_true hb]; exact hs, h⟩
    | false => rw [hb] at h; exact h.elim
  · exact h.elim
theorem ax_cond_of {b : Bool} {k : Prop} (h : cond b k False) : b = true ∧ k := by
  cases b with
  | true => exact ⟨rfl, h⟩
  | false => exact h.elim
theorem ax_go_of {C : ax_Ca} {a : Nat} {sw : List (Int32 × Nat)} {as : List Value} {σ : ax_Sg} {k : List Value → ax_Sg → Prop} {n : Nat} (hs : ∃ x q, sw = [(x, n), q]) (h : ax_go C a sw as σ k) : ax_cat as ≤ n ∧ ∃ Q, C a (ax_en n as) σ Q ∧ ∀ o σ', Q o σ' → k o.toList σ' := by
  obtain ⟨x, ⟨y, kd⟩, rfl⟩ := hs
  obtain ⟨h1, h2⟩ := ax_cond_of h
  refine ⟨Nat.le_of_ble_eq_true h1, _, h2, fun o σ' hq => ?_⟩
  split at hq
  · unfold ax_ov at hq
    split at hq
    · exact hq
    · exact hq.elim
  · unfold ax_oi at hq
    split at hq
    · exact hq
    · exact hq.elim
  · unfold ax_or at hq
    split at hq
    · exact hq
    · exact hq.elim
theorem ax_fs_put (μ : Nat → Nat) (σ : ax_Sg) (k b : Nat) (w : Int32) (fs : List (Option (Option Nat))) (h : fs[b]? = some none) : ax_fs μ (ax_uc σ k (upd (σ k) b w)) k fs = (ax_fs μ σ k fs).set b (.int w) := by
  apply List.ext_getElem?
  intro i
  unfold ax_fs
  rw [List.getElem?_mapIdx, List.getElem?_set]
  by_cases hi : b = i
  · subst hi
    rw [if_pos rfl, if_pos (by rw [List.length_mapIdx]; exact (List.getElem?_eq_some_iff.mp h).1), h]
    simp only [Option.map_some, ax_fv, ax_uc_s, upd, if_pos]
  · rw [if_neg hi, List.getElem?_mapIdx]
    cases hf : fs[i]? with
    | none => rfl
    | some f =>
      match f with
      | none => simp only [Option.map_some, ax_fv, ax_uc_s, upd, if_neg (fun e : i = b => hi e.symm)]
      | some none => rfl
      | some (some r) => rfl
