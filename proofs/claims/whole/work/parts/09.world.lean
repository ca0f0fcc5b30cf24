/-! abstract locals, values and words against the machine's -/
theorem ax_vm_cat (μ : Nat → Nat) (v : Value) : (ax_vm μ v).category = v.category := by cases v <;> rfl
def ax_lv (μ : Nat → Nat) (nL : Nat) (L : ax_Lc) (ls : Array Slot) : Prop := ls.size = nL ∧ L.length ≤ nL ∧ lv_wf ls ∧ ∀ i v, ax_ld L i = some v → ls[i]? = some (.val (ax_vm μ v))
def ax_ls (μ : Nat → Nat) : Nat → ax_Lc → List (Nat × Value)
  | _, [] => []
  | j, none :: L => ax_ls μ (j + 1) L
  | j, some v :: L => (j, ax_vm μ v) :: ax_ls μ (j + 1) L
theorem ax_ls_mem (μ : Nat → Nat) : ∀ (L : ax_Lc) (j : Nat) (q : Nat × Value), q ∈ ax_ls μ j L ↔ ∃ i v, q = (j + i, ax_vm μ v) ∧ ax_ld L i = some v
  | [], j, q => by simp [ax_ls, ax_ld]
  | none :: L, j, q => by
    rw [ax_ls, ax_ls_mem μ L (j + 1) q]
    constructor
    · rintro ⟨i, v, h1, h2⟩
      exact ⟨i + 1, v, by rw [h1, Nat.add_assoc, Nat.add_comm 1 i], h2⟩
    · rintro ⟨i, v, h1, h2⟩
      match i, h1, h2 with
      | 0, h1, h2 => cases h2
      | i + 1, h1, h2 => exact ⟨i, v, by rw [h1, Nat.add_assoc, Nat.add_comm 1 i], h2⟩
  | some w :: L, j, q => by
    rw [ax_ls, List.mem_cons, ax_ls_mem μ L (j + 1) q]
    constructor
    · rintro (h | ⟨i, v, h1, h2⟩)
      · exact ⟨0, w, h, rfl⟩
      · exact ⟨i + 1, v, by rw [h1, Nat.add_assoc, Nat.add_comm 1 i], h2⟩
    · rintro ⟨i, v, h1, h2⟩
      match i, h1, h2 with
      | 0, h1, h2 => cases h2; exact Or.inl h1
      | i + 1, h1, h2 => exact Or.inr ⟨i, v, by rw [h1, Nat.add_assoc, Nat.add_comm 1 i], h2⟩
theorem ax_lv_has {μ : Nat → Nat} {nL : Nat} {L : ax_Lc} {ls : Array Slot} (h : ax_lv μ nL L ls) : lv_has ls nL (ax_ls μ 0 L) := by
  refine ⟨h.1, h.2.2.1, fun q hq => ?_⟩
  obtain ⟨i, v, rfl, h2⟩ := (ax_ls_mem μ L 0 q).mp hq
  rw [Nat.zero_add]
  exact h.2.2.2 i v h2
theorem ax_sv_len : ∀ (L : ax_Lc) (i : Nat) (v : Value), (ax_sv L i v).length = L.length
  | [], _, _ => rfl
  | _ :: _, 0, _ => rfl
  | o :: L, i + 1, v => by simp only [ax_sv, List.length_cons, ax_sv_len L i v]
theorem ax_cl_len : ∀ (L : ax_Lc) (i : Nat), (ax_cl L i).length = L.length
  | [], _ => rfl
  | _ :: _, 0 => rfl
  | o :: L, i + 1 => by simp only [ax_cl, List.length_cons, ax_cl_len L i]
theorem ax_sv_ld : ∀ (L : ax_Lc) (i : Nat) (v : Value) (j : Nat) (w : Value), ax_ld (ax_sv L i v) j = some w → (j = i ∧ w = v) ∨ (j ≠ i ∧ ax_ld L j = some w ∧ (j + 1 = i → w.category ≠ 2))
  | [], _, _, _, _, h => by cases h
  | _ :: _, 0, v, 0, w, h => by cases h; exact Or.inl ⟨rfl, rfl⟩
  | _ :: L, 0, v, j + 1, w, h => Or.inr ⟨Nat.succ_ne_zero j, h, fun q => by omega⟩
  | o :: L, i + 1, v, 0, w, h => by
    have h : ax_dr o i = some w := h
    refine Or.inr ⟨fun q => by omega, ?_, fun q => ?_⟩
    · match i, o, h with
      | 0, some (.long _), h => cases h
      | 0, some (.double _), h => cases h
      | 0, none, h => exact h
      | 0, some (.int _), h => exact h
      | 0, some (.float _), h => exact h
      | 0, some .null, h => exact h
      | 0, some (.ref _), h => exact h
      | 0, some (.retAddr _), h => exact h
      | i + 1, o, h => exact h
    · have hi : i = 0 := by omega
      subst hi
      match o, h with
      | some (.int _), h => cases h; simp [Value.category]
      | some (.float _), h => cases h; simp [Value.category]
      | some .null, h => cases h; simp [Value.category]
      | some (.ref _), h => cases h; simp [Value.category]
      | some (.retAddr _), h => cases h; simp [Value.category]
  | o :: L, i + 1, v, j + 1, w, h => by
    rcases ax_sv_ld L i v j w h with ⟨h1, h2⟩ | ⟨h1, h2, h3⟩
    · exact Or.inl ⟨by omega, h2⟩
    · exact Or.inr ⟨by omega, h2, fun q => h3 (by omega)⟩
theorem ax_cl_ld : ∀ (L : ax_Lc) (i j : Nat) (w : Value), ax_ld (ax_cl L i) j = some w → j ≠ i ∧ ax_ld L j = some w
  | [], _, _, _, h => by cases h
  | _ :: _, 0, 0, w, h => by cases h
  | _ :: L, 0, j + 1, w, h => ⟨Nat.succ_ne_zero j, h⟩
  | o :: L, i + 1, 0, w, h => ⟨by omega, h⟩
  | o :: L, i + 1, j + 1, w, h => ⟨by have := (ax_cl_ld L i j w h).1; omega, (ax_cl_ld L i j w h).2⟩
theorem ax_mk_ld : ∀ (bs : List Bool) (L : ax_Lc) (j : Nat) (w : Value), ax_ld (ax_mk bs L) j = some w → ax_ld L j = some w
  | [], L, j, w, h => by unfold ax_mk at h; exact h
  | b :: bs, [], j, w, h => by cases h
  | b :: bs, o :: L, 0, w, h => by
    have h : cond b o none = some w := h
    cases b
    · cases h
    · exact h
  | b :: bs, o :: L, j + 1, w, h => ax_mk_ld bs L j w h
theorem ax_mk_len : ∀ (bs : List Bool) (L : ax_Lc), (ax_mk bs L).length = L.length
  | [], L => by unfold ax_mk; rfl
  | b :: bs, [] => rfl
  | b :: bs, o :: L => by simp only [ax_mk, List.length_cons, ax_mk_len bs L]
/-- fewer locals -/
theorem ax_lv.sub {μ : Nat → Nat} {nL : Nat} {L L' : ax_Lc} {ls : Array Slot} (h : ax_lv μ nL L ls) (hl : L'.length = L.length) (hs : ∀ j w, ax_ld L' j = some w → ax_ld L j = some w) : ax_lv μ nL L' ls :=
  ⟨h.1, by rw [hl]; exact h.2.1, h.2.2.1, fun i v hv => h.2.2.2 i v (hs i v hv)⟩
theorem ax_lv.sv {μ : Nat → Nat} {nL : Nat} {L : ax_Lc} {ls ls' : Array Slot} {i : Nat} {v : Value} (h : ax_lv μ nL L ls) (h' : lv_has ls' nL ((i, ax_vm μ v) :: (ax_ls μ 0 L).filter (fun q => !(q.1 == i) && !(q.1 + 1 == i && q.2.category == 2)))) : ax_lv μ nL (ax_sv L i v) ls' := by
  refine ⟨h'.1, by rw [ax_sv_len]; exact h.2.1, h'.2.1, fun j w hw => ?_⟩
  rcases ax_sv_ld L i v j w hw with ⟨rfl, rfl⟩ | ⟨h1, h2, h3⟩
  · exact h'.2.2 _ List.mem_cons_self
  · refine h'.2.2 (j, ax_vm μ w) (List.mem_cons_of_mem _ (List.mem_filter.mpr ⟨(ax_ls_mem μ L 0 _).mpr ⟨j, w, by rw [Nat.zero_add], h2⟩, ?_⟩))
    have e1 : (j == i) = false := by simpa using h1
    simp only [e1, Bool.not_false, Bool.true_and, Bool.not_eq_true', Bool.and_eq_false_iff, beq_eq_false_iff_ne]
    by_cases hj : j + 1 = i
    · exact Or.inr (by rw [ax_vm_cat]; exact h3 hj)
    · exact Or.inl hj
theorem ax_lv.sv2 {μ : Nat → Nat} {nL : Nat} {L : ax_Lc} {ls ls' : Array Slot} {i : Nat} {v : Value} (h : ax_lv μ nL L ls) (h' : lv_has ls' nL ((i, ax_vm μ v) :: (ax_ls μ 0 L).filter (fun q => !(q.1 == i) && (!(q.1 == i + 1) && !(q.1 + 1 == i && q.2.category == 2))))) : ax_lv μ nL (ax_cl (ax_sv L i v) (i + 1)) ls' := by
  refine ⟨h'.1, by rw [ax_cl_len, ax_sv_len]; exact h.2.1, h'.2.1, fun j w hw => ?_⟩
  obtain ⟨h0, hw⟩ := ax_cl_ld _ _ _ _ hw
  rcases ax_sv_ld L i v j w hw with ⟨rfl, rfl⟩ | ⟨h1, h2, h3⟩
  · exact h'.2.2 _ List.mem_cons_self
  · refine h'.2.2 (j, ax_vm μ w) (List.mem_cons_of_mem _ (List.mem_filter.mpr ⟨(ax_ls_mem μ L 0 _).mpr ⟨j, w, by rw [Nat.zero_add], h2⟩, ?_⟩))
    have e1 : (j == i) = false := by simpa using h1
    have e2 : (j == i + 1) = false := by simpa using h0
    simp only [e1, e2, Bool.not_false, Bool.true_and, Bool.not_eq_true', Bool.and_eq_false_iff, beq_eq_false_iff_ne]
    by_cases hj : j + 1 = i
    · exact Or.inr (by rw [ax_vm_cat]; exact h3 hj)
    · exact Or.inl hj
theorem ax_c2_cat (v : Value) : v.category = cond (ax_c2 v) 2 1 := by cases v <;> rfl
theorem ax_en_ld (μ : Nat → Nat) : ∀ (as : List Value) (n i0 j : Nat) (w : Value), ax_ld (ax_en n as) j = some w → (i0 + j, ax_vm μ w) ∈ lv_args i0 (as.map (ax_vm μ))
  | [], n, i0, j, w, h => by
    exfalso
    have : ∀ (n j : Nat), ax_ld (List.replicate n none) j = none := by
      intro n
      induction n with
      | zero => intro j; rfl
      | succ n ih =>
        intro j
        cases j with
        | zero => rfl
        | succ j => exact ih j
    have e : ax_en n [] = List.replicate n none := by unfold ax_en; rfl
    rw [e, this] at h
    cases h
  | v :: vs, 0, i0, j, w, h => by cases h
  | v :: vs, 1, i0, j, w, h => by
    match j, h with
    | 0, h => cases h; exact List.mem_cons_self
    | j + 1, h => cases h
  | v :: vs, n + 2, i0, j, w, h => by
    have h : ax_ld (cond (ax_c2 v) (some v :: none :: ax_en n vs) (some v :: ax_en (n + 1) vs)) j = some w := h
    show _ ∈ (i0, ax_vm μ v) :: lv_args (if (ax_vm μ v).category = 2 then i0 + 2 else i0 + 1) (vs.map (ax_vm μ))
    rw [ax_vm_cat, ax_c2_cat]
    cases hc : ax_c2 v with
    | true =>
      rw [hc] at h
      match j, h with
      | 0, h => cases h; exact List.mem_cons_self
      | 1, h => cases h
      | j + 2, h =>
        have := ax_en_ld μ vs n (i0 + 2) j w h
        rw [show i0 + (j + 2) = i0 + 2 + j by omega]
        exact List.mem_cons_of_mem _ this
    | false =>
      rw [hc] at h
      match j, h with
      | 0, h => cases h; exact List.mem_cons_self
      | j + 1, h =>
        have := ax_en_ld μ vs (n + 1) (i0 + 1) j w h
        rw [show i0 + (j + 1) = i0 + 1 + j by omega]
        exact List.mem_cons_of_mem _ this
theorem ax_en_len : ∀ (as : List Value) (n : Nat), (ax_en n as).length ≤ n
  | [], n => by unfold ax_en; simp
  | v :: vs, 0 => by simp [ax_en]
  | v :: vs, 1 => by simp [ax_en]
  | v :: vs, n + 2 => by
    show (cond (ax_c2 v) (some v :: none :: ax_en n vs) (some v :: ax_en (n + 1) vs)).length ≤ n + 2
    cases ax_c2 v with
    | true => have := ax_en_len vs n; simp only [cond_true, List.length_cons]; omega
    | false => have := ax_en_len vs (n + 1); simp only [cond_false, List.length_cons]; omega
theorem ax_cat_sum (μ : Nat → Nat) : ∀ st : List Value, ((st.map (ax_vm μ)).map fun v => v.category).sum = ax_cat st
  | [] => rfl
  | v :: r => by
    simp only [List.map_cons, List.sum_cons, ax_cat_sum μ r, ax_vm_cat]
    cases v <;> rfl
theorem ax_sl_len : ∀ vs : List Value, (lg_sl vs).length = (vs.map fun v => v.category).sum
  | [] => rfl
  | v :: r => by
    have ih := ax_sl_len r
    have e : lg_sl (v :: r) = (if v.category = 2 then [.val v, .second] else [.val v]) ++ lg_sl r := rfl
    rw [e, List.length_append, ih, List.map_cons, List.sum_cons]
    rcases lv_cat v with h | h <;> simp [h]
