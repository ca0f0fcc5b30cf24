/-! a method's body in the machine: its context, its contract out of the abstract judgement, calls -/
def ax_ln : List Nat := [5, 5, 6, 5, 5, 4]
def ax_sx : List String := ["base ", "step ", "night ", "ward ", "wait ", "cap "]
/-- the six texts and the two statics of the library -/
def ax_str (μ : Nat → Nat) (A : Nat → Prop) (U : State) : Prop :=
  (∀ i, i < 6 → vk_R "PlateHire$Tape" (75 + 2 * i) (ax_sx.getD i "") (μ (1000 + i)) U) ∧
  (∃ adV : Nat → Nat, vk_S 6 ax_ln ax_tx (fun i => μ (1000 + i)) adV A U U.heap) ∧
  va_Z "java/lang/String" "COMPACT_STRINGS" "Z" (.int 1) A U U.heap ∧
  va_Zq "jdk/internal/util/Preconditions" "SIOOBE_FORMATTER" "Ljava/util/function/BiFunction;" A U U.heap
theorem ax_str.go {μ : Nat → Nat} {A B : Nat → Prop} {s U : State} {H : Heap} {locs : List Loc} (h : ax_str μ A s) (hW : s.WarmedH U.vm) (hU : U.heap = H) (hS : va_S A s.heap H locs) (hAB : ∀ q, B q → A q) : ax_str μ B U := by
  obtain ⟨h1, ⟨adV, h2⟩, h3, h4⟩ := h
  have hq : ∀ a, a < s.heap.size → ¬ A a → U.heap[a]? = s.heap[a]? := by rw [hU]; exact hS.2.1
  exact ⟨fun i hi => (h1 i hi).warm hW, ⟨adV, ((h2.kept hq).narrow hAB).moved hW.alike⟩, ((h3.kept hq).narrow hAB).moved hW.alike, ((h4.kept hq).narrow hAB).moved hW.alike⟩
theorem ax_str.same {μ : Nat → Nat} {A : Nat → Prop} {u U : State} (h : ax_str μ A u) (hv : U.vm = u.vm) (hh : U.heap = u.heap) : ax_str μ A U := by
  obtain ⟨h1, ⟨adV, h2⟩, h3, h4⟩ := h
  have ha : u.vm.Alike U.vm := by rw [hv]; exact Vm.Alike.refl u.vm
  exact ⟨fun i hi => (h1 i hi).same hv, ⟨adV, by rw [hh]; exact h2.moved ha⟩, by rw [hh]; exact h3.moved ha, by rw [hh]; exact h4.moved ha⟩
def ax_cx (m0 : ax_Mi) (p : Program) (s : State) (m : MethodId) (args : Array Value) (c : Code) (R : Room) (cells slots : Nat) (μ : Nat → Nat) (cI cZ : ClassId) (D : va_G) (A : Nat → Prop) (scr : Option (Nat × (Nat → Int32))) : Prop :=
  p.tables.exec = Jvm.exec ∧ c.code = m0.2.1 ∧ c.maxLocals = m0.2.2.1 ∧ s.vm.findClass (ax_cnm m0.2.2.2.2.1) = some m.cls ∧ (∀ w ∈ lw_w, w.before args s = true) ∧ va_K D vwCl [(cI, .int), (cZ, .boolean)] s ∧ ax_ad μ A ∧ ax_str μ A s ∧ (m0.2.2.2.2.2.1 ≤ R.frames ∧ m0.2.2.2.2.2.2.1 ≤ R.locals ∧ cells ≤ R.cells ∧ slots ≤ R.slots) ∧ ∀ n xs, scr = some (n, xs) → va_X (μ 2000) n xs s s.heap ∧ μ 2000 < s.heap.size ∧ ¬ A (μ 2000)
def ax_W (p : Program) (l : Launch) (e : Env) (R : Room) (s : State) (m : MethodId) (args : Array Value) (below : List Frame) (meth : Method) (c : Code) (cells slots : Nat) (Q : State → Prop) (μ : Nat → Nat) (cI cZ : ClassId) (D : va_G) (A : Nat → Prop) (nL : Nat) (pc : Nat) (L : ax_Lc) (st : List Value) (σ : ax_Sg) : Prop :=
  ∀ (H : Heap) (locs : List Loc) (ls : Array Slot), ax_lv μ nL L ls → va_P D vwCl (ax_ws μ cI cZ σ) H → va_S A s.heap H locs → W p l e R s m args below meth c H locs cells slots Q (F0 m pc ls (st.map (ax_vm μ)))
def ax_Q (μ : Nat → Nat) (cI cZ : ClassId) (D : va_G) (P : Option Value → ax_Sg → Prop) : Array Value → State → Outcome → State → Prop := fun _ st o t =>
  (∃ (r : Option Value) (σ' : ax_Sg), o = .returned (r.map (ax_vm μ)) ∧ P r σ' ∧ va_P D vwCl (ax_ws μ cI cZ σ') t.heap) ∧ va_F (ax_A μ) st t
def ax_rm (m0 : ax_Mi) : Room := { frames := m0.2.2.2.2.2.1, cells := 0, slots := 0, locals := m0.2.2.2.2.2.2.1 }
/-- THE JUDGEMENT: wherever the method's body stands at pc with these locals, this stack, this world, it comes to its end with P -/
def ax_E (l : Launch) (m0 : ax_Mi) (pc : Nat) (L : ax_Lc) (st : List Value) (σ : ax_Sg) (P : Option Value → ax_Sg → Prop) : Prop :=
  ∀ (p : Program) (e : Env) (s : State) (m : MethodId) (args : Array Value) (below : List Frame) (meth : Method) (c : Code) (μ : Nat → Nat) (cI cZ : ClassId) (D : va_G), ax_cx m0 p s m args c (ax_rm m0) 0 0 μ cI cZ D (ax_A μ) none → meth.sig.returnType = m0.2.2.2.1 → meth.locks = false →
    ax_W p l e (ax_rm m0) s m args below meth c 0 0 (MQ below (ax_Q μ cI cZ D P) args s 0 0 (ax_A μ)) μ cI cZ D (ax_A μ) m0.2.2.1 pc L st σ
def Ev (l : Launch) (k pc : Nat) (L : ax_Lc) (st : List Value) (σ : ax_Sg) (P : Option Value → ax_Sg → Prop) : Prop := ax_E l (ax_m k) pc L st σ P
def ax_wd (m0 : ax_Mi) : List Cond := .code m0.1 m0.2.1 m0.2.2.1 m0.2.2.2.1 :: lw_w
def ax_P (μ : Nat → Nat) (cI cZ : ClassId) (D : va_G) (as : List Value) (σ : ax_Sg) : Array Value → State → Prop := va_Pc (as.map (ax_vm μ)) (fun U => va_P D vwCl (ax_ws μ cI cZ σ) U.heap ∧ va_K D vwCl [(cI, .int), (cZ, .boolean)] U ∧ ax_str μ (ax_A μ) U)
theorem ax_met {l : Launch} {m0 : ax_Mi} (hcls : m0.1.cls = ax_cnm m0.2.2.2.2.1) (hplain : plainFor m0.1 = true) {as : List Value} {σ : ax_Sg} {P : Option Value → ax_Sg → Prop} (hsz : ax_cat as ≤ m0.2.2.1) (hE : ax_E l m0 0 (ax_en m0.2.2.1 as) [] σ P) {μ : Nat → Nat} (cI cZ : ClassId) (D : va_G) {A : Nat → Prop} (had : ax_ad μ A) : Met l m0.1 (ax_wd m0) (ax_rm m0) (ax_P μ cI cZ D as σ) (ax_Q μ cI cZ D P) 0 0 (ax_A μ) := by
  refine va_MetF (cc := m0.2.1) (maxL := m0.2.2.1) (ret := m0.2.2.2.1) hplain rfl ?_
  intro p e s m args below meth c s₁ B hml hv
  obtain ⟨rfl, hP, hK, hSt⟩ := hv
  have hts := atoms_spec (ws := ax_wd m0) B.pre
  have hown : s.vm.findClass m0.1.cls = some m.cls := findClass_of_methodNamed B.named
  have hlen : (lg_sl (as.map (ax_vm μ))).length ≤ m0.2.2.1 := by rw [ax_sl_len, ax_cat_sum]; exact hsz
  have hl := lv_entry (as.map (ax_vm μ)) (n := m0.2.2.1) hlen
  rw [lg_entry_eq]
  generalize (lg_sl (as.map (ax_vm μ)) ++ List.replicate (m0.2.2.1 - (lg_sl (as.map (ax_vm μ))).length) Slot.unset).toArray = ls at hl ⊢
  refine hE p e s m _ below meth c μ cI cZ D ⟨B.exec, B.bytes, hml, by rw [← hcls]; exact hown, fun w hw => hts w (List.mem_cons_of_mem _ hw), hK, had.self, hSt, ⟨Nat.le_refl _, Nat.le_refl _, Nat.le_refl _, Nat.le_refl _⟩, fun n xs h => by cases h⟩ B.returns B.notSynchronized s.heap [] ls ⟨hl.1, ax_en_len as _, hl.2.1, fun i v hv => ?_⟩ hP va_S.rf
  have := hl.2.2 _ (ax_en_ld μ as m0.2.2.1 0 i v hv)
  rw [Nat.zero_add] at this
  exact this
theorem ax_pay {args : Array Value} {s : State} (hts : ∀ w ∈ lw_w, w.before args s = true) {w : Cond} (hw : w ∈ lw_w) (a' : Array Value) (U : State) (hW : s.WarmedH U.vm) : w.before a' U = true := by
  have h1 := hts w hw
  have hg : ax_gw w = true := (List.mem_filter.mp hw).2
  by_cases hgd : goodWord w = true
  · exact word_at hW (good_of_word hgd) h1
  · cases w with
    | fieldLinkNest a i b n d h => exact va_Nw.use rfl (va_Nw.warmF hW (va_Nw.of rfl h1))
    | methodLinkNest a i x h => exact va_Nw.use rfl (va_Nw.warmM hW (va_Nw.of rfl h1))
    | _ => simp [ax_gw, hgd] at hg
section AxCall
variable {p : Program} {l : Launch} {e : Env} {R : Room} {s : State} {m : MethodId} {args : Array Value} {below : List Frame} {meth : Method} {c : Code} {H : Heap} {locs : List Loc} {cells slots : Nat} {Q : State → Prop}
variable {pc : Nat} {ls : Array Slot} {rest st0 : List Value} {μ : Nat → Nat} {cI cZ : ClassId} {D : va_G} {A : Nat → Prop}
theorem ax_callQ {P : Option Value → ax_Sg → Prop} {a : Array Value} (hr : va_Run p l e R s m args below meth c H locs cells slots 0 0 (F0 m pc ls st0) rest (ax_Q μ cI cZ D P a) (ax_A μ)) (hS : va_S A s.heap H locs) (hA : ∀ q, ax_A μ q → A q)
    (kk : ∀ (r : Option Value) (σ' : ax_Sg) (H1 : Heap) (locs1 : List Loc), P r σ' → va_P D vwCl (ax_ws μ cI cZ σ') H1 → va_S A s.heap H1 locs1 → W p l e R s m args below meth c H1 locs1 cells slots Q (F0 m (pc + 3) ls ((r.map (ax_vm μ)).toList ++ rest))) : W p l e R s m args below meth c H locs cells slots Q (F0 m pc ls st0) := by
  intro T hT X
  obtain ⟨v, st₀, t, T', L, h0, X', hL, e1, e2, ⟨⟨r, σ', hv, hp, hb⟩, hz, hk⟩, st⟩ := hr T hT X
  have hv : v = r.map (ax_vm μ) := by cases hv; rfl
  subst hv
  rw [h0] at hz hk
  obtain ⟨t2, a1, b1⟩ := kk r σ' T'.heap (locs ++ L) hp (by rw [e1]; exact hb)
    ⟨Nat.le_trans hS.1 (by rw [e1]; exact hz), fun q h1 h2 => by rw [e1, hk q (Nat.lt_of_lt_of_le h1 hS.1) (fun z => h2 (hA q z))]; exact hS.2.1 q h1 h2, fun q hq => by
      rcases List.mem_append.mp hq with h | h
      · exact hS.2.2 q h
      · exact hA _ (hL q h)⟩ T' rfl X'
  exact ⟨t2, st t2 a1, b1⟩
theorem ax_blind (as : List Value) (σ : ax_Sg) : FrameBlind (ax_P μ cI cZ D as σ) := by
  intro a U g mk h
  obtain ⟨h1, h2, h3, h4⟩ := h
  exact ⟨h1, h2, va_K.moved (u := U) (U := U.calling g mk a) (Vm.Alike.refl U.vm) h3, h4.same rfl rfl⟩
end AxCall
theorem ax_pop_of : ∀ (n : Nat) (st acc : List Value) (k : List Value → List Value → Prop), ax_pop n st acc k → ∃ bs r, bs.length = n ∧ st = bs ++ r ∧ k (bs.reverse ++ acc) r
  | 0, st, acc, k, h => ⟨[], st, rfl, rfl, h⟩
  | n + 1, v :: st, acc, k, h => by
    obtain ⟨bs, r, h1, h2, h3⟩ := ax_pop_of n st (v :: acc) k h
    exact ⟨v :: bs, r, by rw [List.length_cons, h1], by rw [h2]; rfl, by simpa using h3⟩
  | n + 1, [], acc, k, h => h.elim
