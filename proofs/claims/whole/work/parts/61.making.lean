/-! making the objects: rows -/
abbrev kE : Type := va_E
def kPre (D : va_G) (cI cZ : ClassId) (h0 : Nat) (e0 : va_E) (sz : Nat) (U : State) : Prop := U.heap.size = sz ∧ va_P D vwCl [(h0, e0)] U.heap ∧ va_K D vwCl [(cI, .int), (cZ, .boolean)] U ∧ va_D (fun _ => True) [(h0, e0)]
def kB (D : va_G) (A : Nat → Prop) (u : va_W) (t : State) : Prop := va_P D vwCl u t.heap ∧ va_D A u
theorem k_blind {D : va_G} {cI cZ : ClassId} {h0 sz : Nat} {e0 : va_E} (as : List Value) : FrameBlind (va_Pc as (kPre D cI cZ h0 e0 sz)) := by
  intro a U g mk h
  obtain ⟨q0, q1, qP, qK, qD⟩ := h
  exact ⟨q0, q1, qP, va_K.moved (u := U) (U := U.calling g mk a) (Vm.Alike.refl U.vm) qK, qD⟩
def k_rm (f c s n : Nat) : Room := { frames := f, cells := c, slots := s, locals := n }
/-- what stands at a constructor's body -/
def k_cx (y : MethodName) (cc : ByteArray) (maxL : Nat) (D : va_G) (cI cZ : ClassId) (as : List Value) (p : Program) (s : State) (m : MethodId) (meth : Method) (c : Code) (ls : Array Slot) : Prop :=
  p.tables.exec = Jvm.exec ∧ c.code = cc ∧ c.maxLocals = maxL ∧ s.vm.findClass y.cls = some m.cls ∧ (∀ w ∈ lw_w, w.before as.toArray s = true) ∧ meth.sig.returnType = none ∧ meth.locks = false ∧ meth.name = y.name ∧ va_K D vwCl [(cI, .int), (cZ, .boolean)] s ∧ lv_has ls maxL (lv_args 0 as)
theorem k_met {l : Launch} {y : MethodName} {cc : ByteArray} {maxL : Nat} {rm : Room} {D : va_G} {cI cZ : ClassId} {h0 sz mc ms : Nat} {e0 : va_E} {as : List Value} {post : va_W → Prop} (hplain : plainFor y = true) (hlen : (lg_sl as).length ≤ maxL)
    (body : ∀ p e s m below meth c ls, k_cx y cc maxL D cI cZ as p s m meth c ls → va_P D vwCl [(h0, e0)] s.heap → va_D (va_A [(h0, e0)] sz) [(h0, e0)] → va_S (va_A [(h0, e0)] sz) s.heap s.heap [] → (∀ q : Nat, s.heap.size ≤ q → va_A [(h0, e0)] sz q) → W p l e rm s m as.toArray below meth c s.heap [] 0 0 (MQ below (va_Qv post (kB D (va_A [(h0, e0)] sz)) (va_A [(h0, e0)] sz)) as.toArray s mc ms (va_A [(h0, e0)] sz)) (F0 m 0 ls [])) :
    Met l y (Cond.code y cc maxL none :: lw_w) rm (va_Pc as (kPre D cI cZ h0 e0 sz)) (va_Qv post (kB D (va_A [(h0, e0)] sz)) (va_A [(h0, e0)] sz)) mc ms (va_A [(h0, e0)] sz) := by
  refine va_MetF (cc := cc) (maxL := maxL) (ret := none) hplain rfl ?_
  intro p e s m args below meth c s₁ B hml hv
  obtain ⟨rfl, hsz, hP, hK, hD0⟩ := hv
  have hts := atoms_spec (ws := Cond.code y cc maxL none :: lw_w) B.pre
  have hown : s.vm.findClass y.cls = some m.cls := findClass_of_methodNamed B.named
  have hin : meth.name = y.name := (name_of_methodNamed B.named B.method).1
  subst hsz
  have hD := hD0.self (sz := s.heap.size)
  have hl := lv_entry as (n := maxL) hlen
  rw [lg_entry_eq]
  generalize (lg_sl as ++ List.replicate (maxL - (lg_sl as).length) Slot.unset).toArray = ls at hl ⊢
  exact body p e s m below meth c ls ⟨B.exec, B.bytes, hml, hown, fun w hw => hts w (List.mem_cons_of_mem _ hw), B.returns, B.notSynchronized, hin, hK, hl⟩ hP hD va_S.rf (fun q h => Or.inr h)
theorem w_arI : Cond.arrayClass .int ∈ lw_w := lw_w_in (by decide +kernel) rfl
theorem w_arZ : Cond.arrayClass .boolean ∈ lw_w := lw_w_in (by decide +kernel) rfl
theorem w_obi : Cond.instanceMethod Lib.objectInit ∈ lw_w := lw_w_in (by decide +kernel) rfl
theorem w_obc : Cond.code Lib.objectInit ⟨#[0xb1]⟩ 1 none ∈ lw_w := lw_w_in (by decide +kernel) rfl
section KRows
variable {p : Program} {l : Launch} {e : Env} {R : Room} {s : State} {m : MethodId} {args : Array Value} {below : List Frame} {meth : Method} {c : Code} {H : Heap} {locs : List Loc} {cells slots : Nat} {Q : State → Prop}
variable {cc : ByteArray} {pc : Nat} {ls : Array Slot} {rest : List Value} {D : va_G} {A : Nat → Prop} {ws : va_W} {H0 : Heap} {cI cZ : ClassId}
theorem k_newI (hexec : p.tables.exec = Jvm.exec) (hb : c.code = cc) (hts : ∀ w ∈ lw_w, w.before args s = true) (hK : va_K D vwCl [(cI, .int), (cZ, .boolean)] s) (hP : va_P D vwCl ws H) (hD : va_D A ws) (hS : va_S A H0 H locs) (hA : ∀ q, H0.size ≤ q → A q) {n : Int32} (N' : Nat) (hn : ¬ n < 0) (hN : n.toNatClampNeg = N') (hbytes : N' * componentBytes .int ≤ 536870912) (hcells : cells + 1 ≤ R.cells) (hslots : slots + N' ≤ R.slots) (hdg : decode cc pc = .ok (.newarray .int, 2))
    (kk : ∀ (q : Nat) (H1 : Heap), va_P D vwCl (ws ++ [(q, .inl (cI, N', .inl (fun _ => 0)))]) H1 → va_D A (ws ++ [(q, .inl (cI, N', .inl (fun _ => 0)))]) → va_S A H0 H1 locs → W p l e R s m args below meth c H1 locs (cells + 1) (slots + N') Q (F0 m (pc + 2) ls (.ref q :: rest))) : W p l e R s m args below meth c H locs cells slots Q (F0 m pc ls (.int n :: rest)) := by
  refine va_newa (atype := .int) (ty := .int) (a0 := (N', .inl (fun _ => 0))) hexec hb (hts _ w_arI) rfl hK hP hD hS hA (fun cA => rfl) hn hN hbytes hcells hslots hdg (fun q cA H1 hK1 hP1 hD1 hS1 => ?_)
  have e1 : s.vm.findClass ("[" ++ (FieldType.int).toString) = some cA := (hK1.2 2 (cA, .int) rfl).2
  have e2 : s.vm.findClass ("[" ++ (FieldType.int).toString) = some cI := (hK.2 0 (cI, .int) rfl).2
  have : cA = cI := Option.some.inj (e1.symm.trans e2)
  subst this
  exact kk q H1 hP1 hD1 hS1
theorem k_newZ (hexec : p.tables.exec = Jvm.exec) (hb : c.code = cc) (hts : ∀ w ∈ lw_w, w.before args s = true) (hK : va_K D vwCl [(cI, .int), (cZ, .boolean)] s) (hP : va_P D vwCl ws H) (hD : va_D A ws) (hS : va_S A H0 H locs) (hA : ∀ q, H0.size ≤ q → A q) {n : Int32} (N' : Nat) (hn : ¬ n < 0) (hN : n.toNatClampNeg = N') (hbytes : N' * componentBytes .boolean ≤ 536870912) (hcells : cells + 1 ≤ R.cells) (hslots : slots + N' ≤ R.slots) (hdg : decode cc pc = .ok (.newarray .boolean, 2))
    (kk : ∀ (q : Nat) (H1 : Heap), va_P D vwCl (ws ++ [(q, .inl (cZ, N', .inl (fun _ => 0)))]) H1 → va_D A (ws ++ [(q, .inl (cZ, N', .inl (fun _ => 0)))]) → va_S A H0 H1 locs → W p l e R s m args below meth c H1 locs (cells + 1) (slots + N') Q (F0 m (pc + 2) ls (.ref q :: rest))) : W p l e R s m args below meth c H locs cells slots Q (F0 m pc ls (.int n :: rest)) := by
  refine va_newa (atype := .boolean) (ty := .boolean) (a0 := (N', .inl (fun _ => 0))) hexec hb (hts _ w_arZ) rfl hK hP hD hS hA (fun cA => rfl) hn hN hbytes hcells hslots hdg (fun q cA H1 hK1 hP1 hD1 hS1 => ?_)
  have e1 : s.vm.findClass ("[" ++ (FieldType.boolean).toString) = some cA := (hK1.2 2 (cA, .boolean) rfl).2
  have e2 : s.vm.findClass ("[" ++ (FieldType.boolean).toString) = some cZ := (hK.2 1 (cZ, .boolean) rfl).2
  have : cA = cZ := Option.some.inj (e1.symm.trans e2)
  subst this
  exact kk q H1 hP1 hD1 hS1
/-- behind a constructor's call: what it made stands beside the rest -/
theorem kt_join {q : Nat} {e0 : va_E} {w1 : va_W} {H1 : Heap} (hP : va_P D vwCl (ws ++ [(q, e0)]) H) (hD : va_D A (ws ++ [(q, e0)])) (hk : ∀ x : Nat, x < H.size → ¬ va_A [(q, e0)] H.size x → H1[x]? = H[x]?) (hF : ∀ x, va_A [(q, e0)] H.size x → A x) (hP1 : va_P D vwCl w1 H1) (hD1 : va_D (va_A [(q, e0)] H.size) w1) : va_P D vwCl (ws ++ w1) H1 ∧ va_D A (ws ++ w1) := by
  have hlast : (ws ++ [(q, e0)])[ws.length]? = some (q, e0) := by rw [List.getElem?_append_right (Nat.le_refl _), Nat.sub_self]; rfl
  have hold : ∀ (k : Nat) (x : Nat × va_E), ws[k]? = some x → (ws ++ [(q, e0)])[k]? = some x := fun k x hx => by
    rw [List.getElem?_append_left (List.getElem?_eq_some_iff.mp hx).1]; exact hx
  have hout : ∀ (k : Nat) (x : Nat × va_E), ws[k]? = some x → x.1 < H.size ∧ ¬ va_A [(q, e0)] H.size x.1 := by
    intro k x hx
    have hlt := (hP k x (hold k x hx)).lt
    refine ⟨hlt, fun z => ?_⟩
    rcases z with ⟨i, e, hi⟩ | z
    · have hi0 : i = 0 := by
        have := (List.getElem?_eq_some_iff.mp hi).1
        have h1 : ([(q, e0)] : va_W).length = 1 := rfl
        omega
      subst hi0
      have hq : q = x.1 := by
        have := hi
        cases this
        rfl
      have := hD.1 k ws.length x (q, e0) (hold k x hx) hlast hq.symm
      have h2 := (List.getElem?_eq_some_iff.mp hx).1
      omega
    · exact absurd z (by omega)
  refine ⟨va_P.app (fun k x hx => ?_) hP1, ?_⟩
  · obtain ⟨h1, h2⟩ := hout k x hx
    exact (hP k x (hold k x hx)).kept (hk x.1 h1 h2)
  · refine ⟨fun i j x y hi hj exy => ?_, fun k x hx => ?_⟩
    · by_cases ci : i < ws.length
      · rw [List.getElem?_append_left ci] at hi
        by_cases cj : j < ws.length
        · rw [List.getElem?_append_left cj] at hj
          exact hD.1 i j x y (hold i x hi) (hold j y hj) exy
        · rw [List.getElem?_append_right (by omega)] at hj
          exact absurd (by rw [exy]; exact hD1.2 _ y hj) (hout i x hi).2
      · rw [List.getElem?_append_right (by omega)] at hi
        by_cases cj : j < ws.length
        · rw [List.getElem?_append_left cj] at hj
          exact absurd (by rw [← exy]; exact hD1.2 _ x hi) (hout j y hj).2
        · rw [List.getElem?_append_right (by omega)] at hj
          have := hD1.1 _ _ x y hi hj exy
          omega
    · by_cases ci : k < ws.length
      · rw [List.getElem?_append_left ci] at hx
        exact hD.2 k x (hold k x hx)
      · rw [List.getElem?_append_right (by omega)] at hx
        exact hF _ (hD1.2 _ x hx)
theorem kt_free {q : Nat} {e0 : va_E} (hD : va_D A (ws ++ [(q, e0)])) (hS : va_S A H0 H locs) (hA : ∀ x, H0.size ≤ x → A x) : ∀ x, va_A [(q, e0)] H.size x → A x := by
  intro x z
  rcases z with ⟨i, e', hi⟩ | z
  · have hi0 : i = 0 := by
      have := (List.getElem?_eq_some_iff.mp hi).1
      have h1 : ([(q, e0)] : va_W).length = 1 := rfl
      omega
    subst hi0
    have hq : q = x := by cases hi; rfl
    have := hD.2 ws.length (q, e0) (by rw [List.getElem?_append_right (Nat.le_refl _), Nat.sub_self]; rfl)
    rw [← hq]; exact this
  · exact hA x (Nat.le_trans hS.1 z)
end KRows
