/-! the interpreter's rows are the machine's -/
section AxSound
variable {p : Program} {l : Launch} {e : Env} {R : Room} {s : State} {m : MethodId} {args : Array Value} {below : List Frame} {meth : Method} {c : Code} {cells slots : Nat} {Q : State → Prop}
variable {μ : Nat → Nat} {cI cZ : ClassId} {D : va_G} {A : Nat → Prop} {m0 : ax_Mi} {scr : Option (Nat × (Nat → Int32))}
theorem ax_strlen {pc x n : Nat} {t : List Int32} {L : ax_Lc} {r : List Value} {σ : ax_Sg} (cx : ax_cx m0 p s m args c R cells slots μ cI cZ D A scr) (hli : Cond.methodLink (ax_cnm m0.2.2.2.2.1) n yJ0_length_8abf5 ∈ lw_w) (hfr : 2 ≤ m0.2.2.2.2.2.1) (hlo : 40 ≤ m0.2.2.2.2.2.2.1) (hx1 : 1000 ≤ x) (ht : ax_tx[x - 1000]? = some t) (hcat : ax_cat r ≤ 8) (hdg : decode m0.2.1 pc = .ok (.invokevirtual n, 3))
    (k : ax_W p l e R s m args below meth c cells slots Q μ cI cZ D A m0.2.2.1 (pc + 3) L (.int (Int32.ofNat t.length) :: r) σ) : ax_W p l e R s m args below meth c cells slots Q μ cI cZ D A m0.2.2.1 pc L (.ref x :: r) σ := by
  intro H locs ls hl hP hS
  obtain ⟨hx, hb, hml, hown, hts, hKK, had, hSt, ⟨hR1, hR2, hR3, hR4⟩, hX⟩ := cx
  obtain ⟨_, ⟨adV, h2⟩, h3, h4⟩ := hSt
  have hi6 : x - 1000 < 6 := (List.getElem?_eq_some_iff.mp ht).1
  have hxe : 1000 + (x - 1000) = x := by omega
  have ett : ax_tx.getD (x - 1000) [] = t := by rw [List.getD_eq_getElem?_getD, ht]; rfl
  have hq : ∀ (U : State), U.heap = H → s.WarmedH U.vm → sx_U (fun i => μ (1000 + i)) adV U := fun U hU hW => by
    have hq' : ∀ a, a < s.heap.size → ¬ A a → U.heap[a]? = s.heap[a]? := by rw [hU]; exact hS.2.1
    exact ⟨((h2.kept hq').narrow (fun _ h => h.elim)).moved hW.alike, ((h3.kept hq').narrow (fun _ h => h.elim)).moved hW.alike, ((h4.kept hq').narrow (fun _ h => h.elim)).moved hW.alike⟩
  have hrec := vk_recv h2 hi6 hS
  have hrec : ∃ cell : Cell, H[μ x]? = some cell ∧ cell.vm.isStatics = false ∧ s.vm.findClass "java/lang/String" = some cell.cls := by
    have h := hrec
    rw [hxe] at h
    exact h
  have hroom : 2 * (F0 m pc ls ((.ref x :: r).map (ax_vm μ))).monitorRoom + ((r.map (ax_vm μ)).map fun v => v.category).sum ≤ 8 := lv_room (by rw [ax_cat_sum]; exact hcat)
  have hM := sx_length (l := l) (adK := fun i => μ (1000 + i)) (adV := adV) hi6
  rw [ett] at hM
  have run := va_runV (p := p) (e := e) (R := R) (s := s) (m := m) (args := args) (below := below) (meth := meth) (c := c) (H := H) (locs := locs) (cells := cells) (slots := slots) (nL := m0.2.2.1) (Ts := lw_w) (own := ax_cnm m0.2.2.2.2.1) (C := "java/lang/String") (b := μ x) (As := []) (bytes := cJ0_length_8abf5) (maxL := 1) (ret := some .int) (n := 0) (g := F0 m pc ls ((.ref x :: r).map (ax_vm μ))) (rest := r.map (ax_vm μ)) ⟨hx, hb, hml, hown, hts⟩ hM ⟨⟨rfl, rfl, Nat.le_trans hfr hR1, Nat.le_trans hlo hR2, sx_pay hts w_lenc, List.mem_cons_self, hts _ w_lenc, hts _ w_stri, ⟨by decide, by decide⟩, fun sig h => by cases h; rfl, hts _ hli⟩, hts _ w_leni, hts _ w_lens⟩ ⟨sx_blind _, hrec, fun U hU hW => ⟨by show #[Value.ref (μ x)] = #[Value.ref (μ (1000 + (x - 1000)))]; rw [hxe], hq U hU hW⟩⟩ rfl rfl hl.1 rfl hroom hdg ⟨hR3, hR4⟩
  exact sx_call run hS (fun H1 locs1 hH hS1 => k H1 locs1 ls hl (hP.kept (fun k' q' hk => hH _ (hP k' q' hk).lt)) hS1)
theorem ax_strchr {pc x n : Nat} {t : List Int32} {L : ax_Lc} {i : Int32} {r : List Value} {σ : ax_Sg} (cx : ax_cx m0 p s m args c R cells slots μ cI cZ D A scr) (hli : Cond.methodLink (ax_cnm m0.2.2.2.2.1) n yJ0_charAt_5068e ∈ lw_w) (hfr : 4 ≤ m0.2.2.2.2.2.1) (hlo : 85 ≤ m0.2.2.2.2.2.2.1) (hx1 : 1000 ≤ x) (ht : ax_tx[x - 1000]? = some t) (hi : vp_in i t.length) (hcat : ax_cat r ≤ 8) (hdg : decode m0.2.1 pc = .ok (.invokevirtual n, 3))
    (k : ax_W p l e R s m args below meth c cells slots Q μ cI cZ D A m0.2.2.1 (pc + 3) L (.int (t.getD i.toNatClampNeg 0) :: r) σ) : ax_W p l e R s m args below meth c cells slots Q μ cI cZ D A m0.2.2.1 pc L (.int i :: .ref x :: r) σ := by
  intro H locs ls hl hP hS
  obtain ⟨hx, hb, hml, hown, hts, hKK, had, hSt, ⟨hR1, hR2, hR3, hR4⟩, hX⟩ := cx
  obtain ⟨_, ⟨adV, h2⟩, h3, h4⟩ := hSt
  have hi6 : x - 1000 < 6 := (List.getElem?_eq_some_iff.mp ht).1
  have hxe : 1000 + (x - 1000) = x := by omega
  have ett : ax_tx.getD (x - 1000) [] = t := by rw [List.getD_eq_getElem?_getD, ht]; rfl
  have hq : ∀ (U : State), U.heap = H → s.WarmedH U.vm → sx_U (fun i => μ (1000 + i)) adV U := fun U hU hW => by
    have hq' : ∀ a, a < s.heap.size → ¬ A a → U.heap[a]? = s.heap[a]? := by rw [hU]; exact hS.2.1
    exact ⟨((h2.kept hq').narrow (fun _ h => h.elim)).moved hW.alike, ((h3.kept hq').narrow (fun _ h => h.elim)).moved hW.alike, ((h4.kept hq').narrow (fun _ h => h.elim)).moved hW.alike⟩
  have hrec := vk_recv h2 hi6 hS
  have hrec : ∃ cell : Cell, H[μ x]? = some cell ∧ cell.vm.isStatics = false ∧ s.vm.findClass "java/lang/String" = some cell.cls := by
    have h := hrec
    rw [hxe] at h
    exact h
  have hroom : 2 * (F0 m pc ls ((.int i :: .ref x :: r).map (ax_vm μ))).monitorRoom + ((r.map (ax_vm μ)).map fun v => v.category).sum ≤ 8 := lv_room (by rw [ax_cat_sum]; exact hcat)
  have hM := sx_charAt (l := l) (adK := fun i => μ (1000 + i)) (adV := adV) hi6 (x := i) (by rw [ett]; exact hi)
  rw [ett] at hM
  have run := va_runV (p := p) (e := e) (R := R) (s := s) (m := m) (args := args) (below := below) (meth := meth) (c := c) (H := H) (locs := locs) (cells := cells) (slots := slots) (nL := m0.2.2.1) (Ts := lw_w) (own := ax_cnm m0.2.2.2.2.1) (C := "java/lang/String") (b := μ x) (As := [.int i]) (bytes := cJ0_charAt_5068e) (maxL := 2) (ret := some .char) (n := 1) (g := F0 m pc ls ((.int i :: .ref x :: r).map (ax_vm μ))) (rest := r.map (ax_vm μ)) ⟨hx, hb, hml, hown, hts⟩ hM ⟨⟨rfl, rfl, Nat.le_trans hfr hR1, Nat.le_trans hlo hR2, sx_pay hts w_chac, List.mem_cons_self, hts _ w_chac, hts _ w_stri, ⟨by decide, by decide⟩, fun sig h => by cases h; rfl, hts _ hli⟩, hts _ w_chai, hts _ w_chas⟩ ⟨sx_blind _, hrec, fun U hU hW => ⟨by show #[Value.ref (μ x), Value.int i] = #[Value.ref (μ (1000 + (x - 1000))), Value.int i]; rw [hxe], hq U hU hW⟩⟩ rfl rfl hl.1 rfl hroom hdg ⟨hR3, hR4⟩
  exact sx_call run hS (fun H1 locs1 hH hS1 => k H1 locs1 ls hl (hP.kept (fun k' q' hk => hH _ (hP k' q' hk).lt)) hS1)
theorem ax_sw_ok {x : Int32} {d : Nat} {f : Nat → Prop} : ∀ {sw : List (Int32 × Nat)}, ax_sw x d f sw → (∃ q ∈ sw, x = q.1 ∧ f q.2) ∨ ((∀ q ∈ sw, ¬ x = q.1) ∧ f d)
  | [], h => Or.inr ⟨fun _ h => absurd h List.not_mem_nil, h⟩
  | (c, t) :: r, h => by
    by_cases hc : x = c
    · exact Or.inl ⟨(c, t), List.mem_cons_self, hc, h.1 hc⟩
    · rcases ax_sw_ok (h.2 hc) with ⟨q, hq, h1, h2⟩ | ⟨h1, h2⟩
      · exact Or.inl ⟨q, List.mem_cons_of_mem _ hq, h1, h2⟩
      · exact Or.inr ⟨fun q hq => by
          rcases List.mem_cons.mp hq with rfl | h
          · exact hc
          · exact h1 q h, h2⟩
set_option maxHeartbeats 4000000 in
set_option maxRecDepth 100000 in
theorem ax_ex_ok {C : ax_Ca} {P : Option Value → ax_Sg → Prop} {row : ax_Rw} {L : ax_Lc} {st : List Value} {σ : ax_Sg} {K : Nat → ax_Lc → List Value → ax_Sg → Prop}
    (cx : ax_cx m0 p s m args c R cells slots μ cI cZ D A scr) (hrow : ax_rok m0 row = true)
    (hC : ∀ a L σ Q, C a L σ Q → Ev l a 0 L [] σ Q)
    (hK : ∀ pc L st σ, K pc L st σ → ax_W p l e R s m args below meth c cells slots Q μ cI cZ D A m0.2.2.1 pc L st σ)
    (hI : ∀ pc v L σ, decode m0.2.1 pc = .ok (.ireturn, 1) → (m0.2.2.2.1 = some .int ∨ (m0.2.2.2.1 = some .boolean ∧ vp_nar .boolean v = v)) → P (some (.int v)) σ → ax_W p l e R s m args below meth c cells slots Q μ cI cZ D A m0.2.2.1 pc L [.int v] σ)
    (hA : ∀ pc x L σ, decode m0.2.1 pc = .ok (.areturn, 1) → m0.2.2.2.1 = some (.object "java/lang/String") → P (some (.ref x)) σ → ax_W p l e R s m args below meth c cells slots Q μ cI cZ D A m0.2.2.1 pc L [.ref x] σ)
    (hV : ∀ pc L σ, decode m0.2.1 pc = .ok (.return_, 1) → m0.2.2.2.1 = none → P none σ → ax_W p l e R s m args below meth c cells slots Q μ cI cZ D A m0.2.2.1 pc L [] σ)
    (h : ax_ex C P scr row L st σ K) : ax_W p l e R s m args below meth c cells slots Q μ cI cZ D A m0.2.2.1 row.1 L st σ := by
  have cx0 := cx
  obtain ⟨hx, hb, hml, hown, hts, hKK, had, hSt, ⟨hR1, hR2, hR3, hR4⟩, hX⟩ := cx
  obtain ⟨pc, i, a, b, cc, v, z, sw⟩ := row
  simp only [ax_rok, Bool.and_eq_true] at hrow
  obtain ⟨hdok, hpok⟩ := hrow
  obtain ⟨len, hd, hlen⟩ := ax_dok_of hdok
  obtain ⟨y0, b0, nL0, rt0, oc0, fr0, lo0, q0, q1, q2, q3, st0⟩ := m0
  show ax_W p l e R s m args below meth c cells slots Q μ cI cZ D A nL0 pc L st σ
  cases i with
  | iconst n =>
    obtain rfl := hlen rfl
    intro H locs ls hl hP hS
    exact lv_iconst hx hb hd (of_decide_eq_true hpok) (hK _ _ _ _ h H locs ls hl hP hS)
  | bipush n =>
    obtain rfl := hlen rfl
    intro H locs ls hl hP hS
    exact lv_bipush hx hb hd (of_decide_eq_true hpok) (hK _ _ _ _ h H locs ls hl hP hS)
  | sipush n =>
    obtain rfl := hlen rfl
    intro H locs ls hl hP hS
    exact lv_sipush hx hb hd (of_decide_eq_true hpok) (hK _ _ _ _ h H locs ls hl hP hS)
  | lconst n =>
    obtain rfl := hlen rfl
    intro H locs ls hl hP hS
    exact lv_lconst hx hb hd (of_decide_eq_true hpok) (hK _ _ _ _ h H locs ls hl hP hS)
  | ldc n =>
    obtain rfl := hlen rfl
    intro H locs ls hl hP hS
    have hpok : cond (Nat.beq b 0) (ax_iok oc0 n v) (decide (oc0 = 9 ∧ a < 6 ∧ n = 75 + 2 * a)) = true := hpok
    replace h : cond (Nat.beq b 0) (K (pc + 2) L (.int v :: st) σ) (K (pc + 2) L (.ref (1000 + a) :: st) σ) := h
    cases hb0 : Nat.beq b 0 with
    | true =>
      rw [hb0] at h hpok
      exact lv_ldc hx hb hown (hts _ (ax_iok_of hpok)) hd (hK _ _ _ _ h H locs ls hl hP hS)
    | false =>
      rw [hb0] at h hpok
      obtain ⟨rfl, h6, rfl⟩ := of_decide_eq_true hpok
      exact va_ldcS hx hb hown (hSt.1 a h6) hd (hK _ _ _ _ h H locs ls hl hP hS)
  | ldc_w n =>
    obtain rfl := hlen rfl
    intro H locs ls hl hP hS T hT X
    obtain ⟨t, a1, b1⟩ := hK _ _ _ _ h H locs ls hl hP hS T hT X
    exact ⟨t, va_ldcwI X hx hown (hts _ (ax_iok_of hpok)) (g := F0 m pc ls (st.map (ax_vm μ))) rfl (by rw [hb]; exact hd) t a1, b1⟩
  | ldc2_w n =>
    obtain rfl := hlen rfl
    intro H locs ls hl hP hS
    exact lv_ldc2 hx hb hown (hts _ (ax_jok_of hpok)) hd (hK _ _ _ _ h H locs ls hl hP hS)
  | iload_n n =>
    obtain rfl := hlen rfl
    intro H locs ls hl hP hS
    obtain ⟨x, hx1, h⟩ := ax_li_of h
    exact lv_iload_n hx hb hd (Nat.eq_of_beq_eq_true hpok) (hl.2.2.2 _ _ hx1) (hK _ _ _ _ h H locs ls hl hP hS)
  | iload n =>
    obtain rfl := hlen rfl
    intro H locs ls hl hP hS
    have hpok : n = a := Nat.eq_of_beq_eq_true hpok
    subst hpok
    obtain ⟨x, hx1, h⟩ := ax_li_of h
    exact lv_iload hx hb hd (hl.2.2.2 _ _ hx1) (hK _ _ _ _ h H locs ls hl hP hS)
  | lload_n n =>
    obtain rfl := hlen rfl
    intro H locs ls hl hP hS
    obtain ⟨x, hx1, h⟩ := ax_ll_of h
    exact lv_lload_n hx hb hd (Nat.eq_of_beq_eq_true hpok) (hl.2.2.2 _ _ hx1) (hK _ _ _ _ h H locs ls hl hP hS)
  | lload n =>
    obtain rfl := hlen rfl
    intro H locs ls hl hP hS
    have hpok : n = a := Nat.eq_of_beq_eq_true hpok
    subst hpok
    obtain ⟨x, hx1, h⟩ := ax_ll_of h
    exact lv_lload hx hb hd (hl.2.2.2 _ _ hx1) (hK _ _ _ _ h H locs ls hl hP hS)
  | aload_n n =>
    obtain rfl := hlen rfl
    intro H locs ls hl hP hS
    obtain ⟨x, hx1, h⟩ := ax_la_of h
    exact lv_aload_n hx hb hd (Nat.eq_of_beq_eq_true hpok) (hl.2.2.2 _ _ hx1) (hK _ _ _ _ h H locs ls hl hP hS)
  | aload n =>
    obtain rfl := hlen rfl
    intro H locs ls hl hP hS
    have hpok : n = a := Nat.eq_of_beq_eq_true hpok
    subst hpok
    obtain ⟨x, hx1, h⟩ := ax_la_of h
    exact lv_aload hx hb hd (hl.2.2.2 _ _ hx1) (hK _ _ _ _ h H locs ls hl hP hS)
  | istore_n n =>
    obtain rfl := hlen rfl
    intro H locs ls hl hP hS
    obtain ⟨x, r, rfl, h⟩ := ax_i1_of h
    obtain ⟨h1, h⟩ := ax_cond_of h
    have h1 : a < L.length := Nat.le_of_ble_eq_true h1
    exact lv_istore_n (x := x) hx hb hd (Nat.eq_of_beq_eq_true hpok) (ax_lv_has hl) (Nat.lt_of_lt_of_le h1 hl.2.1) rfl (fun ls' h' => hK _ _ _ _ h H locs ls' (hl.sv (v := .int x) h') hP hS)
  | istore n =>
    obtain rfl := hlen rfl
    intro H locs ls hl hP hS
    obtain ⟨x, r, rfl, h⟩ := ax_i1_of h
    obtain ⟨h1, h⟩ := ax_cond_of h
    have h1 : a < L.length := Nat.le_of_ble_eq_true h1
    have hpok : n = a := Nat.eq_of_beq_eq_true hpok
    subst hpok
    exact lv_istore (x := x) hx hb hd (ax_lv_has hl) (Nat.lt_of_lt_of_le h1 hl.2.1) rfl (fun ls' h' => hK _ _ _ _ h H locs ls' (hl.sv (v := .int x) h') hP hS)
  | lstore_n n =>
    obtain rfl := hlen rfl
    intro H locs ls hl hP hS
    obtain ⟨x, r, rfl, h⟩ := ax_l1_of h
    obtain ⟨h1, h⟩ := ax_cond_of h
    have h1 : a + 1 < L.length := Nat.le_of_ble_eq_true h1
    exact lv_lstore_n (x := x) hx hb hd (Nat.eq_of_beq_eq_true hpok) (ax_lv_has hl) (Nat.lt_of_lt_of_le h1 hl.2.1) rfl (fun ls' h' => hK _ _ _ _ h H locs ls' (hl.sv2 (v := .long x) h') hP hS)
  | lstore n =>
    obtain rfl := hlen rfl
    intro H locs ls hl hP hS
    obtain ⟨x, r, rfl, h⟩ := ax_l1_of h
    obtain ⟨h1, h⟩ := ax_cond_of h
    have h1 : a + 1 < L.length := Nat.le_of_ble_eq_true h1
    have hpok : n = a := Nat.eq_of_beq_eq_true hpok
    subst hpok
    exact lv_lstore (x := x) hx hb hd (ax_lv_has hl) (Nat.lt_of_lt_of_le h1 hl.2.1) rfl (fun ls' h' => hK _ _ _ _ h H locs ls' (hl.sv2 (v := .long x) h') hP hS)
  | astore_n n =>
    obtain rfl := hlen rfl
    intro H locs ls hl hP hS
    obtain ⟨x, r, rfl, h⟩ := ax_r1_of h
    obtain ⟨h1, h⟩ := ax_cond_of h
    have h1 : a < L.length := Nat.le_of_ble_eq_true h1
    exact lv_astore_n (x := μ x) hx hb hd (Nat.eq_of_beq_eq_true hpok) (ax_lv_has hl) (Nat.lt_of_lt_of_le h1 hl.2.1) rfl (fun ls' h' => hK _ _ _ _ h H locs ls' (hl.sv (v := .ref x) h') hP hS)
  | astore n =>
    obtain rfl := hlen rfl
    intro H locs ls hl hP hS
    obtain ⟨x, r, rfl, h⟩ := ax_r1_of h
    obtain ⟨h1, h⟩ := ax_cond_of h
    have h1 : a < L.length := Nat.le_of_ble_eq_true h1
    have hpok : n = a := Nat.eq_of_beq_eq_true hpok
    subst hpok
    exact lv_astore (x := μ x) hx hb hd (ax_lv_has hl) (Nat.lt_of_lt_of_le h1 hl.2.1) rfl (fun ls' h' => hK _ _ _ _ h H locs ls' (hl.sv (v := .ref x) h') hP hS)
  | iinc n dd =>
    obtain rfl := hlen rfl
    intro H locs ls hl hP hS
    obtain ⟨x, hx1, h⟩ := ax_li_of h
    simp only [ax_pok, Bool.and_eq_true, decide_eq_true_eq, Nat.beq_eq] at hpok
    obtain ⟨rfl, h2⟩ := hpok
    have hmem : (n, Value.int x) ∈ ax_ls μ 0 L := (ax_ls_mem μ L 0 _).mpr ⟨n, .int x, by rw [Nat.zero_add]; rfl, hx1⟩
    obtain ⟨k, hk⟩ := List.getElem?_of_mem hmem
    have hn : n < nL0 := by
      have h3 := hl.2.2.2 _ _ hx1
      have := lv_lt h3
      rw [hl.1] at this
      exact this
    exact lv_iinc (x := x) (v := x + v) hx hb hd (ax_lv_has hl) hk (by rw [h2]) hn rfl (fun ls' h' => hK _ _ _ _ h H locs ls' (hl.sv (v := .int (x + v)) h') hP hS)
  | iadd =>
    obtain rfl := hlen rfl
    intro H locs ls hl hP hS
    obtain ⟨x, y, r, rfl, h⟩ := ax_i2_of h
    exact lv_iadd hx hb hd (hK _ _ _ _ h H locs ls hl hP hS)
  | isub =>
    obtain rfl := hlen rfl
    intro H locs ls hl hP hS
    obtain ⟨x, y, r, rfl, h⟩ := ax_i2_of h
    exact lv_isub hx hb hd (hK _ _ _ _ h H locs ls hl hP hS)
  | imul =>
    obtain rfl := hlen rfl
    intro H locs ls hl hP hS
    obtain ⟨x, y, r, rfl, h⟩ := ax_i2_of h
    exact lv_imul hx hb hd (hK _ _ _ _ h H locs ls hl hP hS)
  | iand =>
    obtain rfl := hlen rfl
    intro H locs ls hl hP hS
    obtain ⟨x, y, r, rfl, h⟩ := ax_i2_of h
    exact lv_iand hx hb hd (hK _ _ _ _ h H locs ls hl hP hS)
  | ior =>
    obtain rfl := hlen rfl
    intro H locs ls hl hP hS
    obtain ⟨x, y, r, rfl, h⟩ := ax_i2_of h
    exact lv_ior hx hb hd (hK _ _ _ _ h H locs ls hl hP hS)
  | ixor =>
    obtain rfl := hlen rfl
    intro H locs ls hl hP hS
    obtain ⟨x, y, r, rfl, h⟩ := ax_i2_of h
    exact lv_ixor hx hb hd (hK _ _ _ _ h H locs ls hl hP hS)
  | idiv =>
    obtain rfl := hlen rfl
    intro H locs ls hl hP hS
    obtain ⟨x, y, r, rfl, h1, h⟩ := ax_i2_of h
    exact lv_idiv hx hb hd h1 (hK _ _ _ _ h H locs ls hl hP hS)
  | irem =>
    obtain rfl := hlen rfl
    intro H locs ls hl hP hS
    obtain ⟨x, y, r, rfl, h1, h⟩ := ax_i2_of h
    exact lv_irem hx hb hd h1 (hK _ _ _ _ h H locs ls hl hP hS)
  | ineg =>
    obtain rfl := hlen rfl
    intro H locs ls hl hP hS
    obtain ⟨x, r, rfl, h⟩ := ax_i1_of h
    exact lv_ineg hx hb hd (hK _ _ _ _ h H locs ls hl hP hS)
  | ishl =>
    obtain rfl := hlen rfl
    intro H locs ls hl hP hS
    obtain ⟨x, y, r, rfl, h⟩ := ax_i2_of h
    exact lv_ishl hx hb hd (hK _ _ _ _ h H locs ls hl hP hS)
  | ishr =>
    obtain rfl := hlen rfl
    intro H locs ls hl hP hS
    obtain ⟨x, y, r, rfl, h⟩ := ax_i2_of h
    exact lv_ishr hx hb hd (hK _ _ _ _ h H locs ls hl hP hS)
  | iushr =>
    obtain rfl := hlen rfl
    intro H locs ls hl hP hS
    obtain ⟨x, y, r, rfl, h⟩ := ax_i2_of h
    exact lv_iushr hx hb hd rfl (hK _ _ _ _ h H locs ls hl hP hS)
  | ladd =>
    obtain rfl := hlen rfl
    intro H locs ls hl hP hS
    obtain ⟨x, y, r, rfl, h⟩ := ax_l2_of h
    exact lv_ladd hx hb hd (hK _ _ _ _ h H locs ls hl hP hS)
  | lsub =>
    obtain rfl := hlen rfl
    intro H locs ls hl hP hS
    obtain ⟨x, y, r, rfl, h⟩ := ax_l2_of h
    exact lv_lsub hx hb hd (hK _ _ _ _ h H locs ls hl hP hS)
  | lmul =>
    obtain rfl := hlen rfl
    intro H locs ls hl hP hS
    obtain ⟨x, y, r, rfl, h⟩ := ax_l2_of h
    exact lv_lmul hx hb hd (hK _ _ _ _ h H locs ls hl hP hS)
  | land =>
    obtain rfl := hlen rfl
    intro H locs ls hl hP hS
    obtain ⟨x, y, r, rfl, h⟩ := ax_l2_of h
    exact lv_land hx hb hd (hK _ _ _ _ h H locs ls hl hP hS)
  | lor =>
    obtain rfl := hlen rfl
    intro H locs ls hl hP hS
    obtain ⟨x, y, r, rfl, h⟩ := ax_l2_of h
    exact lv_lor hx hb hd (hK _ _ _ _ h H locs ls hl hP hS)
  | ldiv =>
    obtain rfl := hlen rfl
    intro H locs ls hl hP hS
    obtain ⟨x, y, r, rfl, h1, h⟩ := ax_l2_of h
    exact lv_ldiv hx hb hd h1 (hK _ _ _ _ h H locs ls hl hP hS)
  | lcmp =>
    obtain rfl := hlen rfl
    intro H locs ls hl hP hS
    obtain ⟨x, y, r, rfl, h⟩ := ax_l2_of h
    exact W.lcmp hx hb hd (hK _ _ _ _ h H locs ls hl hP hS)
  | lshl =>
    obtain rfl := hlen rfl
    intro H locs ls hl hP hS
    obtain ⟨x, y, r, rfl, h⟩ := ax_li2_of h
    exact lv_lshl hx hb hd rfl (hK _ _ _ _ h H locs ls hl hP hS)
  | lshr =>
    obtain rfl := hlen rfl
    intro H locs ls hl hP hS
    obtain ⟨x, y, r, rfl, h⟩ := ax_li2_of h
    exact lv_lshr hx hb hd rfl (hK _ _ _ _ h H locs ls hl hP hS)
  | lushr =>
    obtain rfl := hlen rfl
    intro H locs ls hl hP hS
    obtain ⟨x, y, r, rfl, h⟩ := ax_li2_of h
    exact lv_lushr hx hb hd rfl (hK _ _ _ _ h H locs ls hl hP hS)
  | i2l =>
    obtain rfl := hlen rfl
    intro H locs ls hl hP hS
    obtain ⟨x, r, rfl, h⟩ := ax_i1_of h
    exact lv_i2l hx hb hd rfl (hK _ _ _ _ h H locs ls hl hP hS)
  | l2i =>
    obtain rfl := hlen rfl
    intro H locs ls hl hP hS
    obtain ⟨x, r, rfl, h⟩ := ax_l1_of h
    exact lv_l2i hx hb hd rfl (hK _ _ _ _ h H locs ls hl hP hS)
  | dup =>
    obtain rfl := hlen rfl
    intro H locs ls hl hP hS
    match st, h with
    | .int x :: r, h => exact lv_dup (va := .int x) hx hb hd rfl (hK _ _ _ _ h H locs ls hl hP hS)
    | .ref x :: r, h => exact lv_dup (va := .ref (μ x)) hx hb hd rfl (hK _ _ _ _ h H locs ls hl hP hS)
  | dup2 =>
    obtain rfl := hlen rfl
    intro H locs ls hl hP hS
    obtain ⟨x, j, r, rfl, h⟩ := ax_ri_of h
    exact lv_dup2_11 (va := .int j) (vb := .ref (μ x)) hx hb hd rfl rfl (hK _ _ _ _ h H locs ls hl hP hS)
  | pop =>
    obtain rfl := hlen rfl
    intro H locs ls hl hP hS
    obtain ⟨x, r, rfl, h⟩ := ax_i1_of h
    exact lv_pop (va := .int x) hx hb hd rfl (hK _ _ _ _ h H locs ls hl hP hS)
  | goto o =>
    obtain rfl := hlen rfl
    intro H locs ls hl hP hS
    exact lv_goto hx hb hd (of_decide_eq_true hpok) (hK _ _ _ _ h H locs ls hl hP hS)
  | ifCond cd o =>
    obtain rfl := hlen rfl
    intro H locs ls hl hP hS
    have ht : (pc : Int) + o = (a : Int) := of_decide_eq_true hpok
    cases cd with
    | eq =>
      obtain ⟨x, r, rfl, h⟩ := ax_i1_of h
      exact lv_if_eq hx hb hd ht (fun q => hK _ _ _ _ (h.1 q) H locs ls hl hP hS) (fun q => hK _ _ _ _ (h.2 q) H locs ls hl hP hS)
    | ne =>
      obtain ⟨x, r, rfl, h⟩ := ax_i1_of h
      exact lv_if_ne hx hb hd ht (fun q => hK _ _ _ _ (h.2 q) H locs ls hl hP hS) (fun q => hK _ _ _ _ (h.1 q) H locs ls hl hP hS)
    | lt =>
      obtain ⟨x, r, rfl, h⟩ := ax_i1_of h
      exact lv_if_lt hx hb hd ht (fun q => hK _ _ _ _ (h.1 q) H locs ls hl hP hS) (fun q => hK _ _ _ _ (h.2 q) H locs ls hl hP hS)
    | ge =>
      obtain ⟨x, r, rfl, h⟩ := ax_i1_of h
      exact lv_if_ge hx hb hd ht (fun q => hK _ _ _ _ (h.2 (Int32.not_lt.mpr q)) H locs ls hl hP hS) (fun q => hK _ _ _ _ (h.1 (Int32.not_le.mp q)) H locs ls hl hP hS)
    | gt =>
      obtain ⟨x, r, rfl, h⟩ := ax_i1_of h
      exact lv_if_gt hx hb hd ht (fun q => hK _ _ _ _ (h.1 q) H locs ls hl hP hS) (fun q => hK _ _ _ _ (h.2 q) H locs ls hl hP hS)
    | le =>
      obtain ⟨x, r, rfl, h⟩ := ax_i1_of h
      exact lv_if_le hx hb hd ht (fun q => hK _ _ _ _ (h.2 (Int32.not_lt.mpr q)) H locs ls hl hP hS) (fun q => hK _ _ _ _ (h.1 (Int32.not_le.mp q)) H locs ls hl hP hS)
  | if_icmp cd o =>
    obtain rfl := hlen rfl
    intro H locs ls hl hP hS
    have ht : (pc : Int) + o = (a : Int) := of_decide_eq_true hpok
    cases cd with
    | eq =>
      obtain ⟨x, y, r, rfl, h⟩ := ax_i2_of h
      exact lv_icmp_eq hx hb hd ht (fun q => hK _ _ _ _ (h.1 q) H locs ls hl hP hS) (fun q => hK _ _ _ _ (h.2 q) H locs ls hl hP hS)
    | ne =>
      obtain ⟨x, y, r, rfl, h⟩ := ax_i2_of h
      exact lv_icmp_ne hx hb hd ht (fun q => hK _ _ _ _ (h.2 q) H locs ls hl hP hS) (fun q => hK _ _ _ _ (h.1 q) H locs ls hl hP hS)
    | lt =>
      obtain ⟨x, y, r, rfl, h⟩ := ax_i2_of h
      exact lv_icmp_lt hx hb hd ht (fun q => hK _ _ _ _ (h.1 q) H locs ls hl hP hS) (fun q => hK _ _ _ _ (h.2 q) H locs ls hl hP hS)
    | ge =>
      obtain ⟨x, y, r, rfl, h⟩ := ax_i2_of h
      exact lv_icmp_ge hx hb hd ht (fun q => hK _ _ _ _ (h.2 (Int32.not_lt.mpr q)) H locs ls hl hP hS) (fun q => hK _ _ _ _ (h.1 (Int32.not_le.mp q)) H locs ls hl hP hS)
    | gt =>
      obtain ⟨x, y, r, rfl, h⟩ := ax_i2_of h
      exact lv_icmp_gt hx hb hd ht (fun q => hK _ _ _ _ (h.1 q) H locs ls hl hP hS) (fun q => hK _ _ _ _ (h.2 q) H locs ls hl hP hS)
    | le =>
      obtain ⟨x, y, r, rfl, h⟩ := ax_i2_of h
      exact lv_icmp_le hx hb hd ht (fun q => hK _ _ _ _ (h.2 (Int32.not_lt.mpr q)) H locs ls hl hP hS) (fun q => hK _ _ _ _ (h.1 (Int32.not_le.mp q)) H locs ls hl hP hS)
  | ifnull o =>
    obtain rfl := hlen rfl
    intro H locs ls hl hP hS
    match st, h with
    | .ref x :: r, h => exact lv_ifnull (x := μ x) hx hb hd (hK _ _ _ _ h H locs ls hl hP hS)
    | .null :: r, h => exact lv_ifnullN hx hb hd (of_decide_eq_true hpok) (hK _ _ _ _ h H locs ls hl hP hS)
  | tableswitch d lo hi offs =>
    intro H locs ls hl hP hS
    obtain ⟨x, r, rfl, h⟩ := ax_i1_of h
    obtain ⟨hp1, hp2, hp3, hp4⟩ := of_decide_eq_true hpok
    rcases ax_sw_ok h with ⟨q, hq, h1, h2⟩ | ⟨h1, h2⟩
    · obtain ⟨j, hj⟩ := List.getElem?_of_mem hq
      have hjl := (List.getElem?_eq_some_iff.mp hj).1
      have e3 : (sw.map (fun q => q.1.toInt))[j]? = some q.1.toInt := by rw [List.getElem?_map, hj]; rfl
      rw [hp3, List.getElem?_map, List.getElem?_range hjl] at e3
      have e3 : lo + (j : Int) = q.1.toInt := Option.some.inj e3
      have e2 : (sw.map (fun q => (q.2 : Int)))[j]? = some (q.2 : Int) := by rw [List.getElem?_map, hj]; rfl
      rw [← hp2, List.getElem?_map] at e2
      cases ho : offs.toList[j]? with
      | none => rw [ho] at e2; cases e2
      | some off =>
        rw [ho] at e2
        have e2 : (pc : Int) + off = (q.2 : Int) := Option.some.inj e2
        have hxe : x.toInt = lo + (j : Int) := by rw [h1, e3]
        refine lv_tableIn (off := off) (tgt := q.2) hx hb hd (by omega) (by omega) ?_ e2 (hK _ _ _ _ h2 H locs ls hl hP hS)
        rw [show (x.toInt - lo).toNat = j by omega, ← Array.getElem?_toList]
        exact ho
    · refine lv_tableOut hx hb hd ?_ hp1 (hK _ _ _ _ h2 H locs ls hl hP hS)
      by_cases hlo : x.toInt < lo
      · exact Or.inl hlo
      · right
        by_cases hhi : hi < x.toInt
        · exact hhi
        · exfalso
          have hj : (x.toInt - lo).toNat < sw.length := by omega
          obtain ⟨q, hq⟩ : ∃ q, sw[(x.toInt - lo).toNat]? = some q := ⟨_, List.getElem?_eq_getElem hj⟩
          have e3 : (sw.map (fun q => q.1.toInt))[(x.toInt - lo).toNat]? = some q.1.toInt := by rw [List.getElem?_map, hq]; rfl
          rw [hp3, List.getElem?_map, List.getElem?_range hj] at e3
          have e3 : lo + ((x.toInt - lo).toNat : Int) = q.1.toInt := Option.some.inj e3
          exact h1 q (List.mem_of_getElem? hq) (Int32.toInt_inj.mp (by omega))
  | lookupswitch d ps =>
    intro H locs ls hl hP hS
    obtain ⟨x, r, rfl, h⟩ := ax_i1_of h
    obtain ⟨hp1, hp2, hp3⟩ := of_decide_eq_true hpok
    have key : ∀ (pl : List (Int × Int)) (sl : List (Int32 × Nat)), pl.map (fun q => (q.1, (pc : Int) + q.2)) = sl.map (fun q => (q.1.toInt, (q.2 : Int))) → ax_sw x a (fun t => K t L r σ) sl → ∃ tgt : Nat, (pc : Int) + Op.lookupswitch.offset pl d x.toInt = (tgt : Int) ∧ K tgt L r σ := by
      intro pl
      induction pl with
      | nil =>
        intro sl he hs
        cases sl with
        | nil => exact ⟨a, hp1, hs⟩
        | cons q sl => cases he
      | cons q pl ih =>
        intro sl he hs
        cases sl with
        | nil => cases he
        | cons q' sl =>
          simp only [List.map_cons, List.cons.injEq, Prod.mk.injEq] at he
          obtain ⟨⟨e1, e2⟩, e3⟩ := he
          by_cases hc : x = q'.1
          · refine ⟨q'.2, ?_, hs.1 hc⟩
            rw [Op.lookupswitch.offset_cons, if_pos (by rw [hc, ← e1])]
            exact e2
          · obtain ⟨tgt, g1, g2⟩ := ih sl e3 (hs.2 hc)
            refine ⟨tgt, ?_, g2⟩
            rw [Op.lookupswitch.offset_cons, if_neg]
            · exact g1
            · intro q9
              exact hc (Int32.toInt_inj.mp (by omega))
    obtain ⟨tgt, g1, g2⟩ := key ps.toList sw hp2 h
    exact lv_lookup hx hb hd hp3 rfl g1 (hK _ _ _ _ g2 H locs ls hl hP hS)
  | getfield n =>
    obtain rfl := hlen rfl
    intro H locs ls hl hP hS
    obtain ⟨x, r, rfl, h⟩ := ax_r1_of h
    obtain ⟨nn, fs, hsh, h⟩ := ax_cell_of h
    obtain ⟨CC, T, N, hcl, hbN, hin, hT, hlk⟩ := ax_fok_of hpok
    have he : (ax_ws μ cI cZ σ)[x]? = some (μ x, .inr (a, ax_fs μ σ x fs)) := by rw [ax_ws_at, hsh]; rfl
    have key : ∀ w : Value, (ax_fs μ σ x fs)[b]? = some (ax_vm μ w) → K (pc + 3) L (w :: r) σ → W p l e R s m args below meth c H locs cells slots Q (F0 m pc ls (.ref (μ x) :: r.map (ax_vm μ))) := by
      intro w hw hk
      rcases hlk with hlk | hlk
      · exact va_get hx hb hts hin hown hKK hP x he hcl b hbN (hts _ hlk) (fun _ h9 => h9) hw hd (hK _ _ _ _ hk H locs ls hl hP hS)
      · exact va_getN hx hb hts hin hown hKK hP x he hcl b hbN (hts _ hlk) (fun _ h9 => h9) hw hd (hK _ _ _ _ hk H locs ls hl hP hS)
    unfold ax_fld at h
    split at h
    · rename_i hf
      exact key (.int (σ x b)) (by unfold ax_fs; rw [List.getElem?_mapIdx, hf]; rfl) h
    · rename_i hf
      exact key .null (by unfold ax_fs; rw [List.getElem?_mapIdx, hf]; rfl) h
    · rename_i rr hf
      exact key (.ref rr) (by unfold ax_fs; rw [List.getElem?_mapIdx, hf]; rfl) h
    · exact h.elim
  | putfield n =>
    obtain rfl := hlen rfl
    intro H locs ls hl hP hS
    simp only [ax_pok, Bool.and_eq_true, decide_eq_true_eq] at hpok
    obtain ⟨hpok, hfin, hdes⟩ := hpok
    match st, h with
    | .int w :: .ref x :: r, h =>
      obtain ⟨nn, fs, hsh, h⟩ := ax_cell_of (k := fun _ fs => ax_pf b fs (K (pc + 3) L r (ax_us σ x b w))) h
      obtain ⟨CC, T, N, hcl, hbN, hin, hT, hlk⟩ := ax_fok_of hpok
      obtain ⟨⟨ty0, hty⟩, hnm⟩ := ax_ty_in _ (List.mem_of_getElem? hcl)
      rw [hT] at hfin hdes
      have he : (ax_ws μ cI cZ σ)[x]? = some (μ x, .inr (a, ax_fs μ σ x fs)) := by rw [ax_ws_at, hsh]; rfl
      have hf : fs[b]? = some none ∧ K (pc + 3) L r (ax_us σ x b w) := by
        unfold ax_pf at h
        split at h
        · exact ⟨by assumption, h⟩
        · exact h.elim
      obtain ⟨hf, h⟩ := hf
      have hbl : b < (ax_fs μ σ x fs).length := by
        unfold ax_fs
        rw [List.length_mapIdx]
        exact (List.getElem?_eq_some_iff.mp hf).1
      have hset : (ax_ws μ cI cZ σ).set x (μ x, .inr (a, (ax_fs μ σ x fs).set b (.int w))) = ax_ws μ cI cZ (ax_us σ x b w) := by
        rw [ax_us_uc, ← ax_ws_uc μ cI cZ σ x _ _ hsh, ← ax_fs_put μ σ x b w fs hf]
        rfl
      have hd1 : parseFieldDescriptor (T b).2.2.1 = some .int := by rw [hdes]; decide
      have kk : ∀ (H1 : Heap) (locs1 : List Loc), va_P D vwCl ((ax_ws μ cI cZ σ).set x (μ x, .inr (a, (ax_fs μ σ x fs).set b (.int w)))) H1 → va_D A ((ax_ws μ cI cZ σ).set x (μ x, .inr (a, (ax_fs μ σ x fs).set b (.int w)))) → va_S A s.heap H1 locs1 → W p l e R s m args below meth c H1 locs1 cells slots Q (F0 m (pc + 3) ls (r.map (ax_vm μ))) := by
        intro H1 locs1 hP1 _ hS1
        rw [hset] at hP1
        exact hK _ _ _ _ h H1 locs1 ls hl hP1 hS1
      rcases hlk with hlk | hlk
      · exact va_put hx hb hts hin ty0 hty hnm hown hKK hP (had.D cI cZ σ) hS x he hcl b hbN (hts _ hlk) (fun _ h9 => h9) hfin hd1 rfl rfl hbl hd kk
      · exact va_putN hx hb hts hin ty0 hty hnm hown hKK hP (had.D cI cZ σ) hS x he hcl b hbN (hts _ hlk) (fun _ h9 => h9) hfin hd1 rfl rfl hbl hd kk
  | iaload =>
    obtain rfl := hlen rfl
    intro H locs ls hl hP hS
    obtain ⟨x, j, r, e0, hn⟩ := ax_ri_of h
    clear h
    subst e0
    have h := hn
    cases hx2 : Nat.beq x 2000 with
    | true =>
      rw [hx2] at h
      have hx3 : x = 2000 := Nat.eq_of_beq_eq_true hx2
      subst hx3
      match scr, hX, h with
      | some (n, xs), hX, h =>
        obtain ⟨g1, g2, g3⟩ := hX n xs rfl
        exact va_sld hx hb g1 g2 g3 hS h.1 hd (hK _ _ _ _ h.2 H locs ls hl hP hS)
    | false =>
      rw [hx2] at h
      obtain ⟨nn, fs, hsh, h1, h⟩ := ax_cell_of h
      have he : (ax_ws μ cI cZ σ)[x]? = some (μ x, .inl (cI, nn, .inl (σ x))) := by rw [ax_ws_at, hsh]; rfl
      exact va_iald hx hb hKK hP x 0 he rfl h1 hd (hK _ _ _ _ h H locs ls hl hP hS)
  | baload =>
    obtain rfl := hlen rfl
    intro H locs ls hl hP hS
    obtain ⟨x, j, r, rfl, h⟩ := ax_ri_of h
    obtain ⟨nn, fs, hsh, h1, h⟩ := ax_cell_of h
    have he : (ax_ws μ cI cZ σ)[x]? = some (μ x, .inl (cZ, nn, .inl (σ x))) := by rw [ax_ws_at, hsh]; rfl
    exact va_zald hx hb hKK hP x 1 he rfl h1 hd (hK _ _ _ _ h H locs ls hl hP hS)
  | iastore =>
    obtain rfl := hlen rfl
    intro H locs ls hl hP hS
    obtain ⟨x, j, w, r, rfl, h⟩ := ax_rii_of h
    obtain ⟨nn, fs, hsh, h1, h⟩ := ax_cell_of h
    have he : (ax_ws μ cI cZ σ)[x]? = some (μ x, .inl (cI, nn, .inl (σ x))) := by rw [ax_ws_at, hsh]; rfl
    have hset : (ax_ws μ cI cZ σ).set x (μ x, .inl (cI, nn, .inl (upd (σ x) j.toNatClampNeg w))) = ax_ws μ cI cZ (ax_us σ x j.toNatClampNeg w) := by
      rw [ax_us_uc, ← ax_ws_uc μ cI cZ σ x _ _ hsh]
      simp only [ax_ce, ax_uc_s]
    refine va_iast hx hb hKK hP (had.D cI cZ σ) hS x 0 he rfl h1 hd (fun H1 locs1 hP1 _ hS1 => ?_)
    rw [hset] at hP1
    exact hK _ _ _ _ h H1 locs1 ls hl hP1 hS1
  | bastore =>
    obtain rfl := hlen rfl
    intro H locs ls hl hP hS
    obtain ⟨x, j, w, r, rfl, h⟩ := ax_rii_of h
    obtain ⟨nn, fs, hsh, h1, h⟩ := ax_cell_of h
    have he : (ax_ws μ cI cZ σ)[x]? = some (μ x, .inl (cZ, nn, .inl (σ x))) := by rw [ax_ws_at, hsh]; rfl
    have hset : (ax_ws μ cI cZ σ).set x (μ x, .inl (cZ, nn, .inl (upd (σ x) j.toNatClampNeg (vp_nar .boolean w)))) = ax_ws μ cI cZ (ax_us σ x j.toNatClampNeg (vp_nar .boolean w)) := by
      rw [ax_us_uc, ← ax_ws_uc μ cI cZ σ x _ _ hsh]
      simp only [ax_ce, ax_uc_s]
    refine va_zast hx hb hKK hP (had.D cI cZ σ) hS x 1 he rfl h1 hd (fun H1 locs1 hP1 _ hS1 => ?_)
    rw [hset] at hP1
    exact hK _ _ _ _ h H1 locs1 ls hl hP1 hS1
  | arraylength =>
    obtain rfl := hlen rfl
    intro H locs ls hl hP hS
    obtain ⟨x, r, e0, hn⟩ := ax_r1_of h
    clear h
    subst e0
    have h := hn
    cases hx2 : Nat.beq x 2000 with
    | true =>
      rw [hx2] at h
      have hx3 : x = 2000 := Nat.eq_of_beq_eq_true hx2
      subst hx3
      match scr, hX, h with
      | some (n, xs), hX, h =>
        obtain ⟨g1, g2, g3⟩ := hX n xs rfl
        exact va_slen hx hb g1 g2 g3 hS hd (hK _ _ _ _ h H locs ls hl hP hS)
    | false =>
      rw [hx2] at h
      obtain ⟨nn, fs, hsh, h⟩ := ax_cell_of h
      have he : (ax_ws μ cI cZ σ)[x]? = some (μ x, .inl (cI, nn, .inl (σ x))) := by rw [ax_ws_at, hsh]; rfl
      exact va_alen hx hb hKK hP x 0 he rfl rfl hd (hK _ _ _ _ h H locs ls hl hP hS)
  | invokevirtual n =>
    obtain rfl := hlen rfl
    obtain ⟨bs, r', hbs, e0, hn⟩ := ax_pop_of _ _ _ _ h
    clear h
    subst e0
    rw [List.append_nil] at hn
    obtain ⟨x, r, e1, h⟩ := ax_r1_of hn
    clear hn
    subst e1
    obtain ⟨hcat, hq⟩ := ax_cond_of h
    clear h
    have h := hq
    clear hq
    have hcat := Nat.le_of_ble_eq_true hcat
    have hpok := hpok
    simp only [ax_pok, Bool.and_eq_true] at hpok
    obtain ⟨hmok, hpok⟩ := hpok
    have hli := ax_mok_of hmok
    split at h
    · simp only [Bool.and_eq_true, Nat.beq_eq, Nat.ble_eq] at hpok
      obtain ⟨⟨rfl, hf2⟩, hl2⟩ := hpok
      have hbs0 : bs = [] := List.length_eq_zero_iff.mp hbs
      subst hbs0
      split at h
      · split at h
        · rename_i t ht
          obtain ⟨hx1, h⟩ := ax_cond_of h
          rcases hli with hli | hli
          · exact ax_strlen cx0 hli hf2 hl2 (Nat.le_of_ble_eq_true hx1) ht hcat hd (hK _ _ _ _ h)
          · exact absurd (List.mem_filter.mp hli).1 (ax_nonest _ _ _ (Or.inl rfl))
        · exact h.elim
      · exact h.elim
    · simp only [Bool.and_eq_true, Nat.beq_eq, Nat.ble_eq] at hpok
      obtain ⟨⟨rfl, hf2⟩, hl2⟩ := hpok
      split at h
      · rename_i i hrev
        have hbs0 : bs = [.int i] := by
          have := congrArg List.reverse hrev
          rw [List.reverse_reverse] at this
          exact this
        subst hbs0
        split at h
        · rename_i t ht
          obtain ⟨hx1, h1, h⟩ := ax_cond_of h
          rcases hli with hli | hli
          · exact ax_strchr cx0 hli hf2 hl2 (Nat.le_of_ble_eq_true hx1) ht h1 hcat hd (hK _ _ _ _ h)
          · exact absurd (List.mem_filter.mp hli).1 (ax_nonest _ _ _ (Or.inr rfl))
        · exact h.elim
      · exact h.elim
    · rename_i ha7 ha8
      have hpok : ax_cok (cc, true) (0, false) fr0 lo0 b sw ax_mis[a]? = true := by
        split at hpok
        · exact absurd rfl ha7
        · exact absurd rfl ha8
        · exact hpok
      obtain ⟨m', hm', g0, g1, g2, g3, g4, g5, g6⟩ := ax_cok_of hpok
      obtain ⟨nn, fs, hsh, h⟩ := ax_cell_of h
      obtain ⟨hsz, QQ, h, hQQ⟩ := ax_go_of g5 h
      have hE := hC _ _ _ _ h
      have hE : ax_E l m' 0 (ax_en m'.2.2.1 (.ref x :: bs.reverse)) [] σ QQ := by
        have hE2 : ax_E l (ax_m a) 0 _ [] σ _ := hE
        rw [ax_m_of hm'] at hE2
        exact hE2
      have hnm : ax_nm a = m'.1 := by
        have ha9 : a ≠ 999 := by
          intro e9
          rw [e9] at hm'
          cases hm'
        have : ax_nm a = (ax_m a).1 := by
          unfold ax_nm
          split
          · exact absurd rfl ha7
          · exact absurd rfl ha8
          · exact absurd rfl ha9
          · rfl
        rw [this, ax_m_of hm']
      rw [hnm] at hli
      intro H locs ls hl hP hS
      refine ax_callQ (ax_runV (as := bs.reverse) (r := r) cx0 hm' g0 g1 g3 g4 g6 (by rw [List.length_reverse]; exact hbs) hli (by rw [g2]; exact hsh) hsz hE hP hS hl.1 hcat hd _ (by rw [List.reverse_reverse])) hS (ax_ad_le had) (fun o σ' H1 locs1 hk hP1 hS1 => ?_)
      have := hK _ _ _ _ (hQQ _ _ hk) H1 locs1 ls hl hP1 hS1
      rw [List.map_append] at this
      cases o with
      | none => exact this
      | some v => exact this
  | invokestatic n =>
    obtain rfl := hlen rfl
    obtain ⟨bs, r, hbs, e0, hn⟩ := ax_pop_of _ _ _ _ h
    clear h
    subst e0
    rw [List.append_nil] at hn
    have h := hn
    clear hn
    obtain ⟨hcat, hq⟩ := ax_cond_of h
    clear h
    have h := hq
    clear hq
    have hcat := Nat.le_of_ble_eq_true hcat
    have hpok := hpok
    simp only [ax_pok, Bool.and_eq_true] at hpok
    obtain ⟨hmok, hpok⟩ := hpok
    have hli := ax_mok_of hmok
    split at h
    · simp only [Bool.and_eq_true, Nat.beq_eq, Nat.ble_eq] at hpok
      obtain ⟨⟨rfl, hf2⟩, hl2⟩ := hpok
      split at h
      · rename_i x sp y dp k hrev
        have hbs0 : bs = [.int k, .int dp, .ref y, .int sp, .ref x] := by
          have := congrArg List.reverse hrev
          rw [List.reverse_reverse] at this
          exact this
        subst hbs0
        obtain ⟨nx, fx, hshx, h⟩ := ax_cell_of h
        obtain ⟨ny, fy, hshy, h⟩ := ax_cell_of h
        obtain ⟨⟨h1, h2, h3, h4, h5⟩, h⟩ := h
        intro H locs ls hl hP hS
        have hex : (ax_ws μ cI cZ σ)[x]? = some (μ x, .inl (cI, nx, .inl (σ x))) := by rw [ax_ws_at, hshx]; rfl
        have hey : (ax_ws μ cI cZ σ)[y]? = some (μ y, .inl (cI, ny, .inl (σ y))) := by rw [ax_ws_at, hshy]; rfl
        have hset : (ax_ws μ cI cZ σ).set y (μ y, .inl (cI, ny, .inl (va_cpy (σ x) (σ y) sp.toNatClampNeg dp.toNatClampNeg k.toNatClampNeg))) = ax_ws μ cI cZ (ax_uc σ y (va_cpy (σ x) (σ y) sp.toNatClampNeg dp.toNatClampNeg k.toNatClampNeg)) := by
          rw [← ax_ws_uc μ cI cZ σ y _ _ hshy]
          simp only [ax_ce, ax_uc_s]
        rcases hli with hli | hli
        · refine va_copyi hx hb (by rw [hml]; exact hl.1.symm) hown (hts _ hli) (hts _ ax_w_nat) (hts _ ax_w_sta) (hts _ ax_w_ini) hKK hP (had.D cI cZ σ) hS x y 0 0 hex hey rfl rfl rfl h1 h2 h3 h4 h5 (fun _ _ => rfl) (Nat.le_trans hf2 hR1) ?_ hd (fun H1 locs1 hP1 _ hS1 => ?_)
          · have e7 : nativeFrameWords "java/lang/System" "arraycopy" 5 = 7 := by decide
            have hc8 : ((r.map (ax_vm μ)).map fun v => v.category).sum ≤ 8 := by rw [ax_cat_sum]; exact hcat
            have h26 : 26 ≤ lo0 := hl2
            have hlo0 : lo0 ≤ R.locals := hR2
            show ((r.map (ax_vm μ)).map fun v => v.category).sum + (nativeFrameWords "java/lang/System" "arraycopy" 5 + 11) ≤ R.locals
            rw [e7]
            omega
          · rw [hset] at hP1
            exact hK _ _ _ _ h H1 locs1 ls hl hP1 hS1
        · exact absurd (List.mem_filter.mp hli).1 (ax_nonest2 _ _ _ rfl)
      · exact h.elim
    · rename_i ha9
      have hpok : ax_cok (cc, true) (0, true) fr0 lo0 b sw ax_mis[a]? = true := by
        split at hpok
        · exact absurd rfl ha9
        · exact hpok
      obtain ⟨m', hm', g0, g1, g2, g3, g4, g5, g6⟩ := ax_cok_of hpok
      obtain ⟨hsz, QQ, h, hQQ⟩ := ax_go_of g5 h
      have hE := hC _ _ _ _ h
      have hE : ax_E l m' 0 (ax_en m'.2.2.1 bs.reverse) [] σ QQ := by
        have hE2 : ax_E l (ax_m a) 0 _ [] σ _ := hE
        rw [ax_m_of hm'] at hE2
        exact hE2
      have hnm : ax_nm a = m'.1 := by
        have ha7 : a ≠ 997 := by
          intro e9
          rw [e9] at hm'
          cases hm'
        have ha8 : a ≠ 998 := by
          intro e9
          rw [e9] at hm'
          cases hm'
        have : ax_nm a = (ax_m a).1 := by
          unfold ax_nm
          split
          · exact absurd rfl ha7
          · exact absurd rfl ha8
          · exact absurd rfl ha9
          · rfl
        rw [this, ax_m_of hm']
      rw [hnm] at hli
      intro H locs ls hl hP hS
      refine ax_callQ (ax_runS (as := bs.reverse) (r := r) cx0 hm' g0 g1 g3 g4 g6 (by rw [List.length_reverse]; exact hbs) hli hsz hE hP hS hl.1 hcat hd _ (by rw [List.reverse_reverse])) hS (ax_ad_le had) (fun o σ' H1 locs1 hk hP1 hS1 => ?_)
      have := hK _ _ _ _ (hQQ _ _ hk) H1 locs1 ls hl hP1 hS1
      rw [List.map_append] at this
      cases o with
      | none => exact this
      | some v => exact this
  | ireturn =>
    obtain rfl := hlen rfl
    match st, h with
    | [.int x], h =>
      rcases of_decide_eq_true hpok with ⟨rfl, hr⟩ | ⟨rfl, hr⟩
      · exact hI pc x L σ hd (Or.inl hr) h
      · exact hI pc x L σ hd (Or.inr ⟨hr, h.1⟩) h.2
  | areturn =>
    obtain rfl := hlen rfl
    match st, h with
    | [.ref x], h => exact hA pc x L σ hd (of_decide_eq_true hpok) h
  | return_ =>
    obtain rfl := hlen rfl
    match st, h with
    | [], h => exact hV pc L σ hd (of_decide_eq_true hpok) h
  | _ => exact h.elim
end AxSound
section AxBlk
theorem ax_fd_mem : ∀ (rs : List ax_Rw) (pc : Nat) (r : ax_Rw), ax_fd rs pc = some r → r ∈ rs ∧ r.1 = pc
  | [], pc, r, h => by cases h
  | q :: rs, pc, r, h => by
    have h : cond (Nat.beq q.1 pc) (some q) (ax_fd rs pc) = some r := h
    cases hb : Nat.beq q.1 pc with
    | true =>
      rw [hb] at h
      cases h
      exact ⟨List.mem_cons_self, Nat.eq_of_beq_eq_true hb⟩
    | false =>
      rw [hb] at h
      obtain ⟨h1, h2⟩ := ax_fd_mem rs pc r h
      exact ⟨List.mem_cons_of_mem _ h1, h2⟩
theorem ax_rw_ok {m0 : ax_Mi} {t : List (List ax_Rw)} (hc : ax_chk m0 t = true) {pc : Nat} {r : ax_Rw} (h : ax_rw t pc = some r) : ax_rok m0 r = true ∧ r.1 = pc := by
  unfold ax_rw at h
  split at h
  · rename_i rs hrs
    obtain ⟨h1, h2⟩ := ax_fd_mem rs pc r h
    exact ⟨List.all_eq_true.mp (List.all_eq_true.mp hc rs (List.mem_of_getElem? hrs)) r h1, h2⟩
  · cases h
variable {p : Program} {l : Launch} {e : Env} {R : Room} {s : State} {m : MethodId} {args : Array Value} {below : List Frame} {meth : Method} {c : Code} {cells slots : Nat} {Q : State → Prop}
variable {μ : Nat → Nat} {cI cZ : ClassId} {D : va_G} {A : Nat → Prop} {m0 : ax_Mi} {scr : Option (Nat × (Nat → Int32))}
theorem ax_W.sub {nL pc : Nat} {L L' : ax_Lc} {st : List Value} {σ : ax_Sg} (h : ax_W p l e R s m args below meth c cells slots Q μ cI cZ D A nL pc L' st σ) (hl : L'.length = L.length) (hs : ∀ j w, ax_ld L' j = some w → ax_ld L j = some w) : ax_W p l e R s m args below meth c cells slots Q μ cI cZ D A nL pc L st σ :=
  fun H locs ls hv hP hS => h H locs ls (hv.sub hl hs) hP hS
/-- a stretch of code up to its cuts -/
theorem ax_wp_ok {C : ax_Ca} {P : Option Value → ax_Sg → Prop} {t : List (List ax_Rw)} {ct : List (Nat × List Bool)} {E : Nat → ax_Lc → List Value → ax_Sg → Prop}
    (cx : ax_cx m0 p s m args c R cells slots μ cI cZ D A scr) (hchk : ax_chk m0 t = true)
    (hC : ∀ a L σ Q, C a L σ Q → Ev l a 0 L [] σ Q)
    (hE : ∀ pc L st σ, E pc L st σ → ax_W p l e R s m args below meth c cells slots Q μ cI cZ D A m0.2.2.1 pc L st σ)
    (hI : ∀ pc v L σ, decode m0.2.1 pc = .ok (.ireturn, 1) → (m0.2.2.2.1 = some .int ∨ (m0.2.2.2.1 = some .boolean ∧ vp_nar .boolean v = v)) → P (some (.int v)) σ → ax_W p l e R s m args below meth c cells slots Q μ cI cZ D A m0.2.2.1 pc L [.int v] σ)
    (hA : ∀ pc x L σ, decode m0.2.1 pc = .ok (.areturn, 1) → m0.2.2.2.1 = some (.object "java/lang/String") → P (some (.ref x)) σ → ax_W p l e R s m args below meth c cells slots Q μ cI cZ D A m0.2.2.1 pc L [.ref x] σ)
    (hV : ∀ pc L σ, decode m0.2.1 pc = .ok (.return_, 1) → m0.2.2.2.1 = none → P none σ → ax_W p l e R s m args below meth c cells slots Q μ cI cZ D A m0.2.2.1 pc L [] σ) :
    ∀ (n pc : Nat) (L : ax_Lc) (st : List Value) (σ : ax_Sg), ax_wp t ct E C P scr n pc L st σ → ax_W p l e R s m args below meth c cells slots Q μ cI cZ D A m0.2.2.1 pc L st σ := by
  intro n
  induction n with
  | zero => exact fun pc L st σ h => hE pc L st σ h
  | succ n ih =>
    intro pc L st σ h
    unfold ax_wp at h
    split at h
    · exact (hE _ _ _ _ h).sub (ax_mk_len _ _) (ax_mk_ld _ _)
    · split at h
      · rename_i r hr
        obtain ⟨h1, h2⟩ := ax_rw_ok hchk hr
        subst h2
        exact ax_ex_ok cx h1 hC ih hI hA hV h
      · exact h.elim
theorem ax_bk_ok {C : ax_Ca} {P : Option Value → ax_Sg → Prop} {t : List (List ax_Rw)} {ct : List (Nat × List Bool)} {E : Nat → ax_Lc → List Value → ax_Sg → Prop}
    (cx : ax_cx m0 p s m args c R cells slots μ cI cZ D A scr) (hchk : ax_chk m0 t = true)
    (hC : ∀ a L σ Q, C a L σ Q → Ev l a 0 L [] σ Q)
    (hE : ∀ pc L st σ, E pc L st σ → ax_W p l e R s m args below meth c cells slots Q μ cI cZ D A m0.2.2.1 pc L st σ)
    (hI : ∀ pc v L σ, decode m0.2.1 pc = .ok (.ireturn, 1) → (m0.2.2.2.1 = some .int ∨ (m0.2.2.2.1 = some .boolean ∧ vp_nar .boolean v = v)) → P (some (.int v)) σ → ax_W p l e R s m args below meth c cells slots Q μ cI cZ D A m0.2.2.1 pc L [.int v] σ)
    (hA : ∀ pc x L σ, decode m0.2.1 pc = .ok (.areturn, 1) → m0.2.2.2.1 = some (.object "java/lang/String") → P (some (.ref x)) σ → ax_W p l e R s m args below meth c cells slots Q μ cI cZ D A m0.2.2.1 pc L [.ref x] σ)
    (hV : ∀ pc L σ, decode m0.2.1 pc = .ok (.return_, 1) → m0.2.2.2.1 = none → P none σ → ax_W p l e R s m args below meth c cells slots Q μ cI cZ D A m0.2.2.1 pc L [] σ)
    {n pc : Nat} {L : ax_Lc} {st : List Value} {σ : ax_Sg} (h : ax_bk t ct E C P scr n pc L st σ) : ax_W p l e R s m args below meth c cells slots Q μ cI cZ D A m0.2.2.1 pc L st σ := by
  unfold ax_bk at h
  split at h
  · rename_i r hr
    obtain ⟨h1, h2⟩ := ax_rw_ok hchk hr
    subst h2
    exact ax_ex_ok cx h1 hC (ax_wp_ok cx hchk hC hE hI hA hV n) hI hA hV h
  · exact h.elim
end AxBlk
/-- A STRETCH OF A METHOD, up to its cuts -/
theorem ax_blk {l : Launch} {k : Nat} {m0 : ax_Mi} {t : List (List ax_Rw)} (hm : ax_m k = m0) (hchk : ax_chk m0 t = true) {ct : List (Nat × List Bool)} {n pc : Nat} {L : ax_Lc} {st : List Value} {σ : ax_Sg} {P : Option Value → ax_Sg → Prop}
    (h : ax_bk t ct (fun pc L st σ => Ev l k pc L st σ P) (fun a L σ Q => Ev l a 0 L [] σ Q) P none n pc L st σ) : Ev l k pc L st σ P := by
  subst hm
  intro p e s m args below meth c μ cI cZ D cx hr hlk
  have hx := cx.1
  have hb := cx.2.1
  refine ax_bk_ok cx hchk (fun a L σ Q h => h) (fun pc L st σ h => h p e s m args below meth c μ cI cZ D cx hr hlk) ?_ ?_ ?_ h
  · intro pc v L σ hd hrt hP H locs ls hl hPP hS
    rcases hrt with hrt | ⟨hrt, hn⟩
    · exact W.iret (v := v) hx hb (hr.trans hrt) (fun t ht hW => ⟨⟨some (.int v), σ, rfl, hP, by rw [ht]; exact hPP⟩, hS.F ht⟩) hS.2.2 hd hlk
    · refine W.zret (v := v) hx hb (hr.trans hrt) ?_ (fun t ht hW => ⟨⟨some (.int v), σ, rfl, hP, by rw [ht]; exact hPP⟩, hS.F ht⟩) hS.2.2 hd hlk
      have e : narrow .boolean (.int v) = .int (vp_nar .boolean v) := rfl
      rw [e, hn]
  · intro pc x L σ hd hrt hP H locs ls hl hPP hS
    exact W.aret (v := .ref (μ x)) hx hb (hr.trans hrt) (Or.inl ⟨_, rfl⟩) (Or.inr ⟨_, rfl⟩) (fun t ht hW => ⟨⟨some (.ref x), σ, rfl, hP, by rw [ht]; exact hPP⟩, hS.F ht⟩) hS.2.2 hd hlk
  · intro pc L σ hd hrt hP H locs ls hl hPP hS
    exact W.vret hx hb (hr.trans hrt) (fun t ht hW => ⟨⟨none, σ, rfl, hP, by rw [ht]; exact hPP⟩, hS.F ht⟩) hS.2.2 hd hlk
/-- more may be asked at the end -/
theorem Ev.mono {l : Launch} {k pc : Nat} {L : ax_Lc} {st : List Value} {σ : ax_Sg} {P P' : Option Value → ax_Sg → Prop} (h : Ev l k pc L st σ P) (hP : ∀ r σ', P r σ' → P' r σ') : Ev l k pc L st σ P' := by
  intro p e s m args below meth c μ cI cZ D cx hr hlk H locs ls hl hPP hS T hT X
  obtain ⟨t, a1, o, b1, b2, ⟨⟨r, σ', c1, c2, c3⟩, c4⟩, c5⟩ := h p e s m args below meth c μ cI cZ D cx hr hlk H locs ls hl hPP hS T hT X
  exact ⟨t, a1, o, b1, b2, ⟨⟨r, σ', c1, hP r σ' c2, c3⟩, c4⟩, c5⟩
