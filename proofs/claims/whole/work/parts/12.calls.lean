/-! a call's row in the machine -/
section AxRun
variable {p : Program} {l : Launch} {e : Env} {R : Room} {s : State} {m : MethodId} {args : Array Value} {below : List Frame} {meth : Method} {c : Code} {H : Heap} {locs : List Loc} {cells slots : Nat} {Q : State → Prop}
variable {pc : Nat} {ls : Array Slot} {r : List Value} {μ : Nat → Nat} {cI cZ : ClassId} {D : va_G} {A : Nat → Prop} {m0 m' : ax_Mi} {scr : Option (Nat × (Nat → Int32))} {σ : ax_Sg} {P : Option Value → ax_Sg → Prop}
theorem ax_ad_le (had : ax_ad μ A) : ∀ q, ax_A μ q → A q := by
  rintro q ⟨i, hi, rfl⟩
  exact had.2 i hi
theorem ax_Pcat (cx : ax_cx m0 p s m args c R cells slots μ cI cZ D A scr) (hP : va_P D vwCl (ax_ws μ cI cZ σ) H) (hS : va_S A s.heap H locs) (as : List Value) (U : State) (hU : U.heap = H) (hW : s.WarmedH U.vm) : ax_P μ cI cZ D as σ (as.map (ax_vm μ)).toArray U := by
  obtain ⟨hx, hb, hml, hown, hts, hK, had, hSt, hR, hX⟩ := cx
  exact ⟨rfl, by rw [hU]; exact hP, va_K.moved hW.alike hK, hSt.go hW hU hS (ax_ad_le had)⟩
theorem ax_runV {a x b n : Nat} {fs : List (Option (Option Nat))} {as : List Value} (cx : ax_cx m0 p s m args c R cells slots μ cI cZ D A scr) (hm : ax_mis[a]? = some m') (h0 : 0 < m'.2.2.2.2.2.2.2.1) (hst : m'.2.2.2.2.2.2.2.2.2.2.2 = false) (hfr : m'.2.2.2.2.2.1 + 1 ≤ m0.2.2.2.2.2.1) (hlo : 8 + (m'.2.2.1 + 11) + m'.2.2.2.2.2.2.1 ≤ m0.2.2.2.2.2.2.1)
    (hlen : (parseMethodDescriptor m'.1.desc).map (fun d => d.parameters.length) = some b) (hab : as.length = b) (hli : Cond.methodLink (ax_cnm m0.2.2.2.2.1) n m'.1 ∈ lw_w ∨ Cond.methodLinkNest (ax_cnm m0.2.2.2.2.1) n m'.1 "PlateHire" ∈ lw_w) {nn : Nat} (hsh : ax_sh[x]? = some (m'.2.2.2.2.1 + 2, nn, fs))
    (hsz : ax_cat (.ref x :: as) ≤ m'.2.2.1) (hE : ax_E l m' 0 (ax_en m'.2.2.1 (.ref x :: as)) [] σ P) (hP : va_P D vwCl (ax_ws μ cI cZ σ) H) (hS : va_S A s.heap H locs) (hl : ls.size = m0.2.2.1) (hcat : ax_cat r ≤ 8) (hdg : decode m0.2.1 pc = .ok (.invokevirtual n, 3)) (st0 : List Value) (hst0 : st0 = as.reverse ++ .ref x :: r) :
    va_Run p l e R s m args below meth c H locs cells slots 0 0 (F0 m pc ls (st0.map (ax_vm μ))) (r.map (ax_vm μ)) (ax_Q μ cI cZ D P ((.ref (μ x) :: as.map (ax_vm μ))).toArray) (ax_A μ) := by
  have cx' := cx
  obtain ⟨hx, hb, hml, hown, hts, hK, had, hSt, ⟨hR1, hR2, hR3, hR4⟩, hX⟩ := cx
  obtain ⟨w1, w2, -, w4, w5, w6, w7⟩ := ax_mi_of hm h0
  obtain ⟨w8, w9⟩ := w4 hst
  have hM := ax_met w5 w6 hsz hE cI cZ D had
  have hlen' : ∀ sig, parseMethodDescriptor m'.1.desc = some sig → b = sig.parameters.length := fun sig h => by
    rw [h] at hlen
    exact (Option.some.inj hlen).symm
  have hpay : ∀ w ∈ ax_wd m', ∀ (a' : Array Value) (U : State), s.WarmedH U.vm → w.before a' U = true := fun w hw a' U hW => by
    rcases List.mem_cons.mp hw with rfl | h
    · exact ax_pay hts w1 a' U hW
    · exact ax_pay hts h a' U hW
  have hcode : Cond.code m'.1 m'.2.1 m'.2.2.1 m'.2.2.2.1 ∈ ax_wd m' := List.mem_cons_self
  -- the receiver
  have hcl : ∃ q : vw_C, vwCl[m'.2.2.2.2.1]? = some q ∧ q.1 = m'.1.cls ∧ ∃ cell : Cell, H[μ x]? = some cell ∧ cell.vm.isStatics = false ∧ s.vm.findClass q.1 = some cell.cls := by
    have he : (ax_ws μ cI cZ σ)[x]? = some (μ x, .inr (m'.2.2.2.2.1, ax_fs μ σ x fs)) := by rw [ax_ws_at, hsh]; rfl
    obtain ⟨q, hq, -⟩ := hP x _ he
    have hq : vwCl[m'.2.2.2.2.1]? = some q := hq
    refine ⟨q, hq, ?_, va_recv hK hP hq he⟩
    have hall : ∀ i, i < 12 → ∀ q : vw_C, vwCl[i]? = some q → q.1 = ax_cnm i := by
      intro i hi q hq
      match i, hi, hq with
      | 0, _, hq => cases hq; rfl
      | 1, _, hq => cases hq; rfl
      | 2, _, hq => cases hq; rfl
      | 3, _, hq => cases hq; rfl
      | 4, _, hq => cases hq; rfl
      | 5, _, hq => cases hq; rfl
      | 6, _, hq => cases hq; rfl
      | 7, _, hq => cases hq; rfl
      | 8, _, hq => cases hq; rfl
      | 9, _, hq => cases hq; rfl
      | 10, _, hq => cases hq; rfl
      | 11, _, hq => cases hq; rfl
      | i + 12, hi, _ => omega
    rw [w5]
    exact hall _ (by have := (List.getElem?_eq_some_iff.mp hq).1; exact this) q hq
  obtain ⟨q, hq, hqc, hcell⟩ := hcl
  rw [hqc] at hcell
  have hpre : PreV s H m'.1.cls (μ x) (ax_P μ cI cZ D (.ref x :: as) σ) (as.map (ax_vm μ)) := ⟨ax_blind _ _, hcell, fun U hU hW => ax_Pcat cx' hP hS (.ref x :: as) U hU hW⟩
  have hstk : (F0 m pc ls (st0.map (ax_vm μ))).stack = (as.map (ax_vm μ)).reverse ++ .ref (μ x) :: r.map (ax_vm μ) := by
    subst hst0
    simp [ax_vm]
  have hroom : 2 * (F0 m pc ls (st0.map (ax_vm μ))).monitorRoom + ((r.map (ax_vm μ)).map fun v => v.category).sum ≤ 8 := lv_room (by rw [ax_cat_sum]; exact hcat)
  rcases hli with hli | hli
  · exact va_runV (nL := m0.2.2.1) (Ts := lw_w) (own := ax_cnm m0.2.2.2.2.1) (C := m'.1.cls) (bytes := m'.2.1) (maxL := m'.2.2.1) (ret := m'.2.2.2.1) (n := b) ⟨hx, hb, hml, hown, hts⟩ hM ⟨⟨rfl, rfl, Nat.le_trans hfr hR1, Nat.le_trans hlo hR2, hpay, hcode, hts _ w1, hts _ w2, w7, hlen', hts _ hli⟩, hts _ w8, hts _ w9⟩ hpre rfl (by rw [List.length_map]; exact hab) hl hstk hroom hdg ⟨hR3, hR4⟩
  · exact va_runVN (nL := m0.2.2.1) (Ts := lw_w) (own := ax_cnm m0.2.2.2.2.1) (C := m'.1.cls) (bytes := m'.2.1) (maxL := m'.2.2.1) (ret := m'.2.2.2.1) (n := b) ⟨hx, hb, hml, hown, hts⟩ hM ⟨⟨⟨rfl, rfl, Nat.le_trans hfr hR1, Nat.le_trans hlo hR2, hpay, hcode⟩, hts _ w1, hts _ w2, w7, hlen', hts _ hli⟩, hts _ w8, hts _ w9⟩ hpre rfl (by rw [List.length_map]; exact hab) hl hstk hroom hdg ⟨hR3, hR4⟩
theorem ax_runS {a b n : Nat} {as : List Value} (cx : ax_cx m0 p s m args c R cells slots μ cI cZ D A scr) (hm : ax_mis[a]? = some m') (h0 : 0 < m'.2.2.2.2.2.2.2.1) (hst : m'.2.2.2.2.2.2.2.2.2.2.2 = true) (hfr : m'.2.2.2.2.2.1 + 1 ≤ m0.2.2.2.2.2.1) (hlo : 8 + (m'.2.2.1 + 11) + m'.2.2.2.2.2.2.1 ≤ m0.2.2.2.2.2.2.1)
    (hlen : (parseMethodDescriptor m'.1.desc).map (fun d => d.parameters.length) = some b) (hab : as.length = b) (hli : Cond.methodLink (ax_cnm m0.2.2.2.2.1) n m'.1 ∈ lw_w ∨ Cond.methodLinkNest (ax_cnm m0.2.2.2.2.1) n m'.1 "PlateHire" ∈ lw_w)
    (hsz : ax_cat as ≤ m'.2.2.1) (hE : ax_E l m' 0 (ax_en m'.2.2.1 as) [] σ P) (hP : va_P D vwCl (ax_ws μ cI cZ σ) H) (hS : va_S A s.heap H locs) (hl : ls.size = m0.2.2.1) (hcat : ax_cat r ≤ 8) (hdg : decode m0.2.1 pc = .ok (.invokestatic n, 3)) (st0 : List Value) (hst0 : st0 = as.reverse ++ r) :
    va_Run p l e R s m args below meth c H locs cells slots 0 0 (F0 m pc ls (st0.map (ax_vm μ))) (r.map (ax_vm μ)) (ax_Q μ cI cZ D P ((as.map (ax_vm μ))).toArray) (ax_A μ) := by
  have cx' := cx
  obtain ⟨hx, hb, hml, hown, hts, hK, had, hSt, ⟨hR1, hR2, hR3, hR4⟩, hX⟩ := cx
  obtain ⟨w1, w2, w4, -, w5, w6, w7⟩ := ax_mi_of hm h0
  have w8 := w4 hst
  have hM := ax_met w5 w6 hsz hE cI cZ D had
  have hlen' : ∀ sig, parseMethodDescriptor m'.1.desc = some sig → b = sig.parameters.length := fun sig h => by
    rw [h] at hlen
    exact (Option.some.inj hlen).symm
  have hpay : ∀ w ∈ ax_wd m', ∀ (a' : Array Value) (U : State), s.WarmedH U.vm → w.before a' U = true := fun w hw a' U hW => by
    rcases List.mem_cons.mp hw with rfl | h
    · exact ax_pay hts w1 a' U hW
    · exact ax_pay hts h a' U hW
  have hcode : Cond.code m'.1 m'.2.1 m'.2.2.1 m'.2.2.2.1 ∈ ax_wd m' := List.mem_cons_self
  have hpre : PreS s H (ax_P μ cI cZ D as σ) (as.map (ax_vm μ)) := ⟨ax_blind _ _, fun U hU hW => ax_Pcat cx' hP hS as U hU hW⟩
  have hstk : (F0 m pc ls (st0.map (ax_vm μ))).stack = (as.map (ax_vm μ)).reverse ++ r.map (ax_vm μ) := by
    subst hst0
    simp
  have hroom : 2 * (F0 m pc ls (st0.map (ax_vm μ))).monitorRoom + ((r.map (ax_vm μ)).map fun v => v.category).sum ≤ 8 := lv_room (by rw [ax_cat_sum]; exact hcat)
  rcases hli with hli | hli
  · exact va_runS (nL := m0.2.2.1) (Ts := lw_w) (own := ax_cnm m0.2.2.2.2.1) (bytes := m'.2.1) (maxL := m'.2.2.1) (ret := m'.2.2.2.1) (n := b) ⟨hx, hb, hml, hown, hts⟩ hM ⟨⟨rfl, rfl, Nat.le_trans hfr hR1, Nat.le_trans hlo hR2, hpay, hcode, hts _ w1, hts _ w2, w7, hlen', hts _ hli⟩, hts _ w8⟩ hpre rfl (by rw [List.length_map]; exact hab) hl hstk hroom hdg ⟨hR3, hR4⟩
  · exact va_runSN (nL := m0.2.2.1) (Ts := lw_w) (own := ax_cnm m0.2.2.2.2.1) (bytes := m'.2.1) (maxL := m'.2.2.1) (ret := m'.2.2.2.1) (n := b) ⟨hx, hb, hml, hown, hts⟩ hM ⟨⟨⟨rfl, rfl, Nat.le_trans hfr hR1, Nat.le_trans hlo hR2, hpay, hcode⟩, hts _ w1, hts _ w2, w7, hlen', hts _ hli⟩, hts _ w8, trivial⟩ hpre rfl (by rw [List.length_map]; exact hab) hl hstk hroom hdg ⟨hR3, hR4⟩
end AxRun
theorem ax_w_nat : Cond.native arraycopyName ∈ lw_w := lw_w_in (by decide +kernel) rfl
theorem ax_w_sta : Cond.static arraycopyName ∈ lw_w := lw_w_in (by decide +kernel) rfl
theorem ax_w_ini : Cond.initialized "java/lang/System" ∈ lw_w := lw_w_in (by decide +kernel) rfl
def ax_nst (w : Cond) : Bool := match w with
  | .methodLinkNest _ _ y _ => y.cls != "java/lang/String" && y.cls != "java/lang/System"
  | _ => true
theorem ax_nst_all : lw_tbl.all ax_nst = true := by decide +kernel
theorem ax_nonest (C : String) (n : Nat) (a : Nat) (h : a = 997 ∨ a = 998) : ¬ Cond.methodLinkNest C n (ax_nm a) "PlateHire" ∈ lw_tbl := by
  intro hm
  have := List.all_eq_true.mp ax_nst_all _ hm
  rcases h with rfl | rfl
  · exact absurd this (by simp [ax_nst, ax_nm, yJ0_length_8abf5, RJ0])
  · exact absurd this (by simp [ax_nst, ax_nm, yJ0_charAt_5068e, RJ0])
theorem ax_nonest2 (C : String) (n : Nat) (a : Nat) (h : a = 999) : ¬ Cond.methodLinkNest C n (ax_nm a) "PlateHire" ∈ lw_tbl := by
  intro hm
  have := List.all_eq_true.mp ax_nst_all _ hm
  subst h
  exact absurd this (by simp [ax_nst, ax_nm, arraycopyName])
