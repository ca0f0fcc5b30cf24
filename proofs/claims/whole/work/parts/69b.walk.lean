/-! the walk of the law from its entry -/
set_option maxHeartbeats 40000000 in
set_option maxRecDepth 100000 in
theorem k_end {p : Program} {e : Env} {s : State} {m : MethodId} {below : List Frame} {meth : Method} {c : Code} (l : Launch) {b L : Nat} {xs : Nat → Int32} (hL : L ≤ 3072) (C0 : lw_At p s m meth c b L xs) {D : va_G} {cI cZ : ClassId} (hK : va_K D vwCl [(cI, .int), (cZ, .boolean)] s) {xa ma : Nat → Nat} {f0 f1 f2 : Nat → Int32} (hf0 : ∀ j, j < 24 → f0 j = -1) (hf1 : ∀ j, j < 12 → f1 j = -1) {H : Heap} {locs : List Loc} {ls : Array Slot} (hP : va_P D vwCl (wX xa f0 f1 f2 cI cZ ++ wM ma cI cZ) H) (hD : va_D (fun q : Nat => s.heap.size ≤ q) (wX xa f0 f1 f2 cI cZ ++ wM ma cI cZ)) (hS : va_S (fun q : Nat => s.heap.size ≤ q) s.heap H locs) (hl : lv_has ls 4 [(3, .int 0), (2, .ref (ma 0)), (1, .ref (xa 0)), (0, .ref b)]) : W p l e room_1 s m #[Value.ref b] below meth c H locs 93 16001 (lw_Z below #[Value.ref b] s) (F0 m 18 ls []) := by
  obtain ⟨hx, hb, hr, hml, hown, hts0, hX, hbl, hlocks, hgv⟩ := id C0
  have hts : ∀ w ∈ lw_w, w.before #[Value.ref b] s = true := fun w hw => hts0 w (List.mem_filter.mp hw).1
  obtain ⟨adK, s1, ⟨adV, s2⟩, s3, s4⟩ := k_strs (A := fun q : Nat => s.heap.size ≤ q) hts0 hgv (fun a ha => Nat.not_le.mpr ha)
  obtain ⟨μ, hμ⟩ : ∃ μ, μ = mu xa ma adK b := ⟨_, rfl⟩
  have hPμ : va_P D vwCl (ax_ws μ cI cZ (sg0 f0 f1 f2)) H := by rw [hμ]; exact va_P.by hP _ wa_all
  have had : ax_ad μ (fun q : Nat => s.heap.size ≤ q) := by rw [hμ]; exact mu_ad hD
  have m2000 : μ 2000 = b := by rw [hμ]; rfl
  have m0 : μ 0 = xa 0 := by rw [hμ]; rfl
  have m13 : μ 13 = ma 0 := by rw [hμ]; rfl
  have hstr : ax_str μ (fun q : Nat => s.heap.size ≤ q) s := by
    refine ⟨fun i hi => ?_, ⟨adV, vk_S_congr (fun i hi => ?_) s2⟩, s3, s4⟩
    · rw [hμ, mu_str hi]; exact s1 i hi
    · show μ (1000 + i) = adK i
      rw [hμ, mu_str hi]
  have cx : ax_cx mi_L_law p s m #[Value.ref b] c room_1 93 16001 μ cI cZ D (fun q : Nat => s.heap.size ≤ q) (some (L, xs)) := by
    refine ⟨hx, hb, hml, hown, hts, hK, had, hstr, ⟨Nat.le_of_ble_eq_true rfl, Nat.le_of_ble_eq_true rfl, Nat.le_of_ble_eq_true rfl, Nat.le_of_ble_eq_true rfl⟩, fun n xs' hn => ?_⟩
    cases hn
    rw [m2000]
    exact ⟨hX, hbl, Nat.not_le.mpr hbl⟩
  have hbk : ∀ N pc L' st σ, ax_bk tb_L_law ct_L_law (fun pc L' st σ => ax_W p l e room_1 s m #[Value.ref b] below meth c 93 16001 (lw_Z below #[Value.ref b] s) μ cI cZ D (fun q : Nat => s.heap.size ≤ q) 4 pc L' st σ) (fun a L σ Q => Ev l a 0 L [] σ Q) (fun o _ => o = some (.int 1)) (some (L, xs)) N pc L' st σ → ax_W p l e room_1 s m #[Value.ref b] below meth c 93 16001 (lw_Z below #[Value.ref b] s) μ cI cZ D (fun q : Nat => s.heap.size ≤ q) 4 pc L' st σ := by
    intro N pc L' st σ h
    refine ax_bk_ok (m0 := mi_L_law) cx ck_L_law (fun a L σ Q h => h) (fun pc L st σ h => h) ?_ ?_ ?_ h
    · intro pc v L σ hd _ hPv H locs ls hl hP hS
      have hv : v = 1 := by cases hPv; rfl
      subst hv
      exact va_forget hS.2.2 (lw_ret hx hb hr hlocks hd)
    · intro pc x L σ hd hrt
      exact absurd hrt (by decide)
    · intro pc L σ hd hrt
      exact absurd hrt (by decide)
  have K := k_loop (l := l) (n := L) (xs := xs) (P := fun o _ => o = some (.int 1)) hL hbk (fun _ => rfl) (L + 6) 0 (sg0 f0 f1 f2) (by omega) (inv0 hf0 hf1) (by omega)
  refine K H locs ls ⟨hl.1, Nat.le_refl _, hl.2.1, fun i v hv => ?_⟩ hPμ hS
  match i, hv with
  | 0, hv =>
    cases hv
    show ls[0]? = some (.val (.ref (μ 2000)))
    rw [m2000]; exact lv_at hl 3 rfl
  | 1, hv =>
    cases hv
    show ls[1]? = some (.val (.ref (μ 0)))
    rw [m0]; exact lv_at hl 2 rfl
  | 2, hv =>
    cases hv
    show ls[2]? = some (.val (.ref (μ 13)))
    rw [m13]; exact lv_at hl 1 rfl
  | 3, hv =>
    cases hv
    exact lv_at hl 0 rfl
  | i + 4, hv => cases hv
set_option maxHeartbeats 40000000 in
set_option maxRecDepth 100000 in
theorem whole_start {p : Program} {e : Env} {s : State} {m : MethodId} {below : List Frame} {meth : Method} {c : Code} (l : Launch) {b L : Nat} {xs : Nat → Int32} (hL : L ≤ 3072) (C0 : lw_At p s m meth c b L xs) : W p l e room_1 s m #[Value.ref b] below meth c s.heap [] 0 0 (lw_Z below #[Value.ref b] s) (entryFrame m ([Value.ref b] : List Value).toArray 4) := by
  obtain ⟨hx, hb, hr, hml, hown, hts0, hX, hbl, hlocks, hgv⟩ := id C0
  have hts : ∀ w ∈ lw_w, w.before #[Value.ref b] s = true := fun w hw => hts0 w (List.mem_filter.mp hw).1
  have hA : ∀ q : Nat, s.heap.size ≤ q → (fun q : Nat => s.heap.size ≤ q) q := fun _ h => h
  obtain ⟨c0, i0, k0⟩ := u_known (C := RX0) (T := TX0) (N := 1) (n := 1) hts uin_X0 (hts _ wq_0)
  obtain ⟨c1, i1, k1⟩ := u_known (C := RX1) (T := TX1) (N := 18) (n := 18) hts uin_X1 (hts _ wq_1)
  obtain ⟨c2, i2, k2⟩ := u_known (C := RX2) (T := TX2) (N := 6) (n := 6) hts uin_X2 (hts _ wq_2)
  obtain ⟨c3, i3, k3⟩ := u_known (C := RX3) (T := TX3) (N := 2) (n := 2) hts uin_X3 (hts _ wq_3)
  obtain ⟨c4, i4, k4⟩ := u_known (C := RX4) (T := TX4) (N := 5) (n := 5) hts uin_X4 (hts _ wq_4)
  obtain ⟨c5, i5, k5⟩ := u_known (C := RX5) (T := TX5) (N := 4) (n := 4) hts uin_X5 (hts _ wq_5)
  obtain ⟨c6, i6, k6⟩ := u_known (C := RX6) (T := TX6) (N := 5) (n := 5) hts uin_X6 (hts _ wq_6)
  obtain ⟨c7, i7, k7⟩ := u_known (C := RX7) (T := TX7) (N := 2) (n := 2) hts uin_X7 (hts _ wq_7)
  obtain ⟨c8, i8, k8⟩ := u_known (C := RX8) (T := TX8) (N := 10) (n := 10) hts uin_X8 (hts _ wq_8)
  obtain ⟨c9, i9, k9⟩ := u_known (C := RX9) (T := TX9) (N := 4) (n := 4) hts uin_X9 (hts _ wq_9)
  obtain ⟨c10, i10, k10⟩ := u_known (C := RX10) (T := TX10) (N := 11) (n := 11) hts uin_X10 (hts _ wq_10)
  obtain ⟨c11, i11, k11⟩ := u_known (C := RX11) (T := TX11) (N := 52) (n := 52) hts uin_X11 (hts _ wq_11)
  obtain ⟨D, hKc⟩ : ∃ D : va_G, ∀ (k : Nat) (q : vw_C), vwCl[k]? = some q → u_Kn s q.1 q.2.1 q.2.2 (D.1 k) (D.2 k) := by
    refine ⟨(fun k => [c0, c1, c2, c3, c4, c5, c6, c7, c8, c9, c10, c11].getD k c0, fun k => [i0, i1, i2, i3, i4, i5, i6, i7, i8, i9, i10, i11].getD k i0), ?_⟩
    intro k q hq
    match k, hq with
    | 0, hq => cases hq; exact k0
    | 1, hq => cases hq; exact k1
    | 2, hq => cases hq; exact k2
    | 3, hq => cases hq; exact k3
    | 4, hq => cases hq; exact k4
    | 5, hq => cases hq; exact k5
    | 6, hq => cases hq; exact k6
    | 7, hq => cases hq; exact k7
    | 8, hq => cases hq; exact k8
    | 9, hq => cases hq; exact k9
    | 10, hq => cases hq; exact k10
    | 11, hq => cases hq; exact k11
    | k + 12, hq => cases hq
  obtain ⟨cI, kI, pI, hI1, hI2, hI3⟩ := Cond.arrayClass_spec (hts _ w_arI)
  obtain ⟨cZ, kZ, pZ, hZ1, hZ2, hZ3⟩ := Cond.arrayClass_spec (hts _ w_arZ)
  have hK : va_K D vwCl [(cI, .int), (cZ, .boolean)] s := by
    refine ⟨hKc, fun k q hq => ?_⟩
    match k, hq with
    | 0, hq => cases hq; exact ⟨fun n z => ⟨fun k h => (by cases h), kI, hI2, pI, hI3⟩, hI1⟩
    | 1, hq => cases hq; exact ⟨fun n z => ⟨fun k h => (by cases h), kZ, hZ2, pZ, hZ3⟩, hZ1⟩
    | k + 2, hq => cases hq
  have hS : va_S (fun q : Nat => s.heap.size ≤ q) s.heap s.heap [] := va_S.rf
  have hP : va_P D vwCl [] s.heap := fun k q h => by simp at h
  have hD : va_D (fun q : Nat => s.heap.size ≤ q) [] := ⟨fun i j p q h => by simp at h, fun k q h => by simp at h⟩
  have hl := lv_entry ([.ref b]) (n := 4) (Nat.le_of_ble_eq_true rfl)
  rw [lg_entry_eq]
  generalize (lg_sl ([.ref b]) ++ List.replicate (4 - (lg_sl ([.ref b])).length) Slot.unset).toArray = ls at hl ⊢
  have hl : lv_has ls 4 [(0, .ref b)] := hl
  refine va_new (ci := 10) (fs := [.null, .null, .null, .null, .null, .null, .null, .null, .null, .null, .null]) (C := RX10) (T := TX10) (N := 11) hx hb hts uin_X10 tyX10 tyX10_ok hown (hts _ wlc_10) (hts _ wq_10) (hts _ wln_10) hK hP hD hS hA rfl (fun j hj => by rcases (show j = 0 ∨ j = 1 ∨ j = 2 ∨ j = 3 ∨ j = 4 ∨ j = 5 ∨ j = 6 ∨ j = 7 ∨ j = 8 ∨ j = 9 ∨ j = 10 by omega) with rfl | rfl | rfl | rfl | rfl | rfl | rfl | rfl | rfl | rfl | rfl <;> rfl) (by decide) (by decide) d_law_0 (fun x0 H hP hD hS => ?_)
  refine lv_dup hx hb d_law_3 rfl ?_
  have hF := kt_free (ws := []) hD hS hA
  refine va_callv (va_runI (As := []) (rest := [.ref x0]) (n := 0) ⟨hx, hb, hml, hown, hts⟩ (c_X10i l D cI cZ x0 H.size) ⟨⟨rfl, rfl, by decide, by decide, sx_pay hts wlk_10, List.mem_cons_self, hts _ wlk_10, hts _ wln_10, ⟨by decide, by decide⟩, fun sig h => by cases h; rfl, hts _ wlm_10⟩, rfl, hts _ wlj_10⟩ ⟨k_blind _, fun U hU hW => ⟨rfl, by rw [hU], by rw [hU]; exact kt_last (ws := []) hP, va_K.moved hW.alike hK, kt_one⟩⟩ rfl rfl hl.1 rfl (lv_room (Nat.le_of_ble_eq_true rfl)) d_law_4 ⟨by decide, by decide⟩) hS (fun x _ h => hF x h) hF (fun u t H1 locs ht hvm hpost hB hz1 hk1 hS => ?_)
  obtain ⟨xa, f0, f1, f2, rfl, hf0, hf1, rfl⟩ := wX_of hpost
  obtain ⟨hP1, hD1⟩ := hB
  rw [ht] at hP1
  obtain ⟨hP, hD⟩ := kt_join (ws := []) hP hD hk1 hF hP1 hD1
  clear hP1 hD1 hk1 hF hpost
  refine lv_astore_n (lv' := [(1, .ref (xa 0)), (0, .ref b)]) hx hb d_law_7 rfl hl (by decide) rfl (fun ls hl => ?_)
  refine va_new (ci := 11) (fs := [.null, .null, .null, .null, .null, .null, .null, .int 0, .int 0, .null, .null, .int 0, .int 0, .int 0, .int 0, .int 0, .null, .null, .null, .null, .null, .null, .null, .null, .null, .int 0, .int 0, .null, .null, .null, .null, .null, .null, .null, .int 0, .int 0, .int 0, .null, .null, .null, .null, .null, .int 0, .null, .null, .null, .null, .int 0, .int 0, .int 0, .null, .int 0]) (C := RX11) (T := TX11) (N := 52) hx hb hts uin_X11 tyX11 tyX11_ok hown (hts _ wlc_11) (hts _ wq_11) (hts _ wln_11) hK hP hD hS hA rfl (fun j hj => by rcases (show j = 0 ∨ j = 1 ∨ j = 2 ∨ j = 3 ∨ j = 4 ∨ j = 5 ∨ j = 6 ∨ j = 7 ∨ j = 8 ∨ j = 9 ∨ j = 10 ∨ j = 11 ∨ j = 12 ∨ j = 13 ∨ j = 14 ∨ j = 15 ∨ j = 16 ∨ j = 17 ∨ j = 18 ∨ j = 19 ∨ j = 20 ∨ j = 21 ∨ j = 22 ∨ j = 23 ∨ j = 24 ∨ j = 25 ∨ j = 26 ∨ j = 27 ∨ j = 28 ∨ j = 29 ∨ j = 30 ∨ j = 31 ∨ j = 32 ∨ j = 33 ∨ j = 34 ∨ j = 35 ∨ j = 36 ∨ j = 37 ∨ j = 38 ∨ j = 39 ∨ j = 40 ∨ j = 41 ∨ j = 42 ∨ j = 43 ∨ j = 44 ∨ j = 45 ∨ j = 46 ∨ j = 47 ∨ j = 48 ∨ j = 49 ∨ j = 50 ∨ j = 51 by omega) with rfl | rfl | rfl | rfl | rfl | rfl | rfl | rfl | rfl | rfl | rfl | rfl | rfl | rfl | rfl | rfl | rfl | rfl | rfl | rfl | rfl | rfl | rfl | rfl | rfl | rfl | rfl | rfl | rfl | rfl | rfl | rfl | rfl | rfl | rfl | rfl | rfl | rfl | rfl | rfl | rfl | rfl | rfl | rfl | rfl | rfl | rfl | rfl | rfl | rfl | rfl | rfl <;> rfl) (by decide) (by decide) d_law_8 (fun y0 H hP hD hS => ?_)
  refine lv_dup hx hb d_law_11 rfl ?_
  have hF := kt_free (ws := [] ++ wX xa f0 f1 f2 cI cZ) hD hS hA
  refine va_callv (va_runI (As := []) (rest := [.ref y0]) (n := 0) ⟨hx, hb, hml, hown, hts⟩ (c_X11i l D cI cZ y0 H.size) ⟨⟨rfl, rfl, by decide, by decide, sx_pay hts wlk_11, List.mem_cons_self, hts _ wlk_11, hts _ wln_11, ⟨by decide, by decide⟩, fun sig h => by cases h; rfl, hts _ wlm_11⟩, rfl, hts _ wlj_11⟩ ⟨k_blind _, fun U hU hW => ⟨rfl, by rw [hU], by rw [hU]; exact kt_last (ws := [] ++ wX xa f0 f1 f2 cI cZ) hP, va_K.moved hW.alike hK, kt_one⟩⟩ rfl rfl hl.1 rfl (lv_room (Nat.le_of_ble_eq_true rfl)) d_law_12 ⟨by decide, by decide⟩) hS (fun x _ h => hF x h) hF (fun u t H2 locs ht hvm2 hpost hB hz2 hk2 hS => ?_)
  obtain ⟨ma, rfl, rfl⟩ := wM_of hpost
  obtain ⟨hP1, hD1⟩ := hB
  rw [ht] at hP1
  obtain ⟨hP, hD⟩ := kt_join (ws := [] ++ wX xa f0 f1 f2 cI cZ) hP hD hk2 hF hP1 hD1
  clear hP1 hD1 hk2 hF hpost
  rw [List.nil_append] at hP hD
  refine lv_astore_n (lv' := [(2, .ref (ma 0)), (1, .ref (xa 0)), (0, .ref b)]) hx hb d_law_15 rfl hl (by decide) rfl (fun ls hl => ?_)
  refine lv_iconst (v := 0) hx hb d_law_16 (by decide) ?_
  refine lv_istore_n (lv' := [(3, .int 0), (2, .ref (ma 0)), (1, .ref (xa 0)), (0, .ref b)]) hx hb d_law_17 rfl hl (by decide) rfl (fun ls hl => ?_)
  refine W.widen (k := 93) (n := 16001) (by decide) (by decide) ?_
  exact k_end l hL C0 hK hf0 hf1 hP hD hS hl
