/-! tried, the pair -/
section TriedP
variable {l : Launch} {σ : ax_Sg}
theorem nI_subn {n q : Nat} (hq : q ≤ n) (hn : n < 2 ^ 30) : nI n - nI q = nI (n - q) := by
  apply Int32.toInt_inj.mp
  rw [pk_sub_toInt (a := n) (b := q) hn (by omega), nI_toInt (by omega)]
  omega
theorem pr_tried (hI : Inv σ) (x1 x2 x3 : Int32) : Pr l 84 [some (.ref 0), some (.int x1), some (.int x2), some (.int x3), none] 144 [some (.ref 13), some (.int x1), some (.int x2), some (.int x3), none, none, none, none, none, none, none] σ := by
  have hI0 := hI
  obtain ⟨n, d, t, c, h, r, q, f, y, hpl, hdr, hsh, htp, hmt, has, hct, hrd, hln, hfl, hli⟩ := hI
  have hn := hpl.1
  have hs1 := hpl.2.1
  have hs2 := hpl.2.2.1
  have hb1 : (σ 1 4).toInt = (n : Int) := by rw [hs1, nI_toInt (by omega)]
  have hb2 : (Int32.toInt64 (σ 13 7)).toInt = (n : Int) := by rw [Int32.toInt_toInt64, hs2, nI_toInt (by omega)]
  by_cases hw : 0 ≤ x3.toInt ∧ x3.toInt ≤ 3
  · by_cases hl : 0 ≤ x1.toInt ∧ x1.toInt ≤ (n : Int)
    · by_cases hN : 1 ≤ x2.toInt ∧ x2.toInt ≤ 40
      · obtain ⟨N, hN4, rfl⟩ := nat_of (x := x2) (b := 40) (by omega) hN.2
        obtain ⟨a', ha', rfl⟩ := nat_of (x := x1) (b := n) hl.1 hl.2
        have hsub : nI n - nI a' = nI (n - a') := nI_subn ha' (by omega)
        have han : n - a' ≤ n := Nat.sub_le _ _
        revert hsub han
        generalize n - a' = a
        intro hsub han
        have hct0 := hct
        obtain ⟨g1, g2, g3, g4, g5, g6, g7, g8, g9, g10, g11, g12, g13⟩ := hct
        have he0 := ev0_of hpl hdr.1 hsh hmt has
        have hz0 := wz_of hct0 hrd
        refine b_X10_tried_0 _ _ _ (wt hw (br1 (wt hl (br1 (wt hN (br1 ?_))) (by decide) hb1)))
        refine c_trial hn han hs1 hsub (fun σa T => ?_)
        obtain ⟨T0, T1, T2, T3, T4, T5, T6, T7, T8⟩ := T
        have ta : ∀ j, ¬ (39 ≤ j ∧ j ≤ 46) ∧ j ≠ 8 → σa j = σ j := fun j hj => T0 j hj.1 hj.2
        have he : Ev0 n c σa := by
          unfold Ev0
          rw [ta 1 (by decide), ta 4 (by decide), ta 19 (by decide), ta 29 (by decide)]
          exact he0
        have hwc : ∀ p, p < n → (if a ≤ p ∧ p < n then (-1 : Int32) else σ 31 p) = -1 ∨ ∃ w, w < 5 ∧ (if a ≤ p ∧ p < n then (-1 : Int32) else σ 31 p) = nI w := by
          intro p hp
          by_cases z : a ≤ p ∧ p < n
          · rw [if_pos z]; exact Or.inl rfl
          · rw [if_neg z]; exact hz0.1.1 p hp
        have hz1 : Wz n (cof8 σa) := by
          refine ⟨⟨fun p hp => ?_, fun i hi => ?_, fun w hw5 => ?_, r, hrd.1, ?_⟩, fun w hw5 => ?_⟩
          · show σa 39 p = -1 ∨ ∃ w, w < 5 ∧ σa 39 p = nI w
            rw [T1 p (by omega)]; exact hwc p hp
          · show rg 0 20 (σa 44 i)
            rw [T2 i hi]; exact (g11 i hi).2
          · show ∃ t, t < 5 ∧ σa 45 w = nI t
            rw [T3 w hw5]; exact hz0.1.2.2.1 w hw5
          · show σa 6 1 = nI r
            rw [ta 6 (by decide)]; exact hrd.2.1
          · show σa 44 (w * 3) = 0
            rw [T2 _ (by omega)]; exact hz0.2 w hw5
        refine c_hours8' he hz1 (by rw [T4]; exact g2) (by omega) ?_
        have hc2 : ∃ c2 : Ct, c2 = (cof σ).set 0 (fun p => if a ≤ p ∧ p < n then -1 else σ 31 p) := ⟨_, rfl⟩
        obtain ⟨c2, hc2⟩ := hc2
        have hz2 : Wz n c2 := by
          rw [hc2]
          exact ⟨⟨hwc, hz0.1.2.1, hz0.1.2.2.1, hz0.1.2.2.2⟩, hz0.2⟩
        have hS : Sim n 0 (σ 7 14) (σ 7 15) (σ 7 16) (tkS (σ 33) n) (cof8 σa) c2 := by
          rw [hc2]
          refine ⟨fun p hp => T1 p (by omega), T2, T3, ⟨?_, ?_, ?_, ?_⟩, fun p hp => absurd hp (by omega)⟩
          · show σ 7 14 = σa 8 14 + σ 7 14
            rw [T5, Int32.zero_add]
          · show σ 7 15 = σa 8 15 + σ 7 15
            rw [T6, Int32.zero_add]
          · show σ 7 16 = σa 8 16 + σ 7 16
            rw [T7, Int32.zero_add]
          · show tkS (σ 33) n = σa 8 17 + tkS (σ 33) n
            rw [T8, Int32.zero_add]
        have hSN := sim_hrN (cc := c) (h := h) (kp := false) he hz1 hS N
        have hrow : (hrN σa n c false h c2 N).row = σ 30 ∧ (hrN σa n c false h c2 N).rn = σ 6 1 := by
          have := row_hrN (e := σa) (n := n) (cc := c) (h := h) (c := c2) N
          rw [this.1, this.2, hc2]
          exact ⟨rfl, rfl⟩
        have hhh : ∀ k, (hrN σa n c false h c2 k).hh = nI (h + k) := hh_hrN (c := c2) (by rw [hc2]; exact g2)
        have t1 : ∀ j, ¬ (39 ≤ j ∧ j ≤ 46) ∧ j ≠ 8 → w8 σa (hrN σa n c false h (cof8 σa) N) j = σ j := fun j hj => (w8_n _ _ hj.1 hj.2).trans (ta j hj)
        have v1 : w8 σa (hrN σa n c false h (cof8 σa) N) 8 14 = (hrN σa n c false h (cof8 σa) N).rc := rfl
        have v2 : w8 σa (hrN σa n c false h (cof8 σa) N) 8 15 = (hrN σa n c false h (cof8 σa) N).lc := rfl
        have v3 : w8 σa (hrN σa n c false h (cof8 σa) N) 8 16 = (hrN σa n c false h (cof8 σa) N).ic := rfl
        have v4 : w8 σa (hrN σa n c false h (cof8 σa) N) 8 17 = (hrN σa n c false h (cof8 σa) N).ta := rfl
        revert v1 v2 v3 v4 t1 hSN
        generalize hrN σa n c false h (cof8 σa) N = c1e
        generalize w8 σa c1e = σ1
        intro hSN t1 v1 v2 v3 v4
        have kR : ∀ v, (x3 = 0 → v = c1e.rc) → (x3 = 1 → v = c1e.lc) → (x3 = 2 → v = c1e.ic) → (¬ x3 = 0 → ¬ x3 = 1 → ¬ x3 = 2 → v = c1e.ta) → Ev l 144 0 [some (.ref 13), some (.int (nI a')), some (.int (nI N)), some (.int x3), none, none, none, none, none, none, none] [] σ1 (fun o2 σ2 => ax_oi o2 fun w => v = w ∧ Inv σ2) := by
          intro v u1 u2 u3 u4
          have k13 : σ1 13 = σ 13 := t1 13 (by decide)
          have k65 : σ1 65 = σ 65 := t1 65 (by decide)
          have hb3 : (Int32.toInt64 (σ1 13 7)).toInt = (n : Int) := by rw [k13]; exact hb2
          refine b_X11_tried_0 _ _ _ (ni_t hw (br1 (ni_t hl (br1 (ni_t hN (br1 ?_))) (by decide) hb3)))
          refine m_trial hn han (by rw [k13]; exact hs2) hsub (fun σb B => ?_)
          obtain ⟨B0, B1, B2⟩ := B
          have tb : ∀ j, (¬ (39 ≤ j ∧ j ≤ 46) ∧ j ≠ 8) ∧ (j ≠ 65 ∧ j ≠ 66) → σb j = σ j := fun j hj => (B0 j hj.2.1 hj.2.2).trans (t1 j hj.1)
          rw [k65] at B1 B2
          have kb13 : σb 13 = σ 13 := tb 13 (by decide)
          rw [k13, k65]
          have hev : EvM n c σa σb := by
            have := evM_of (g := σb) hpl hsh hmt has (by rw [kb13]) (tb 58 (by decide)) (tb 63 (by decide)) (tb 64 (by decide)) (tb 72 (by decide)) (tb 26 (by decide)) (tb 27 (by decide)) (tb 28 (by decide)) (hmt.fr (congrFun (tb 4 (by decide)) 3) (by rw [kb13]) (tb 26 (by decide)) (tb 27 (by decide)) (tb 28 (by decide)) (tb 77 (by decide)) (tb 78 (by decide)) (tb 79 (by decide)))
            unfold EvM at this ⊢
            rw [ta 14 (by decide), ta 19 (by decide), ta 29 (by decide), ta 26 (by decide), ta 27 (by decide), ta 28 (by decide)]
            exact this
          have R0 : Rm σb n (12 * h) 0 c2 σb := by
            rw [hc2]
            refine ⟨⟨fun j _ _ _ _ => rfl, fun i _ => rfl⟩, ⟨?_, ?_, ?_, ?_⟩, fun i hi => ?_, fun i hi => ?_, fun i hi => ?_, fun i hi => ?_, fun i hi => ?_, fun i hi => ?_, fun w hw5 => ?_, ⟨r, hrd.1, hrd.2.1, ?_, fun k hk => ?_⟩, fun p hp => absurd hp (by omega)⟩
            · rw [kb13]; exact g3.trans g2.symm
            · rw [kb13]; exact g4.symm
            · rw [kb13]; exact g5.symm
            · rw [kb13]; exact g6.symm
            · rw [Nat.zero_add, B2 i (by omega), if_neg (by omega)]; exact (g9 i hi).1.symm
            · rw [B2 _ (by omega), if_neg (by omega)]; exact (g9 i hi).2.1.symm
            · show σb 65 (24 + i) = if a ≤ i ∧ i < n then -1 else σ 31 i
              rw [B2 _ (by omega)]
              by_cases z : a ≤ i ∧ i < n
              · rw [if_pos z, if_pos (by omega)]
              · rw [if_neg z, if_neg (by omega)]; exact (g7 i hi).1.symm
            · rw [B2 _ (by omega), if_neg (by omega)]; exact (g10 i hi).1.symm
            · rw [B2 _ (by omega), if_neg (by omega)]; exact (g10 i hi).2.symm
            · rw [B2 _ (by omega), if_neg (by omega)]; exact (g11 i hi).1.symm
            · rw [B2 _ (by omega), if_neg (by omega)]; exact g13 w hw5
            · rw [kb13]; exact hrd.2.2.1
            · rw [tb 67 (by decide), tb 68 (by decide), tb 69 (by decide), tb 70 (by decide), tb 71 (by decide)]
              exact hrd.2.2.2 k hk
          have hts : tkS (fun p => σ 65 (12 + p)) n = tkS (σ 33) n := tkS_congr n (fun i hi => (g9 i (by omega)).2.1.symm)
          rw [hts]
          have fin1 : ∀ σe, Rm σb n (12 * (h + N)) 0 (hrN σa n c false h c2 N) σe → ∀ x9 : Int32, v = x9 → Ev l 144 213 [some (.ref 13), none, none, none, some (.int (σ 13 11)), some (.int (σ 13 12)), some (.int (σ 13 13)), some (.int (σ 13 14)), none, some (.int x9), some (.int 0)] [] σe (fun o2 σ2 => ax_oi o2 fun w => v = w ∧ Inv σ2) := by
            intro σe R x9 hx9
            refine m_back (fun σ' M1 M2 => fin hx9 ?_)
            have te : ∀ j, ((¬ (39 ≤ j ∧ j ≤ 46) ∧ j ≠ 8) ∧ (j ≠ 65 ∧ j ≠ 66)) ∧ (j ≠ 83 ∧ j ≠ 13 ∧ ¬ (67 ≤ j ∧ j ≤ 71)) → σ' j = σ j := fun j hj => (M1 j hj.1.2.1).trans ((R.1.1 j hj.1.2.1 hj.2.1 hj.2.2.1 hj.2.2.2).trans (tb j hj.1))
            have t13 : ∀ i, ¬ (11 ≤ i ∧ i ≤ 15) → σ' 13 i = σ 13 i := fun i hi => by
              rw [M1 13 (by decide), R.1.2 i hi, kb13]
            have t65 : ∀ i, i < 88 → σ' 65 i = σ 65 i := fun i hi => by
              rw [M2 i hi, R.1.1 66 (by decide) (by decide) (by decide) (by decide)]; exact B1 i hi
            have t15 : σ' 13 15 = σe 13 15 := by rw [M1 13 (by decide)]
            have t67 : ∀ j, 67 ≤ j ∧ j ≤ 71 → σ' j = σe j := fun j hj => M1 j (by omega)
            obtain ⟨_, _, _, _, _, _, _, _, _, ⟨r', e1, e2, e3, e4'⟩, _⟩ := R
            rw [hrow.1] at e4'
            rw [hrow.2] at e2
            have z13 : ∀ i, ¬ (11 ≤ i ∧ i ≤ 14) → ax_us (ax_us (ax_us (ax_us σ' 13 11 (σ 13 11)) 13 12 (σ 13 12)) 13 13 (σ 13 13)) 13 14 (σ 13 14) 13 i = σ' 13 i := by
              intro i hi
              rw [us_s, upd_n _ _ (by omega), us_s, upd_n _ _ (by omega), us_s, upd_n _ _ (by omega), us_s, upd_n _ _ (by omega)]
            refine ⟨n, d, t, c, h, r', q, f, y, hpl.fr (congrFun (te 1 (by decide)) 4) ((z13 7 (by decide)).trans (t13 7 (by decide))) (te 14 (by decide)) (te 15 (by decide)) (te 16 (by decide)) (te 17 (by decide)) (te 58 (by decide)) (te 59 (by decide)) (te 60 (by decide)) (te 61 (by decide)), hdr.fr (congrFun (te 2 (by decide)) 2) ((z13 8 (by decide)).trans (t13 8 (by decide))) (te 18 (by decide)) (te 62 (by decide)), hsh.fr (te 19 (by decide)) (te 63 (by decide)) (te 64 (by decide)), htp.fr (congrFun (te 3 (by decide)) 2) ((z13 34 (by decide)).trans (t13 34 (by decide))) (te 25 (by decide)) (te 76 (by decide)), hmt.fr (congrFun (te 4 (by decide)) 3) ((z13 35 (by decide)).trans (t13 35 (by decide))) (te 26 (by decide)) (te 27 (by decide)) (te 28 (by decide)) (te 77 (by decide)) (te 78 (by decide)) (te 79 (by decide)), has.fr (te 29 (by decide)) (te 72 (by decide)), ?_, ?_, hln.fr (congrFun (te 9 (by decide)) 4) ((z13 42 (by decide)).trans (t13 42 (by decide))) (te 47 (by decide)) (te 48 (by decide)) (te 49 (by decide)) (te 84 (by decide)) (te 85 (by decide)) (te 86 (by decide)), hfl.fr (congrFun (te 10 (by decide)) 2) ((z13 47 (by decide)).trans (t13 47 (by decide))) (te 51 (by decide)) (te 88 (by decide)), hli.fr (congrFun (te 11 (by decide)) 1) ((z13 51 (by decide)).trans (t13 51 (by decide))) (te 54 (by decide)) (te 92 (by decide))⟩
            · have k7 : σ' 7 = σ 7 := te 7 (by decide)
              have k31 : σ' 31 = σ 31 := te 31 (by decide)
              have k32 : σ' 32 = σ 32 := te 32 (by decide)
              have k33 : σ' 33 = σ 33 := te 33 (by decide)
              have k34 : σ' 34 = σ 34 := te 34 (by decide)
              have k35 : σ' 35 = σ 35 := te 35 (by decide)
              have k36 : σ' 36 = σ 36 := te 36 (by decide)
              have k37 : σ' 37 = σ 37 := te 37 (by decide)
              show iv_ct n h (ax_us (ax_us (ax_us (ax_us σ' 13 11 (σ 13 11)) 13 12 (σ 13 12)) 13 13 (σ 13 13)) 13 14 (σ 13 14))
              have i1 : ∀ τ : ax_Sg, τ = ax_us (ax_us (ax_us (ax_us σ' 13 11 (σ 13 11)) 13 12 (σ 13 12)) 13 13 (σ 13 13)) 13 14 (σ 13 14) → τ 13 14 = σ 13 14 ∧ τ 13 11 = σ 13 11 ∧ τ 13 12 = σ 13 12 ∧ τ 13 13 = σ 13 13 ∧ τ 7 = σ 7 ∧ τ 31 = σ 31 ∧ τ 32 = σ 32 ∧ τ 33 = σ 33 ∧ τ 34 = σ 34 ∧ τ 35 = σ 35 ∧ τ 36 = σ 36 ∧ τ 37 = σ 37 ∧ τ 65 = σ' 65 := by
                intro τ e
                subst e
                exact ⟨rfl, rfl, rfl, rfl, k7, k31, k32, k33, k34, k35, k36, k37, rfl⟩
              obtain ⟨j1, j2, j3, j4, j5, j6, j7, j8, j9, j10, j11, j12, j13⟩ := i1 _ rfl
              revert j1 j2 j3 j4 j5 j6 j7 j8 j9 j10 j11 j12 j13
              generalize ax_us (ax_us (ax_us (ax_us σ' 13 11 (σ 13 11)) 13 12 (σ 13 12)) 13 13 (σ 13 13)) 13 14 (σ 13 14) = τ
              intro j1 j2 j3 j4 j5 j6 j7 j8 j9 j10 j11 j12 j13
              unfold iv_ct
              rw [j1, j2, j3, j4, j5, j6, j7, j8, j9, j10, j11, j12, j13]
              refine ⟨g1, g2, g3, g4, g5, g6, fun p hp => ?_, g8, fun p hp => ?_, fun k hk => ?_, fun i hi => ?_, g12, fun w hw5 => ?_⟩
              · rw [t65 _ (by omega)]; exact g7 p hp
              · rw [t65 _ (by omega), t65 _ (by omega)]; exact g9 p hp
              · rw [t65 _ (by omega), t65 _ (by omega)]; exact g10 k hk
              · rw [t65 _ (by omega)]; exact g11 i hi
              · rw [t65 _ (by omega)]; exact g13 w hw5
            · refine ⟨e1, ?_, (z13 15 (by decide)).trans (t15.trans e3), fun k hk => ?_⟩
              · show σ' 6 1 = nI r'
                rw [te 6 (by decide)]; exact e2
              · show σ' 30 (k * 5) = σ' 67 k ∧ σ' 30 (k * 5 + 1) = σ' 68 k ∧ σ' 30 (k * 5 + 2) = σ' 69 k ∧ σ' 30 (k * 5 + 3) = σ' 70 k ∧ σ' 30 (k * 5 + 4) = σ' 71 k
                rw [te 30 (by decide), t67 67 (by decide), t67 68 (by decide), t67 69 (by decide), t67 70 (by decide), t67 71 (by decide)]
                exact e4' k hk
          have loop : ∀ m k σ', N - k = m → k ≤ N → Rm σb n (12 * (h + k)) 0 (hrN σa n c false h c2 k) σ' → Ev l 144 140 [some (.ref 13), none, some (.int (nI N)), some (.int x3), some (.int (σ 13 11)), some (.int (σ 13 12)), some (.int (σ 13 13)), some (.int (σ 13 14)), some (.int (tkS (σ 33) n)), some (.int (nI k)), none] [] σ' (fun o2 σ2 => ax_oi o2 fun w => v = w ∧ Inv σ2) := by
            intro m
            induction m with
            | zero =>
              intro k σ' hk hkN R
              have : k = N := by omega
              subst this
              have R' := R
              obtain ⟨f0, ⟨a0, a1, a2, a3⟩, b1, b2, _⟩ := R'
              obtain ⟨_, _, _, ⟨d1, d2, d3, d4⟩, _⟩ := hSN
              refine b_X11_tried_140 _ _ _ _ _ _ _ _ (br_f' (nI_nlt (Nat.le_refl _) (by omega)) (br_i (fun z0 => ?_) (fun z0 => br_i (fun z1 => ?_) (fun z1 => br_i (fun z2 => ?_) (fun z2 => ?_)))))
              · refine fin1 σ' R _ ?_
                rw [u1 z0, a1, d1, g4, Int32.add_sub_cancel]
              · refine fin1 σ' R _ ?_
                rw [u2 z1, a2, d2, g5, Int32.add_sub_cancel]
              · refine fin1 σ' R _ ?_
                rw [u3 z2, a3, d3, g6, Int32.add_sub_cancel]
              · refine m_took hn ?_ (fin1 σ' R _ ?_)
                · rw [f0.2 7 (by decide), kb13]; exact hs2
                · rw [u4 z0 z1 z2, tkS_congr (f := fun p => σ' 65 (12 + p)) (g := (hrN σa n c false h c2 k).tk) n (fun i hi => b2 i (by omega)), d4, Int32.add_sub_cancel]
            | succ m ih =>
              intro k σ' hk hkN R
              refine b_X11_tried_140 _ _ _ _ _ _ _ _ (br_t' (nI_lt (by omega) (by omega)) ?_)
              rw [nI_1]
              exact m_hour (kp := false) (h0 := h + k) (cc := c) hev he R (wz_hrN he hz2 k) (hhh k) (by omega) (by omega) (fun σ2 R2 => ih (k + 1) σ2 (by omega) (by omega) (R2.mono (by omega) (Nat.le_refl _)))
          exact loop N 0 σb (by omega) (by omega) R0
        refine ⟨fun z0 => ?_, fun z0 => ⟨fun z1 => ?_, fun z1 => ⟨fun z2 => ?_, fun z2 => ?_⟩⟩⟩
        · exact kR _ (fun _ => v1) (fun z => absurd (z0.symm.trans z) (by decide)) (fun z => absurd (z0.symm.trans z) (by decide)) (fun z => absurd z0 z)
        · exact kR _ (fun z => absurd z z0) (fun _ => v2) (fun z => absurd (z1.symm.trans z) (by decide)) (fun _ z => absurd z1 z)
        · exact kR _ (fun z => absurd z z0) (fun z => absurd z z1) (fun _ => v3) (fun _ _ z => absurd z2 z)
        · exact kR _ (fun z => absurd z z0) (fun z => absurd z z1) (fun z => absurd z z2) (fun _ _ _ => v4)
      · refine b_X10_tried_0 _ _ _ (wt hw (br1 (wt hl (br1 (wf hN (br0 ?_))) (by decide) hb1)))
        exact b_X11_tried_0 _ _ _ (ni_t hw (br1 (ni_t hl (br1 (ni_f hN (br0 (fin rfl hI0)))) (by decide) hb2)))
    · refine b_X10_tried_0 _ _ _ (wt hw (br1 (wf hl (br0 ?_) (by decide) hb1)))
      exact b_X11_tried_0 _ _ _ (ni_t hw (br1 (ni_f hl (br0 (fin rfl hI0)) (by decide) hb2)))
  · refine b_X10_tried_0 _ _ _ (wf hw (br0 ?_))
    exact b_X11_tried_0 _ _ _ (ni_f hw (br0 (fin rfl hI0)))
end TriedP
