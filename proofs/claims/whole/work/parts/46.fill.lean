/-! fill, the pair -/
section FillP
variable {l : Launch} {σ : ax_Sg}
theorem pr_fill (hI : Inv σ) : Pr l 77 [some (.ref 0)] 122 [some (.ref 13), none, none, none, none, none, none] σ := by
  obtain ⟨n, d, t, c, h, r, q, f, y, hpl, hdr, hsh, htp, hmt, has, hct, hrd, hln, hfl, hli⟩ := hI
  have hn := hpl.1
  have hd := hdr.1
  have hwN : ∀ k, k < d → tN (σ 18 k) < 3 ∧ σ 18 k = nI (tN (σ 18 k)) := by
    intro k hk
    have h1 := (hdr.2.2.2 k hk).2
    obtain ⟨w, hw, hwe⟩ := nat_of (x := σ 18 k) (b := 2) h1.1 h1.2
    have : tN (σ 18 k) = w := by rw [hwe]; exact cl_nI (by omega)
    rw [this]
    exact ⟨by omega, hwe⟩
  obtain ⟨a, ha⟩ : ∃ a, a = σ 19 := ⟨_, rfl⟩
  obtain ⟨S, hS⟩ : ∃ S, S = sn (okP a) (2 * n) := ⟨_, rfl⟩
  obtain ⟨pl, hpl'⟩ : ∃ pl, pl = sf (okP a) (2 * n) := ⟨_, rfl⟩
  obtain ⟨D, hD⟩ : ∃ D, D = sn (okD a) d := ⟨_, rfl⟩
  obtain ⟨dl, hdl'⟩ : ∃ dl, dl = sf (okD a) d := ⟨_, rfl⟩
  obtain ⟨ti, hti⟩ : ∃ ti : Nat → Nat, ti = fun x => pl x % 2 := ⟨_, rfl⟩
  obtain ⟨wi, hwi⟩ : ∃ wi : Nat → Nat, wi = fun j => tN (σ 18 (dl j)) := ⟨_, rfl⟩
  have S10 : S ≤ 10 := by rw [hS]; exact (sn_le _ _).1
  have D10 : D ≤ 10 := by rw [hD]; exact (sn_le _ _).1
  have pl2 : ∀ i, i < S → pl i < 2 * n := by
    intro i hi
    rw [hS] at hi
    rw [hpl']; exact (sf_spec _ _ i hi).1
  have dl2 : ∀ j, j < D → dl j < d := by
    intro j hj
    rw [hD] at hj
    rw [hdl']; exact (sf_spec _ _ j hj).1
  have dlf2 : ∀ j, j < D → ∀ x, x < 24 → ¬ a x = nI (dl j) := by
    intro j hj
    rw [hD] at hj
    rw [hdl']; exact (okD_iff _ _).mp (sf_spec _ _ j hj).2
  have dlinj : ∀ i j, i < D → j < D → dl i = dl j → i = j := by
    intro i j hi hj e
    rw [hD] at hi hj
    rw [hdl'] at e
    exact sf_inj _ _ hi hj e
  have ht : ∀ x, ti x < 2 := by
    intro x
    rw [hti]; exact Nat.mod_lt _ (by omega)
  have hw3 : ∀ j, j < D → wi j < 3 ∧ σ 18 (dl j) = nI (wi j) := by
    intro j hj
    rw [hwi]; exact hwN _ (dl2 j hj)
  have gaF := ga_facts (ti := ti) (wi := wi) (S := S) (D := D) (B := 2 * n) (d := d) (pl := pl) (dl := dl) (a := a) pl2 dl2 hd dlinj dlf2 (by rw [ha]; exact hsh.2.2.1) (by rw [ha]; exact hsh.2.2.2)
  refine b_X10_fill_0 (b_X8_fillFree_0 _ ?_)
  rw [hpl.2.1]
  refine c_places hn (fun σ2 L => ?_)
  obtain ⟨l1, l2, l3, l4, l5⟩ := L
  rw [← ha, ← hS] at l3 l4 l5
  rw [← hpl'] at l4 l5
  have k19 : σ2 19 = a := (l1 19 (by decide) (by decide) (by decide)).trans ha.symm
  have k18 : σ2 18 = σ 18 := l1 18 (by decide) (by decide) (by decide)
  refine c_drivers (d := d) (wN := fun k => tN (σ 18 k)) hd (by rw [l2 2 (by decide)]; exact hdr.2.1) (by rw [k18]; exact hwN) (fun σ3 L2 => ?_)
  obtain ⟨u1, u2, u3, u4, u5⟩ := L2
  rw [k19, ← hD] at u3 u4 u5
  rw [← hdl'] at u4 u5
  have hF : Fe σ3 ti wi S D pl dl := by
    refine ⟨S10, D10, (u2 6 (by decide)).trans l3, u3, fun i hi => ⟨?_, by have := pl2 i hi; omega, by rw [hti]⟩, fun j hj => ⟨(u4 j hj).1, by have := dl2 j hj; omega, (hw3 j hj).1, ?_⟩⟩
    · rw [u1 20 (by decide) (by decide) (by decide) (by decide)]; exact l4 i hi
    · rw [u1 18 (by decide) (by decide) (by decide) (by decide), k18]; exact (hw3 j hj).2
  have hG : Gc σ3 ti wi S D a 0 0 σ3 := by
    refine ⟨fun _ _ _ _ _ => rfl, (u1 19 (by decide) (by decide) (by decide) (by decide)).trans k19, fun j hj => ?_, fun t' ht' => ?_, fun w hw => ?_⟩
    · rw [(u4 j hj).2, Nat.zero_testBit, if_neg (by decide)]
    · rw [u1 23 (by decide) (by decide) (by decide) (by decide), l5 t' ht', sl_0, hti]
    · rw [u5 w hw, dlf_0, hwi]
  refine c_fillAll hF hG (fun σ4 G => ?_)
  obtain ⟨g1, g2, g3, g4, g5⟩ := G
  have t4 : ∀ j, (j ≠ 2 ∧ j ≠ 20 ∧ j ≠ 23) ∧ (j ≠ 21 ∧ j ≠ 22 ∧ j ≠ 24) ∧ j ≠ 19 → σ4 j = σ j := fun j hj => (g1 j hj.2.2 hj.2.1.2.1 hj.1.2.2 hj.2.1.2.2).trans ((u1 j hj.1.1 hj.2.1.1 hj.2.1.2.1 hj.2.1.2.2).trans (l1 j hj.1.1 hj.1.2.1 hj.1.2.2))
  have t42 : σ4 2 2 = σ 2 2 := by rw [g1 2 (by decide) (by decide) (by decide) (by decide), u2 2 (by decide), l2 2 (by decide)]
  have k13 : σ4 13 = σ 13 := t4 13 (by decide)
  show Ev l 122 0 [some (.ref 13), none, none, none, none, none, none] [] σ4 (fun o2 σ2 => ax_oi o2 fun w => nI (gs ti wi S D S) = w ∧ Inv σ2)
  have hSa : Sa n d a σ4 := by
    refine ⟨hn, hd, by rw [k13]; exact hpl.2.2.1, by rw [k13]; exact hdr.2.2.1, fun p hp => ?_, ?_, ?_⟩
    · rw [t4 63 (by decide), t4 64 (by decide), ha]
      exact ⟨(hsh.1 p hp).1.symm, (hsh.1 p hp).2.symm⟩
    · rw [ha]; exact hsh.2.1
    · rw [ha]; exact hsh.2.2.1
  refine m_lists hSa (fun σ5 M => ?_)
  obtain ⟨m1, m2, m3, m4, m5, m6⟩ := M
  rw [← hS] at m3 m4
  rw [← hpl'] at m4
  rw [← hD] at m5 m6
  rw [← hdl'] at m6
  rw [← hS, ← hD]
  have k62 : σ4 62 = σ 62 := t4 62 (by decide)
  have hFr : Fr σ5 n ti wi S D pl dl := by
    refine ⟨S10, D10, hn, ?_, m3, m5, fun i hi => ⟨m4 i hi, pl2 i hi, by rw [hti]⟩, fun j hj => ⟨m6 j hj, by have := dl2 j hj; omega, (hw3 j hj).1, ?_⟩⟩
    · rw [m2 7 (by decide) (by decide), k13]; exact hpl.2.2.1
    · rw [m1 62 (by decide) (by decide) (by decide), k62, ← (hdr.2.2.2 _ (dl2 j hj)).1]; exact (hw3 j hj).2
  refine m_most hFr (fun σ6 n1 n2 => ?_)
  have hFr2 : Fr σ6 n ti wi S D pl dl := by
    unfold Fr
    rw [n1 13 (by decide), n1 73 (by decide), n1 74 (by decide), n1 62 (by decide)]
    exact hFr
  have t6 : ∀ j, ((j ≠ 2 ∧ j ≠ 20 ∧ j ≠ 23) ∧ (j ≠ 21 ∧ j ≠ 22 ∧ j ≠ 24) ∧ j ≠ 19) ∧ (j ≠ 13 ∧ j ≠ 73 ∧ j ≠ 74) ∧ j ≠ 75 → σ6 j = σ j := fun j hj => (n1 j hj.2.2).trans ((m1 j hj.2.1.1 hj.2.1.2.1 hj.2.1.2.2).trans (t4 j hj.1))
  refine m_give (a := a) (d := d) hFr2 dl2 hd n2 (fun p hp => ?_) (fun i hi => (gaF i hi).2.1) (fun σ7 r1 r2 => fin ?_ ?_)
  · rw [t6 63 (by decide), t6 64 (by decide), ha]
    exact ⟨(hsh.1 p hp).1.symm, (hsh.1 p hp).2.symm⟩
  · rw [gs_all ht]
  · have t7 : ∀ j, (((j ≠ 2 ∧ j ≠ 20 ∧ j ≠ 23) ∧ (j ≠ 21 ∧ j ≠ 22 ∧ j ≠ 24) ∧ j ≠ 19) ∧ (j ≠ 13 ∧ j ≠ 73 ∧ j ≠ 74) ∧ j ≠ 75) ∧ (j ≠ 63 ∧ j ≠ 64) → σ7 j = σ j := fun j hj => (r1 j hj.2.1 hj.2.2).trans (t6 j hj.1)
    have t713 : ∀ i, i ≠ 25 → i ≠ 26 → σ7 13 i = σ 13 i := by
      intro i h1 h2
      rw [r1 13 (by decide) (by decide), n1 13 (by decide), m2 i h1 h2, k13]
    have t72 : σ7 2 2 = σ 2 2 := by rw [r1 2 (by decide) (by decide), n1 2 (by decide), m1 2 (by decide) (by decide) (by decide), t42]
    have t719 : σ7 19 = ga ti wi S D pl dl a S := by rw [r1 19 (by decide) (by decide), n1 19 (by decide), m1 19 (by decide) (by decide) (by decide), g2]
    obtain ⟨z1, z2, z3, z4⟩ := gaF S (Nat.le_refl _)
    refine ⟨n, d, t, c, h, r, q, f, y, hpl.fr (congrFun (t7 1 (by decide)) 4) (t713 7 (by decide) (by decide)) (t7 14 (by decide)) (t7 15 (by decide)) (t7 16 (by decide)) (t7 17 (by decide)) (t7 58 (by decide)) (t7 59 (by decide)) (t7 60 (by decide)) (t7 61 (by decide)), hdr.fr t72 (t713 8 (by decide) (by decide)) (t7 18 (by decide)) (t7 62 (by decide)), ?_, htp.fr (congrFun (t7 3 (by decide)) 2) (t713 34 (by decide) (by decide)) (t7 25 (by decide)) (t7 76 (by decide)), hmt.fr (congrFun (t7 4 (by decide)) 3) (t713 35 (by decide) (by decide)) (t7 26 (by decide)) (t7 27 (by decide)) (t7 28 (by decide)) (t7 77 (by decide)) (t7 78 (by decide)) (t7 79 (by decide)), has.fr (t7 29 (by decide)) (t7 72 (by decide)), hct.fr (congrFun (t7 7 (by decide)) 13) (t713 14 (by decide) (by decide)) (congrFun (t7 7 (by decide)) 14) (t713 11 (by decide) (by decide)) (congrFun (t7 7 (by decide)) 15) (t713 12 (by decide) (by decide)) (congrFun (t7 7 (by decide)) 16) (t713 13 (by decide) (by decide)) (t7 31 (by decide)) (t7 32 (by decide)) (t7 33 (by decide)) (t7 34 (by decide)) (t7 35 (by decide)) (t7 36 (by decide)) (t7 37 (by decide)) (t7 65 (by decide)), hrd.fr (congrFun (t7 6 (by decide)) 1) (t713 15 (by decide) (by decide)) (t7 30 (by decide)) (t7 67 (by decide)) (t7 68 (by decide)) (t7 69 (by decide)) (t7 70 (by decide)) (t7 71 (by decide)), hln.fr (congrFun (t7 9 (by decide)) 4) (t713 42 (by decide) (by decide)) (t7 47 (by decide)) (t7 48 (by decide)) (t7 49 (by decide)) (t7 84 (by decide)) (t7 85 (by decide)) (t7 86 (by decide)), hfl.fr (congrFun (t7 10 (by decide)) 2) (t713 47 (by decide) (by decide)) (t7 51 (by decide)) (t7 88 (by decide)), hli.fr (congrFun (t7 11 (by decide)) 1) (t713 51 (by decide) (by decide)) (t7 54 (by decide)) (t7 92 (by decide))⟩
    unfold iv_sh
    rw [t719]
    refine ⟨fun p hp => ⟨(r2 p hp).1.symm, (r2 p hp).2.symm⟩, fun i h1 h2 => ?_, z3, z4⟩
    rw [z1 i h1, ha]; exact hsh.2.1 i h1 h2
end FillP
