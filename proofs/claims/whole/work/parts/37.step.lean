/-! step -/
theorem its_inv {g : Ct → Nat → Ct} {Q : Ct → Prop} {N : Nat} (hg : ∀ c k, k < N → Q c → Q (g c k)) {c : Ct} (h : Q c) : ∀ k, k ≤ N → Q (its g c k)
  | 0, _ => h
  | k + 1, hk => hg _ k (by omega) (its_inv hg h k (by omega))
/-- plates that are not there stand nowhere, as before -/
theorem wh_hrE {e : ax_Sg} {n cc h : Nat} {kp : Bool} {c : Ct} {p : Nat} (hp : n ≤ p) : (hrE e n cc kp h c).wh p = c.wh p := by
  show (hrD e n cc kp (h % 24) c).wh p = c.wh p
  unfold hrD hrC hrB hrA
  refine its_inv (Q := fun c' => c'.wh p = c.wh p) (fun c' k _ hq => hq) ?_ 5 (Nat.le_refl _)
  refine its_inv (Q := fun c' => c'.wh p = c.wh p) (fun c' k hk hq => ?_) ?_ n (Nat.le_refl _)
  · unfold rmP
    by_cases z : c'.rm k = 0
    · rw [if_pos z]; exact hq
    · rw [if_neg z]
      show upd c'.wh k _ p = c.wh p
      rw [upd_n _ _ (by omega)]; exact hq
  refine its_inv (Q := fun c' => c'.wh p = c.wh p) (fun c' k hk hq => ?_) ?_ n (Nat.le_refl _)
  · unfold sv
    by_cases h1 : c'.wh k = -1 ∨ e 19 (k * 2 + shO (h % 24)) = -1
    · rw [if_pos h1]; exact hq
    · rw [if_neg h1]
      by_cases h2 : lw c'.wt (tN (c'.wh k)) = -1
      · rw [if_pos h2]; exact hq
      · rw [if_neg h2]
        show upd c'.wh k _ p = c.wh p
        rw [upd_n _ _ (by omega)]; exact hq
  exact its_inv (Q := fun c' => c'.wh p = c.wh p) (fun c' k _ hq => hq) rfl 5 (Nat.le_refl _)
theorem hr_svs {e : ax_Sg} {cc hd sh : Nat} {kp : Bool} {c : Ct} {p : Nat} : ∀ k, (k ≤ p → (its (sv e cc kp hd sh) c k).hr p = c.hr p) ∧ ((its (sv e cc kp hd sh) c k).hr p = c.hr p ∨ (its (sv e cc kp hd sh) c k).hr p = c.hr p + 1)
  | 0 => ⟨fun _ => rfl, Or.inl rfl⟩
  | k + 1 => by
    obtain ⟨a, b⟩ := hr_svs (e := e) (cc := cc) (hd := hd) (sh := sh) (kp := kp) (c := c) (p := p) k
    show (k + 1 ≤ p → (sv e cc kp hd sh (its (sv e cc kp hd sh) c k) k).hr p = c.hr p) ∧ ((sv e cc kp hd sh (its (sv e cc kp hd sh) c k) k).hr p = c.hr p ∨ (sv e cc kp hd sh (its (sv e cc kp hd sh) c k) k).hr p = c.hr p + 1)
    revert a b
    generalize its (sv e cc kp hd sh) c k = c1
    intro a b
    have key : (sv e cc kp hd sh c1 k).hr p = c1.hr p ∨ (p = k ∧ (sv e cc kp hd sh c1 k).hr p = c1.hr p + 1) := by
      have u : upd c1.hr k (c1.hr k + 1) p = c1.hr p ∨ (p = k ∧ upd c1.hr k (c1.hr k + 1) p = c1.hr p + 1) := by
        by_cases z : p = k
        · rw [z, upd_s]; exact Or.inr ⟨rfl, rfl⟩
        · rw [upd_n _ _ z]; exact Or.inl rfl
      unfold sv
      by_cases h1 : c1.wh k = -1 ∨ e 19 (k * 2 + sh) = -1
      · rw [if_pos h1]; exact Or.inl rfl
      · rw [if_neg h1]
        by_cases h2 : lw c1.wt (tN (c1.wh k)) = -1
        · rw [if_pos h2]; exact u
        · rw [if_neg h2]; exact u
    rcases key with h | ⟨h1, h2⟩
    · rw [h]; exact ⟨fun z => a (by omega), b⟩
    · refine ⟨fun z => by omega, ?_⟩
      rw [h2, a (by omega)]; exact Or.inr rfl
theorem hr_hrE {e : ax_Sg} {n cc h : Nat} {kp : Bool} {c : Ct} {p : Nat} : (hrE e n cc kp h c).hr p = c.hr p ∨ (hrE e n cc kp h c).hr p = c.hr p + 1 := by
  have a : (hrE e n cc kp h c).hr p = (hrB e n cc kp (h % 24) c).hr p := by
    show (hrD e n cc kp (h % 24) c).hr p = (hrB e n cc kp (h % 24) c).hr p
    unfold hrD hrC
    refine its_inv (Q := fun c' => c'.hr p = (hrB e n cc kp (h % 24) c).hr p) (fun c' k _ hq => hq) ?_ 5 (Nat.le_refl _)
    refine its_inv (Q := fun c' => c'.hr p = (hrB e n cc kp (h % 24) c).hr p) (fun c' k hk hq => ?_) rfl n (Nat.le_refl _)
    unfold rmP
    by_cases z : c'.rm k = 0
    · rw [if_pos z]; exact hq
    · rw [if_neg z]; exact hq
  have b : (hrA e (h % 24) c).hr p = c.hr p := its_inv (Q := fun c' => c'.hr p = c.hr p) (fun c' k _ hq => hq) rfl 5 (Nat.le_refl _)
  rw [a, ← b]
  exact (hr_svs n).2
theorem hr_hrN {e : ax_Sg} {n cc h : Nat} {kp : Bool} {c : Ct} {p : Nat} (h0 : rg 0 (h : Int) (c.hr p)) (hb : h < 1000) : ∀ k, k < 1000 → rg 0 ((h + k : Nat) : Int) ((hrN e n cc kp h c k).hr p)
  | 0, _ => h0
  | k + 1, hk => by
    have ih := hr_hrN (e := e) (n := n) (cc := cc) (kp := kp) h0 hb k (by omega)
    have h1' : (1 : Int32).toInt = 1 := by decide
    unfold rg at ih ⊢
    rcases hr_hrE (e := e) (n := n) (cc := cc) (h := h + k) (kp := kp) (c := hrN e n cc kp h c k) (p := p) with z | z
    · show 0 ≤ ((hrE e n cc kp (h + k) (hrN e n cc kp h c k)).hr p).toInt ∧ _ ≤ _
      rw [show (hrN e n cc kp h c (k + 1)) = hrE e n cc kp (h + k) (hrN e n cc kp h c k) from rfl, z]
      omega
    · show 0 ≤ ((hrE e n cc kp (h + k) (hrN e n cc kp h c k)).hr p).toInt ∧ _ ≤ _
      rw [show (hrN e n cc kp h c (k + 1)) = hrE e n cc kp (h + k) (hrN e n cc kp h c k) from rfl, z, add_toInt (by rw [h1']; omega) (by rw [h1']; omega), h1']
      omega
theorem wh_hrN {e : ax_Sg} {n cc h : Nat} {kp : Bool} {c : Ct} {p : Nat} (hp : n ≤ p) : ∀ k, (hrN e n cc kp h c k).wh p = c.wh p
  | 0 => rfl
  | k + 1 => (wh_hrE hp).trans (wh_hrN hp k)
theorem hh_hrN {e : ax_Sg} {n cc h : Nat} {kp : Bool} {c : Ct} (hh : c.hh = nI h) : ∀ k, (hrN e n cc kp h c k).hh = nI (h + k)
  | 0 => hh
  | _ + 1 => rfl
def cof (σ : ax_Sg) : Ct := fun k => if k = 0 then σ 31 else if k = 1 then σ 32 else if k = 2 then σ 33 else if k = 3 then σ 34 else if k = 4 then σ 35 else if k = 5 then σ 36 else if k = 6 then σ 37 else if k = 7 then σ 38 else if k = 8 then (fun _ => σ 7 13) else if k = 9 then (fun _ => σ 7 14) else if k = 10 then (fun _ => σ 7 15) else if k = 11 then (fun _ => σ 7 16) else if k = 12 then (fun _ => σ 7 17) else if k = 13 then σ 30 else fun _ => σ 6 1
theorem w7_n (e : ax_Sg) (c : Ct) {k : Nat} (h1 : ¬ (31 ≤ k ∧ k ≤ 38)) (h2 : k ≠ 7) (h3 : k ≠ 30) (h4 : k ≠ 6) : w7 e c k = e k := by
  unfold w7
  rw [if_neg (by omega), if_neg (by omega), if_neg (by omega), if_neg (by omega), if_neg (by omega), if_neg (by omega), if_neg (by omega), if_neg (by omega), if_neg h2, if_neg h3, if_neg h4]
theorem w7_cof (σ : ax_Sg) : w7 σ (cof σ) = σ := by
  funext k
  by_cases h : 31 ≤ k ∧ k ≤ 38
  · rcases (show k = 31 ∨ k = 32 ∨ k = 33 ∨ k = 34 ∨ k = 35 ∨ k = 36 ∨ k = 37 ∨ k = 38 by omega) with rfl | rfl | rfl | rfl | rfl | rfl | rfl | rfl <;> rfl
  · by_cases h7 : k = 7
    · subst h7
      funext i
      show (if i = 13 then σ 7 13 else if i = 14 then σ 7 14 else if i = 15 then σ 7 15 else if i = 16 then σ 7 16 else if i = 17 then σ 7 17 else σ 7 i) = σ 7 i
      by_cases a : i = 13
      · rw [if_pos a, a]
      · rw [if_neg a]
        by_cases a : i = 14
        · rw [if_pos a, a]
        · rw [if_neg a]
          by_cases a : i = 15
          · rw [if_pos a, a]
          · rw [if_neg a]
            by_cases a : i = 16
            · rw [if_pos a, a]
            · rw [if_neg a]
              by_cases a : i = 17
              · rw [if_pos a, a]
              · rw [if_neg a]
    · by_cases h30 : k = 30
      · subst h30; rfl
      · by_cases h6 : k = 6
        · subst h6
          funext i
          show (if i = 1 then σ 6 1 else σ 6 i) = σ 6 i
          by_cases a : i = 1
          · rw [if_pos a, a]
          · rw [if_neg a]
        · exact w7_n _ _ h h7 h30 h6
section Step
variable {l : Launch} {σ : ax_Sg} {P : Option Value → ax_Sg → Prop}
theorem c_hours7' {n cc h N : Nat} (he : Ev0 n cc σ) (hz : Wz n (cof σ)) (hh : σ 7 13 = nI h) (hb : h + N < 1000) (hP : P none (w7 σ (hrN σ n cc true h (cof σ) N))) : Ev l 7 0 [some (.ref 7), some (.int (nI N)), none] [] σ P := by
  have := c_hours7 (l := l) (e := σ) (P := P) he hz hh hb hP
  rw [w7_cof] at this
  exact this
theorem ev0_of {n d c : Nat} (hpl : iv_pl n σ) (hd : d ≤ 16) (hsh : iv_sh n d σ) (hmt : iv_mt c σ) (has : iv_as σ) : Ev0 n c σ :=
  ⟨hpl.1, hmt.1, hpl.2.1, hmt.2.1, fun i hi => (hsh.2.2.1 i hi).imp id (fun ⟨k, a, b⟩ => ⟨k, by omega, b⟩), fun i hi => (has i hi).2⟩
theorem m1_rg {x : Int32} (h : rg (-1) 4 x) : x = -1 ∨ ∃ w, w < 5 ∧ x = nI w := by
  by_cases z : x = -1
  · exact Or.inl z
  · have hm1 : (-1 : Int32).toInt = -1 := by decide
    have h2 : x.toInt ≠ -1 := fun y => z (Int32.toInt_inj.mp (y.trans hm1.symm))
    obtain ⟨w, hw, hwe⟩ := nat_of (x := x) (b := 4) (by have := h.1; omega) h.2
    exact Or.inr ⟨w, by omega, hwe⟩
theorem wz_of {n h r : Nat} (hct : iv_ct n h σ) (hrd : iv_rd r σ) : Wz n (cof σ) := by
  obtain ⟨g1, g2, g3, g4, g5, g6, g7, g8, g9, g10, g11, g12, g13⟩ := hct
  refine ⟨⟨fun p hp => m1_rg (g7 p hp).2, fun i hi => (g11 i hi).2, fun w hw => ?_, r, hrd.1, hrd.2.1⟩, fun w hw => ?_⟩
  · obtain ⟨t, _, _, ht⟩ := g13 w hw
    exact ⟨t % 5, Nat.mod_lt _ (by omega), ht⟩
  · show σ 36 (w * 3) = 0
    rw [Nat.mul_comm]; exact g12 w hw
theorem evM_of {n d c : Nat} {g : ax_Sg} (hpl : iv_pl n σ) (hsh : iv_sh n d σ) (hmt : iv_mt c σ) (has : iv_as σ) (h1 : g 13 7 = σ 13 7) (h2 : g 58 = σ 58) (h3 : g 63 = σ 63) (h4 : g 64 = σ 64) (h5 : g 72 = σ 72) (h6 : g 26 = σ 26) (h7 : g 27 = σ 27) (h8 : g 28 = σ 28) (hm : iv_mt c g) : EvM n c σ g := by
  refine ⟨h1.trans hpl.2.2.1, fun p hp => ?_, fun p hp => ?_, fun i hi => ?_, hm, h6, h7, h8⟩
  · rw [h2]; exact ((hpl.2.2.2 p hp).1).symm
  · rw [h3, h4]
    have := hsh.1 p hp
    rw [Nat.mul_comm] at this
    exact ⟨this.1.symm, this.2.symm⟩
  · rw [h5]; exact ((has i hi).1).symm
theorem pr_step (hI : Inv σ) (x : Int32) : Pr l 83 [some (.ref 0), some (.int x), none] 142 [some (.ref 13), some (.int x), none, none] σ := by
  have hI0 := hI
  obtain ⟨n, d, t, c, h, r, q, f, y, hpl, hdr, hsh, htp, hmt, has, hct, hrd, hln, hfl, hli⟩ := hI
  by_cases h1 : 1 ≤ x.toInt ∧ x.toInt ≤ 24
  · obtain ⟨N, hN, rfl⟩ := nat_of (x := x) (b := 24) (by omega) h1.2
    have hN1 : 1 ≤ N := by rw [nI_toInt (by omega)] at h1; omega
    have hct0 := hct
    obtain ⟨g1, g2, g3, g4, g5, g6, g7, g8, g9, g10, g11, g12, g13⟩ := hct
    by_cases hF : 400 < h + N
    · have hlt : 400 < nI (h + N) := nI_lt (a := 400) hF (by omega)
      refine b_X10_step_0 _ (wt h1 (br1 (br_t' (by rw [g2, nI_add]; exact hlt) ?_)))
      exact b_X11_step_0 _ (ni_t h1 (br1 (br_t' (by rw [g3, nI_add]; exact hlt) (fin rfl hI0))))
    · have hlt : ¬ 400 < nI (h + N) := nI_nlt (b := h + N) (a := 400) (by omega) (by omega)
      have he := ev0_of hpl hdr.1 hsh hmt has
      have hz := wz_of hct0 hrd
      refine b_X10_step_0 _ (wt h1 (br1 (br_f' (by rw [g2, nI_add]; exact hlt) (c_hours7' he hz g2 (by omega) ?_))))
      have hev := evM_of (g := w7 σ (hrN σ n c true h (cof σ) N)) hpl hsh hmt has rfl rfl rfl rfl rfl rfl rfl rfl hmt.fr
      have R0 : Rm (w7 σ (hrN σ n c true h (cof σ) N)) n (12 * h) 0 (cof σ) (w7 σ (hrN σ n c true h (cof σ) N)) := by
        refine ⟨⟨fun j _ _ _ _ => rfl, fun i _ => rfl⟩, ⟨g3.trans g2.symm, g4.symm, g5.symm, g6.symm⟩, fun i hi => ?_, fun i hi => (g9 i hi).2.1.symm, fun i hi => (g7 i hi).1.symm, fun i hi => (g10 i hi).1.symm, fun i hi => (g10 i hi).2.symm, fun i hi => (g11 i hi).1.symm, g13, ⟨r, hrd.1, hrd.2.1, hrd.2.2.1, hrd.2.2.2⟩, fun p hp => absurd hp (by omega)⟩
        rw [Nat.zero_add]; exact (g9 i hi).1.symm
      have hwz := wz_hrN (kp := true) (h := h) he hz N
      have hwhp : ∀ p, n ≤ p → p < 12 → (hrN σ n c true h (cof σ) N).wh p = -1 := fun p hp hp2 => (wh_hrN hp N).trans (g8 p hp hp2)
      have hhrp : ∀ p, p < 12 → rg 0 ((h + N : Nat) : Int) ((hrN σ n c true h (cof σ) N).hr p) := fun p hp => hr_hrN (g9 p hp).2.2 (by omega) N (by omega)
      have hhhp : (hrN σ n c true h (cof σ) N).hh = nI (h + N) := hh_hrN (c := cof σ) g2 N
      have loop : ∀ m k σ', N - k = m → k ≤ N → Rm (w7 σ (hrN σ n c true h (cof σ) N)) n (12 * (h + k)) 0 (hrN σ n c true h (cof σ) k) σ' → Ev l 142 37 [some (.ref 13), some (.int (nI N)), some (.int (σ 13 11)), some (.int (nI k))] [] σ' (fun o2 σ2 => ax_oi o2 fun w => (hrN σ n c true h (cof σ) N).rc - σ 7 14 = w ∧ Inv σ2) := by
        intro m
        induction m with
        | zero =>
          intro k σ' hk hkN R
          have : k = N := by omega
          subst this
          refine b_X11_step_37 _ _ _ (br_f' (nI_nlt (Nat.le_refl _) (by omega)) (fin ?_ ?_))
          · rw [R.2.1.2.1, g4]
          · revert R hwz hwhp hhrp hhhp
            generalize hrN σ n c true h (cof σ) k = c1
            intro hwz hwhp hhrp hhhp R
            have F : ∀ j, (j ≠ 65 ∧ j ≠ 83 ∧ j ≠ 13 ∧ ¬ (67 ≤ j ∧ j ≤ 71) ∧ ¬ (31 ≤ j ∧ j ≤ 38) ∧ j ≠ 7 ∧ j ≠ 30 ∧ j ≠ 6) → σ' j = σ j := fun j hj => (R.1.1 j hj.1 hj.2.1 hj.2.2.1 hj.2.2.2.1).trans (w7_n _ _ hj.2.2.2.2.1 hj.2.2.2.2.2.1 hj.2.2.2.2.2.2.1 hj.2.2.2.2.2.2.2)
            have F1 : ∀ i, ¬ (11 ≤ i ∧ i ≤ 15) → σ' 13 i = σ 13 i := fun i hi => R.1.2 i hi
            have C : ∀ j, (j ≠ 65 ∧ j ≠ 83 ∧ j ≠ 13 ∧ ¬ (67 ≤ j ∧ j ≤ 71)) → σ' j = w7 σ c1 j := fun j hj => R.1.1 j hj.1 hj.2.1 hj.2.2.1 hj.2.2.2
            obtain ⟨a0, a1, b1, b2, b3, b4, b5, b6, b7, ⟨r', e1, e2, e3, e4⟩, b9⟩ := R
            refine ⟨n, d, t, c, h + k, r', q, f, y, hpl.fr (congrFun (F 1 (by decide)) 4) (F1 7 (by decide)) (F 14 (by decide)) (F 15 (by decide)) (F 16 (by decide)) (F 17 (by decide)) (F 58 (by decide)) (F 59 (by decide)) (F 60 (by decide)) (F 61 (by decide)), hdr.fr (congrFun (F 2 (by decide)) 2) (F1 8 (by decide)) (F 18 (by decide)) (F 62 (by decide)), hsh.fr (F 19 (by decide)) (F 63 (by decide)) (F 64 (by decide)), htp.fr (congrFun (F 3 (by decide)) 2) (F1 34 (by decide)) (F 25 (by decide)) (F 76 (by decide)), hmt.fr (congrFun (F 4 (by decide)) 3) (F1 35 (by decide)) (F 26 (by decide)) (F 27 (by decide)) (F 28 (by decide)) (F 77 (by decide)) (F 78 (by decide)) (F 79 (by decide)), has.fr (F 29 (by decide)) (F 72 (by decide)), ?_, ?_, hln.fr (congrFun (F 9 (by decide)) 4) (F1 42 (by decide)) (F 47 (by decide)) (F 48 (by decide)) (F 49 (by decide)) (F 84 (by decide)) (F 85 (by decide)) (F 86 (by decide)), hfl.fr (congrFun (F 10 (by decide)) 2) (F1 47 (by decide)) (F 51 (by decide)) (F 88 (by decide)), hli.fr (congrFun (F 11 (by decide)) 1) (F1 51 (by decide)) (F 54 (by decide)) (F 92 (by decide))⟩
            · have k7 : ∀ i, σ' 7 i = w7 σ c1 7 i := fun i => congrFun (C 7 (by decide)) i
              have k31 : σ' 31 = c1.wh := C 31 (by decide)
              have k32 : σ' 32 = c1.hr := C 32 (by decide)
              have k33 : σ' 33 = c1.tk := C 33 (by decide)
              have k34 : σ' 34 = c1.dh := C 34 (by decide)
              have k35 : σ' 35 = c1.ea := C 35 (by decide)
              have k36 : σ' 36 = c1.wt := C 36 (by decide)
              have k37 : σ' 37 = c1.tu := C 37 (by decide)
              unfold iv_ct
              rw [k31, k32, k33, k34, k35, k36, k37]
              refine ⟨by omega, (k7 13).trans hhhp, a1.1.trans hhhp, (k7 14).trans a1.2.1.symm, (k7 15).trans a1.2.2.1.symm, (k7 16).trans a1.2.2.2.symm, fun p hp => ⟨(b3 p hp).symm, ?_⟩, hwhp, fun p hp => ⟨?_, (b2 p hp).symm, hhrp p hp⟩, fun p hp => ⟨(b4 p hp).symm, (b5 p hp).symm⟩, fun i hi => ⟨(b6 i hi).symm, hwz.1.2.1 i hi⟩, fun w hw => ?_, b7⟩
              · rcases hwz.1.1 p hp with z | ⟨w, hw, z⟩
                · rw [z]; unfold rg; decide
                · rw [z]; unfold rg; rw [nI_toInt (by omega)]; omega
              · have := b1 p hp
                rw [Nat.zero_add] at this
                exact this.symm
              · rw [Nat.mul_comm]; exact hwz.2 w hw
            · have k30 : σ' 30 = c1.row := C 30 (by decide)
              have k6 : σ' 6 1 = c1.rn := congrFun (C 6 (by decide)) 1
              refine ⟨e1, k6.trans e2, e3, ?_⟩
              rw [k30]
              exact e4
        | succ m ih =>
          intro k σ' hk hkN R
          refine b_X11_step_37 _ _ _ (br_t' (nI_lt (by omega) (by omega)) ?_)
          rw [nI_1]
          refine m_hour (kp := true) (h0 := h + k) (cc := c) hev he R (wz_hrN he hz k) (hh_hrN (c := cof σ) g2 k) (by omega) (by omega) (fun σ2 R2 => ih (k + 1) σ2 (by omega) (by omega) (R2.mono (by omega) (Nat.le_refl _)))
      have g3' : (w7 σ (hrN σ n c true h (cof σ) N)) 13 14 = nI h := g3
      exact b_X11_step_0 _ (ni_t h1 (br1 (br_f' (by rw [g3', nI_add]; exact hlt) (loop N 0 _ (by omega) (by omega) R0))))
  · refine b_X10_step_0 _ (wf h1 (br0 ?_))
    exact b_X11_step_0 _ (ni_f h1 (br0 (fin rfl hI0)))
end Step
