/-! who drives: drive -/
def asg (a : Nat → Int32) (pl : Nat) (d : Int32) : Nat → Int32 := fun j => if j = pl then d else if j < 24 ∧ ¬ d = -1 ∧ a j = d then -1 else a j
def frd (a : Nat → Int32) (n : Nat) (d : Int32) : Nat → Int32 := fun p => if p < n ∧ a p = d then -1 else a p
def st2 (σ : ax_Sg) (f g : Nat → Int32) : ax_Sg := ax_uc (ax_uc σ 63 f) 64 g
theorem st2_63 (σ : ax_Sg) (f g : Nat → Int32) (i : Nat) (v : Int32) : ax_us (st2 σ f g) 63 i v = st2 σ (upd f i v) g := by
  unfold st2
  rw [ax_us_uc, uc_n _ _ (by decide), uc_s]
  funext k
  by_cases h1 : k = 63
  · subst h1; rw [uc_s, uc_n _ _ (by decide), uc_s]
  · rw [uc_n _ _ h1]
    by_cases h2 : k = 64
    · subst h2; rw [uc_s, uc_s]
    · rw [uc_n _ _ h2, uc_n _ _ h2, uc_n _ _ h1, uc_n _ _ h1]
theorem st2_64 (σ : ax_Sg) (f g : Nat → Int32) (i : Nat) (v : Int32) : ax_us (st2 σ f g) 64 i v = st2 σ f (upd g i v) := by
  unfold st2
  rw [us_uc]
theorem st2_id (σ : ax_Sg) : st2 σ (σ 63) (σ 64) = σ := by
  unfold st2
  rw [uc_id]
  exact uc_id σ 64
theorem frd_none (a : Nat → Int32) (n : Nat) : frd a n (-1) = a := by
  funext p
  unfold frd
  by_cases h : p < n ∧ a p = -1
  · rw [if_pos h, h.2]
  · rw [if_neg h]
theorem frd_0 (a : Nat → Int32) (d : Int32) : frd a 0 d = a := by
  funext p
  unfold frd
  rw [if_neg (by omega)]
theorem frd_s {a : Nat → Int32} {k : Nat} {d : Int32} (h : a k = d) : upd (frd a k d) k (-1) = frd a (k + 1) d := by
  funext p
  by_cases e : p = k
  · subst e
    rw [upd_s]
    unfold frd
    rw [if_pos ⟨by omega, h⟩]
  · rw [upd_n _ _ e]
    unfold frd
    by_cases c : p < k ∧ a p = d
    · rw [if_pos c, if_pos ⟨by omega, c.2⟩]
    · rw [if_neg c, if_neg (fun z => c ⟨by omega, z.2⟩)]
theorem frd_n {a : Nat → Int32} {k : Nat} {d : Int32} (h : ¬ a k = d) : frd a k d = frd a (k + 1) d := by
  funext p
  unfold frd
  by_cases c : p < k ∧ a p = d
  · rw [if_pos c, if_pos ⟨by omega, c.2⟩]
  · rw [if_neg c, if_neg (fun z => by
      by_cases e : p = k
      · subst e; exact h z.2
      · exact c ⟨by omega, z.2⟩)]
theorem frd_at (a : Nat → Int32) (k : Nat) (d : Int32) : frd a k d k = a k := by
  unfold frd
  rw [if_neg (by omega)]
section Drive
variable {l : Launch} {σ : ax_Sg} {P : Option Value → ax_Sg → Prop}
theorem c_placeD (x : Int32) (hF : ∀ i, i < 24 → σ 19 i = x → (∀ j, j < i → ¬ σ 19 j = x) → P (some (.int (nI i))) σ) (hN : (∀ j, j < 24 → ¬ σ 19 j = x) → P (some (.int (-1))) σ) : Ev l 55 0 [some (.ref 2), some (.int x), none] [] σ P := by
  have loop : ∀ m k, 24 - k = m → k ≤ 24 → (∀ j, j < k → ¬ σ 19 j = x) → Ev l 55 2 [some (.ref 2), some (.int x), some (.int (nI k))] [] σ P := by
    intro m
    induction m with
    | zero =>
      intro k hk hky hpre
      have : k = 24 := by omega
      subst this
      exact b_X8_placeOfDriver_2 x _ (br_f' (nI_nlt (a := 24) (b := 24) (Nat.le_refl _) (by omega)) (hN hpre))
    | succ m ih =>
      intro k hk hky hpre
      refine b_X8_placeOfDriver_2 x _ (br_t' (nI_lt (a := k) (b := 24) (by omega) (by omega)) ⟨in_nI (by omega) (by decide), ?_⟩)
      rw [cl_nI (by omega), nI_1]
      exact br_i (fun e => hF k (by omega) e hpre) (fun e => ih (k + 1) (by omega) (by omega) (fun j hj => by
        by_cases e2 : j = k
        · subst e2; exact e
        · exact hpre j (by omega)))
  exact b_X8_placeOfDriver_0 x (loop 24 0 (by omega) (by omega) (fun j hj => absurd hj (by omega)))
theorem c_assign {pl : Nat} (hpl : pl < 24) (d : Int32) (hu : ¬ d = -1 → ∀ i j, i < 24 → j < 24 → σ 19 i = d → σ 19 j = d → i = j) (h : P (some (.int (σ 19 pl))) (ax_uc σ 19 (asg (σ 19) pl d))) : Ev l 56 0 [some (.ref 2), some (.int (nI pl)), some (.int d), none, none] [] σ P := by
  refine b_X8_assign_0 _ _ ⟨in_nI hpl (by decide), ?_⟩
  rw [cl_nI (by omega)]
  refine br_i (fun e => br_t' rfl ⟨in_nI hpl (by decide), ?_⟩) (fun e => c_placeD d (fun i hi hie hpre => ?_) (fun hno => ?_))
  · have : asg (σ 19) pl d = upd (σ 19) pl d := by
      funext j
      unfold asg upd
      by_cases ej : j = pl
      · rw [if_pos ej, if_pos ej]
      · rw [if_neg ej, if_neg ej, if_neg (fun z => z.2.1 e)]
    rw [this] at h
    exact h
  · refine br_f' (fun z => nI_pos (n := i) (by omega) (by rw [z]; decide)) ⟨in_nI hi (by decide), in_nI hpl (by decide), ?_⟩
    rw [cl_nI (by omega)]
    have : ax_us (ax_us σ 19 i (-1)) 19 pl d = ax_uc σ 19 (asg (σ 19) pl d) := by
      rw [ax_us_uc (ax_us σ 19 i (-1)), ax_us_uc σ, uc_uc, uc_s]
      congr 1
      funext j
      unfold asg upd
      by_cases ej : j = pl
      · rw [if_pos ej, if_pos ej]
      · rw [if_neg ej, if_neg ej]
        by_cases ei : j = i
        · rw [if_pos ei, if_pos ⟨by omega, e, by rw [ei]; exact hie⟩]
        · rw [if_neg ei, if_neg (fun z => ei (hu e j i z.1 hi z.2.2 hie))]
    rw [this]
    exact h
  · refine br_t' rfl ⟨in_nI hpl (by decide), ?_⟩
    have : asg (σ 19) pl d = upd (σ 19) pl d := by
      funext j
      unfold asg upd
      by_cases ej : j = pl
      · rw [if_pos ej, if_pos ej]
      · rw [if_neg ej, if_neg ej, if_neg (fun z => hno j z.1 z.2.2)]
    rw [this] at h
    exact h
theorem m_frees {n : Nat} (hn : n ≤ 12) (hs : σ 13 7 = nI n) (d : Int32) (h : P none (st2 σ (frd (σ 63) n d) (frd (σ 64) n d))) : Ev l 114 0 [some (.ref 13), some (.int d), none] [] σ P := by
  have loop : ∀ m k, n - k = m → k ≤ n → Ev l 114 2 [some (.ref 13), some (.int d), some (.int (nI k))] [] (st2 σ (frd (σ 63) k d) (frd (σ 64) k d)) P := by
    intro m
    induction m with
    | zero =>
      intro k hk hkn
      have : k = n := by omega
      subst this
      exact b_X11_frees_2 _ _ (br_f' (by show ¬ nI k < σ 13 7; rw [hs]; exact nI_nlt (Nat.le_refl _) (by omega)) h)
    | succ m ih =>
      intro k hk hkn
      have ih' := ih (k + 1) (by omega) (by omega)
      have e63 : (st2 σ (frd (σ 63) k d) (frd (σ 64) k d)) 63 k = σ 63 k := frd_at _ _ _
      have e64 : (st2 σ (frd (σ 63) k d) (frd (σ 64) k d)) 64 k = σ 64 k := frd_at _ _ _
      have hin : vp_in (nI k) 12 := in_nI (by omega) (by decide)
      refine b_X11_frees_2 _ _ (br_t' (by show nI k < σ 13 7; rw [hs]; exact nI_lt (by omega) (by omega)) ⟨hin, ?_⟩)
      rw [cl_nI (by omega), nI_1, e63, e64, st2_64, st2_63, st2_64]
      refine br_i (fun e1 => ⟨hin, hin, br_i (fun e2 => ⟨hin, ?_⟩) (fun e2 => ?_)⟩) (fun e1 => ⟨hin, br_i (fun e2 => ⟨hin, ?_⟩) (fun e2 => ?_)⟩)
      · rw [frd_s e1, frd_s e2]; exact ih'
      · rw [frd_s e1, frd_n e2]; exact ih'
      · rw [frd_n e1, frd_s e2]; exact ih'
      · rw [frd_n e1, frd_n e2]; exact ih'
  have := loop n 0 (by omega) (by omega)
  rw [frd_0, frd_0, st2_id] at this
  exact b_X11_frees_0 _ this
/-- the reference's rows behind gives -/
def gvd (σ : ax_Sg) (n p : Nat) (sh d : Int32) : ax_Sg := if sh = 0 then st2 σ (upd (frd (σ 63) n d) p d) (frd (σ 64) n d) else st2 σ (frd (σ 63) n d) (upd (frd (σ 64) n d) p d)
theorem m_gives {n p : Nat} (hn : n ≤ 12) (hs : σ 13 7 = nI n) (hp : p < n) (sh d : Int32) (hd : d = -1 ∨ 0 ≤ d.toInt) (h : P none (gvd σ n p sh d)) : Ev l 116 0 [some (.ref 13), some (.int (nI p)), some (.int sh), some (.int d)] [] σ P := by
  have hin : vp_in (nI p) 12 := in_nI (by omega) (by decide)
  have h0 : (0 : Int32).toInt = 0 := by decide
  refine b_X11_gives_0 _ _ _ ?_
  rw [cl_nI (by omega)]
  unfold gvd at h
  rcases hd with rfl | hd
  · rw [frd_none, frd_none] at h
    refine br_t' (by decide) (br_i (fun e => ⟨hin, ?_⟩) (fun e => ⟨hin, ?_⟩))
    · rw [if_pos e, ← st2_63, st2_id] at h; exact h
    · rw [if_neg e, ← st2_64, st2_id] at h; exact h
  · refine br_f' (by rw [lt_toInt, h0]; omega) (m_frees hn hs d (br_i (fun e => ⟨hin, ?_⟩) (fun e => ⟨hin, ?_⟩)))
    · rw [if_pos e] at h; rw [st2_63]; exact h
    · rw [if_neg e] at h; rw [st2_64]; exact h
/-- the shifts behind an assignment, on both sides -/
theorem sh_asg {n d p b : Nat} {D : Int32} (hn : n ≤ 12) (hp : p < n) (hb : b < 2) (hsh : iv_sh n d σ) (hD : D = -1 ∨ ∃ k, k < d ∧ D = nI k) (hd : d ≤ 16) (σ' : ax_Sg) (e19 : σ' 19 = asg (σ 19) (2 * p + b) D) (e63 : σ' 63 = if b = 0 then upd (frd (σ 63) n D) p D else frd (σ 63) n D) (e64 : σ' 64 = if b = 0 then frd (σ 64) n D else upd (frd (σ 64) n D) p D) : iv_sh n d σ' := by
  obtain ⟨h1, h2, h3, h4⟩ := hsh
  have hm : ∀ k : Nat, k < d → ¬ nI k = -1 := fun k hk e => nI_pos (n := k) (by omega) (by rw [e]; decide)
  refine ⟨fun p' hp' => ?_, fun i hi1 hi2 => ?_, fun i hi => ?_, fun i j hi hj e hne => ?_⟩
  · obtain ⟨a1, a2⟩ := h1 p' hp'
    have key : ∀ (u : Nat) (a : Nat → Int32), u < 24 → σ 19 u = a p' → (¬ u = 2 * p + b) → asg (σ 19) (2 * p + b) D u = frd a n D p' := by
      intro u a hu ea hne
      unfold asg frd
      rw [if_neg hne]
      by_cases c : a p' = D
      · by_cases hD1 : D = -1
        · rw [if_neg (show ¬ (u < 24 ∧ ¬ D = -1 ∧ σ 19 u = D) from fun z => z.2.1 hD1), if_pos (show p' < n ∧ a p' = D from ⟨hp', c⟩), ea, c, hD1]
        · rw [if_pos (show u < 24 ∧ ¬ D = -1 ∧ σ 19 u = D from ⟨hu, hD1, by rw [ea]; exact c⟩), if_pos (show p' < n ∧ a p' = D from ⟨hp', c⟩)]
      · rw [if_neg (show ¬ (u < 24 ∧ ¬ D = -1 ∧ σ 19 u = D) from fun z => c (by rw [← ea]; exact z.2.2)), if_neg (show ¬ (p' < n ∧ a p' = D) from fun z => c z.2), ea]
    rcases (show b = 0 ∨ b = 1 by omega) with rfl | rfl
    · rw [e19, e63, e64, if_pos rfl, if_pos rfl]
      refine ⟨?_, key (2 * p' + 1) (σ 64) (by omega) a2 (by omega)⟩
      by_cases ep : p' = p
      · subst ep; rw [upd_s]; unfold asg; rw [if_pos (show 2 * p' = 2 * p' + 0 from rfl)]
      · rw [upd_n _ _ ep]; exact key (2 * p') (σ 63) (by omega) a1 (by omega)
    · rw [e19, e63, e64, if_neg (by decide), if_neg (by decide)]
      refine ⟨key (2 * p') (σ 63) (by omega) a1 (by omega), ?_⟩
      by_cases ep : p' = p
      · subst ep; rw [upd_s]; unfold asg; rw [if_pos rfl]
      · rw [upd_n _ _ ep]; exact key (2 * p' + 1) (σ 64) (by omega) a2 (by omega)
  · rw [e19]
    unfold asg
    rw [if_neg (by omega)]
    by_cases c : i < 24 ∧ ¬ D = -1 ∧ σ 19 i = D
    · rw [if_pos c]
    · rw [if_neg c]; exact h2 i hi1 hi2
  · rw [e19]
    unfold asg
    by_cases c : i = 2 * p + b
    · rw [if_pos c]; exact hD
    · rw [if_neg c]
      by_cases c2 : i < 24 ∧ ¬ D = -1 ∧ σ 19 i = D
      · rw [if_pos c2]; exact Or.inl rfl
      · rw [if_neg c2]; exact h3 i hi
  · rw [e19] at e hne
    unfold asg at e hne
    by_cases c : i = 2 * p + b
    · rw [if_pos c] at e hne
      by_cases c' : j = 2 * p + b
      · omega
      · rw [if_neg c'] at e
        by_cases c2 : j < 24 ∧ ¬ D = -1 ∧ σ 19 j = D
        · rw [if_pos c2] at e; exact absurd e hne
        · rw [if_neg c2] at e; exact absurd ⟨hj, hne, e.symm⟩ c2
    · rw [if_neg c] at e hne
      by_cases c2 : i < 24 ∧ ¬ D = -1 ∧ σ 19 i = D
      · rw [if_pos c2] at hne; exact absurd rfl hne
      · rw [if_neg c2] at e hne
        by_cases c' : j = 2 * p + b
        · rw [if_pos c'] at e
          exact absurd ⟨hi, by rw [← e]; exact hne, e⟩ c2
        · rw [if_neg c'] at e
          by_cases c3 : j < 24 ∧ ¬ D = -1 ∧ σ 19 j = D
          · rw [if_pos c3] at e; exact absurd e hne
          · rw [if_neg c3] at e; exact h4 i j hi hj e hne
theorem pr_drive (hI : Inv σ) (x sh D : Int32) : Pr l 74 [some (.ref 0), some (.int x), some (.int sh), some (.int D)] 117 [some (.ref 13), some (.int x), some (.int sh), some (.int D), none] σ := by
  have hI0 := hI
  obtain ⟨n, d, t, c, h, r, q, f, y, hpl, hdr, hsh, htp, hmt, has, hct, hrd, hln, hfl, hli⟩ := hI
  have hpl0 := hpl
  have hdr0 := hdr
  obtain ⟨hn, hs, hm, hp⟩ := hpl
  obtain ⟨hd, hds, hdm, hdp⟩ := hdr
  rcases nI_case x n (by omega) with ⟨p, hpn, rfl⟩ | hx
  · by_cases h2 : 0 ≤ sh.toInt ∧ sh.toInt ≤ 1
    · obtain ⟨b, hb, rfl⟩ := nat_of (b := 1) h2.1 h2.2
      have e2 : nI p * 2 + nI b = nI (2 * p + b) := by rw [show (2 : Int32) = nI 2 from rfl, pk_mul, nI_add, Nat.mul_comm]
      have hans : σ 19 (2 * p + b) = if b = 0 then σ 63 p else σ 64 p := by
        obtain ⟨a1, a2⟩ := hsh.1 p hpn
        rcases (show b = 0 ∨ b = 1 by omega) with rfl | rfl
        · rw [if_pos rfl]; exact a1
        · rw [if_neg (by decide)]; exact a2
      have hb0 : nI b = 0 ↔ b = 0 := nI_eq (b := 0) (by omega) (by omega)
      have hu : ¬ D = -1 → ∀ i j, i < 24 → j < 24 → σ 19 i = D → σ 19 j = D → i = j := fun hD1 i j hi hj ei ej => hsh.2.2.2 i j hi hj (ei.trans ej.symm) (by rw [ei]; exact hD1)
      -- the two worlds at the end
      have done : (D = -1 ∨ ∃ k, k < d ∧ D = nI k) → Inv (gvd (ax_uc σ 19 (asg (σ 19) (2 * p + b) D)) n p (nI b) D) := by
        intro hDD
        rcases (show b = 0 ∨ b = 1 by omega) with rfl | rfl
        · show Inv (st2 _ _ _)
          exact ⟨n, d, t, c, h, r, q, f, y, hpl0.fr, hdr0.fr, sh_asg hn hpn (by omega) hsh hDD hd _ rfl rfl rfl, htp.fr, hmt.fr, has.fr, hct.fr, hrd.fr, hln.fr, hfl.fr, hli.fr⟩
        · show Inv (st2 _ _ _)
          exact ⟨n, d, t, c, h, r, q, f, y, hpl0.fr, hdr0.fr, sh_asg hn hpn (by omega) hsh hDD hd _ rfl rfl rfl, htp.fr, hmt.fr, has.fr, hct.fr, hrd.fr, hln.fr, hfl.fr, hli.fr⟩
      -- the reference's end
      have mend : (D = -1 ∨ ∃ k, k < d ∧ D = nI k) → (D = -1 ∨ 0 ≤ D.toInt) → ∀ P' : Option Value → ax_Sg → Prop, P' (some (.int (σ 19 (2 * p + b)))) (gvd (ax_uc σ 19 (asg (σ 19) (2 * p + b) D)) n p (nI b) D) → Ev l 115 0 [some (.ref 13), some (.int (nI p)), some (.int (nI b))] [] (ax_uc σ 19 (asg (σ 19) (2 * p + b) D)) (fun o7 σ8 => ax_oi o7 (fun v9 => Ev l 116 0 [some (.ref 13), some (.int (nI p)), some (.int (nI b)), some (.int D)] [] σ8 (fun o10 σ11 => ax_ov o10 (P' (some (.int v9)) σ11)))) := by
        intro hDD hD0 P' hP'
        refine b_X11_driverOf_0 _ _ ?_
        rw [cl_nI (by omega)]
        refine br_i (fun e => ⟨in_nI (by omega) (by decide), m_gives (σ := ax_uc σ 19 (asg (σ 19) (2 * p + b) D)) hn hm hpn _ _ hD0 ?_⟩) (fun e => ⟨in_nI (by omega) (by decide), m_gives (σ := ax_uc σ 19 (asg (σ 19) (2 * p + b) D)) hn hm hpn _ _ hD0 ?_⟩)
        · rw [hans, if_pos (hb0.mp e)] at hP'; exact hP'
        · rw [hans, if_neg (fun z => e (hb0.mpr z))] at hP'; exact hP'
      by_cases hD1 : D = -1
      · refine b_X10_drive_0 _ _ _ (pl_t hn hs hpn (br1 (wt h2 (br1 (br_t' hD1 ?_)))))
        rw [e2]
        refine c_assign (by omega) D hu ?_
        refine b_X11_drive_0 _ _ _ (mpl_t (n := n) hn hm hpn (br1 (ni_t h2 (br1 (br_t' hD1 (mend (Or.inl hD1) (Or.inl hD1) (fun o2 σ2 => ax_oi o2 fun w => σ 19 (2 * p + b) = w ∧ Inv σ2) (fin rfl (done (Or.inl hD1)))))))))
      · rcases nI_case D d (by omega) with ⟨k, hk, rfl⟩ | hD
        · refine b_X10_drive_0 _ _ _ (pl_t hn hs hpn (br1 (wt h2 (br1 (br_f' hD1 (dr_t hd hds hk (br1 ?_)))))))
          rw [e2]
          refine c_assign (by omega) _ hu ?_
          have hk0 : 0 ≤ (nI k).toInt := by rw [nI_toInt (by omega)]; omega
          exact b_X11_drive_0 _ _ _ (mpl_t (n := n) hn hm hpn (br1 (ni_t h2 (br1 (br_f' hD1 (mdr_t (n := d) hd hdm hk (br1 (mend (Or.inr ⟨k, hk, rfl⟩) (Or.inr hk0) (fun o2 σ2 => ax_oi o2 fun w => σ 19 (2 * p + b) = w ∧ Inv σ2) (fin rfl (done (Or.inr ⟨k, hk, rfl⟩)))))))))))
        · refine b_X10_drive_0 _ _ _ (pl_t hn hs hpn (br1 (wt h2 (br1 (br_f' hD1 (dr_f hd hds hD (br0 ?_)))))))
          exact b_X11_drive_0 _ _ _ (mpl_t (n := n) hn hm hpn (br1 (ni_t h2 (br1 (br_f' hD1 (mdr_f (n := d) hd hdm hD (br0 (fin rfl hI0))))))))
    · refine b_X10_drive_0 _ _ _ (pl_t hn hs hpn (br1 (wf h2 (br0 ?_))))
      exact b_X11_drive_0 _ _ _ (mpl_t (n := n) hn hm hpn (br1 (ni_f h2 (br0 (fin rfl hI0)))))
  · refine b_X10_drive_0 _ _ _ (pl_f hn hs hx (br0 ?_))
    exact b_X11_drive_0 _ _ _ (mpl_f (n := n) hn hm hx (br0 (fin rfl hI0)))
end Drive
