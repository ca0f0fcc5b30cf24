/-! stand, driven, about, rode, count -/
section OpsB
variable {l : Launch} {σ : ax_Sg} {P : Option Value → ax_Sg → Prop}
theorem c_may {n p : Nat} (hn : n ≤ 12) (hp : p < n) {x : Int32} (hx : 0 ≤ x.toInt) (hT : (¬ σ 14 p = 3 ∨ 2 ≤ x.toInt) → P (some (.int 1)) σ) (hF : ¬ (¬ σ 14 p = 3 ∨ 2 ≤ x.toInt) → P (some (.int 0)) σ) : Ev l 44 0 [some (.ref 1), some (.int (nI p)), some (.int x)] [] σ P := by
  refine b_X6_mayStand_0 _ x ?_
  rw [cl_nI (by omega)]
  have h2 : (2 : Int32).toInt = 2 := by decide
  refine ⟨in_nI (by omega) (by decide), br_i (fun h => br_i (fun h1 => ⟨nar0, hF ?_⟩) (fun h1 => ⟨nar1, hT (Or.inr ?_)⟩)) (fun h => ⟨nar1, hT (Or.inl h)⟩)⟩
  · rw [lt_toInt, h2] at h1
    rintro (h3 | h3)
    · exact h3 h
    · omega
  · rw [lt_toInt, h2] at h1; omega
theorem m_may {n p : Nat} (hn : n ≤ 12) (hp : p < n) {x : Int32} (hx : 0 ≤ x.toInt) (hT : (¬ σ 58 p = 3 ∨ 2 ≤ x.toInt) → P (some (.int 1)) σ) (hF : ¬ (¬ σ 58 p = 3 ∨ 2 ≤ x.toInt) → P (some (.int 0)) σ) : Ev l 135 0 [some (.ref 13), some (.int (nI p)), some (.int x)] [] σ P := by
  refine b_X11_mayStand_0 _ x ?_
  rw [cl_nI (by omega)]
  have h1' : (1 : Int32).toInt = 1 := by decide
  refine ⟨in_nI (by omega) (by decide), br_i (fun h => br_i (fun h1 => ⟨nar1, hT (Or.inr ?_)⟩) (fun h1 => ⟨nar0, hF ?_⟩)) (fun h => ⟨nar1, hT (Or.inl h)⟩)⟩
  · rw [lt_toInt, h1'] at h1; omega
  · rw [lt_toInt, h1'] at h1
    rintro (h3 | h3)
    · exact h3 h
    · omega
theorem stand_inv {n p d t c h r q f y : Nat} {v : Int32} (hv : rg (-1) 4 v) (hpn : p < n) (hn : n ≤ 12) (hpl : iv_pl n σ) (hdr : iv_dr d σ) (hsh : iv_sh n d σ) (htp : iv_tp t σ) (hmt : iv_mt c σ) (has : iv_as σ) (hct : iv_ct n h σ) (hrd : iv_rd r σ) (hln : iv_ln n q σ) (hfl : iv_fl f σ) (hli : iv_li n y σ) : Inv (ax_us (ax_us σ 31 p v) 65 (24 + p) v) := by
  refine ⟨n, d, t, c, h, r, q, f, y, hpl.fr, hdr.fr, hsh.fr, htp.fr, hmt.fr, has.fr, ?_, hrd.fr, hln.fr, hfl.fr, hli.fr⟩
  obtain ⟨g1, g2, g3, g4, g5, g6, g7, g8, g9, g10, g11, g12, g13⟩ := hct
  have e65 : ∀ i, i ≠ 24 + p → (ax_us (ax_us σ 31 p v) 65 (24 + p) v) 65 i = σ 65 i := fun i hi => upd_n _ _ hi
  have e65n : (ax_us (ax_us σ 31 p v) 65 (24 + p) v) 65 (24 + p) = v := upd_s _ _ _
  have e31 : ∀ i, i ≠ p → (ax_us (ax_us σ 31 p v) 65 (24 + p) v) 31 i = σ 31 i := fun i hi => upd_n _ _ hi
  have e31n : (ax_us (ax_us σ 31 p v) 65 (24 + p) v) 31 p = v := upd_s _ _ _
  refine ⟨g1, g2, g3, g4, g5, g6, fun i hi => ?_, fun i hi1 hi2 => ?_, fun i hi => ?_, fun j hj => ?_, fun i hi => ?_, g12, fun w hw => ?_⟩
  · by_cases e : i = p
    · subst e; rw [e65n, e31n]; exact ⟨rfl, hv⟩
    · rw [e65 _ (by omega), e31 _ e]; exact g7 i hi
  · rw [e31 _ (by omega)]; exact g8 i hi1 hi2
  · rw [e65 _ (by omega), e65 _ (by omega)]; exact g9 i hi
  · rw [e65 _ (by omega), e65 _ (by omega)]; exact g10 j hj
  · rw [e65 _ (by omega)]; exact g11 i hi
  · rw [e65 _ (by omega)]; exact g13 w hw
theorem pr_stand (hI : Inv σ) (x w : Int32) : Pr l 82 [some (.ref 0), some (.int x), some (.int w)] 136 [some (.ref 13), some (.int x), some (.int w), none] σ := by
  have hI0 := hI
  obtain ⟨n, d, t, c, h, r, q, f, y, hpl, hdr, hsh, htp, hmt, has, hct, hrd, hln, hfl, hli⟩ := hI
  have hpl0 := hpl
  obtain ⟨hn, hs, hm, hp⟩ := hpl
  have hm1 : (-1 : Int32).toInt = -1 := by decide
  have h00 : (0 : Int32).toInt = 0 := by decide
  rcases nI_case x n (by omega) with ⟨p, hpn, rfl⟩ | hx
  · have e24 : 24 + nI p = nI (24 + p) := nI_add 24 p
    have h31 : σ 31 p = σ 65 (24 + p) := (hct.2.2.2.2.2.2.1 p hpn).1
    have h14 : σ 14 p = σ 58 p := (hp p hpn).1
    by_cases hw1 : w = -1
    · refine b_X10_stand_0 _ _ (pl_t hn hs hpn (br1 (br_t' hw1 (br_t' hw1 (b_X1_put_r7_0 _ _ ?_)))))
      rw [cl_nI (by omega)]
      refine ⟨in_nI (by omega) (by decide), in_nI (by omega) (by decide), ?_⟩
      refine b_X11_stand_0 _ _ (mpl_t (n := n) hn hm hpn (br1 (br_t' hw1 (br_t' (by rw [hw1]; decide) ?_))))
      rw [e24, cl_nI (by omega)]
      exact ⟨in_nI (by omega) (by decide), in_nI (by omega) (by decide), fin h31 (stand_inv (by rw [hw1]; unfold rg; decide) hpn hn hpl0 hdr hsh htp hmt has hct hrd hln hfl hli)⟩
    · by_cases hw : 0 ≤ w.toInt ∧ w.toInt ≤ 4
      · by_cases hmay : ¬ σ 14 p = 3 ∨ 2 ≤ w.toInt
        · refine b_X10_stand_0 _ _ (pl_t hn hs hpn (br1 (br_f' hw1 (ward_t hw (br1 (br_f' hw1 (c_may hn hpn hw.1 (fun _ => br1 (b_X1_put_r7_0 _ _ ?_)) (fun z => absurd hmay z))))))))
          rw [cl_nI (by omega)]
          refine ⟨in_nI (by omega) (by decide), in_nI (by omega) (by decide), ?_⟩
          refine b_X11_stand_0 _ _ (mpl_t (n := n) hn hm hpn (br1 (br_f' hw1 (mward_t hw (br1 (br_f' (by rw [lt_toInt, h00]; omega) (m_may hn hpn hw.1 (fun _ => br1 ?_) (fun z => absurd (by show ¬ σ 58 p = 3 ∨ _; rw [← h14]; exact hmay) z))))))))
          rw [e24, cl_nI (by omega)]
          exact ⟨in_nI (by omega) (by decide), in_nI (by omega) (by decide), fin h31 (stand_inv ⟨by omega, hw.2⟩ hpn hn hpl0 hdr hsh htp hmt has hct hrd hln hfl hli)⟩
        · refine b_X10_stand_0 _ _ (pl_t hn hs hpn (br1 (br_f' hw1 (ward_t hw (br1 (br_f' hw1 (c_may hn hpn hw.1 (fun z => absurd z hmay) (fun _ => br0 ?_))))))))
          exact b_X11_stand_0 _ _ (mpl_t (n := n) hn hm hpn (br1 (br_f' hw1 (mward_t hw (br1 (br_f' (by rw [lt_toInt, h00]; omega) (m_may hn hpn hw.1 (fun z => absurd (by rw [h14]; exact z) hmay) (fun _ => br0 (fin rfl hI0)))))))))
      · refine b_X10_stand_0 _ _ (pl_t hn hs hpn (br1 (br_f' hw1 (ward_f hw (br0 ?_)))))
        exact b_X11_stand_0 _ _ (mpl_t (n := n) hn hm hpn (br1 (br_f' hw1 (mward_f hw (br0 (fin rfl hI0))))))
  · refine b_X10_stand_0 _ _ (pl_f hn hs hx (br0 ?_))
    exact b_X11_stand_0 _ _ (mpl_f (n := n) hn hm hx (br0 (fin rfl hI0)))
theorem pr_driven (hI : Inv σ) (x w : Int32) : Pr l 76 [some (.ref 0), some (.int x), some (.int w)] 119 [some (.ref 13), some (.int x), some (.int w)] σ := by
  have hI0 := hI
  obtain ⟨n, d, t, c, h, r, q, f, y, hpl, hdr, hsh, htp, hmt, has, hct, hrd, hln, hfl, hli⟩ := hI
  obtain ⟨hd, hs, hm, hp⟩ := hdr
  rcases nI_case x d (by omega) with ⟨p, hpn, rfl⟩ | hx
  · have e36 : 36 + nI p = nI (36 + p) := nI_add 36 p
    have e52 : 52 + nI p = nI (52 + p) := nI_add 52 p
    have hc := hct.2.2.2.2.2.2.2.2.2.1 p (by omega)
    by_cases h0 : w = 0
    · refine b_X10_driven_0 _ _ (dr_t hd hs hpn (br1 (swt h0 ⟨in_nI (by omega) (by decide), ?_⟩)))
      refine b_X11_driven_0 _ _ (mdr_t hd hm hpn (br1 (swt h0 ⟨in_nI (by omega) (by decide), fin ?_ hI0⟩)))
      rw [cl_nI (by omega)]; exact (hp p hpn).1
    · by_cases h1 : w = 1
      · refine b_X10_driven_0 _ _ (dr_t hd hs hpn (br1 (swf h0 (swt h1 ⟨in_nI (by omega) (by decide), ?_⟩))))
        refine b_X11_driven_0 _ _ (mdr_t hd hm hpn (br1 (swf h0 (swt h1 ?_))))
        rw [e36]
        exact ⟨in_nI (by omega) (by decide), fin (by rw [cl_nI (by omega), cl_nI (by omega)]; exact hc.1) hI0⟩
      · by_cases h2 : w = 2
        · refine b_X10_driven_0 _ _ (dr_t hd hs hpn (br1 (swf h0 (swf h1 (swt h2 ⟨in_nI (by omega) (by decide), ?_⟩)))))
          refine b_X11_driven_0 _ _ (mdr_t hd hm hpn (br1 (swf h0 (swf h1 (swt h2 ?_)))))
          rw [e52]
          exact ⟨in_nI (by omega) (by decide), fin (by rw [cl_nI (by omega), cl_nI (by omega)]; exact hc.2) hI0⟩
        · refine b_X10_driven_0 _ _ (dr_t hd hs hpn (br1 (swf h0 (swf h1 (swf h2 ?_)))))
          exact b_X11_driven_0 _ _ (mdr_t hd hm hpn (br1 (swf h0 (swf h1 (swf h2 (fin rfl hI0))))))
  · refine b_X10_driven_0 _ _ (dr_f hd hs hx (br0 ?_))
    exact b_X11_driven_0 _ _ (mdr_f hd hm hx (br0 (fin rfl hI0)))
theorem c_max (x y : Int32) (h : P (some (.int (if x < y then y else x))) σ) : Ev l 175 0 [some (.int x), some (.int y)] [] σ P := by
  refine b_J9_max_7cf53_0 x y (br_i (fun e => ?_) (fun e => ?_))
  · rw [if_pos e] at h; exact h
  · rw [if_neg e] at h; exact h
theorem c_min (x y : Int32) (h : P (some (.int (if y < x then y else x))) σ) : Ev l 176 0 [some (.int x), some (.int y)] [] σ P := by
  refine b_J9_min_7cf53_0 x y (br_i (fun e => ?_) (fun e => ?_))
  · rw [if_pos e] at h; exact h
  · rw [if_neg e] at h; exact h
theorem sub_toInt {x y : Int32} (h1 : -2147483648 ≤ x.toInt - y.toInt) (h2 : x.toInt - y.toInt < 2147483648) : (x - y).toInt = x.toInt - y.toInt := by
  rw [Int32.toInt_sub]
  exact Int.bmod_eq_of_le (by omega) (by omega)
theorem add_toInt {x y : Int32} (h1 : -2147483648 ≤ x.toInt + y.toInt) (h2 : x.toInt + y.toInt < 2147483648) : (x + y).toInt = x.toInt + y.toInt := by
  rw [Int32.toInt_add]
  exact Int.bmod_eq_of_le (by omega) (by omega)
theorem mul_toInt {x y : Int32} (h1 : -2147483648 ≤ x.toInt * y.toInt) (h2 : x.toInt * y.toInt < 2147483648) : (x * y).toInt = x.toInt * y.toInt := by
  rw [Int32.toInt_mul]
  exact Int.bmod_eq_of_le (by omega) (by omega)
theorem pr_about (hI : Inv σ) (x w : Int32) : Pr l 75 [some (.ref 0), some (.int x), some (.int w)] 118 [some (.ref 13), some (.int x), some (.int w)] σ := by
  have hI0 := hI
  obtain ⟨n, d, t, c, h, r, q, f, y, hpl, hdr, hsh, htp, hmt, has, hct, hrd, hln, hfl, hli⟩ := hI
  obtain ⟨hn, hs, hm, hp⟩ := hpl
  rcases nI_case x n (by omega) with ⟨p, hpn, rfl⟩ | hx
  · have e12 : 12 + nI p = nI (12 + p) := nI_add 12 p
    have e24 : 24 + nI p = nI (24 + p) := nI_add 24 p
    have e2 : nI p * 2 = nI (2 * p) := by rw [show (2 : Int32) = nI 2 from rfl, pk_mul, Nat.mul_comm]
    have e21 : nI p * 2 + 1 = nI (2 * p + 1) := by rw [e2]; exact nI_1 _
    have hc := hct.2.2.2.2.2.2.2.2.1 p (by omega)
    have hin : vp_in (nI p) 12 := in_nI (by omega) (by decide)
    have hin8 : vp_in (nI p) 88 := in_nI (by omega) (by decide)
    have hcl : (nI p).toNatClampNeg = p := cl_nI (by omega)
    by_cases h0 : w = 0
    · refine b_X10_about_0 _ _ (pl_t hn hs hpn (br1 (swt h0 ⟨hin, ?_⟩)))
      exact b_X11_about_0 _ _ (mpl_t hn hm hpn (br1 (swt h0 ⟨hin, fin (by rw [hcl]; exact (hp p hpn).1) hI0⟩)))
    by_cases h1 : w = 1
    · refine b_X10_about_0 _ _ (pl_t hn hs hpn (br1 (swf h0 (swt h1 ⟨hin, ?_⟩))))
      exact b_X11_about_0 _ _ (mpl_t hn hm hpn (br1 (swf h0 (swt h1 ⟨hin, fin (by rw [hcl]; exact (hp p hpn).2.1) hI0⟩))))
    by_cases h2 : w = 2
    · refine b_X10_about_0 _ _ (pl_t hn hs hpn (br1 (swf h0 (swf h1 (swt h2 ?_)))))
      rw [e2]
      refine ⟨in_nI (by omega) (by decide), ?_⟩
      exact b_X11_about_0 _ _ (mpl_t hn hm hpn (br1 (swf h0 (swf h1 (swt h2 ⟨hin, fin (by rw [hcl, cl_nI (by omega)]; exact (hsh.1 p hpn).1) hI0⟩)))))
    by_cases h3 : w = 3
    · refine b_X10_about_0 _ _ (pl_t hn hs hpn (br1 (swf h0 (swf h1 (swf h2 (swt h3 ?_))))))
      rw [e21]
      refine ⟨in_nI (by omega) (by decide), ?_⟩
      exact b_X11_about_0 _ _ (mpl_t hn hm hpn (br1 (swf h0 (swf h1 (swf h2 (swt h3 ⟨hin, fin (by rw [hcl, cl_nI (by omega)]; exact (hsh.1 p hpn).2) hI0⟩))))))
    by_cases h4 : w = 4
    · refine b_X10_about_0 _ _ (pl_t hn hs hpn (br1 (swf h0 (swf h1 (swf h2 (swf h3 (swt h4 ⟨hin, ?_⟩)))))))
      exact b_X11_about_0 _ _ (mpl_t hn hm hpn (br1 (swf h0 (swf h1 (swf h2 (swf h3 (swt h4 ⟨hin8, fin (by rw [hcl]; exact hc.1) hI0⟩)))))))
    by_cases h5 : w = 5
    · refine b_X10_about_0 _ _ (pl_t hn hs hpn (br1 (swf h0 (swf h1 (swf h2 (swf h3 (swf h4 (swt h5 ⟨hin, ?_⟩))))))))
      refine b_X11_about_0 _ _ (mpl_t hn hm hpn (br1 (swf h0 (swf h1 (swf h2 (swf h3 (swf h4 (swt h5 ?_))))))))
      rw [e12]
      exact ⟨in_nI (by omega) (by decide), fin (by rw [hcl, cl_nI (by omega)]; exact hc.2.1) hI0⟩
    by_cases h6 : w = 6
    · refine b_X10_about_0 _ _ (pl_t hn hs hpn (br1 (swf h0 (swf h1 (swf h2 (swf h3 (swf h4 (swf h5 (swt h6 ⟨hin, ?_⟩)))))))))
      refine b_X11_about_0 _ _ (mpl_t hn hm hpn (br1 (swf h0 (swf h1 (swf h2 (swf h3 (swf h4 (swf h5 (swt h6 ?_)))))))))
      rw [e24]
      exact ⟨in_nI (by omega) (by decide), fin (by rw [hcl, cl_nI (by omega)]; exact (hct.2.2.2.2.2.2.1 p hpn).1) hI0⟩
    by_cases h7 : w = 7
    · have h400 := hct.1
      obtain ⟨hc1, -, hc3, hc4⟩ := hc
      have h14 : σ 14 p = σ 58 p := (hp p hpn).1
      have h5i : (5 : Int32).toInt = 5 := by decide
      have h0i : (0 : Int32).toInt = 0 := by decide
      by_cases hk : σ 14 p = 1
      · have hsub : (5 - σ 32 p).toInt = 5 - (σ 32 p).toInt := by
          rw [sub_toInt (by rw [h5i]; omega) (by rw [h5i]; omega), h5i]
        refine b_X10_about_0 _ _ (pl_t hn hs hpn (br1 (swf h0 (swf h1 (swf h2 (swf h3 (swf h4 (swf h5 (swf h6 (swt h7 ⟨hin, b_X6_hoursDue_0 _ _ ⟨hin, br_t' (by rw [hcl]; exact hk) (c_max _ _ ?_)⟩⟩))))))))))
        rw [hcl]
        by_cases hlt : (σ 32 p).toInt < 5
        · rw [if_pos (by rw [lt_toInt, hsub, h0i]; omega)]
          exact b_X11_about_0 _ _ (mpl_t hn hm hpn (br1 (swf h0 (swf h1 (swf h2 (swf h3 (swf h4 (swf h5 (swf h6 (swt h7 ⟨hin, br_t' (by rw [hcl, ← h14]; exact hk) ⟨hin8, br_t' (by rw [hcl, ← hc1, lt_toInt, h5i]; exact hlt) ⟨hin8, fin (by rw [hcl, ← hc1]) hI0⟩⟩⟩))))))))))
        · rw [if_neg (by rw [lt_toInt, hsub, h0i]; omega)]
          exact b_X11_about_0 _ _ (mpl_t hn hm hpn (br1 (swf h0 (swf h1 (swf h2 (swf h3 (swf h4 (swf h5 (swf h6 (swt h7 ⟨hin, br_t' (by rw [hcl, ← h14]; exact hk) ⟨hin8, br_f' (by rw [hcl, ← hc1, lt_toInt, h5i]; exact hlt) (fin rfl hI0)⟩⟩))))))))))
      · refine b_X10_about_0 _ _ (pl_t hn hs hpn (br1 (swf h0 (swf h1 (swf h2 (swf h3 (swf h4 (swf h5 (swf h6 (swt h7 ⟨hin, b_X6_hoursDue_0 _ _ ⟨hin, br_f' (by rw [hcl]; exact hk) ?_⟩⟩))))))))))
        exact b_X11_about_0 _ _ (mpl_t hn hm hpn (br1 (swf h0 (swf h1 (swf h2 (swf h3 (swf h4 (swf h5 (swf h6 (swt h7 ⟨hin, br_f' (by rw [hcl, ← h14]; exact hk) (fin rfl hI0)⟩))))))))))
    · refine b_X10_about_0 _ _ (pl_t hn hs hpn (br1 (swf h0 (swf h1 (swf h2 (swf h3 (swf h4 (swf h5 (swf h6 (swf h7 ?_))))))))))
      exact b_X11_about_0 _ _ (mpl_t hn hm hpn (br1 (swf h0 (swf h1 (swf h2 (swf h3 (swf h4 (swf h5 (swf h6 (swf h7 (fin rfl hI0)))))))))))
  · refine b_X10_about_0 _ _ (pl_f hn hs hx (br0 ?_))
    exact b_X11_about_0 _ _ (mpl_f hn hm hx (br0 (fin rfl hI0)))
theorem pr_rode (hI : Inv σ) (x w : Int32) : Pr l 86 [some (.ref 0), some (.int x), some (.int w)] 146 [some (.ref 13), some (.int x), some (.int w)] σ := by
  have hI0 := hI
  obtain ⟨n, d, t, c, h, r, q, f, y, hpl, hdr, hsh, htp, hmt, has, hct, hrd, hln, hfl, hli⟩ := hI
  obtain ⟨hr, hs, hm, hp⟩ := hrd
  have hb64 : (Int32.toInt64 (σ 13 15 - 1)).toInt = (r : Int) - 1 := by rw [hm, Int32.toInt_toInt64]; exact sub1_toInt (by omega)
  rcases nI_case x r (by omega) with ⟨k, hk, rfl⟩ | hx
  · have hxk : 0 ≤ (nI k).toInt ∧ (nI k).toInt ≤ (r : Int) - 1 := by rw [nI_toInt (by omega)]; omega
    have hin : vp_in (nI k) 300 := in_nI (by omega) (by decide)
    have hcl : (nI k).toNatClampNeg = k := cl_nI (by omega)
    obtain ⟨p0, p1, p2, p3, p4⟩ := hp k hk
    by_cases hw : 0 ≤ w.toInt ∧ w.toInt ≤ 4
    · obtain ⟨b, hb, rfl⟩ := nat_of (b := 4) hw.1 hw.2
      refine b_X10_rode_0 _ _ (b_X7_has_0 _ ?_)
      rw [hs]
      refine wt hxk ⟨nar1, br1 (wt hw (br1 (b_X7_detail_0 _ _ ?_)))⟩ (by decide) (sub1_toInt (by omega))
      rw [ix5]
      refine ⟨in_nI (by omega) (by decide), ?_⟩
      rw [cl_nI (by omega)]
      have go : (∀ Q : Prop, Q → Q) := fun _ z => z
      refine b_X11_rode_0 _ _ (ni_t hxk (br1 ?_) (by decide) hb64)
      rcases (show b = 0 ∨ b = 1 ∨ b = 2 ∨ b = 3 ∨ b = 4 by omega) with rfl | rfl | rfl | rfl | rfl
      · exact swt rfl ⟨hin, fin (by rw [hcl]; exact p0) hI0⟩
      · exact swf (by decide) (swt rfl ⟨hin, fin (by rw [hcl]; exact p1) hI0⟩)
      · exact swf (by decide) (swf (by decide) (swt rfl ⟨hin, fin (by rw [hcl]; exact p2) hI0⟩))
      · exact swf (by decide) (swf (by decide) (swf (by decide) (swt rfl ⟨hin, fin (by rw [hcl]; exact p3) hI0⟩)))
      · exact swf (by decide) (swf (by decide) (swf (by decide) (swf (by decide) (swt rfl ⟨hin, fin (by rw [hcl]; exact p4) hI0⟩))))
    · have nn : ∀ m : Nat, m ≤ 4 → ¬ w = nI m := fun m hm e => hw (by rw [e, nI_toInt (by omega)]; omega)
      refine b_X10_rode_0 _ _ (b_X7_has_0 _ ?_)
      rw [hs]
      refine wt hxk ⟨nar1, br1 (wf hw (br0 ?_))⟩ (by decide) (sub1_toInt (by omega))
      exact b_X11_rode_0 _ _ (ni_t hxk (br1 (swf (nn 0 (by omega)) (swf (nn 1 (by omega)) (swf (nn 2 (by omega)) (swf (nn 3 (by omega)) (swf (nn 4 (by omega)) (fin rfl hI0))))))) (by decide) hb64)
  · have hx2 : ¬ (0 ≤ x.toInt ∧ x.toInt ≤ (r : Int) - 1) := by omega
    refine b_X10_rode_0 _ _ (b_X7_has_0 _ ?_)
    rw [hs]
    refine wf hx2 ⟨nar0, br0 ?_⟩ (by decide) (sub1_toInt (by omega))
    exact b_X11_rode_0 _ _ (ni_f hx2 (br0 (fin rfl hI0)) (by decide) hb64)
theorem pr_count (hI : Inv σ) (w : Int32) : Pr l 101 [some (.ref 0), some (.int w)] 172 [some (.ref 13), some (.int w)] σ := by
  have hI0 := hI
  obtain ⟨n, d, t, c, h, r, q, f, y, hpl, hdr, hsh, htp, hmt, has, hct, hrd, hln, hfl, hli⟩ := hI
  have F : ∀ v : Int32, v = v := fun _ => rfl
  by_cases h0 : w = 0
  · exact b_X10_count_0 _ (swt h0 (b_X11_count_0 _ (swt h0 (fin (hpl.2.1.trans hpl.2.2.1.symm) hI0))))
  by_cases h1 : w = 1
  · exact b_X10_count_0 _ (swf h0 (swt h1 (b_X11_count_0 _ (swf h0 (swt h1 (fin (hdr.2.1.trans hdr.2.2.1.symm) hI0))))))
  by_cases h2 : w = 2
  · exact b_X10_count_0 _ (swf h0 (swf h1 (swt h2 (b_X11_count_0 _ (swf h0 (swf h1 (swt h2 (fin (hct.2.1.trans hct.2.2.1.symm) hI0))))))))
  by_cases h3 : w = 3
  · exact b_X10_count_0 _ (swf h0 (swf h1 (swf h2 (swt h3 (b_X11_count_0 _ (swf h0 (swf h1 (swf h2 (swt h3 (fin hct.2.2.2.1 hI0))))))))))
  by_cases h4 : w = 4
  · exact b_X10_count_0 _ (swf h0 (swf h1 (swf h2 (swf h3 (swt h4 (b_X11_count_0 _ (swf h0 (swf h1 (swf h2 (swf h3 (swt h4 (fin hct.2.2.2.2.1 hI0))))))))))))
  by_cases h5 : w = 5
  · exact b_X10_count_0 _ (swf h0 (swf h1 (swf h2 (swf h3 (swf h4 (swt h5 (b_X11_count_0 _ (swf h0 (swf h1 (swf h2 (swf h3 (swf h4 (swt h5 (fin hct.2.2.2.2.2.1 hI0))))))))))))))
  by_cases h6 : w = 6
  · exact b_X10_count_0 _ (swf h0 (swf h1 (swf h2 (swf h3 (swf h4 (swf h5 (swt h6 (b_X11_count_0 _ (swf h0 (swf h1 (swf h2 (swf h3 (swf h4 (swf h5 (swt h6 (fin (hln.2.1.trans hln.2.2.1.symm) hI0))))))))))))))))
  by_cases h7 : w = 7
  · exact b_X10_count_0 _ (swf h0 (swf h1 (swf h2 (swf h3 (swf h4 (swf h5 (swf h6 (swt h7 (b_X11_count_0 _ (swf h0 (swf h1 (swf h2 (swf h3 (swf h4 (swf h5 (swf h6 (swt h7 (fin (hli.2.1.trans hli.2.2.1.symm) hI0))))))))))))))))))
  by_cases h8 : w = 8
  · exact b_X10_count_0 _ (swf h0 (swf h1 (swf h2 (swf h3 (swf h4 (swf h5 (swf h6 (swf h7 (swt h8 (b_X11_count_0 _ (swf h0 (swf h1 (swf h2 (swf h3 (swf h4 (swf h5 (swf h6 (swf h7 (swt h8 (fin (hfl.2.1.trans hfl.2.2.1.symm) hI0))))))))))))))))))))
  by_cases h9 : w = 9
  · exact b_X10_count_0 _ (swf h0 (swf h1 (swf h2 (swf h3 (swf h4 (swf h5 (swf h6 (swf h7 (swf h8 (swt h9 (b_X11_count_0 _ (swf h0 (swf h1 (swf h2 (swf h3 (swf h4 (swf h5 (swf h6 (swf h7 (swf h8 (swt h9 (fin (htp.2.1.trans htp.2.2.1.symm) hI0))))))))))))))))))))))
  by_cases h10 : w = 10
  · exact b_X10_count_0 _ (swf h0 (swf h1 (swf h2 (swf h3 (swf h4 (swf h5 (swf h6 (swf h7 (swf h8 (swf h9 (swt h10 (b_X11_count_0 _ (swf h0 (swf h1 (swf h2 (swf h3 (swf h4 (swf h5 (swf h6 (swf h7 (swf h8 (swf h9 (swt h10 (fin (hrd.2.1.trans hrd.2.2.1.symm) hI0))))))))))))))))))))))))
  · exact b_X10_count_0 _ (swf h0 (swf h1 (swf h2 (swf h3 (swf h4 (swf h5 (swf h6 (swf h7 (swf h8 (swf h9 (swf h10 (b_X11_count_0 _ (swf h0 (swf h1 (swf h2 (swf h3 (swf h4 (swf h5 (swf h6 (swf h7 (swf h8 (swf h9 (swf h10 (fin rfl hI0))))))))))))))))))))))))
end OpsB
