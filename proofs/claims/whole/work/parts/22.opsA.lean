/-! plates, drivers, asks, rents, loans, fleets: the calls without loops -/
theorem fin {v w : Int32} {σ : ax_Sg} (h : v = w) (hI : Inv σ) : ax_oi (some (.int w)) (fun w' => v = w' ∧ Inv σ) := And.intro h hI
theorem nI_ne {a b : Nat} (ha : a < 2 ^ 31) (hb : b < 2 ^ 31) (h : a ≠ b) : ¬ nI a = nI b := fun e => h ((nI_eq ha hb).mp e)
theorem nI_inc (n : Nat) : nI n + 1 - 1 = nI n := by rw [nI_1]; exact nI_pred n
theorem upd_all {f g : Nat → Int32} {n : Nat} {v : Int32} {Q : Nat → Int32 → Prop} (h : ∀ p, p < n → Q p (f p)) (hn : Q n v) : ∀ p, p < n + 1 → Q p (upd f n v p) := by
  intro p hp
  by_cases e : p = n
  · subst e; rw [upd_s]; exact hn
  · rw [upd_n _ _ e]; exact h p (by omega)
section OpsA
variable {l : Launch} {σ : ax_Sg}
def cs_plate (n : Nat) (k o le co : Int32) (σ : ax_Sg) : ax_Sg := ax_us (ax_us (ax_us (ax_us (ax_us σ 14 n k) 15 n o) 16 n le) 17 n co) 1 4 (nI n + 1)
def ms_plate (n : Nat) (k o le co : Int32) (σ : ax_Sg) : ax_Sg := ax_us (ax_us (ax_us (ax_us (ax_us (ax_us (ax_us (ax_us σ 58 n k) 59 n o) 60 n le) 61 n co) 63 n (-1)) 64 n (-1)) 65 (24 + n) (-1)) 13 7 (nI n + 1)
theorem pr_plate (hI : Inv σ) (k o le co : Int32) : Pr l 72 [some (.ref 0), some (.int k), some (.int o), some (.int le), some (.int co)] 112 [some (.ref 13), some (.int k), some (.int o), some (.int le), some (.int co), none] σ := by
  have hI0 := hI
  obtain ⟨n, d, t, c, h, r, q, f, y, hpl, hdr, hsh, htp, hmt, has, hct, hrd, hln, hfl, hli⟩ := hI
  have hpl0 := hpl
  obtain ⟨hn, hs, hm, hp⟩ := hpl
  by_cases hk : 0 ≤ k.toInt ∧ k.toInt ≤ 3
  · by_cases ho : 0 ≤ o.toInt ∧ o.toInt ≤ 5
    · by_cases hl : 0 ≤ le.toInt ∧ le.toInt ≤ 9999
      · by_cases hc : 0 ≤ co.toInt ∧ co.toInt ≤ 9999
        · by_cases hn2 : n = 12
          · subst hn2
            refine b_X10_plate_0 k o le co (wt hk (br1 (wt ho (br1 (rent_t hl hc (br1 (br_t' hs ?_)))))))
            exact b_X11_plate_0 k o le co (ni_t hk (br1 (ni_t ho (br1 (ni_t hl (br1 (ni_t hc (br1 (br_t' hm (fin rfl hI0))))))))))
          · have hn3 : n < 12 := by omega
            have h12 : ¬ nI n = 12 := nI_ne (b := 12) (by omega) (by decide) hn2
            refine b_X10_plate_0 k o le co (wt hk (br1 (wt ho (br1 (rent_t hl hc (br1 (br_f' (by rw [hs]; exact h12) (b_X6_add_0 k o le co ?_))))))))
            rw [hs, cl_nI (by omega)]
            refine ⟨in_nI hn3 (by decide), in_nI hn3 (by decide), in_nI hn3 (by decide), in_nI hn3 (by decide), ?_⟩
            show Ev l 112 0 [some (.ref 13), some (.int k), some (.int o), some (.int le), some (.int co), none] [] (cs_plate n k o le co σ) (fun o2 σ2 => ax_oi o2 fun w => nI n + 1 - 1 = w ∧ Inv σ2)
            have hm1 : (cs_plate n k o le co σ) 13 7 = nI n := hm
            refine b_X11_plate_0 k o le co (ni_t hk (br1 (ni_t ho (br1 (ni_t hl (br1 (ni_t hc (br1 (br_f' (by rw [hm1]; exact h12) ?_)))))))))
            have e24 : 24 + nI n = nI (24 + n) := nI_add 24 n
            rw [hm1, e24, cl_nI (by omega), cl_nI (by omega)]
            refine ⟨in_nI hn3 (by decide), in_nI hn3 (by decide), in_nI hn3 (by decide), in_nI hn3 (by decide), in_nI hn3 (by decide), in_nI hn3 (by decide), in_nI (by omega) (by decide), ?_⟩
            refine fin (nI_inc n) ?_
            show Inv (ms_plate n k o le co (cs_plate n k o le co σ))
            refine ⟨n + 1, d, t, c, h, r, q, f, y, ?_, hdr.fr, ?_, htp.fr, hmt.fr, has.fr, ?_, hrd.fr, ?_, hfl.fr, ?_⟩
            · refine ⟨by omega, nI_1 n, nI_1 n, fun p hp1 => ?_⟩
              show upd (σ 14) n k p = upd (σ 58) n k p ∧ upd (σ 15) n o p = upd (σ 59) n o p ∧ upd (σ 16) n le p = upd (σ 60) n le p ∧ upd (σ 17) n co p = upd (σ 61) n co p ∧ rg 0 3 (upd (σ 14) n k p) ∧ rg 0 9999 (upd (σ 16) n le p) ∧ rg 0 9999 (upd (σ 17) n co p)
              by_cases e : p = n
              · subst e; simp only [upd_s]; exact ⟨trivial, trivial, trivial, trivial, hk, hl, hc⟩
              · simp only [upd_n _ _ e]; exact hp p (by omega)
            · obtain ⟨h1, h2, h3, h4⟩ := hsh
              refine ⟨fun p hp1 => ?_, fun i hi => h2 i (by omega), h3, h4⟩
              show σ 19 (2 * p) = upd (σ 63) n (-1) p ∧ σ 19 (2 * p + 1) = upd (σ 64) n (-1) p
              by_cases e : p = n
              · subst e; simp only [upd_s]; exact ⟨h2 _ (by omega) (by omega), h2 _ (by omega) (by omega)⟩
              · simp only [upd_n _ _ e]; exact h1 p (by omega)
            · obtain ⟨g1, g2, g3, g4, g5, g6, g7, g8, g9, g10, g11, g12, g13⟩ := hct
              have e65 : ∀ i, i ≠ 24 + n → (ms_plate n k o le co (cs_plate n k o le co σ)) 65 i = σ 65 i := fun i hi => upd_n _ _ hi
              have e65n : (ms_plate n k o le co (cs_plate n k o le co σ)) 65 (24 + n) = -1 := upd_s _ _ _
              refine ⟨g1, g2, g3, g4, g5, g6, fun p hp1 => ?_, fun p hp1 hp2 => g8 p (by omega) hp2, fun p hp1 => ?_, fun j hj => ?_, fun i hi => ?_, g12, fun w hw => ?_⟩
              · by_cases e : p = n
                · subst e
                  rw [e65n]
                  exact ⟨g8 p (by omega) (by omega), by show rg (-1) 4 (σ 31 p); rw [g8 p (by omega) (by omega)]; unfold rg; decide⟩
                · rw [e65 _ (by omega)]; exact g7 p (by omega)
              · rw [e65 _ (by omega), e65 _ (by omega)]; exact g9 p hp1
              · rw [e65 _ (by omega), e65 _ (by omega)]; exact g10 j hj
              · rw [e65 _ (by omega)]; exact g11 i hi
              · rw [e65 _ (by omega)]; exact g13 w hw
            · obtain ⟨g1, g2, g3, g4⟩ := hln
              exact ⟨g1, g2, g3, fun i hi => by
                obtain ⟨a1, ⟨p, a2, a3⟩, a4⟩ := g4 i hi
                exact ⟨a1, ⟨p, by omega, a3⟩, a4⟩⟩
            · obtain ⟨g1, g2, g3, g4, g5⟩ := hli
              exact ⟨g1, g2, g3, fun i hi => by
                obtain ⟨a1, p, a2, a3⟩ := g4 i hi
                exact ⟨a1, p, by omega, a3⟩, g5⟩
        · refine b_X10_plate_0 k o le co (wt hk (br1 (wt ho (br1 (rent_f (fun z => hc z.2) (br0 ?_))))))
          exact b_X11_plate_0 k o le co (ni_t hk (br1 (ni_t ho (br1 (ni_t hl (br1 (ni_f hc (br0 (fin rfl hI0)))))))))
      · refine b_X10_plate_0 k o le co (wt hk (br1 (wt ho (br1 (rent_f (fun z => hl z.1) (br0 ?_))))))
        exact b_X11_plate_0 k o le co (ni_t hk (br1 (ni_t ho (br1 (ni_f hl (br0 (fin rfl hI0)))))))
    · refine b_X10_plate_0 k o le co (wt hk (br1 (wf ho (br0 ?_))))
      exact b_X11_plate_0 k o le co (ni_t hk (br1 (ni_f ho (br0 (fin rfl hI0)))))
  · refine b_X10_plate_0 k o le co (wf hk (br0 ?_))
    exact b_X11_plate_0 k o le co (ni_f hk (br0 (fin rfl hI0)))
theorem swt {x c : Int32} {A B : Prop} (h : x = c) (a : A) : (x = c → A) ∧ (¬ x = c → B) := ⟨fun _ => a, fun n => absurd h n⟩
theorem swf {x c : Int32} {A B : Prop} (h : ¬ x = c) (b : B) : (x = c → A) ∧ (¬ x = c → B) := ⟨fun e => absurd e h, fun _ => b⟩
theorem pr_driver (hI : Inv σ) (w : Int32) : Pr l 73 [some (.ref 0), some (.int w)] 113 [some (.ref 13), some (.int w)] σ := by
  have hI0 := hI
  obtain ⟨n, d, t, c, h, r, q, f, y, hpl, hdr, hsh, htp, hmt, has, hct, hrd, hln, hfl, hli⟩ := hI
  obtain ⟨hd, hs, hm, hp⟩ := hdr
  by_cases hw : 0 ≤ w.toInt ∧ w.toInt ≤ 2
  · by_cases hd2 : d = 16
    · subst hd2
      refine b_X10_driver_0 w (wt hw (br1 (br_t' hs ?_)))
      exact b_X11_driver_0 w (ni_t hw (br1 (br_t' hm (fin rfl hI0))))
    · have hd3 : d < 16 := by omega
      have h16 : ¬ nI d = 16 := nI_ne (b := 16) (by omega) (by decide) hd2
      refine b_X10_driver_0 w (wt hw (br1 (br_f' (by rw [hs]; exact h16) (b_X8_addDriver_0 w ?_))))
      rw [hs, cl_nI (by omega)]
      refine ⟨in_nI hd3 (by decide), ?_⟩
      have hm1 : (ax_us (ax_us σ 18 d w) 2 2 (nI d + 1)) 13 8 = nI d := hm
      refine b_X11_driver_0 w (ni_t hw (br1 (br_f' (by rw [hm1]; exact h16) ?_)))
      rw [hm1, cl_nI (by omega)]
      refine ⟨in_nI hd3 (by decide), fin rfl ?_⟩
      refine ⟨n, d + 1, t, c, h, r, q, f, y, hpl.fr, ⟨by omega, nI_1 d, nI_1 d, fun k hk => ?_⟩, ?_, htp.fr, hmt.fr, has.fr, hct.fr, hrd.fr, hln.fr, hfl.fr, hli.fr⟩
      · show upd (σ 18) d w k = upd (σ 62) d w k ∧ rg 0 2 (upd (σ 18) d w k)
        by_cases e : k = d
        · subst e; simp only [upd_s]; exact ⟨trivial, hw⟩
        · simp only [upd_n _ _ e]; exact hp k (by omega)
      · obtain ⟨h1, h2, h3, h4⟩ := hsh
        exact ⟨h1, h2, fun i hi => (h3 i hi).imp id (fun ⟨k, a, b⟩ => ⟨k, by omega, b⟩), h4⟩
  · refine b_X10_driver_0 w (wf hw (br0 ?_))
    exact b_X11_driver_0 w (ni_f hw (br0 (fin rfl hI0)))
theorem ix5 (a b : Nat) : nI a * 5 + nI b = nI (a * 5 + b) := by rw [show (5 : Int32) = nI 5 from rfl, pk_mul, nI_add]
theorem ix5' (a b : Nat) : 5 * nI a + nI b = nI (a * 5 + b) := by rw [show (5 : Int32) = nI 5 from rfl, pk_mul, nI_add, Nat.mul_comm]
theorem pr_ask (hI : Inv σ) (hh w v : Int32) : Pr l 81 [some (.ref 0), some (.int hh), some (.int w), some (.int v)] 134 [some (.ref 13), some (.int hh), some (.int w), some (.int v), none] σ := by
  have hI0 := hI
  obtain ⟨n, d, t, c, h, r, q, f, y, hpl, hdr, hsh, htp, hmt, has, hct, hrd, hln, hfl, hli⟩ := hI
  by_cases h1 : 0 ≤ hh.toInt ∧ hh.toInt ≤ 23
  · by_cases h2 : 0 ≤ w.toInt ∧ w.toInt ≤ 4
    · by_cases h3 : 0 ≤ v.toInt ∧ v.toInt ≤ 20
      · obtain ⟨a, ha, rfl⟩ := nat_of (b := 23) h1.1 h1.2
        obtain ⟨b, hb, rfl⟩ := nat_of (b := 4) h2.1 h2.2
        refine b_X10_ask_0 _ _ v (wt h1 (br1 (ward_t h2 (br1 (wt h3 (br1 (b_X0_replace_0 _ _ v (b_X0_at_0 _ _ ?_))))))))
        rw [ix5, cl_nI (by omega)]
        refine ⟨in_nI (by omega) (by decide), in_nI (by omega) (by decide), ?_⟩
        refine b_X11_ask_0 _ _ v (ni_t h1 (br1 (mward_t h2 (br1 (ni_t h3 (br1 ?_))))))
        rw [ix5', cl_nI (by omega)]
        refine ⟨in_nI (by omega) (by decide), in_nI (by omega) (by decide), fin (has _ (by omega)).1 ?_⟩
        refine ⟨n, d, t, c, h, r, q, f, y, hpl.fr, hdr.fr, hsh.fr, htp.fr, hmt.fr, fun i hi => ?_, hct.fr, hrd.fr, hln.fr, hfl.fr, hli.fr⟩
        show upd (σ 29) (a * 5 + b) v i = upd (σ 72) (a * 5 + b) v i ∧ rg 0 20 (upd (σ 29) (a * 5 + b) v i)
        by_cases e : i = a * 5 + b
        · subst e; simp only [upd_s]; exact ⟨trivial, h3⟩
        · simp only [upd_n _ _ e]; exact has i hi
      · refine b_X10_ask_0 _ _ v (wt h1 (br1 (ward_t h2 (br1 (wf h3 (br0 ?_))))))
        exact b_X11_ask_0 _ _ v (ni_t h1 (br1 (mward_t h2 (br1 (ni_f h3 (br0 (fin rfl hI0)))))))
    · refine b_X10_ask_0 _ _ v (wt h1 (br1 (ward_f h2 (br0 ?_))))
      exact b_X11_ask_0 _ _ v (ni_t h1 (br1 (mward_f h2 (br0 (fin rfl hI0)))))
  · refine b_X10_ask_0 _ _ v (wf h1 (br0 ?_))
    exact b_X11_ask_0 _ _ v (ni_f h1 (br0 (fin rfl hI0)))
theorem pr_rent (hI : Inv σ) (x le co : Int32) : Pr l 88 [some (.ref 0), some (.int x), some (.int le), some (.int co)] 150 [some (.ref 13), some (.int x), some (.int le), some (.int co), none] σ := by
  have hI0 := hI
  obtain ⟨n, d, t, c, h, r, q, f, y, hpl, hdr, hsh, htp, hmt, has, hct, hrd, hln, hfl, hli⟩ := hI
  obtain ⟨hn, hs, hm, hp⟩ := hpl
  rcases nI_case x n (by omega) with ⟨p, hpn, rfl⟩ | hx
  · by_cases hl : 0 ≤ le.toInt ∧ le.toInt ≤ 9999
    · by_cases hc : 0 ≤ co.toInt ∧ co.toInt ≤ 9999
      · refine b_X10_rent_0 _ _ _ (pl_t hn hs hpn (br1 (rent_t hl hc (br1 (b_X6_replaceRent_0 _ _ _ ?_)))))
        rw [cl_nI (by omega)]
        refine ⟨in_nI (by omega) (by decide), in_nI (by omega) (by decide), in_nI (by omega) (by decide), ?_⟩
        refine b_X11_rent_0 _ _ _ (mpl_t hn hm hpn (br1 (ni_t hl (br1 (ni_t hc (br1 ?_))))))
        rw [cl_nI (by omega)]
        refine ⟨in_nI (by omega) (by decide), in_nI (by omega) (by decide), in_nI (by omega) (by decide), fin (hp p hpn).2.2.1 ?_⟩
        refine ⟨n, d, t, c, h, r, q, f, y, ⟨hn, hs, hm, fun p1 hp1 => ?_⟩, hdr.fr, hsh.fr, htp.fr, hmt.fr, has.fr, hct.fr, hrd.fr, hln.fr, hfl.fr, hli.fr⟩
        show σ 14 p1 = σ 58 p1 ∧ σ 15 p1 = σ 59 p1 ∧ upd (σ 16) p le p1 = upd (σ 60) p le p1 ∧ upd (σ 17) p co p1 = upd (σ 61) p co p1 ∧ rg 0 3 (σ 14 p1) ∧ rg 0 9999 (upd (σ 16) p le p1) ∧ rg 0 9999 (upd (σ 17) p co p1)
        obtain ⟨a1, a2, a3, a4, a5, a6, a7⟩ := hp p1 hp1
        by_cases e : p1 = p
        · subst e; simp only [upd_s]; exact ⟨a1, a2, trivial, trivial, a5, hl, hc⟩
        · simp only [upd_n _ _ e]; exact ⟨a1, a2, a3, a4, a5, a6, a7⟩
      · refine b_X10_rent_0 _ _ _ (pl_t hn hs hpn (br1 (rent_f (fun z => hc z.2) (br0 ?_))))
        exact b_X11_rent_0 _ _ _ (mpl_t hn hm hpn (br1 (ni_t hl (br1 (ni_f hc (br0 (fin rfl hI0)))))))
    · refine b_X10_rent_0 _ _ _ (pl_t hn hs hpn (br1 (rent_f (fun z => hl z.1) (br0 ?_))))
      exact b_X11_rent_0 _ _ _ (mpl_t hn hm hpn (br1 (ni_f hl (br0 (fin rfl hI0)))))
  · refine b_X10_rent_0 _ _ _ (pl_f hn hs hx (br0 ?_))
    exact b_X11_rent_0 _ _ _ (mpl_f hn hm hx (br0 (fin rfl hI0)))
theorem pr_loan (hI : Inv σ) (x rk sm : Int32) : Pr l 89 [some (.ref 0), some (.int x), some (.int rk), some (.int sm)] 151 [some (.ref 13), some (.int x), some (.int rk), some (.int sm)] σ := by
  have hI0 := hI
  obtain ⟨n, d, t, c, h, r, q, f, y, hpl, hdr, hsh, htp, hmt, has, hct, hrd, hln, hfl, hli⟩ := hI
  have hpl0 := hpl
  obtain ⟨hn, hs, hm, hp⟩ := hpl
  obtain ⟨hq, hqs, hqm, hqp⟩ := hln
  rcases nI_case x n (by omega) with ⟨p, hpn, rfl⟩ | hx
  · by_cases hr : 0 ≤ rk.toInt ∧ rk.toInt ≤ 9
    · by_cases hsm : 1 ≤ sm.toInt ∧ sm.toInt ≤ 99999
      · by_cases hq2 : q = 30
        · subst hq2
          refine b_X10_loan_0 _ _ _ (pl_t hn hs hpn (br1 (wt hr (br1 (wt hsm (br1 (br_t' hqs ?_)))))))
          exact b_X11_loan_0 _ _ _ (mpl_t hn hm hpn (br1 (ni_t hr (br1 (ni_t hsm (br1 (br_t' hqm (fin rfl hI0))))))))
        · have h30 : ¬ nI q = 30 := nI_ne (b := 30) (by omega) (by decide) hq2
          refine b_X10_loan_0 _ _ _ (pl_t hn hs hpn (br1 (wt hr (br1 (wt hsm (br1 (br_f' (by rw [hqs]; exact h30) (b_X4_add_0 _ _ _ ?_))))))))
          rw [hqs, cl_nI (by omega)]
          refine ⟨in_nI (by omega) (by decide), in_nI (by omega) (by decide), in_nI (by omega) (by decide), ?_⟩
          have hm1 : (ax_us (ax_us (ax_us (ax_us σ 47 q (nI p)) 48 q rk) 49 q sm) 9 4 (nI q + 1)) 13 42 = nI q := hqm
          refine b_X11_loan_0 _ _ _ (mpl_t (n := n) hn hm hpn (br1 (ni_t hr (br1 (ni_t hsm (br1 (br_f' (by rw [hm1]; exact h30) ?_)))))))
          rw [hm1, cl_nI (by omega)]
          refine ⟨in_nI (by omega) (by decide), in_nI (by omega) (by decide), in_nI (by omega) (by decide), fin rfl ?_⟩
          refine ⟨n, d, t, c, h, r, q + 1, f, y, hpl0.fr, hdr.fr, hsh.fr, htp.fr, hmt.fr, has.fr, hct.fr, hrd.fr, ⟨by omega, nI_1 q, nI_1 q, fun i hi => ?_⟩, hfl.fr, hli.fr⟩
          show upd (σ 47) q (nI p) i = upd (σ 84) q (nI p) i ∧ (∃ p', p' < n ∧ upd (σ 47) q (nI p) i = nI p') ∧ upd (σ 48) q rk i = upd (σ 85) q rk i ∧ rg 0 9 (upd (σ 48) q rk i) ∧ upd (σ 49) q sm i = upd (σ 86) q sm i ∧ rg 0 99999 (upd (σ 49) q sm i)
          by_cases e : i = q
          · subst e; simp only [upd_s]; exact ⟨trivial, ⟨p, hpn, rfl⟩, trivial, hr, trivial, ⟨by have := hsm.1; omega, hsm.2⟩⟩
          · simp only [upd_n _ _ e]; exact hqp i (by omega)
      · refine b_X10_loan_0 _ _ _ (pl_t hn hs hpn (br1 (wt hr (br1 (wf hsm (br0 ?_))))))
        exact b_X11_loan_0 _ _ _ (mpl_t hn hm hpn (br1 (ni_t hr (br1 (ni_f hsm (br0 (fin rfl hI0)))))))
    · refine b_X10_loan_0 _ _ _ (pl_t hn hs hpn (br1 (wf hr (br0 ?_))))
      exact b_X11_loan_0 _ _ _ (mpl_t hn hm hpn (br1 (ni_f hr (br0 (fin rfl hI0)))))
  · refine b_X10_loan_0 _ _ _ (pl_f hn hs hx (br0 ?_))
    exact b_X11_loan_0 _ _ _ (mpl_f hn hm hx (br0 (fin rfl hI0)))
theorem pr_swap (hI : Inv σ) (s : Int32) : Pr l 95 [some (.ref 0), some (.int s)] 159 [some (.ref 13), some (.int s)] σ := by
  have hI0 := hI
  obtain ⟨n, d, t, c, h, r, q, f, y, hpl, hdr, hsh, htp, hmt, has, hct, hrd, hln, hfl, hli⟩ := hI
  obtain ⟨hf, hfs, hfm, hfp⟩ := hfl
  by_cases hs : 1 ≤ s.toInt ∧ s.toInt ≤ 255
  · by_cases hf2 : f = 6
    · subst hf2
      refine b_X10_swap_0 s (wt hs (br1 (br_t' hfs ?_)))
      exact b_X11_swap_0 s (ni_t hs (br1 (br_t' hfm (fin rfl hI0))))
    · have h6 : ¬ nI f = 6 := nI_ne (b := 6) (by omega) (by decide) hf2
      refine b_X10_swap_0 s (wt hs (br1 (br_f' (by rw [hfs]; exact h6) (b_X2_add_0 s ?_))))
      rw [hfs, cl_nI (by omega)]
      refine ⟨in_nI (by omega) (by decide), ?_⟩
      have hm1 : (ax_us (ax_us σ 51 f s) 10 2 (nI f + 1)) 13 47 = nI f := hfm
      refine b_X11_swap_0 s (ni_t hs (br1 (br_f' (by rw [hm1]; exact h6) ?_)))
      rw [hm1, cl_nI (by omega)]
      refine ⟨in_nI (by omega) (by decide), fin rfl ?_⟩
      refine ⟨n, d, t, c, h, r, q, f + 1, y, hpl.fr, hdr.fr, hsh.fr, htp.fr, hmt.fr, has.fr, hct.fr, hrd.fr, hln.fr, ⟨by omega, nI_1 f, nI_1 f, fun i hi => ?_⟩, hli.fr⟩
      show upd (σ 51) f s i = upd (σ 88) f s i ∧ rg 1 255 (upd (σ 51) f s i)
      by_cases e : i = f
      · subst e; simp only [upd_s]; exact ⟨trivial, hs⟩
      · simp only [upd_n _ _ e]; exact hfp i (by omega)
  · refine b_X10_swap_0 s (wf hs (br0 ?_))
    exact b_X11_swap_0 s (ni_f hs (br0 (fin rfl hI0)))
theorem pr_unswap (hI : Inv σ) : Pr l 96 [some (.ref 0)] 160 [some (.ref 13), none] σ := by
  obtain ⟨n, d, t, c, h, r, q, f, y, hpl, hdr, hsh, htp, hmt, has, hct, hrd, hln, hfl, hli⟩ := hI
  obtain ⟨hf, hfs, hfm, hfp⟩ := hfl
  refine b_X10_unswap_0 (b_X2_clear_0 ?_)
  refine b_X11_unswap_0 (fin (hfs.trans hfm.symm) ?_)
  exact ⟨n, d, t, c, h, r, q, 0, y, hpl.fr, hdr.fr, hsh.fr, htp.fr, hmt.fr, has.fr, hct.fr, hrd.fr, hln.fr, ⟨by omega, rfl, rfl, fun i hi => absurd hi (by omega)⟩, hli.fr⟩
end OpsA
