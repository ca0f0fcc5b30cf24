/-! part, rescue -/
theorem due_congr {pl pl' rk rk' sm sm' : Fn} {x r : Int32} : ∀ {q : Nat}, (∀ i, i < q → pl i = pl' i ∧ rk i = rk' i ∧ sm i = sm' i) → due pl rk sm x r q = due pl' rk' sm' x r q
  | 0, _ => rfl
  | q + 1, h => by
    obtain ⟨h1, h2, h3⟩ := h q (by omega)
    simp only [due]
    rw [due_congr (fun i hi => h i (by omega)), h1, h2, h3]
theorem qs_congr {pl pl' rk rk' sm sm' : Fn} {x r : Int32} {L D : Nat} : ∀ {q : Nat}, (∀ i, i < q → pl i = pl' i ∧ rk i = rk' i ∧ sm i = sm' i) → qs pl rk sm x r L D q = qs pl' rk' sm' x r L D q
  | 0, _ => rfl
  | q + 1, h => by
    obtain ⟨h1, h2, h3⟩ := h q (by omega)
    have hq1 : q1 sm L D q = q1 sm' L D q := by unfold q1; rw [h3]
    simp only [qs]
    rw [qs_congr (fun i hi => h i (by omega)), h1, h2, hq1]
theorem rmn_congr {pl pl' rk rk' sm sm' : Fn} {x r : Int32} {L D R0 : Nat} : ∀ {q : Nat}, (∀ i, i < q → pl i = pl' i ∧ rk i = rk' i ∧ sm i = sm' i) → rmn pl rk sm x r L D R0 q = rmn pl' rk' sm' x r L D R0 q
  | 0, _ => rfl
  | q + 1, h => by
    obtain ⟨h1, h2, h3⟩ := h q (by omega)
    have hq1 : q1 sm L D q = q1 sm' L D q := by unfold q1; rw [h3]
    simp only [rmn]
    rw [rmn_congr (fun i hi => h i (by omega)), h1, h2, hq1, h3]
theorem dvL_congr {pl pl' rk rk' sm sm' : Fn} {q : Nat} {x : Int32} {L : Nat} (h : ∀ i, i < q → pl i = pl' i ∧ rk i = rk' i ∧ sm i = sm' i) : ∀ r, dvL pl rk sm q x L r = dvL pl' rk' sm' q x L r
  | 0 => rfl
  | r + 1 => by
    simp only [dvL, rkL]
    rw [dvL_congr h r, due_congr h]
theorem dvA_congr {pl pl' rk rk' sm sm' a a' : Fn} {q : Nat} {x : Int32} {L : Nat} (h : ∀ i, i < q → pl i = pl' i ∧ rk i = rk' i ∧ sm i = sm' i) : ∀ (R i r0 : Nat), i < q → pl i = x → rk i = nI r0 → r0 < R → R ≤ 10 → dvA pl rk sm q x L a R i = dvA pl' rk' sm' q x L a' R i
  | 0, i, r0, _, _, _, hr, _ => absurd hr (by omega)
  | R + 1, i, r0, hi, hp, hk, hr, hR => by
    obtain ⟨h1, h2, h3⟩ := h i hi
    simp only [dvA]
    unfold rkA
    rw [← dvL_congr h R, ← due_congr h]
    by_cases e : r0 = R
    · subst e
      rw [if_pos (show i < q ∧ pl i = x ∧ rk i = nI r0 from ⟨hi, hp, hk⟩), if_pos (show i < q ∧ pl' i = x ∧ rk' i = nI r0 from ⟨hi, by rw [← h1]; exact hp, by rw [← h2]; exact hk⟩)]
      by_cases c : due pl rk sm x (nI r0) q ≤ dvL pl rk sm q x L r0
      · rw [if_pos c, if_pos c, h3]
      · rw [if_neg c, if_neg c]
        have hq1 : q1 sm (dvL pl rk sm q x L r0) (due pl rk sm x (nI r0) q) i = q1 sm' (dvL pl rk sm q x L r0) (due pl rk sm x (nI r0) q) i := by unfold q1; rw [h3]
        unfold shr
        rw [← qs_congr h, ← rmn_congr (fun u hu => h u (by omega)), hq1, h3]
    · have hne : ¬ nI r0 = nI R := nI_ne (by omega) (by omega) e
      rw [if_neg (show ¬ (i < q ∧ pl i = x ∧ rk i = nI R) from fun z => hne (by rw [← hk]; exact z.2.2)), if_neg (show ¬ (i < q ∧ pl' i = x ∧ rk' i = nI R) from fun z => hne (by rw [← hk, h2]; exact z.2.2))]
      exact dvA_congr h R i r0 hi hp hk (by omega) (by omega)
theorem dvA_le {pl rk sm a : Fn} {q : Nat} {x : Int32} {L : Nat} (hs : ∀ i, i < q → rg 0 99999 (sm i)) : ∀ (R i r0 : Nat), i < q → pl i = x → rk i = nI r0 → r0 < R → R ≤ 10 → ∃ v, v ≤ nn (sm i) ∧ dvA pl rk sm q x L a R i = nI v
  | 0, i, r0, _, _, _, hr, _ => absurd hr (by omega)
  | R + 1, i, r0, hi, hp, hk, hr, hR => by
    simp only [dvA]
    unfold rkA
    by_cases e : r0 = R
    · subst e
      rw [if_pos ⟨hi, hp, hk⟩]
      by_cases c : due pl rk sm x (nI r0) q ≤ dvL pl rk sm q x L r0
      · rw [if_pos c]; exact ⟨nn (sm i), Nat.le_refl _, (nn_eq (hs i hi) (Int.le_refl 0)).1⟩
      · rw [if_neg c]
        have := q1_le (sm := sm) (i := i) (L := dvL pl rk sm q x L r0) (D := due pl rk sm x (nI r0) q) (by omega) (by omega)
        refine ⟨_, ?_, rfl⟩
        unfold shr
        split
        · rename_i z; omega
        · omega
    · have hne : ¬ nI r0 = nI R := nI_ne (by omega) (by omega) e
      rw [if_neg (fun z => hne (by rw [← hk]; exact z.2.2))]
      exact dvA_le hs R i r0 hi hp hk (by omega) (by omega)
def stl (pl : Fn) (q : Nat) (x : Int32) (v sm : Fn) : Fn := fun i => if i < q ∧ pl i = x then v i else sm i
theorem stl_0 (pl : Fn) (x : Int32) (v sm : Fn) : stl pl 0 x v sm = sm := by
  funext i; unfold stl; rw [if_neg (by omega)]
theorem stl_s {pl : Fn} {x : Int32} {v sm : Fn} {k : Nat} (h : pl k = x) : upd (stl pl k x v sm) k (v k) = stl pl (k + 1) x v sm := by
  funext i
  by_cases e : i = k
  · subst e; rw [upd_s]; unfold stl; rw [if_pos ⟨by omega, h⟩]
  · rw [upd_n _ _ e]
    unfold stl
    by_cases c : i < k ∧ pl i = x
    · rw [if_pos c, if_pos ⟨by omega, c.2⟩]
    · rw [if_neg c, if_neg (fun z => c ⟨by omega, z.2⟩)]
theorem stl_n {pl : Fn} {x : Int32} {v sm : Fn} {k : Nat} (h : ¬ pl k = x) : stl pl k x v sm = stl pl (k + 1) x v sm := by
  funext i
  unfold stl
  by_cases c : i < k ∧ pl i = x
  · rw [if_pos c, if_pos ⟨by omega, c.2⟩]
  · rw [if_neg c, if_neg (fun z => by
      by_cases e : i = k
      · subst e; exact h z.2
      · exact c ⟨by omega, z.2⟩)]
section Resc
variable {l : Launch} {σ : ax_Sg} {P : Option Value → ax_Sg → Prop}
theorem ln_t {q k : Nat} (hq : q ≤ 30) (hs : σ 9 4 = nI q) (hk : k < q) (h : P (some (.int 1)) σ) : Ev l 28 0 [some (.ref 9), some (.int (nI k))] [] σ P := by
  refine b_X4_has_0 _ ?_
  rw [hs]
  exact wt (ai := 0) (bi := (q : Int) - 1) (by rw [nI_toInt (by omega)]; omega) ⟨nar1, h⟩ (by decide) (sub1_toInt (by omega))
theorem ln_f {q : Nat} {x : Int32} (hq : q ≤ 30) (hs : σ 9 4 = nI q) (hx : ¬ (0 ≤ x.toInt ∧ x.toInt < q)) (h : P (some (.int 0)) σ) : Ev l 28 0 [some (.ref 9), some (.int x)] [] σ P := by
  refine b_X4_has_0 _ ?_
  rw [hs]
  exact wf (ai := 0) (bi := (q : Int) - 1) (by omega) ⟨nar0, h⟩ (by decide) (sub1_toInt (by omega))
theorem pr_part (hI : Inv σ) (x s : Int32) : Pr l 92 [some (.ref 0), some (.int x), some (.int s)] 156 [some (.ref 13), some (.int x), some (.int s)] σ := by
  have hI0 := hI
  obtain ⟨n, d, t, c, h, r, q, f, y, hpl, hdr, hsh, htp, hmt, has, hct, hrd, hln, hfl, hli⟩ := hI
  have hln0 := hln
  obtain ⟨hq, hqs, hqm, hqp⟩ := hln
  have hb64 : (Int32.toInt64 (σ 13 42 - 1)).toInt = (q : Int) - 1 := by rw [hqm, Int32.toInt_toInt64]; exact sub1_toInt (by omega)
  rcases nI_case x q (by omega) with ⟨k, hk, rfl⟩ | hx
  · have hxk : 0 ≤ (nI k).toInt ∧ (nI k).toInt ≤ (q : Int) - 1 := by rw [nI_toInt (by omega)]; omega
    by_cases hsm : 0 ≤ s.toInt ∧ s.toInt ≤ 999999
    · obtain ⟨L, hL, rfl⟩ := nat_of (b := 999999) hsm.1 hsm.2
      obtain ⟨a1, a2, a3, a4, a5, a6⟩ := hqp k hk
      have hin : vp_in (nI k) 30 := in_nI (by omega) (by decide)
      obtain ⟨rk, hrk, erk⟩ := nat_of (b := 9) a4.1 a4.2
      refine b_X10_part_0 _ _ (ln_t hq hqs hk (br1 (b_X10_isPartable_0 _ (wt hsm ⟨nar1, br1 ⟨hin, ?_⟩⟩))))
      rw [cl_nI (by omega)]
      refine c_divide hq hqs (fun i hi => (hqp i hi).2.2.2.2.2) _ hL ⟨hin, ?_⟩
      refine b_X11_part_0 _ _ (ni_t hxk (br1 (ni_t hsm (br1 ⟨hin, ?_⟩))) (by decide) hb64)
      rw [cl_nI (by omega)]
      refine m_parts (σ := ax_uc σ 50 (dvA (σ 47) (σ 48) (σ 49) q (σ 47 k) L (σ 50) 10)) hq hqm (fun i hi => by show rg 0 99999 (σ 86 i); rw [← (hqp i hi).2.2.2.2.1]; exact (hqp i hi).2.2.2.2.2) _ hL ⟨hin, fin ?_ ?_⟩
      · show dvA (σ 47) (σ 48) (σ 49) q (σ 47 k) L (σ 50) 10 k = dvA (σ 84) (σ 85) (σ 86) q (σ 84 k) L (σ 87) 10 k
        rw [← a1]
        exact dvA_congr (fun i hi => ⟨(hqp i hi).1, (hqp i hi).2.2.1, (hqp i hi).2.2.2.2.1⟩) 10 k rk hk rfl erk (by omega) (Nat.le_refl _)
      · exact ⟨n, d, t, c, h, r, q, f, y, hpl.fr, hdr.fr, hsh.fr, htp.fr, hmt.fr, has.fr, hct.fr, hrd.fr, hln0.fr, hfl.fr, hli.fr⟩
    · refine b_X10_part_0 _ _ (ln_t hq hqs hk (br1 (b_X10_isPartable_0 _ (wf hsm ⟨nar0, br0 ?_⟩))))
      exact b_X11_part_0 _ _ (ni_t hxk (br1 (ni_f hsm (br0 (fin rfl hI0)))) (by decide) hb64)
  · have hx2 : ¬ (0 ≤ x.toInt ∧ x.toInt ≤ (q : Int) - 1) := by omega
    refine b_X10_part_0 _ _ (ln_f hq hqs hx (br0 ?_))
    exact b_X11_part_0 _ _ (ni_f hx2 (br0 (fin rfl hI0)) (by decide) hb64)
theorem c_settle {q : Nat} (hq : q ≤ 30) (hs : σ 9 4 = nI q) (x : Int32) (h : P none (ax_uc σ 49 (stl (σ 47) q x (σ 50) (σ 49)))) : Ev l 32 0 [some (.ref 9), some (.int x), none] [] σ P := by
  have loop : ∀ m k, q - k = m → k ≤ q → Ev l 32 2 [some (.ref 9), some (.int x), some (.int (nI k))] [] (ax_uc σ 49 (stl (σ 47) k x (σ 50) (σ 49))) P := by
    intro m
    induction m with
    | zero =>
      intro k hk hkq
      have : k = q := by omega
      subst this
      exact b_X4_settle_2 _ _ (br_f' (by show ¬ nI k < σ 9 4; rw [hs]; exact nI_nlt (Nat.le_refl _) (by omega)) h)
    | succ m ih =>
      intro k hk hkq
      have ih' := ih (k + 1) (by omega) (by omega)
      have hin : vp_in (nI k) 30 := in_nI (by omega) (by decide)
      refine b_X4_settle_2 _ _ (br_t' (by show nI k < σ 9 4; rw [hs]; exact nI_lt (by omega) (by omega)) ⟨hin, ?_⟩)
      rw [cl_nI (by omega), nI_1]
      show ax_br (σ 47 k = x) _ _
      refine br_i (fun e => ⟨hin, hin, ?_⟩) (fun e => ?_)
      · show Ev l 32 2 _ [] (ax_us (ax_uc σ 49 (stl (σ 47) k x (σ 50) (σ 49))) 49 k (σ 50 k)) P
        rw [us_uc, stl_s e]; exact ih'
      · rw [← stl_n e] at ih'; exact ih'
  have := loop q 0 (by omega) (by omega)
  rw [stl_0, uc_id] at this
  exact b_X4_settle_0 _ this
theorem m_settle {q : Nat} (hq : q ≤ 30) (hs : σ 13 42 = nI q) (x b : Int32) (h : Ev l 152 0 [some (.ref 13), some (.int x), none, none] [] (ax_uc σ 86 (stl (σ 84) q x (σ 87) (σ 86))) (fun o1 σ2 => ax_oi o1 (fun v3 => P (some (.int (b - v3))) σ2))) : Ev l 158 80 [some (.ref 13), some (.int x), none, none, none, some (.int b), none, some (.int 0)] [] σ P := by
  have loop : ∀ m k, q - k = m → k ≤ q → Ev l 158 80 [some (.ref 13), some (.int x), none, none, none, some (.int b), none, some (.int (nI k))] [] (ax_uc σ 86 (stl (σ 84) k x (σ 87) (σ 86))) P := by
    intro m
    induction m with
    | zero =>
      intro k hk hkq
      have : k = q := by omega
      subst this
      exact b_X11_rescue_80 _ _ _ (br_f' (by show ¬ nI k < σ 13 42; rw [hs]; exact nI_nlt (Nat.le_refl _) (by omega)) h)
    | succ m ih =>
      intro k hk hkq
      have ih' := ih (k + 1) (by omega) (by omega)
      have hin : vp_in (nI k) 30 := in_nI (by omega) (by decide)
      refine b_X11_rescue_80 _ _ _ (br_t' (by show nI k < σ 13 42; rw [hs]; exact nI_lt (by omega) (by omega)) ⟨hin, ?_⟩)
      rw [cl_nI (by omega), nI_1]
      show ax_br (σ 84 k = x) _ _
      refine br_i (fun e => ⟨hin, hin, ?_⟩) (fun e => ?_)
      · show Ev l 158 80 _ [] (ax_us (ax_uc σ 86 (stl (σ 84) k x (σ 87) (σ 86))) 86 k (σ 87 k)) P
        rw [us_uc, stl_s e]; exact ih'
      · rw [← stl_n e] at ih'; exact ih'
  have := loop q 0 (by omega) (by omega)
  rw [stl_0, uc_id] at this
  exact this
theorem pr_rescue (hI : Inv σ) (x hu ys rt : Int32) : Pr l 94 [some (.ref 0), some (.int x), some (.int hu), some (.int ys), some (.int rt), none] 158 [some (.ref 13), some (.int x), some (.int hu), some (.int ys), some (.int rt), none, none, none] σ := by
  have hI0 := hI
  obtain ⟨n, d, t, c, h, r, q, f, y, hpl, hdr, hsh, htp, hmt, has, hct, hrd, hln, hfl, hli⟩ := hI
  have hpl0 := hpl
  obtain ⟨hn, hs, hm, hp⟩ := hpl
  obtain ⟨hq, hqs, hqm, hqp⟩ := hln
  have hr9 : ∀ i, i < q → rg 0 99999 (σ 49 i) := fun i hi => (hqp i hi).2.2.2.2.2
  have hm9 : ∀ i, i < q → rg 0 99999 (σ 86 i) := fun i hi => by rw [← (hqp i hi).2.2.2.2.1]; exact hr9 i hi
  have hcg : ∀ i, i < q → σ 47 i = σ 84 i ∧ σ 48 i = σ 85 i ∧ σ 49 i = σ 86 i := fun i hi => ⟨(hqp i hi).1, (hqp i hi).2.2.1, (hqp i hi).2.2.2.2.1⟩
  have h100 : (100 : Int32).toInt = 100 := by decide
  have h100j : (100 : Int64).toInt = 100 := by decide
  rcases nI_case x n (by omega) with ⟨p, hpn, rfl⟩ | hx
  · by_cases hh : 0 ≤ hu.toInt ∧ hu.toInt ≤ 100
    · by_cases hT : (1 ≤ ys.toInt ∧ ys.toInt ≤ 40) ∧ (0 ≤ rt.toInt ∧ rt.toInt ≤ 500)
      · obtain ⟨a1, a2, a3, a4, a5, a6, a7⟩ := hp p hpn
        have hdc : dbt (σ 47) (σ 49) (nI p) q = dbt (σ 84) (σ 86) (nI p) q := dbt_congr (fun i hi => ⟨(hcg i hi).1, (hcg i hi).2.2⟩)
        have hb := dbt_le (pl := σ 47) (sm := σ 49) (x := nI p) (q := q) hr9
        have hDi : (nI (dbt (σ 47) (σ 49) (nI p) q)).toInt = (dbt (σ 47) (σ 49) (nI p) q : Int) := nI_toInt (by omega)
        by_cases hF : isF n σ q ys rt p
        · refine b_X10_rescue_0 _ _ _ _ (pl_t hn hs hpn (br1 (wt hh (br1 (term_t hT.1 hT.2 (br1 (c_isFailing hn hpn hq hqs hr9 a6 a7 hT.1 hT.2 (fun _ => br1 (c_debt hq hqs hr9 _ (c_worth hn hpn a6 a7 hT.1 hT.2 (fun v hv => ⟨by decide, ?_⟩)))) (fun z => absurd hF z))))))))
          obtain ⟨w1, w2⟩ := wor_b (g := gainI (σ 14 p) (σ 16 p) (σ 17 p)) (D := 1000 + rt.toInt) (gainI_b a6 a7).2 (by omega) ys.toInt.toNat
          rw [← hv] at w1 w2
          have w3 : v.toInt ≤ 399960 := by omega
          obtain ⟨V, hV, rfl⟩ := nat_of (b := 399960) w1 w3
          obtain ⟨U, hU, rfl⟩ := nat_of (b := 100) hh.1 hh.2
          have hVU : V * U ≤ 399960 * 100 := Nat.mul_le_mul hV hU
          have eL : nI V * nI U / 100 = nI (V * U / 100) := by rw [pk_mul, show (100 : Int32) = nI 100 from rfl, pk_div (by omega) (by decide) (by decide)]
          rw [eL]
          have hL : V * U / 100 ≤ 999999 := by omega
          refine c_divide hq hqs hr9 _ hL ?_
          refine c_settle (σ := ax_uc σ 50 (dvA (σ 47) (σ 48) (σ 49) q (nI p) (V * U / 100) (σ 50) 10)) hq hqs _ ?_
          -- the sums behind it
          have hnew : ∀ i, i < q → rg 0 99999 (stl (σ 47) q (nI p) (dvA (σ 47) (σ 48) (σ 49) q (nI p) (V * U / 100) (σ 50) 10) (σ 49) i) := by
            intro i hi
            unfold stl
            by_cases e : i < q ∧ σ 47 i = nI p
            · rw [if_pos e]
              obtain ⟨rk, hrk, erk⟩ := nat_of (b := 9) (hqp i hi).2.2.2.1.1 (hqp i hi).2.2.2.1.2
              obtain ⟨v', hv', ev'⟩ := dvA_le (pl := σ 47) (rk := σ 48) (sm := σ 49) (a := σ 50) (q := q) (x := nI p) (L := V * U / 100) hr9 10 i rk hi e.2 erk (by omega) (Nat.le_refl _)
              rw [ev']
              have h2 := (nn_eq (hr9 i hi) (Int.le_refl 0)).2
              have h3 := (hr9 i hi).2
              unfold rg
              rw [nI_toInt (by omega)]
              omega
            · rw [if_neg e]; exact hr9 i hi
          have hsame : ∀ i, i < q → stl (σ 47) q (nI p) (dvA (σ 47) (σ 48) (σ 49) q (nI p) (V * U / 100) (σ 50) 10) (σ 49) i = stl (σ 84) q (nI p) (dvA (σ 84) (σ 85) (σ 86) q (nI p) (V * U / 100) (σ 87) 10) (σ 86) i := by
            intro i hi
            unfold stl
            by_cases e : i < q ∧ σ 47 i = nI p
            · rw [if_pos e, if_pos ⟨hi, by rw [← (hcg i hi).1]; exact e.2⟩]
              obtain ⟨rk, hrk, erk⟩ := nat_of (b := 9) (hqp i hi).2.2.2.1.1 (hqp i hi).2.2.2.1.2
              exact dvA_congr hcg 10 i rk hi e.2 erk (by omega) (Nat.le_refl _)
            · rw [if_neg e, if_neg (fun z => e ⟨hi, by rw [(hcg i hi).1]; exact z.2⟩)]; exact (hcg i hi).2.2
          refine c_debt (σ := ax_uc (ax_uc σ 50 (dvA (σ 47) (σ 48) (σ 49) q (nI p) (V * U / 100) (σ 50) 10)) 49 (stl (σ 47) q (nI p) (dvA (σ 47) (σ 48) (σ 49) q (nI p) (V * U / 100) (σ 50) 10) (σ 49))) hq hqs hnew _ ?_
          generalize hσ1 : ax_uc (ax_uc σ 50 (dvA (σ 47) (σ 48) (σ 49) q (nI p) (V * U / 100) (σ 50) 10)) 49 (stl (σ 47) q (nI p) (dvA (σ 47) (σ 48) (σ 49) q (nI p) (V * U / 100) (σ 50) 10) (σ 49)) = σ1
          have k7 : σ1 13 7 = nI n := by rw [← hσ1]; exact hm
          have k42 : σ1 13 42 = nI q := by rw [← hσ1]; exact hqm
          have k58 : σ1 58 = σ 58 := by rw [← hσ1]; rfl
          have k60 : σ1 60 = σ 60 := by rw [← hσ1]; rfl
          have k61 : σ1 61 = σ 61 := by rw [← hσ1]; rfl
          have k84 : σ1 84 = σ 84 := by rw [← hσ1]; rfl
          have k85 : σ1 85 = σ 85 := by rw [← hσ1]; rfl
          have k86 : σ1 86 = σ 86 := by rw [← hσ1]; rfl
          have k87 : σ1 87 = σ 87 := by rw [← hσ1]; rfl
          have k47 : σ1 47 = σ 47 := by rw [← hσ1]; rfl
          have k49 : σ1 49 = stl (σ 47) q (nI p) (dvA (σ 47) (σ 48) (σ 49) q (nI p) (V * U / 100) (σ 50) 10) (σ 49) := by rw [← hσ1]; rfl
          refine b_X11_rescue_0 _ _ _ _ (mpl_t hn k7 hpn (br1 (ni_t hh (br1 (mterm_t hT.1 hT.2 (br1 (m_owed hq k42 (by rw [k86]; exact hm9) _ (m_worth (n := n) (p := p) hn hpn (by rw [k60, ← a3]; exact a6) (by rw [k61, ← a4]; exact a7) hT.1 hT.2 (fun w hw => br_t' ?_ ⟨by decide, ?_⟩)))))))))
          · rw [k58, k60, k61, ← a1, ← a3, ← a4] at hw
            rw [lt_toInt, hw, k84, k86, ← hdc, hDi]
            exact hF
          · rw [k58, k60, k61, ← a1, ← a3, ← a4, ← hv] at hw
            have hwV : w = nI V := eq_toInt.mpr hw
            subst hwV
            have hVi : (nI V).toInt = (V : Int) := nI_toInt (by omega)
            have hUi : (nI U).toInt = (U : Int) := nI_toInt (by omega)
            have eJ : Int64.toInt32 ((Int32.toInt64 (nI V) * Int32.toInt64 (nI U)) / 100) = nI (V * U / 100) := by
              have hmm : (Int32.toInt64 (nI V) * Int32.toInt64 (nI U)).toInt = ((V * U : Nat) : Int) := by
                rw [mul64 (by rw [Int32.toInt_toInt64, Int32.toInt_toInt64, hVi, hUi, ← Int.natCast_mul]; omega) (by rw [Int32.toInt_toInt64, Int32.toInt_toInt64, hVi, hUi, ← Int.natCast_mul]; omega), Int32.toInt_toInt64, Int32.toInt_toInt64, hVi, hUi, ← Int.natCast_mul]
              have hdd : ((Int32.toInt64 (nI V) * Int32.toInt64 (nI U)) / 100).toInt = ((V * U / 100 : Nat) : Int) := by
                rw [div64 (by rw [h100j]; omega), hmm, h100j, Int.tdiv_eq_ediv_of_nonneg (by omega), Int.natCast_ediv]; rfl
              generalize V * U / 100 = Z at hdd hL ⊢
              apply Int32.toInt_inj.mp
              rw [l2i_toInt (by rw [hdd]; omega) (by rw [hdd]; omega), hdd, nI_toInt (by omega)]
            rw [eJ]
            refine m_parts hq k42 (by rw [k86]; exact hm9) _ hL ?_
            rw [k84, k85, k86, k87]
            refine m_settle (q := q) hq (by rw [uc_n _ _ (by decide)]; exact k42) _ _ ?_
            rw [uc_s, uc_n _ _ (by decide), uc_n _ _ (by decide), k84, k86]
            refine m_owed (q := q) hq (by rw [uc_n _ _ (by decide), uc_n _ _ (by decide)]; exact k42) (fun i hi => by rw [uc_s, ← hsame i hi]; exact hnew i hi) _ ?_
            rw [uc_s, uc_n _ _ (by decide), uc_n _ _ (by decide), k84]
            have hd2 : dbt (σ1 47) (σ1 49) (nI p) q = dbt (σ 84) (stl (σ 84) q (nI p) (dvA (σ 84) (σ 85) (σ 86) q (nI p) (V * U / 100) (σ 87) 10) (σ 86)) (nI p) q := by
              rw [k47, k49]
              exact dbt_congr (fun i hi => ⟨(hcg i hi).1, hsame i hi⟩)
            refine fin ?_ ?_
            · rw [hdc, hd2]
            · subst hσ1
              refine ⟨n, d, t, c, h, r, q, f, y, hpl0.fr, hdr.fr, hsh.fr, htp.fr, hmt.fr, has.fr, hct.fr, hrd.fr, ⟨hq, hqs, hqm, fun i hi => ?_⟩, hfl.fr, hli.fr⟩
              obtain ⟨b1, b2, b3, b4, b5, b6⟩ := hqp i hi
              exact ⟨b1, b2, b3, b4, hsame i hi, hnew i hi⟩
        · refine b_X10_rescue_0 _ _ _ _ (pl_t hn hs hpn (br1 (wt hh (br1 (term_t hT.1 hT.2 (br1 (c_isFailing hn hpn hq hqs hr9 a6 a7 hT.1 hT.2 (fun z => absurd z hF) (fun _ => br0 ?_))))))))
          refine b_X11_rescue_0 _ _ _ _ (mpl_t (n := n) hn hm hpn (br1 (ni_t hh (br1 (mterm_t hT.1 hT.2 (br1 (m_owed hq hqm hm9 _ (m_worth (n := n) (p := p) hn hpn (by rw [← a3]; exact a6) (by rw [← a4]; exact a7) hT.1 hT.2 (fun w hw => br_f' ?_ (fin rfl hI0))))))))))
          rw [← a1, ← a3, ← a4] at hw
          rw [lt_toInt, hw, ← hdc, hDi]
          exact hF
      · refine b_X10_rescue_0 _ _ _ _ (pl_t hn hs hpn (br1 (wt hh (br1 (term_f hT (br0 ?_))))))
        exact b_X11_rescue_0 _ _ _ _ (mpl_t (n := n) hn hm hpn (br1 (ni_t hh (br1 (mterm_f hT (br0 (fin rfl hI0)))))))
    · refine b_X10_rescue_0 _ _ _ _ (pl_t hn hs hpn (br1 (wf hh (br0 ?_))))
      exact b_X11_rescue_0 _ _ _ _ (mpl_t (n := n) hn hm hpn (br1 (ni_f hh (br0 (fin rfl hI0)))))
  · refine b_X10_rescue_0 _ _ _ _ (pl_f hn hs hx (br0 ?_))
    exact b_X11_rescue_0 _ _ _ _ (mpl_f (n := n) hn hm hx (br0 (fin rfl hI0)))
end Resc
