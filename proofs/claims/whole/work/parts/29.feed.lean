/-! bytes onto the tape -/
theorem sm64 : ∀ k, k < 64 → (BitVec.ofNat 64 k).smod 64 = BitVec.ofNat 64 k := by decide +kernel
theorem t255 (i : Nat) : Nat.testBit 255 i = decide (i < 8) := by
  rw [show (255 : Nat) = 2 ^ 8 - 1 from rfl, Nat.testBit_two_pow_sub_one]
theorem byte_key (j : Int64) (S : Nat) (hS : S + 8 ≤ 64) : (Int64.toInt32 ((Int64.toUInt64 j >>> UInt64.ofNat S).toInt64)) &&& 255 = Int64.toInt32 ((j >>> Int64.ofNat S) &&& 255) := by
  apply Int32.toBitVec_inj.mp
  have e1 : ((Int64.toInt32 ((Int64.toUInt64 j >>> UInt64.ofNat S).toInt64)) &&& 255).toBitVec = ((j.toBitVec >>> S).signExtend 32) &&& 255#32 := by
    show (((Int64.toUInt64 j >>> UInt64.ofNat S).toBitVec).signExtend 32) &&& 255#32 = _
    congr 2
    show j.toBitVec >>> (BitVec.ofNat 64 S % 64) = j.toBitVec >>> S
    rw [BitVec.ushiftRight_eq', BitVec.toNat_umod, BitVec.toNat_ofNat]
    rw [show S % 2 ^ 64 % (64 : BitVec 64).toNat = S by rw [show (64 : BitVec 64).toNat = 64 from rfl]; omega]
  have e2 : (Int64.toInt32 ((j >>> Int64.ofNat S) &&& 255)).toBitVec = ((j.toBitVec.sshiftRight S) &&& 255#64).signExtend 32 := by
    show (((j >>> Int64.ofNat S).toBitVec) &&& 255#64).signExtend 32 = _
    congr 2
    show j.toBitVec.sshiftRight' ((BitVec.ofNat 64 S).smod 64) = j.toBitVec.sshiftRight S
    rw [sm64 S (by omega)]
    show j.toBitVec.sshiftRight (BitVec.ofNat 64 S).toNat = _
    rw [BitVec.toNat_ofNat, Nat.mod_eq_of_lt (by omega)]
  rw [e1, e2]
  apply BitVec.eq_of_getLsbD_eq
  intro i hi
  rw [BitVec.getLsbD_and, BitVec.getLsbD_signExtend, BitVec.getLsbD_signExtend, BitVec.getLsbD_and, BitVec.getLsbD_ofNat, BitVec.getLsbD_ofNat, t255]
  have h64 : i < 64 := by omega
  simp only [hi, h64, decide_true, Bool.true_and, if_true]
  by_cases h8 : i < 8
  · simp only [h8, decide_true, Bool.and_true]
    rw [BitVec.getLsbD_ushiftRight, BitVec.getLsbD_sshiftRight]
    have hlt : S + i < 64 := by omega
    simp [hlt, h64]
  · simp [h8]
theorem c64 : ∀ r, r < 8 → (Int64.toUInt64 (Int32.toInt64 (8 * nI r)) &&& Int64.toUInt64 63) = UInt64.ofNat (8 * r) := by decide +kernel
theorem s64 : ∀ r, r < 8 → (Int32.toInt64 (8 * nI r) &&& 63) = Int64.ofNat (8 * r) := by decide +kernel
def byt (j : Int64) (r : Nat) : Int32 := (Int64.toInt32 ((Int64.toUInt64 j >>> (Int64.toUInt64 (Int32.toInt64 (8 * nI r)) &&& Int64.toUInt64 63)).toInt64)) &&& 255
theorem byt_m (j : Int64) {r : Nat} (hr : r < 8) : Int64.toInt32 ((j >>> (Int32.toInt64 (8 * nI r) &&& 63)) &&& 255) = byt j r := by
  unfold byt
  rw [c64 r hr, s64 r hr, byte_key j (8 * r) (by omega)]
theorem byt_rg (j : Int64) (r : Nat) : rg 0 255 (byt j r) := by
  unfold byt
  generalize Int64.toInt32 ((Int64.toUInt64 j >>> (Int64.toUInt64 (Int32.toInt64 (8 * nI r)) &&& Int64.toUInt64 63)).toInt64) = x
  rw [pk_and x (m := 255) 8 (by decide)]
  unfold rg
  rw [nI_toInt (by omega)]
  omega
/-- the tape with n bytes more, of which the last e are still wanting -/
def tpf (a : Nat → Int32) (j : Int64) (t n e : Nat) : Nat → Int32 := fun i => if t ≤ i ∧ i < t + n - e then byt j (n - 1 - (i - t)) else a i
section Feed
variable {l : Launch} {σ : ax_Sg} {P : Option Value → ax_Sg → Prop}
theorem tpf_s (a : Nat → Int32) (j : Int64) (t n e : Nat) (he : e < n) : upd (tpf a j t n (e + 1)) (t + n - (e + 1)) (byt j e) = tpf a j t n e := by
  funext i
  by_cases h : i = t + n - (e + 1)
  · subst h
    rw [upd_s]
    unfold tpf
    rw [if_pos (by omega)]
    congr 1; omega
  · rw [upd_n _ _ h]
    unfold tpf
    by_cases c : t ≤ i ∧ i < t + n - (e + 1)
    · rw [if_pos c, if_pos (by omega)]
    · rw [if_neg c, if_neg (by omega)]
theorem tpf_n (a : Nat → Int32) (j : Int64) (t n : Nat) : tpf a j t n n = a := by
  funext i
  unfold tpf
  rw [if_neg (by omega)]
theorem m1 (k : Nat) : nI k + (-1) = nI k - 1 := by
  rw [Int32.sub_eq_add_neg]
theorem c_append {t n : Nat} (ht : t + n ≤ 120) (hn : 1 ≤ n ∧ n ≤ 8) (hs : σ 3 2 = nI t) (j : Int64) (h : P (some (.int (nI (t + n)))) (ax_us (ax_uc σ 25 (tpf (σ 25) j t n 0)) 3 2 (nI (t + n)))) : Ev l 62 0 [some (.ref 3), some (.long j), none, some (.int (nI n)), none] [] σ P := by
  have loop : ∀ e, e ≤ n → Ev l 62 5 [some (.ref 3), some (.long j), none, none, some (.int (nI e - 1))] [] (ax_us (ax_uc σ 25 (tpf (σ 25) j t n e)) 3 2 (nI (t + n - e))) P := by
    intro e
    induction e with
    | zero =>
      intro _
      refine b_X9_append_5 _ _ (br_t' (by decide) ?_)
      exact h
    | succ e ih =>
      intro he
      have ih' := ih (by omega)
      rw [nI_pred]
      refine b_X9_append_5 _ _ (br_f' (nI_pos (by omega)) ?_)
      have e32 : (ax_us (ax_uc σ 25 (tpf (σ 25) j t n (e + 1))) 3 2 (nI (t + n - (e + 1)))) 3 2 = nI (t + n - (e + 1)) := by rw [us_s, upd_s]
      rw [e32, cl_nI (by omega), m1]
      refine ⟨in_nI (by omega) (by decide), ?_⟩
      have e : ax_us (ax_us (ax_us (ax_uc σ 25 (tpf (σ 25) j t n (e + 1))) 3 2 (nI (t + n - (e + 1)))) 25 (t + n - (e + 1)) (byt j e)) 3 2 (nI (t + n - (e + 1)) + 1) = ax_us (ax_uc σ 25 (tpf (σ 25) j t n e)) 3 2 (nI (t + n - e)) := by
        rw [ax_us_uc (ax_us (ax_uc σ 25 (tpf (σ 25) j t n (e + 1))) 3 2 (nI (t + n - (e + 1)))) 25, us_comm _ (by decide), us_n _ _ _ (by decide), uc_uc, uc_s, tpf_s _ _ _ _ _ (by omega), nI_1, show t + n - (e + 1) + 1 = t + n - e by omega]
        funext k
        by_cases hk : k = 3
        · subst hk
          rw [us_s, us_s, us_s]
          funext i
          by_cases hi : i = 2
          · subst hi; rw [upd_s, upd_s]
          · rw [upd_n _ _ hi, upd_n _ _ hi, upd_n _ _ hi]
        · rw [us_n _ _ _ hk, us_n _ _ _ hk, us_n _ _ _ hk]
      show Ev l 62 5 [some (.ref 3), some (.long j), none, none, some (.int (nI _ - 1))] [] (ax_us (ax_us (ax_us (ax_uc σ 25 (tpf (σ 25) j t n _)) 3 2 (nI (t + n - _))) 25 (t + n - _) (byt j _)) 3 2 (nI (t + n - _) + 1)) P
      rw [e]
      exact ih'
  refine b_X9_append_0 _ _ ?_
  have := loop n (Nat.le_refl _)
  rw [tpf_n, uc_id, show t + n - n = t by omega] at this
  have e0 : ax_us σ 3 2 (nI t) = σ := by
    funext k
    by_cases hk : k = 3
    · subst hk
      rw [us_s]
      funext i
      by_cases hi : i = 2
      · subst hi; rw [upd_s]; exact hs.symm
      · rw [upd_n _ _ hi]
    · rw [us_n _ _ _ hk]
  rw [e0] at this
  exact this
theorem m_feed {t n : Nat} (ht : t + n ≤ 120) (hn : 1 ≤ n ∧ n ≤ 8) (hs : σ 13 34 = nI t) (j : Int64) (h : P (some (.int (nI (t + n)))) (ax_us (ax_uc σ 76 (tpf (σ 76) j t n 0)) 13 34 (nI (t + n)))) : Ev l 123 34 [some (.ref 13), some (.long j), none, none, some (.int (nI n - 1))] [] σ P := by
  have loop : ∀ e, e ≤ n → Ev l 123 34 [some (.ref 13), some (.long j), none, none, some (.int (nI e - 1))] [] (ax_us (ax_uc σ 76 (tpf (σ 76) j t n e)) 13 34 (nI (t + n - e))) P := by
    intro e
    induction e with
    | zero =>
      intro _
      refine b_X11_feed_34 _ _ (br_t' (by decide) ?_)
      have e32 : (ax_us (ax_uc σ 76 (tpf (σ 76) j t n 0)) 13 34 (nI (t + n - 0))) 13 34 = nI (t + n) := by rw [us_s, upd_s]; rfl
      rw [e32]
      exact h
    | succ e ih =>
      intro he
      have ih' := ih (by omega)
      rw [nI_pred]
      refine b_X11_feed_34 _ _ (br_f' (nI_pos (by omega)) ?_)
      have e32 : (ax_us (ax_uc σ 76 (tpf (σ 76) j t n (e + 1))) 13 34 (nI (t + n - (e + 1)))) 13 34 = nI (t + n - (e + 1)) := by rw [us_s, upd_s]
      rw [e32, cl_nI (by omega), m1, byt_m j (by omega)]
      refine ⟨in_nI (by omega) (by decide), ?_⟩
      have e : ax_us (ax_us (ax_us (ax_uc σ 76 (tpf (σ 76) j t n (e + 1))) 13 34 (nI (t + n - (e + 1)))) 76 (t + n - (e + 1)) (byt j e)) 13 34 (nI (t + n - (e + 1)) + 1) = ax_us (ax_uc σ 76 (tpf (σ 76) j t n e)) 13 34 (nI (t + n - e)) := by
        rw [ax_us_uc (ax_us (ax_uc σ 76 (tpf (σ 76) j t n (e + 1))) 13 34 (nI (t + n - (e + 1)))) 76, us_comm _ (by decide), us_n _ _ _ (by decide), uc_uc, uc_s, tpf_s _ _ _ _ _ (by omega), nI_1, show t + n - (e + 1) + 1 = t + n - e by omega]
        funext k
        by_cases hk : k = 13
        · subst hk
          rw [us_s, us_s, us_s]
          funext i
          by_cases hi : i = 34
          · subst hi; rw [upd_s, upd_s]
          · rw [upd_n _ _ hi, upd_n _ _ hi, upd_n _ _ hi]
        · rw [us_n _ _ _ hk, us_n _ _ _ hk, us_n _ _ _ hk]
      rw [e]
      exact ih'
  have := loop n (Nat.le_refl _)
  rw [tpf_n, uc_id, show t + n - n = t by omega] at this
  have e0 : ax_us σ 13 34 (nI t) = σ := by
    funext k
    by_cases hk : k = 13
    · subst hk
      rw [us_s]
      funext i
      by_cases hi : i = 34
      · subst hi; rw [upd_s]; exact hs.symm
      · rw [upd_n _ _ hi]
    · rw [us_n _ _ _ hk]
  rw [e0] at this
  exact this
theorem pr_feed (hI : Inv σ) (j : Int64) (x : Int32) : Pr l 78 [some (.ref 0), some (.long j), none, some (.int x)] 123 [some (.ref 13), some (.long j), none, some (.int x), none] σ := by
  have hI0 := hI
  obtain ⟨n, d, t, c, h, r, q, f, y, hpl, hdr, hsh, htp, hmt, has, hct, hrd, hln, hfl, hli⟩ := hI
  obtain ⟨ht, hs, hm, hp⟩ := htp
  by_cases h1 : 1 ≤ x.toInt ∧ x.toInt ≤ 8
  · obtain ⟨k, hk, rfl⟩ := nat_of (b := 8) (by omega) h1.2
    have hk1 : 1 ≤ k := by have := h1.1; rw [nI_toInt (by omega)] at this; omega
    by_cases hf : 120 < t + k
    · refine b_X10_feed_0 _ _ (wt h1 (br1 (br_t' (by rw [hs, nI_add]; exact nI_lt (a := 120) hf (by omega)) ?_)))
      exact b_X11_feed_0 _ _ (ni_t h1 (br1 (br_t' (by rw [hm, nI_add]; exact nI_lt (a := 120) hf (by omega)) (fin rfl hI0))))
    · refine b_X10_feed_0 _ _ (wt h1 (br1 (br_f' (by rw [hs, nI_add]; exact nI_nlt (a := 120) (by omega) (by omega)) (c_append (by omega) ⟨hk1, hk⟩ hs j ?_))))
      refine b_X11_feed_0 _ _ (ni_t h1 (br1 (br_f' (by show ¬ 120 < σ 13 34 + nI k; rw [hm, nI_add]; exact nI_nlt (a := 120) (by omega) (by omega)) (m_feed (σ := ax_us (ax_uc σ 25 (tpf (σ 25) j t k 0)) 3 2 (nI (t + k))) (by omega) ⟨hk1, hk⟩ hm j (fin rfl ?_)))))
      refine ⟨n, d, t + k, c, h, r, q, f, y, hpl.fr, hdr.fr, hsh.fr, ⟨by omega, rfl, rfl, fun i hi => ?_⟩, hmt.fr, has.fr, hct.fr, hrd.fr, hln.fr, hfl.fr, hli.fr⟩
      show tpf (σ 25) j t k 0 i = tpf (σ 76) j t k 0 i ∧ rg 0 255 (tpf (σ 25) j t k 0 i)
      unfold tpf
      by_cases c : t ≤ i ∧ i < t + k - 0
      · rw [if_pos c, if_pos c]; exact ⟨rfl, byt_rg _ _⟩
      · rw [if_neg c, if_neg c]; exact hp i (by omega)
  · refine b_X10_feed_0 _ _ (wf h1 (br0 ?_))
    exact b_X11_feed_0 _ _ (ni_f h1 (br0 (fin rfl hI0)))
end Feed
