/-! an hour of the city: what it does, over the class's own cells -/
abbrev tN (x : Int32) : Nat := Int32.toNatClampNeg x
theorem md_nI {a b : Nat} (ha : a < 2 ^ 31) (hb0 : 0 < b) (hb : b < 2 ^ 31) : nI a - nI a / nI b * nI b = nI (a % b) := by
  have hmod : a % b ≤ a := Nat.mod_le a b
  have hdiv : (nI a / nI b).toInt = ((a / b : Nat) : Int) := by
    rw [div32 (by rw [nI_toInt hb]; omega), nI_toInt ha, nI_toInt hb]
    rw [← Int.ofNat_tdiv]
  have hdle : a / b * b ≤ a := Nat.div_mul_le_self a b
  have e : nI a / nI b = nI (a / b) := by
    apply Int32.toInt_inj.mp
    rw [hdiv, nI_toInt (by have := Nat.div_le_self a b; omega)]
  rw [e, pk_mul]
  apply Int32.toInt_inj.mp
  have h2 : a % b + a / b * b = a := by rw [Nat.mul_comm]; exact Nat.mod_add_div a b
  rw [sub_toInt (by rw [nI_toInt ha, nI_toInt (by omega)]; omega) (by rw [nI_toInt ha, nI_toInt (by omega)]; omega), nI_toInt ha, nI_toInt (by omega), nI_toInt (by omega)]
  omega
def Ct : Type := Nat → Nat → Int32
def Ct.wh (c : Ct) : Nat → Int32 := c 0
def Ct.hr (c : Ct) : Nat → Int32 := c 1
def Ct.tk (c : Ct) : Nat → Int32 := c 2
def Ct.dh (c : Ct) : Nat → Int32 := c 3
def Ct.ea (c : Ct) : Nat → Int32 := c 4
def Ct.wt (c : Ct) : Nat → Int32 := c 5
def Ct.tu (c : Ct) : Nat → Int32 := c 6
def Ct.rm (c : Ct) : Nat → Int32 := c 7
def Ct.hh (c : Ct) : Int32 := c 8 0
def Ct.rc (c : Ct) : Int32 := c 9 0
def Ct.lc (c : Ct) : Int32 := c 10 0
def Ct.ic (c : Ct) : Int32 := c 11 0
def Ct.ta (c : Ct) : Int32 := c 12 0
def Ct.row (c : Ct) : Nat → Int32 := c 13
def Ct.rn (c : Ct) : Int32 := c 14 0
def Ct.set (c : Ct) (k : Nat) (f : Nat → Int32) : Ct := fun k' => if k' = k then f else c k'
def its (g : Ct → Nat → Ct) (c : Ct) : Nat → Ct
  | 0 => c
  | k + 1 => g (its g c k) k
/-- how long the longest in a ward waited, or -1 -/
def lw (f : Nat → Int32) (w : Nat) : Int32 := if 0 < f (w * 3 + 2) then 2 else if 0 < f (w * 3 + 1) then 1 else if 0 < f (w * 3 + 0) then 0 else -1
def ws (f : Nat → Int32) (w : Nat) : Int32 := f (w * 3 + 0) + f (w * 3 + 1) + f (w * 3 + 2)
abbrev mayP (e : ax_Sg) (p w : Nat) : Prop := ¬ e 14 p = 3 ∨ 2 ≤ w
/-- the best ward to roam to, over the first wards -/
def bs (e : ax_Sg) (f : Nat → Int32) (p b0 : Nat) : Nat → Nat
  | 0 => b0
  | k + 1 => if mayP e p k ∧ ws f (bs e f p b0 k) < ws f k then k else bs e f p b0 k
theorem bs_lt {e : ax_Sg} {f : Nat → Int32} {p b0 : Nat} (h : b0 < 5) : ∀ k, k ≤ 5 → bs e f p b0 k < 5
  | 0, _ => h
  | k + 1, hk => by
    show (if mayP e p k ∧ ws f (bs e f p b0 k) < ws f k then k else bs e f p b0 k) < 5
    by_cases c : mayP e p k ∧ ws f (bs e f p b0 k) < ws f k
    · rw [if_pos c]; omega
    · rw [if_neg c]; exact bs_lt h k (by omega)
def adA (e : ax_Sg) (hd : Nat) (c : Ct) (w : Nat) : Ct := (c.set 5 (upd c.wt (w * 3) (c.wt (w * 3) + e 29 (hd * 5 + w))))
def svA (c : Ct) (p d : Nat) : Ct := ((c.set 1 (upd c.hr p (c.hr p + 1))).set 3 (upd c.dh d (c.dh d + 1)))
def toW (c : Ct) (w : Nat) : Nat := (w + 1 + tN (c.tu w)) % 5
def prI (e : ax_Sg) (cc hd : Nat) (c : Ct) (w : Nat) : Int32 := prF (e 26) (e 27) (e 28) (nI w) (nI (toW c w)) (nI hd) (lw c.wt w) cc
def rw5 (c : Ct) (kp : Bool) (p w t : Nat) (pr : Int32) : Nat → Int32 := if kp = true ∧ ¬ c.rn = 300 then upd (upd (upd (upd (upd c.row (tN c.rn * 5 + 0) c.hh) (tN c.rn * 5 + 1) (nI p)) (tN c.rn * 5 + 2) (nI w)) (tN c.rn * 5 + 3) (nI t)) (tN c.rn * 5 + 4) pr else c.row
def rnK (c : Ct) (kp : Bool) : Int32 := if kp = true ∧ ¬ c.rn = 300 then c.rn + 1 else c.rn
def svW (c : Ct) (w : Nat) : Nat → Int32 := upd c.wt (w * 3 + tN (lw c.wt w)) (c.wt (w * 3 + tN (lw c.wt w)) - 1)
def svU (c : Ct) (w : Nat) : Nat → Int32 := upd c.tu w (nI ((tN (c.tu w) + 1) % 5))
def rst (e : ax_Sg) (p t : Nat) : Int32 := if mayP e p t then nI t else 2
def svB (e : ax_Sg) (cc : Nat) (kp : Bool) (hd : Nat) (c : Ct) (p d w : Nat) : Ct :=
  (((((((((((c.set 1 (upd c.hr p (c.hr p + 1))).set 3 (upd c.dh d (c.dh d + 1))).set 5 (svW c w)).set 6 (svU c w)).set 2 (upd c.tk p (c.tk p + prI e cc hd c w))).set 4 (upd c.ea d (c.ea d + prI e cc hd c w))).set 12 (fun _ => c.ta + prI e cc hd c w)).set 9 (fun _ => c.rc + 1)).set 13 (rw5 c kp p w (toW c w) (prI e cc hd c w))).set 14 (fun _ => rnK c kp)).set 0 (upd c.wh p (rst e p (toW c w))))
def sv (e : ax_Sg) (cc : Nat) (kp : Bool) (hd sh : Nat) (c : Ct) (p : Nat) : Ct :=
  if c.wh p = -1 ∨ e 19 (p * 2 + sh) = -1 then (c.set 7 (upd c.rm p 0))
  else if lw c.wt (tN (c.wh p)) = -1 then ((svA c p (tN (e 19 (p * 2 + sh)))).set 7 (upd c.rm p 1))
  else ((svB e cc kp hd c p (tN (e 19 (p * 2 + sh))) (tN (c.wh p))).set 7 (upd c.rm p 0))
def rmP (e : ax_Sg) (c : Ct) (p : Nat) : Ct := if c.rm p = 0 then c else ((c.set 11 (fun _ => c.ic + 1)).set 0 (upd c.wh p (nI (bs e c.wt p (tN (c.wh p)) 5))))
def tir (c : Ct) (w : Nat) : Ct := ((c.set 10 (fun _ => c.lc + c.wt (w * 3 + 2))).set 5 (upd (upd (upd c.wt (w * 3 + 2) (c.wt (w * 3 + 1))) (w * 3 + 1) (c.wt (w * 3))) (w * 3) 0))
def shO (hd : Nat) : Nat := if 4 ≤ hd ∧ hd ≤ 15 then 0 else 1
def hrA (e : ax_Sg) (hd : Nat) (c : Ct) : Ct := its (adA e hd) c 5
def hrB (e : ax_Sg) (n cc : Nat) (kp : Bool) (hd : Nat) (c : Ct) : Ct := its (sv e cc kp hd (shO hd)) (hrA e hd c) n
def hrC (e : ax_Sg) (n cc : Nat) (kp : Bool) (hd : Nat) (c : Ct) : Ct := its (rmP e) (hrB e n cc kp hd c) n
def hrD (e : ax_Sg) (n cc : Nat) (kp : Bool) (hd : Nat) (c : Ct) : Ct := its tir (hrC e n cc kp hd c) 5
def hrE (e : ax_Sg) (n cc : Nat) (kp : Bool) (h : Nat) (c : Ct) : Ct := ((hrD e n cc kp (h % 24) c).set 8 (fun _ => nI (h + 1)))
def hrN (e : ax_Sg) (n cc : Nat) (kp : Bool) (h : Nat) (c : Ct) : Nat → Ct
  | 0 => c
  | k + 1 => hrE e n cc kp (h + k) (hrN e n cc kp h c k)
/-- what stays true within an hour -/
def Wf (n : Nat) (c : Ct) : Prop := (∀ p, p < n → c.wh p = -1 ∨ ∃ w, w < 5 ∧ c.wh p = nI w) ∧ (∀ i, i < 15 → rg 0 20 (c.wt i)) ∧ (∀ w, w < 5 → ∃ t, t < 5 ∧ c.tu w = nI t) ∧ ∃ r : Nat, r ≤ 300 ∧ c.rn = nI r
def Wz (n : Nat) (c : Ct) : Prop := Wf n c ∧ ∀ w, w < 5 → c.wt (w * 3) = 0
/-- what of the class the hours look at -/
def Ev0 (n cc : Nat) (e : ax_Sg) : Prop := n ≤ 12 ∧ cc ≤ 6 ∧ e 1 4 = nI n ∧ e 4 3 = nI cc ∧ (∀ i, i < 24 → e 19 i = -1 ∨ ∃ k, k < 16 ∧ e 19 i = nI k) ∧ ∀ i, i < 120 → rg 0 20 (e 29 i)
theorem lw_cases (f : Nat → Int32) (w : Nat) : (lw f w = -1 ∧ ∀ j, j < 3 → ¬ 0 < f (w * 3 + j)) ∨ ∃ j, j < 3 ∧ lw f w = nI j ∧ 0 < f (w * 3 + j) ∧ ∀ i, j < i → i < 3 → ¬ 0 < f (w * 3 + i) := by
  unfold lw
  by_cases h2 : 0 < f (w * 3 + 2)
  · rw [if_pos h2]; exact Or.inr ⟨2, by omega, rfl, h2, fun i a b => by omega⟩
  · rw [if_neg h2]
    by_cases h1 : 0 < f (w * 3 + 1)
    · rw [if_pos h1]; exact Or.inr ⟨1, by omega, rfl, h1, fun i a b => by rw [show i = 2 by omega]; exact h2⟩
    · rw [if_neg h1]
      by_cases h0 : 0 < f (w * 3 + 0)
      · rw [if_pos h0]
        refine Or.inr ⟨0, by omega, rfl, h0, fun i a b => ?_⟩
        rcases (show i = 1 ∨ i = 2 by omega) with rfl | rfl
        · exact h1
        · exact h2
      · rw [if_neg h0]
        refine Or.inl ⟨rfl, fun j hj => ?_⟩
        rcases (show j = 0 ∨ j = 1 ∨ j = 2 by omega) with rfl | rfl | rfl
        · exact h0
        · exact h1
        · exact h2
theorem nI_nm1 {k : Nat} (h : k < 2 ^ 31) : ¬ nI k = -1 := fun e => nI_pos h (by rw [e]; decide)
theorem wf_ada {e : ax_Sg} {n cc hd : Nat} {c : Ct} (he : Ev0 n cc e) (hhd : hd < 24) : ∀ k, k ≤ 5 → Wz n c → Wf n (its (adA e hd) c k) ∧ (∀ w, k ≤ w → w < 5 → (its (adA e hd) c k).wt (w * 3) = 0) ∧ (its (adA e hd) c k).rn = c.rn
  | 0, _, hz => ⟨hz.1, fun w _ hw => hz.2 w hw, rfl⟩
  | k + 1, hk, hz => by
    obtain ⟨⟨a1, a2, a3, a4⟩, b, b3⟩ := wf_ada (c := c) he hhd k (by omega) hz
    refine ⟨⟨a1, fun i hi => ?_, a3, a4⟩, fun w h1 h2 => ?_, b3⟩
    · show rg 0 20 (upd (its (adA e hd) c k).wt (k * 3) ((its (adA e hd) c k).wt (k * 3) + e 29 (hd * 5 + k)) i)
      by_cases h : i = k * 3
      · subst h
        rw [upd_s, b k (by omega) (by omega), Int32.zero_add]
        exact he.2.2.2.2.2 _ (by omega)
      · rw [upd_n _ _ h]; exact a2 i hi
    · show upd (its (adA e hd) c k).wt (k * 3) ((its (adA e hd) c k).wt (k * 3) + e 29 (hd * 5 + k)) (w * 3) = 0
      rw [upd_n _ _ (by omega)]
      exact b w (by omega) h2
theorem wf_sv {e : ax_Sg} {n cc hd sh p : Nat} {kp : Bool} {c : Ct} (hp : p < n) (hw : Wf n c) : Wf n (sv e cc kp hd sh c p) := by
  obtain ⟨a1, a2, a3, r, a4, a5⟩ := hw
  unfold sv
  by_cases h1 : c.wh p = -1 ∨ e 19 (p * 2 + sh) = -1
  · rw [if_pos h1]; exact ⟨a1, a2, a3, r, a4, a5⟩
  · rw [if_neg h1]
    by_cases h2 : lw c.wt (tN (c.wh p)) = -1
    · rw [if_pos h2]; exact ⟨a1, a2, a3, r, a4, a5⟩
    · rw [if_neg h2]
      rcases a1 p hp with hm | ⟨w, hw5, hwe⟩
      · exact absurd (Or.inl hm) h1
      · have ew : tN (c.wh p) = w := by rw [hwe]; exact cl_nI (by omega)
        rw [ew] at h2 ⊢
        rcases lw_cases c.wt w with ⟨hm, _⟩ | ⟨j, hj, hje, hjp, _⟩
        · exact absurd hm h2
        · refine ⟨fun p' hp' => ?_, fun i hi => ?_, fun w' hw' => ?_, ?_⟩
          · show upd c.wh p (rst e p (toW c w)) p' = -1 ∨ ∃ w', w' < 5 ∧ upd c.wh p (rst e p (toW c w)) p' = nI w'
            by_cases ep : p' = p
            · rw [ep, upd_s]
              right
              unfold rst
              by_cases hm : mayP e p (toW c w)
              · rw [if_pos hm]; exact ⟨toW c w, Nat.mod_lt _ (by omega), rfl⟩
              · rw [if_neg hm]; exact ⟨2, by omega, rfl⟩
            · rw [upd_n _ _ ep]; exact a1 p' hp'
          · show rg 0 20 (upd c.wt (w * 3 + tN (lw c.wt w)) (c.wt (w * 3 + tN (lw c.wt w)) - 1) i)
            rw [hje, show tN (nI j) = j from cl_nI (by omega)]
            by_cases ei : i = w * 3 + j
            · subst ei
              rw [upd_s]
              obtain ⟨b1, b2⟩ := a2 _ hi
              rw [lt_toInt] at hjp
              have h0 : (0 : Int32).toInt = 0 := by decide
              have h1' : (1 : Int32).toInt = 1 := by decide
              unfold rg
              rw [sub_toInt (by rw [h1']; omega) (by rw [h1']; omega), h1']
              omega
            · rw [upd_n _ _ ei]; exact a2 i hi
          · show ∃ t, t < 5 ∧ upd c.tu w (nI ((tN (c.tu w) + 1) % 5)) w' = nI t
            by_cases ew' : w' = w
            · rw [ew', upd_s]; exact ⟨_, Nat.mod_lt _ (by omega), rfl⟩
            · rw [upd_n _ _ ew']; exact a3 w' hw'
          · show ∃ r : Nat, r ≤ 300 ∧ (if kp = true ∧ ¬ c.rn = 300 then c.rn + 1 else c.rn) = nI r
            by_cases hk : kp = true ∧ ¬ c.rn = 300
            · rw [if_pos hk, a5, nI_1]
              refine ⟨r + 1, ?_, rfl⟩
              have : r ≠ 300 := fun z => hk.2 (by rw [a5, z]; rfl)
              omega
            · rw [if_neg hk]; exact ⟨r, a4, a5⟩
theorem wf_svs {e : ax_Sg} {n cc hd sh : Nat} {kp : Bool} {c : Ct} (hw : Wf n c) : ∀ k, k ≤ n → Wf n (its (sv e cc kp hd sh) c k)
  | 0, _ => hw
  | k + 1, hk => wf_sv (by omega) (wf_svs hw k (by omega))
theorem wf_rmP {e : ax_Sg} {n p : Nat} {c : Ct} (hp : p < n) (hr : ¬ c.rm p = 0 → ∃ w, w < 5 ∧ c.wh p = nI w) (hw : Wf n c) : Wf n (rmP e c p) := by
  obtain ⟨a1, a2, a3, a4⟩ := hw
  unfold rmP
  by_cases h : c.rm p = 0
  · rw [if_pos h]; exact ⟨a1, a2, a3, a4⟩
  · rw [if_neg h]
    obtain ⟨w, hw5, hwe⟩ := hr h
    refine ⟨fun p' hp' => ?_, a2, a3, a4⟩
    show upd c.wh p (nI (bs e c.wt p (tN (c.wh p)) 5)) p' = -1 ∨ ∃ w', w' < 5 ∧ upd c.wh p (nI (bs e c.wt p (tN (c.wh p)) 5)) p' = nI w'
    by_cases ep : p' = p
    · rw [ep, upd_s, hwe, show tN (nI w) = w from cl_nI (by omega)]
      exact Or.inr ⟨_, bs_lt hw5 5 (by omega), rfl⟩
    · rw [upd_n _ _ ep]; exact a1 p' hp'
/-- who roams stands somewhere -/
def Rmw (n : Nat) (c : Ct) : Prop := ∀ p, p < n → ¬ c.rm p = 0 → ∃ w, w < 5 ∧ c.wh p = nI w
theorem rmw_sv {e : ax_Sg} {n cc hd sh p : Nat} {kp : Bool} {c : Ct} (hpn : p < n) (hw : Wf n c) (hr : Rmw p c) : Rmw (p + 1) (sv e cc kp hd sh c p) := by
  intro p' hp'
  unfold sv
  by_cases h1 : c.wh p = -1 ∨ e 19 (p * 2 + sh) = -1
  · rw [if_pos h1]
    show ¬ upd c.rm p 0 p' = 0 → ∃ w, w < 5 ∧ c.wh p' = nI w
    by_cases ep : p' = p
    · rw [ep, upd_s]; exact fun z => absurd rfl z
    · rw [upd_n _ _ ep]; exact hr p' (by omega)
  · rw [if_neg h1]
    by_cases h2 : lw c.wt (tN (c.wh p)) = -1
    · rw [if_pos h2]
      show ¬ upd c.rm p 1 p' = 0 → ∃ w, w < 5 ∧ c.wh p' = nI w
      by_cases ep : p' = p
      · intro _
        rw [ep]
        exact (hw.1 p hpn).resolve_left (fun z => h1 (Or.inl z))
      · rw [upd_n _ _ ep]; exact hr p' (by omega)
    · rw [if_neg h2]
      show ¬ upd c.rm p 0 p' = 0 → ∃ w, w < 5 ∧ upd c.wh p (rst e p (toW c (tN (c.wh p)))) p' = nI w
      by_cases ep : p' = p
      · rw [ep, upd_s]; exact fun z => absurd rfl z
      · rw [upd_n _ _ ep, upd_n _ _ ep]; exact hr p' (by omega)
theorem rmw_svs {e : ax_Sg} {n cc hd sh : Nat} {kp : Bool} {c : Ct} (hw : Wf n c) : ∀ k, k ≤ n → Rmw k (its (sv e cc kp hd sh) c k)
  | 0, _ => fun p hp => absurd hp (by omega)
  | k + 1, hk => rmw_sv (by omega) (wf_svs hw k (by omega)) (rmw_svs hw k (by omega))
theorem rmw_rmP {e : ax_Sg} {n p : Nat} {c : Ct} (hp : p < n) (hr : Rmw n c) : Rmw n (rmP e c p) := by
  unfold rmP
  by_cases h : c.rm p = 0
  · rw [if_pos h]; exact hr
  · rw [if_neg h]
    intro p' hp'
    show ¬ c.rm p' = 0 → ∃ w, w < 5 ∧ upd c.wh p (nI (bs e c.wt p (tN (c.wh p)) 5)) p' = nI w
    by_cases ep : p' = p
    · intro _
      obtain ⟨w, hw5, hwe⟩ := hr p hp h
      rw [ep, upd_s, hwe, show tN (nI w) = w from cl_nI (by omega)]
      exact ⟨_, bs_lt hw5 5 (by omega), rfl⟩
    · rw [upd_n _ _ ep]; exact hr p' hp'
theorem wf_rmPs {e : ax_Sg} {n : Nat} {c : Ct} (hw : Wf n c) (hr : Rmw n c) : ∀ k, k ≤ n → Wf n (its (rmP e) c k) ∧ Rmw n (its (rmP e) c k)
  | 0, _ => ⟨hw, hr⟩
  | k + 1, hk => by
    obtain ⟨a, b⟩ := wf_rmPs (e := e) hw hr k (by omega)
    exact ⟨wf_rmP (by omega) (b k (by omega)) a, rmw_rmP (by omega) b⟩
theorem wf_tir {n : Nat} {c : Ct} (hw : Wf n c) : ∀ k, k ≤ 5 → Wf n (its tir c k) ∧ ∀ w, w < k → (its tir c k).wt (w * 3) = 0
  | 0, _ => ⟨hw, fun w h => absurd h (by omega)⟩
  | k + 1, hk => by
    obtain ⟨⟨a1, a2, a3, a4⟩, b⟩ := wf_tir hw k (by omega)
    have key : ∀ i, (its tir c (k + 1)).wt i = if i = k * 3 then 0 else if i = k * 3 + 1 then (its tir c k).wt (k * 3) else if i = k * 3 + 2 then (its tir c k).wt (k * 3 + 1) else (its tir c k).wt i := fun i => rfl
    refine ⟨⟨a1, fun i hi => ?_, a3, a4⟩, fun w hwk => ?_⟩
    · rw [key]
      by_cases h0 : i = k * 3
      · rw [if_pos h0]; unfold rg; decide
      · rw [if_neg h0]
        by_cases h1 : i = k * 3 + 1
        · rw [if_pos h1]; exact a2 _ (by omega)
        · rw [if_neg h1]
          by_cases h2 : i = k * 3 + 2
          · rw [if_pos h2]; exact a2 _ (by omega)
          · rw [if_neg h2]; exact a2 i hi
    · rw [key]
      by_cases h0 : w * 3 = k * 3
      · rw [if_pos h0]
      · rw [if_neg h0, if_neg (by omega), if_neg (by omega)]; exact b w (by omega)
theorem wf_hrA {e : ax_Sg} {n cc hd : Nat} {c : Ct} (he : Ev0 n cc e) (hhd : hd < 24) (hz : Wz n c) : Wf n (hrA e hd c) := (wf_ada he hhd 5 (Nat.le_refl _) hz).1
theorem wf_hrB {e : ax_Sg} {n cc hd : Nat} {kp : Bool} {c : Ct} (he : Ev0 n cc e) (hhd : hd < 24) (hz : Wz n c) : Wf n (hrB e n cc kp hd c) ∧ Rmw n (hrB e n cc kp hd c) := ⟨wf_svs (wf_hrA he hhd hz) n (Nat.le_refl _), rmw_svs (wf_hrA he hhd hz) n (Nat.le_refl _)⟩
theorem wf_hrC {e : ax_Sg} {n cc hd : Nat} {kp : Bool} {c : Ct} (he : Ev0 n cc e) (hhd : hd < 24) (hz : Wz n c) : Wf n (hrC e n cc kp hd c) := (wf_rmPs (wf_hrB he hhd hz).1 (wf_hrB he hhd hz).2 n (Nat.le_refl _)).1
theorem wz_hrE {e : ax_Sg} {n cc h : Nat} {kp : Bool} {c : Ct} (he : Ev0 n cc e) (hz : Wz n c) : Wz n (hrE e n cc kp h c) := by
  have := wf_tir (wf_hrC (kp := kp) he (Nat.mod_lt h (by omega)) hz) 5 (Nat.le_refl _)
  exact ⟨this.1, this.2⟩
theorem wz_hrN {e : ax_Sg} {n cc h : Nat} {kp : Bool} {c : Ct} (he : Ev0 n cc e) (hz : Wz n c) : ∀ k, Wz n (hrN e n cc kp h c k)
  | 0 => hz
  | k + 1 => wz_hrE he (wz_hrN he hz k)
