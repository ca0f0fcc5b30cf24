/-! the world behind both constructors. Written by wip/whole/gen/gen_start.py -/
def wX (xa : Nat → Nat) (f0 f1 f2 : Nat → Int32) (cI cZ : ClassId) : va_W := [((xa 0), .inr (10, [.ref (xa 1), .ref (xa 6), .ref (xa 14), .ref (xa 20), .ref (xa 24), .ref (xa 26), .ref (xa 28), .ref (xa 37), .ref (xa 46), .ref (xa 51), .ref (xa 55)])), ((xa 1), .inr (6, [.ref (xa 2), .ref (xa 3), .ref (xa 4), .ref (xa 5), .int 0])), ((xa 2), .inl (cI, 12, .inl (fun _ => 0))), ((xa 3), .inl (cI, 12, .inl (fun _ => 0))), ((xa 4), .inl (cI, 12, .inl (fun _ => 0))), ((xa 5), .inl (cI, 12, .inl (fun _ => 0))), ((xa 6), .inr (8, [.ref (xa 7), .ref (xa 8), .int 0, .ref (xa 9), .ref (xa 10), .ref (xa 11), .int 0, .int 0, .ref (xa 12), .ref (xa 13)])), ((xa 7), .inl (cI, 16, .inl (fun _ => 0))), ((xa 8), .inl (cI, 24, .inl f0)), ((xa 9), .inl (cI, 10, .inl (fun _ => 0))), ((xa 10), .inl (cI, 10, .inl (fun _ => 0))), ((xa 11), .inl (cZ, 10, .inl (fun _ => 0))), ((xa 12), .inl (cI, 2, .inl (fun _ => 0))), ((xa 13), .inl (cI, 3, .inl (fun _ => 0))), ((xa 14), .inr (9, [.ref (xa 15), .ref (xa 16), .int 0, .int 0])), ((xa 15), .inl (cI, 120, .inl (fun _ => 0))), ((xa 16), .inr (5, [.ref (xa 17), .ref (xa 18), .ref (xa 19), .int 0])), ((xa 17), .inl (cI, 6, .inl (fun _ => 0))), ((xa 18), .inl (cI, 6, .inl (fun _ => 0))), ((xa 19), .inl (cI, 6, .inl (fun _ => 0))), ((xa 20), .inr (5, [.ref (xa 21), .ref (xa 22), .ref (xa 23), .int 0])), ((xa 21), .inl (cI, 6, .inl (fun _ => 0))), ((xa 22), .inl (cI, 6, .inl (fun _ => 0))), ((xa 23), .inl (cI, 6, .inl (fun _ => 0))), ((xa 24), .inr (0, [.ref (xa 25)])), ((xa 25), .inl (cI, 120, .inl (fun _ => 0))), ((xa 26), .inr (7, [.ref (xa 27), .int 0])), ((xa 27), .inl (cI, 1500, .inl (fun _ => 0))), ((xa 28), .inr (1, [.ref (xa 1), .ref (xa 6), .ref (xa 20), .ref (xa 24), .ref (xa 26), .ref (xa 29), .ref (xa 30), .ref (xa 31), .ref (xa 32), .ref (xa 33), .ref (xa 34), .ref (xa 35), .ref (xa 36), .int 0, .int 0, .int 0, .int 0, .int 0])), ((xa 29), .inl (cI, 12, .inl f1)), ((xa 30), .inl (cI, 12, .inl (fun _ => 0))), ((xa 31), .inl (cI, 12, .inl (fun _ => 0))), ((xa 32), .inl (cI, 16, .inl (fun _ => 0))), ((xa 33), .inl (cI, 16, .inl (fun _ => 0))), ((xa 34), .inl (cI, 15, .inl (fun _ => 0))), ((xa 35), .inl (cI, 5, .inl (fun _ => 0))), ((xa 36), .inl (cZ, 12, .inl (fun _ => 0))), ((xa 37), .inr (1, [.ref (xa 1), .ref (xa 6), .ref (xa 20), .ref (xa 24), .null, .ref (xa 38), .ref (xa 39), .ref (xa 40), .ref (xa 41), .ref (xa 42), .ref (xa 43), .ref (xa 44), .ref (xa 45), .int 0, .int 0, .int 0, .int 0, .int 0])), ((xa 38), .inl (cI, 12, .inl f2)), ((xa 39), .inl (cI, 12, .inl (fun _ => 0))), ((xa 40), .inl (cI, 12, .inl (fun _ => 0))), ((xa 41), .inl (cI, 16, .inl (fun _ => 0))), ((xa 42), .inl (cI, 16, .inl (fun _ => 0))), ((xa 43), .inl (cI, 15, .inl (fun _ => 0))), ((xa 44), .inl (cI, 5, .inl (fun _ => 0))), ((xa 45), .inl (cZ, 12, .inl (fun _ => 0))), ((xa 46), .inr (4, [.ref (xa 47), .ref (xa 48), .ref (xa 49), .ref (xa 50), .int 0])), ((xa 47), .inl (cI, 30, .inl (fun _ => 0))), ((xa 48), .inl (cI, 30, .inl (fun _ => 0))), ((xa 49), .inl (cI, 30, .inl (fun _ => 0))), ((xa 50), .inl (cI, 30, .inl (fun _ => 0))), ((xa 51), .inr (2, [.ref (xa 24), .ref (xa 52), .int 0, .ref (xa 53), .ref (xa 54), .int 0])), ((xa 52), .inl (cI, 6, .inl (fun _ => 0))), ((xa 53), .inl (cI, 64, .inl (fun _ => 0))), ((xa 54), .inl (cI, 64, .inl (fun _ => 0))), ((xa 55), .inr (3, [.ref (xa 56), .int 0])), ((xa 56), .inl (cI, 12, .inl (fun _ => 0)))]
def wM (ma : Nat → Nat) (cI cZ : ClassId) : va_W := [((ma 0), .inr (11, [.ref (ma 1), .ref (ma 2), .ref (ma 3), .ref (ma 4), .ref (ma 5), .ref (ma 6), .ref (ma 7), .int 0, .int 0, .ref (ma 8), .ref (ma 9), .int 0, .int 0, .int 0, .int 0, .int 0, .ref (ma 10), .ref (ma 11), .ref (ma 12), .ref (ma 13), .ref (ma 14), .ref (ma 15), .ref (ma 16), .ref (ma 17), .ref (ma 18), .int 0, .int 0, .ref (ma 19), .ref (ma 20), .ref (ma 21), .ref (ma 22), .ref (ma 23), .ref (ma 24), .ref (ma 25), .int 0, .int 0, .int 0, .ref (ma 26), .ref (ma 27), .ref (ma 28), .ref (ma 29), .ref (ma 30), .int 0, .ref (ma 31), .ref (ma 32), .ref (ma 33), .ref (ma 34), .int 0, .int 0, .int 0, .ref (ma 35), .int 0])), ((ma 1), .inl (cI, 12, .inl (fun _ => 0))), ((ma 2), .inl (cI, 12, .inl (fun _ => 0))), ((ma 3), .inl (cI, 12, .inl (fun _ => 0))), ((ma 4), .inl (cI, 12, .inl (fun _ => 0))), ((ma 5), .inl (cI, 16, .inl (fun _ => 0))), ((ma 6), .inl (cI, 12, .inl (fun _ => 0))), ((ma 7), .inl (cI, 12, .inl (fun _ => 0))), ((ma 8), .inl (cI, 88, .inl (fun _ => 0))), ((ma 9), .inl (cI, 88, .inl (fun _ => 0))), ((ma 10), .inl (cI, 300, .inl (fun _ => 0))), ((ma 11), .inl (cI, 300, .inl (fun _ => 0))), ((ma 12), .inl (cI, 300, .inl (fun _ => 0))), ((ma 13), .inl (cI, 300, .inl (fun _ => 0))), ((ma 14), .inl (cI, 300, .inl (fun _ => 0))), ((ma 15), .inl (cI, 120, .inl (fun _ => 0))), ((ma 16), .inl (cI, 10, .inl (fun _ => 0))), ((ma 17), .inl (cI, 10, .inl (fun _ => 0))), ((ma 18), .inl (cI, 11264, .inl (fun _ => 0))), ((ma 19), .inl (cI, 120, .inl (fun _ => 0))), ((ma 20), .inl (cI, 6, .inl (fun _ => 0))), ((ma 21), .inl (cI, 6, .inl (fun _ => 0))), ((ma 22), .inl (cI, 6, .inl (fun _ => 0))), ((ma 23), .inl (cI, 6, .inl (fun _ => 0))), ((ma 24), .inl (cI, 6, .inl (fun _ => 0))), ((ma 25), .inl (cI, 6, .inl (fun _ => 0))), ((ma 26), .inl (cZ, 12, .inl (fun _ => 0))), ((ma 27), .inl (cI, 30, .inl (fun _ => 0))), ((ma 28), .inl (cI, 30, .inl (fun _ => 0))), ((ma 29), .inl (cI, 30, .inl (fun _ => 0))), ((ma 30), .inl (cI, 30, .inl (fun _ => 0))), ((ma 31), .inl (cI, 6, .inl (fun _ => 0))), ((ma 32), .inl (cI, 6, .inl (fun _ => 0))), ((ma 33), .inl (cI, 6, .inl (fun _ => 0))), ((ma 34), .inl (cI, 8, .inl (fun _ => 0))), ((ma 35), .inl (cI, 12, .inl (fun _ => 0)))]
def aL (xa ma : Nat → Nat) : List Nat := [xa 0, xa 1, xa 6, xa 14, xa 20, xa 24, xa 26, xa 28, xa 37, xa 46, xa 51, xa 55, xa 16, ma 0, xa 2, xa 3, xa 4, xa 5, xa 7, xa 8, xa 9, xa 10, xa 11, xa 12, xa 13, xa 15, xa 21, xa 22, xa 23, xa 25, xa 27, xa 29, xa 30, xa 31, xa 32, xa 33, xa 34, xa 35, xa 36, xa 38, xa 39, xa 40, xa 41, xa 42, xa 43, xa 44, xa 45, xa 47, xa 48, xa 49, xa 50, xa 52, xa 53, xa 54, xa 56, xa 17, xa 18, xa 19, ma 1, ma 2, ma 3, ma 4, ma 5, ma 6, ma 7, ma 8, ma 9, ma 10, ma 11, ma 12, ma 13, ma 14, ma 15, ma 16, ma 17, ma 18, ma 19, ma 20, ma 21, ma 22, ma 23, ma 24, ma 25, ma 26, ma 27, ma 28, ma 29, ma 30, ma 31, ma 32, ma 33, ma 34, ma 35]
def gL : List Nat := [0, 1, 6, 14, 20, 24, 26, 28, 37, 46, 51, 55, 16, 57, 2, 3, 4, 5, 7, 8, 9, 10, 11, 12, 13, 15, 21, 22, 23, 25, 27, 29, 30, 31, 32, 33, 34, 35, 36, 38, 39, 40, 41, 42, 43, 44, 45, 47, 48, 49, 50, 52, 53, 54, 56, 17, 18, 19, 58, 59, 60, 61, 62, 63, 64, 65, 66, 67, 68, 69, 70, 71, 72, 73, 74, 75, 76, 77, 78, 79, 80, 81, 82, 83, 84, 85, 86, 87, 88, 89, 90, 91, 92]
def mu (xa ma adK : Nat → Nat) (b : Nat) : Nat → Nat := fun k => if k < 93 then (aL xa ma).getD k 0 else if k = 2000 then b else adK (k - 1000)
def sg0 (f0 f1 f2 : Nat → Int32) : ax_Sg := fun k => if k = 19 then f0 else if k = 31 then f1 else if k = 39 then f2 else fun _ => 0
def miL {α β : Type} (f : Nat → α → β) : Nat → List α → List β
  | _, [] => []
  | n, a :: l => f n a :: miL f (n + 1) l
theorem miL_eq {α β : Type} (f : Nat → α → β) : ∀ (l : List α) (n : Nat), l.mapIdx (fun i a => f (i + n) a) = miL f n l
  | [], n => rfl
  | a :: l, n => by
    rw [List.mapIdx_cons]
    show f (0 + n) a :: List.mapIdx (fun i a => f (i + 1 + n) a) l = f n a :: miL f (n + 1) l
    rw [Nat.zero_add, ← miL_eq f l (n + 1)]
    congr 2
    funext i a
    rw [Nat.add_assoc, Nat.add_comm 1 n]
theorem ax_ce_o {μ : Nat → Nat} {cI cZ : ClassId} {σ : ax_Sg} {k t n : Nat} {fs : List (Option (Option Nat))} : ax_ce μ cI cZ σ k (t + 2, n, fs) = .inr (t, miL (fun j f => ax_fv μ σ k j f) 0 fs) := by
  show Sum.inr (t, ax_fs μ σ k fs) = _
  unfold ax_fs
  rw [← miL_eq]
  rfl
theorem wa_0 {xa ma adK : Nat → Nat} {b : Nat} {f0 f1 f2 : Nat → Int32} {cI cZ : ClassId} : (ax_ws (mu xa ma adK b) cI cZ (sg0 f0 f1 f2))[0]? = (wX xa f0 f1 f2 cI cZ ++ wM ma cI cZ)[0]? := by
  rw [ax_ws_at]; rfl
theorem wa_1 {xa ma adK : Nat → Nat} {b : Nat} {f0 f1 f2 : Nat → Int32} {cI cZ : ClassId} : (ax_ws (mu xa ma adK b) cI cZ (sg0 f0 f1 f2))[1]? = (wX xa f0 f1 f2 cI cZ ++ wM ma cI cZ)[1]? := by
  rw [ax_ws_at]; rfl
theorem wa_2 {xa ma adK : Nat → Nat} {b : Nat} {f0 f1 f2 : Nat → Int32} {cI cZ : ClassId} : (ax_ws (mu xa ma adK b) cI cZ (sg0 f0 f1 f2))[2]? = (wX xa f0 f1 f2 cI cZ ++ wM ma cI cZ)[6]? := by
  rw [ax_ws_at]; rfl
theorem wa_3 {xa ma adK : Nat → Nat} {b : Nat} {f0 f1 f2 : Nat → Int32} {cI cZ : ClassId} : (ax_ws (mu xa ma adK b) cI cZ (sg0 f0 f1 f2))[3]? = (wX xa f0 f1 f2 cI cZ ++ wM ma cI cZ)[14]? := by
  rw [ax_ws_at]; rfl
theorem wa_4 {xa ma adK : Nat → Nat} {b : Nat} {f0 f1 f2 : Nat → Int32} {cI cZ : ClassId} : (ax_ws (mu xa ma adK b) cI cZ (sg0 f0 f1 f2))[4]? = (wX xa f0 f1 f2 cI cZ ++ wM ma cI cZ)[20]? := by
  rw [ax_ws_at]; rfl
theorem wa_5 {xa ma adK : Nat → Nat} {b : Nat} {f0 f1 f2 : Nat → Int32} {cI cZ : ClassId} : (ax_ws (mu xa ma adK b) cI cZ (sg0 f0 f1 f2))[5]? = (wX xa f0 f1 f2 cI cZ ++ wM ma cI cZ)[24]? := by
  rw [ax_ws_at]; rfl
theorem wa_6 {xa ma adK : Nat → Nat} {b : Nat} {f0 f1 f2 : Nat → Int32} {cI cZ : ClassId} : (ax_ws (mu xa ma adK b) cI cZ (sg0 f0 f1 f2))[6]? = (wX xa f0 f1 f2 cI cZ ++ wM ma cI cZ)[26]? := by
  rw [ax_ws_at]; rfl
theorem wa_7 {xa ma adK : Nat → Nat} {b : Nat} {f0 f1 f2 : Nat → Int32} {cI cZ : ClassId} : (ax_ws (mu xa ma adK b) cI cZ (sg0 f0 f1 f2))[7]? = (wX xa f0 f1 f2 cI cZ ++ wM ma cI cZ)[28]? := by
  rw [ax_ws_at]; rfl
theorem wa_8 {xa ma adK : Nat → Nat} {b : Nat} {f0 f1 f2 : Nat → Int32} {cI cZ : ClassId} : (ax_ws (mu xa ma adK b) cI cZ (sg0 f0 f1 f2))[8]? = (wX xa f0 f1 f2 cI cZ ++ wM ma cI cZ)[37]? := by
  rw [ax_ws_at]; rfl
theorem wa_9 {xa ma adK : Nat → Nat} {b : Nat} {f0 f1 f2 : Nat → Int32} {cI cZ : ClassId} : (ax_ws (mu xa ma adK b) cI cZ (sg0 f0 f1 f2))[9]? = (wX xa f0 f1 f2 cI cZ ++ wM ma cI cZ)[46]? := by
  rw [ax_ws_at]; rfl
theorem wa_10 {xa ma adK : Nat → Nat} {b : Nat} {f0 f1 f2 : Nat → Int32} {cI cZ : ClassId} : (ax_ws (mu xa ma adK b) cI cZ (sg0 f0 f1 f2))[10]? = (wX xa f0 f1 f2 cI cZ ++ wM ma cI cZ)[51]? := by
  rw [ax_ws_at]; rfl
theorem wa_11 {xa ma adK : Nat → Nat} {b : Nat} {f0 f1 f2 : Nat → Int32} {cI cZ : ClassId} : (ax_ws (mu xa ma adK b) cI cZ (sg0 f0 f1 f2))[11]? = (wX xa f0 f1 f2 cI cZ ++ wM ma cI cZ)[55]? := by
  rw [ax_ws_at]; rfl
theorem wa_12 {xa ma adK : Nat → Nat} {b : Nat} {f0 f1 f2 : Nat → Int32} {cI cZ : ClassId} : (ax_ws (mu xa ma adK b) cI cZ (sg0 f0 f1 f2))[12]? = (wX xa f0 f1 f2 cI cZ ++ wM ma cI cZ)[16]? := by
  rw [ax_ws_at]; rfl
theorem wa_13 {xa ma adK : Nat → Nat} {b : Nat} {f0 f1 f2 : Nat → Int32} {cI cZ : ClassId} : (ax_ws (mu xa ma adK b) cI cZ (sg0 f0 f1 f2))[13]? = (wX xa f0 f1 f2 cI cZ ++ wM ma cI cZ)[57]? := by
  rw [ax_ws_at]
  exact (congrArg (fun z => some (mu xa ma adK b 13, z)) (ax_ce_o (t := 11) (n := 0))).trans rfl
theorem wa_14 {xa ma adK : Nat → Nat} {b : Nat} {f0 f1 f2 : Nat → Int32} {cI cZ : ClassId} : (ax_ws (mu xa ma adK b) cI cZ (sg0 f0 f1 f2))[14]? = (wX xa f0 f1 f2 cI cZ ++ wM ma cI cZ)[2]? := by
  rw [ax_ws_at]; rfl
theorem wa_15 {xa ma adK : Nat → Nat} {b : Nat} {f0 f1 f2 : Nat → Int32} {cI cZ : ClassId} : (ax_ws (mu xa ma adK b) cI cZ (sg0 f0 f1 f2))[15]? = (wX xa f0 f1 f2 cI cZ ++ wM ma cI cZ)[3]? := by
  rw [ax_ws_at]; rfl
theorem wa_16 {xa ma adK : Nat → Nat} {b : Nat} {f0 f1 f2 : Nat → Int32} {cI cZ : ClassId} : (ax_ws (mu xa ma adK b) cI cZ (sg0 f0 f1 f2))[16]? = (wX xa f0 f1 f2 cI cZ ++ wM ma cI cZ)[4]? := by
  rw [ax_ws_at]; rfl
theorem wa_17 {xa ma adK : Nat → Nat} {b : Nat} {f0 f1 f2 : Nat → Int32} {cI cZ : ClassId} : (ax_ws (mu xa ma adK b) cI cZ (sg0 f0 f1 f2))[17]? = (wX xa f0 f1 f2 cI cZ ++ wM ma cI cZ)[5]? := by
  rw [ax_ws_at]; rfl
theorem wa_18 {xa ma adK : Nat → Nat} {b : Nat} {f0 f1 f2 : Nat → Int32} {cI cZ : ClassId} : (ax_ws (mu xa ma adK b) cI cZ (sg0 f0 f1 f2))[18]? = (wX xa f0 f1 f2 cI cZ ++ wM ma cI cZ)[7]? := by
  rw [ax_ws_at]; rfl
theorem wa_19 {xa ma adK : Nat → Nat} {b : Nat} {f0 f1 f2 : Nat → Int32} {cI cZ : ClassId} : (ax_ws (mu xa ma adK b) cI cZ (sg0 f0 f1 f2))[19]? = (wX xa f0 f1 f2 cI cZ ++ wM ma cI cZ)[8]? := by
  rw [ax_ws_at]; rfl
theorem wa_20 {xa ma adK : Nat → Nat} {b : Nat} {f0 f1 f2 : Nat → Int32} {cI cZ : ClassId} : (ax_ws (mu xa ma adK b) cI cZ (sg0 f0 f1 f2))[20]? = (wX xa f0 f1 f2 cI cZ ++ wM ma cI cZ)[9]? := by
  rw [ax_ws_at]; rfl
theorem wa_21 {xa ma adK : Nat → Nat} {b : Nat} {f0 f1 f2 : Nat → Int32} {cI cZ : ClassId} : (ax_ws (mu xa ma adK b) cI cZ (sg0 f0 f1 f2))[21]? = (wX xa f0 f1 f2 cI cZ ++ wM ma cI cZ)[10]? := by
  rw [ax_ws_at]; rfl
theorem wa_22 {xa ma adK : Nat → Nat} {b : Nat} {f0 f1 f2 : Nat → Int32} {cI cZ : ClassId} : (ax_ws (mu xa ma adK b) cI cZ (sg0 f0 f1 f2))[22]? = (wX xa f0 f1 f2 cI cZ ++ wM ma cI cZ)[11]? := by
  rw [ax_ws_at]; rfl
theorem wa_23 {xa ma adK : Nat → Nat} {b : Nat} {f0 f1 f2 : Nat → Int32} {cI cZ : ClassId} : (ax_ws (mu xa ma adK b) cI cZ (sg0 f0 f1 f2))[23]? = (wX xa f0 f1 f2 cI cZ ++ wM ma cI cZ)[12]? := by
  rw [ax_ws_at]; rfl
theorem wa_24 {xa ma adK : Nat → Nat} {b : Nat} {f0 f1 f2 : Nat → Int32} {cI cZ : ClassId} : (ax_ws (mu xa ma adK b) cI cZ (sg0 f0 f1 f2))[24]? = (wX xa f0 f1 f2 cI cZ ++ wM ma cI cZ)[13]? := by
  rw [ax_ws_at]; rfl
theorem wa_25 {xa ma adK : Nat → Nat} {b : Nat} {f0 f1 f2 : Nat → Int32} {cI cZ : ClassId} : (ax_ws (mu xa ma adK b) cI cZ (sg0 f0 f1 f2))[25]? = (wX xa f0 f1 f2 cI cZ ++ wM ma cI cZ)[15]? := by
  rw [ax_ws_at]; rfl
theorem wa_26 {xa ma adK : Nat → Nat} {b : Nat} {f0 f1 f2 : Nat → Int32} {cI cZ : ClassId} : (ax_ws (mu xa ma adK b) cI cZ (sg0 f0 f1 f2))[26]? = (wX xa f0 f1 f2 cI cZ ++ wM ma cI cZ)[21]? := by
  rw [ax_ws_at]; rfl
theorem wa_27 {xa ma adK : Nat → Nat} {b : Nat} {f0 f1 f2 : Nat → Int32} {cI cZ : ClassId} : (ax_ws (mu xa ma adK b) cI cZ (sg0 f0 f1 f2))[27]? = (wX xa f0 f1 f2 cI cZ ++ wM ma cI cZ)[22]? := by
  rw [ax_ws_at]; rfl
theorem wa_28 {xa ma adK : Nat → Nat} {b : Nat} {f0 f1 f2 : Nat → Int32} {cI cZ : ClassId} : (ax_ws (mu xa ma adK b) cI cZ (sg0 f0 f1 f2))[28]? = (wX xa f0 f1 f2 cI cZ ++ wM ma cI cZ)[23]? := by
  rw [ax_ws_at]; rfl
theorem wa_29 {xa ma adK : Nat → Nat} {b : Nat} {f0 f1 f2 : Nat → Int32} {cI cZ : ClassId} : (ax_ws (mu xa ma adK b) cI cZ (sg0 f0 f1 f2))[29]? = (wX xa f0 f1 f2 cI cZ ++ wM ma cI cZ)[25]? := by
  rw [ax_ws_at]; rfl
theorem wa_30 {xa ma adK : Nat → Nat} {b : Nat} {f0 f1 f2 : Nat → Int32} {cI cZ : ClassId} : (ax_ws (mu xa ma adK b) cI cZ (sg0 f0 f1 f2))[30]? = (wX xa f0 f1 f2 cI cZ ++ wM ma cI cZ)[27]? := by
  rw [ax_ws_at]; rfl
theorem wa_31 {xa ma adK : Nat → Nat} {b : Nat} {f0 f1 f2 : Nat → Int32} {cI cZ : ClassId} : (ax_ws (mu xa ma adK b) cI cZ (sg0 f0 f1 f2))[31]? = (wX xa f0 f1 f2 cI cZ ++ wM ma cI cZ)[29]? := by
  rw [ax_ws_at]; rfl
theorem wa_32 {xa ma adK : Nat → Nat} {b : Nat} {f0 f1 f2 : Nat → Int32} {cI cZ : ClassId} : (ax_ws (mu xa ma adK b) cI cZ (sg0 f0 f1 f2))[32]? = (wX xa f0 f1 f2 cI cZ ++ wM ma cI cZ)[30]? := by
  rw [ax_ws_at]; rfl
theorem wa_33 {xa ma adK : Nat → Nat} {b : Nat} {f0 f1 f2 : Nat → Int32} {cI cZ : ClassId} : (ax_ws (mu xa ma adK b) cI cZ (sg0 f0 f1 f2))[33]? = (wX xa f0 f1 f2 cI cZ ++ wM ma cI cZ)[31]? := by
  rw [ax_ws_at]; rfl
theorem wa_34 {xa ma adK : Nat → Nat} {b : Nat} {f0 f1 f2 : Nat → Int32} {cI cZ : ClassId} : (ax_ws (mu xa ma adK b) cI cZ (sg0 f0 f1 f2))[34]? = (wX xa f0 f1 f2 cI cZ ++ wM ma cI cZ)[32]? := by
  rw [ax_ws_at]; rfl
theorem wa_35 {xa ma adK : Nat → Nat} {b : Nat} {f0 f1 f2 : Nat → Int32} {cI cZ : ClassId} : (ax_ws (mu xa ma adK b) cI cZ (sg0 f0 f1 f2))[35]? = (wX xa f0 f1 f2 cI cZ ++ wM ma cI cZ)[33]? := by
  rw [ax_ws_at]; rfl
theorem wa_36 {xa ma adK : Nat → Nat} {b : Nat} {f0 f1 f2 : Nat → Int32} {cI cZ : ClassId} : (ax_ws (mu xa ma adK b) cI cZ (sg0 f0 f1 f2))[36]? = (wX xa f0 f1 f2 cI cZ ++ wM ma cI cZ)[34]? := by
  rw [ax_ws_at]; rfl
theorem wa_37 {xa ma adK : Nat → Nat} {b : Nat} {f0 f1 f2 : Nat → Int32} {cI cZ : ClassId} : (ax_ws (mu xa ma adK b) cI cZ (sg0 f0 f1 f2))[37]? = (wX xa f0 f1 f2 cI cZ ++ wM ma cI cZ)[35]? := by
  rw [ax_ws_at]; rfl
theorem wa_38 {xa ma adK : Nat → Nat} {b : Nat} {f0 f1 f2 : Nat → Int32} {cI cZ : ClassId} : (ax_ws (mu xa ma adK b) cI cZ (sg0 f0 f1 f2))[38]? = (wX xa f0 f1 f2 cI cZ ++ wM ma cI cZ)[36]? := by
  rw [ax_ws_at]; rfl
theorem wa_39 {xa ma adK : Nat → Nat} {b : Nat} {f0 f1 f2 : Nat → Int32} {cI cZ : ClassId} : (ax_ws (mu xa ma adK b) cI cZ (sg0 f0 f1 f2))[39]? = (wX xa f0 f1 f2 cI cZ ++ wM ma cI cZ)[38]? := by
  rw [ax_ws_at]; rfl
theorem wa_40 {xa ma adK : Nat → Nat} {b : Nat} {f0 f1 f2 : Nat → Int32} {cI cZ : ClassId} : (ax_ws (mu xa ma adK b) cI cZ (sg0 f0 f1 f2))[40]? = (wX xa f0 f1 f2 cI cZ ++ wM ma cI cZ)[39]? := by
  rw [ax_ws_at]; rfl
theorem wa_41 {xa ma adK : Nat → Nat} {b : Nat} {f0 f1 f2 : Nat → Int32} {cI cZ : ClassId} : (ax_ws (mu xa ma adK b) cI cZ (sg0 f0 f1 f2))[41]? = (wX xa f0 f1 f2 cI cZ ++ wM ma cI cZ)[40]? := by
  rw [ax_ws_at]; rfl
theorem wa_42 {xa ma adK : Nat → Nat} {b : Nat} {f0 f1 f2 : Nat → Int32} {cI cZ : ClassId} : (ax_ws (mu xa ma adK b) cI cZ (sg0 f0 f1 f2))[42]? = (wX xa f0 f1 f2 cI cZ ++ wM ma cI cZ)[41]? := by
  rw [ax_ws_at]; rfl
theorem wa_43 {xa ma adK : Nat → Nat} {b : Nat} {f0 f1 f2 : Nat → Int32} {cI cZ : ClassId} : (ax_ws (mu xa ma adK b) cI cZ (sg0 f0 f1 f2))[43]? = (wX xa f0 f1 f2 cI cZ ++ wM ma cI cZ)[42]? := by
  rw [ax_ws_at]; rfl
theorem wa_44 {xa ma adK : Nat → Nat} {b : Nat} {f0 f1 f2 : Nat → Int32} {cI cZ : ClassId} : (ax_ws (mu xa ma adK b) cI cZ (sg0 f0 f1 f2))[44]? = (wX xa f0 f1 f2 cI cZ ++ wM ma cI cZ)[43]? := by
  rw [ax_ws_at]; rfl
theorem wa_45 {xa ma adK : Nat → Nat} {b : Nat} {f0 f1 f2 : Nat → Int32} {cI cZ : ClassId} : (ax_ws (mu xa ma adK b) cI cZ (sg0 f0 f1 f2))[45]? = (wX xa f0 f1 f2 cI cZ ++ wM ma cI cZ)[44]? := by
  rw [ax_ws_at]; rfl
theorem wa_46 {xa ma adK : Nat → Nat} {b : Nat} {f0 f1 f2 : Nat → Int32} {cI cZ : ClassId} : (ax_ws (mu xa ma adK b) cI cZ (sg0 f0 f1 f2))[46]? = (wX xa f0 f1 f2 cI cZ ++ wM ma cI cZ)[45]? := by
  rw [ax_ws_at]; rfl
theorem wa_47 {xa ma adK : Nat → Nat} {b : Nat} {f0 f1 f2 : Nat → Int32} {cI cZ : ClassId} : (ax_ws (mu xa ma adK b) cI cZ (sg0 f0 f1 f2))[47]? = (wX xa f0 f1 f2 cI cZ ++ wM ma cI cZ)[47]? := by
  rw [ax_ws_at]; rfl
theorem wa_48 {xa ma adK : Nat → Nat} {b : Nat} {f0 f1 f2 : Nat → Int32} {cI cZ : ClassId} : (ax_ws (mu xa ma adK b) cI cZ (sg0 f0 f1 f2))[48]? = (wX xa f0 f1 f2 cI cZ ++ wM ma cI cZ)[48]? := by
  rw [ax_ws_at]; rfl
theorem wa_49 {xa ma adK : Nat → Nat} {b : Nat} {f0 f1 f2 : Nat → Int32} {cI cZ : ClassId} : (ax_ws (mu xa ma adK b) cI cZ (sg0 f0 f1 f2))[49]? = (wX xa f0 f1 f2 cI cZ ++ wM ma cI cZ)[49]? := by
  rw [ax_ws_at]; rfl
theorem wa_50 {xa ma adK : Nat → Nat} {b : Nat} {f0 f1 f2 : Nat → Int32} {cI cZ : ClassId} : (ax_ws (mu xa ma adK b) cI cZ (sg0 f0 f1 f2))[50]? = (wX xa f0 f1 f2 cI cZ ++ wM ma cI cZ)[50]? := by
  rw [ax_ws_at]; rfl
theorem wa_51 {xa ma adK : Nat → Nat} {b : Nat} {f0 f1 f2 : Nat → Int32} {cI cZ : ClassId} : (ax_ws (mu xa ma adK b) cI cZ (sg0 f0 f1 f2))[51]? = (wX xa f0 f1 f2 cI cZ ++ wM ma cI cZ)[52]? := by
  rw [ax_ws_at]; rfl
theorem wa_52 {xa ma adK : Nat → Nat} {b : Nat} {f0 f1 f2 : Nat → Int32} {cI cZ : ClassId} : (ax_ws (mu xa ma adK b) cI cZ (sg0 f0 f1 f2))[52]? = (wX xa f0 f1 f2 cI cZ ++ wM ma cI cZ)[53]? := by
  rw [ax_ws_at]; rfl
theorem wa_53 {xa ma adK : Nat → Nat} {b : Nat} {f0 f1 f2 : Nat → Int32} {cI cZ : ClassId} : (ax_ws (mu xa ma adK b) cI cZ (sg0 f0 f1 f2))[53]? = (wX xa f0 f1 f2 cI cZ ++ wM ma cI cZ)[54]? := by
  rw [ax_ws_at]; rfl
theorem wa_54 {xa ma adK : Nat → Nat} {b : Nat} {f0 f1 f2 : Nat → Int32} {cI cZ : ClassId} : (ax_ws (mu xa ma adK b) cI cZ (sg0 f0 f1 f2))[54]? = (wX xa f0 f1 f2 cI cZ ++ wM ma cI cZ)[56]? := by
  rw [ax_ws_at]; rfl
theorem wa_55 {xa ma adK : Nat → Nat} {b : Nat} {f0 f1 f2 : Nat → Int32} {cI cZ : ClassId} : (ax_ws (mu xa ma adK b) cI cZ (sg0 f0 f1 f2))[55]? = (wX xa f0 f1 f2 cI cZ ++ wM ma cI cZ)[17]? := by
  rw [ax_ws_at]; rfl
theorem wa_56 {xa ma adK : Nat → Nat} {b : Nat} {f0 f1 f2 : Nat → Int32} {cI cZ : ClassId} : (ax_ws (mu xa ma adK b) cI cZ (sg0 f0 f1 f2))[56]? = (wX xa f0 f1 f2 cI cZ ++ wM ma cI cZ)[18]? := by
  rw [ax_ws_at]; rfl
theorem wa_57 {xa ma adK : Nat → Nat} {b : Nat} {f0 f1 f2 : Nat → Int32} {cI cZ : ClassId} : (ax_ws (mu xa ma adK b) cI cZ (sg0 f0 f1 f2))[57]? = (wX xa f0 f1 f2 cI cZ ++ wM ma cI cZ)[19]? := by
  rw [ax_ws_at]; rfl
theorem wa_58 {xa ma adK : Nat → Nat} {b : Nat} {f0 f1 f2 : Nat → Int32} {cI cZ : ClassId} : (ax_ws (mu xa ma adK b) cI cZ (sg0 f0 f1 f2))[58]? = (wX xa f0 f1 f2 cI cZ ++ wM ma cI cZ)[58]? := by
  rw [ax_ws_at]; rfl
theorem wa_59 {xa ma adK : Nat → Nat} {b : Nat} {f0 f1 f2 : Nat → Int32} {cI cZ : ClassId} : (ax_ws (mu xa ma adK b) cI cZ (sg0 f0 f1 f2))[59]? = (wX xa f0 f1 f2 cI cZ ++ wM ma cI cZ)[59]? := by
  rw [ax_ws_at]; rfl
theorem wa_60 {xa ma adK : Nat → Nat} {b : Nat} {f0 f1 f2 : Nat → Int32} {cI cZ : ClassId} : (ax_ws (mu xa ma adK b) cI cZ (sg0 f0 f1 f2))[60]? = (wX xa f0 f1 f2 cI cZ ++ wM ma cI cZ)[60]? := by
  rw [ax_ws_at]; rfl
theorem wa_61 {xa ma adK : Nat → Nat} {b : Nat} {f0 f1 f2 : Nat → Int32} {cI cZ : ClassId} : (ax_ws (mu xa ma adK b) cI cZ (sg0 f0 f1 f2))[61]? = (wX xa f0 f1 f2 cI cZ ++ wM ma cI cZ)[61]? := by
  rw [ax_ws_at]; rfl
theorem wa_62 {xa ma adK : Nat → Nat} {b : Nat} {f0 f1 f2 : Nat → Int32} {cI cZ : ClassId} : (ax_ws (mu xa ma adK b) cI cZ (sg0 f0 f1 f2))[62]? = (wX xa f0 f1 f2 cI cZ ++ wM ma cI cZ)[62]? := by
  rw [ax_ws_at]; rfl
theorem wa_63 {xa ma adK : Nat → Nat} {b : Nat} {f0 f1 f2 : Nat → Int32} {cI cZ : ClassId} : (ax_ws (mu xa ma adK b) cI cZ (sg0 f0 f1 f2))[63]? = (wX xa f0 f1 f2 cI cZ ++ wM ma cI cZ)[63]? := by
  rw [ax_ws_at]; rfl
theorem wa_64 {xa ma adK : Nat → Nat} {b : Nat} {f0 f1 f2 : Nat → Int32} {cI cZ : ClassId} : (ax_ws (mu xa ma adK b) cI cZ (sg0 f0 f1 f2))[64]? = (wX xa f0 f1 f2 cI cZ ++ wM ma cI cZ)[64]? := by
  rw [ax_ws_at]; rfl
theorem wa_65 {xa ma adK : Nat → Nat} {b : Nat} {f0 f1 f2 : Nat → Int32} {cI cZ : ClassId} : (ax_ws (mu xa ma adK b) cI cZ (sg0 f0 f1 f2))[65]? = (wX xa f0 f1 f2 cI cZ ++ wM ma cI cZ)[65]? := by
  rw [ax_ws_at]; rfl
theorem wa_66 {xa ma adK : Nat → Nat} {b : Nat} {f0 f1 f2 : Nat → Int32} {cI cZ : ClassId} : (ax_ws (mu xa ma adK b) cI cZ (sg0 f0 f1 f2))[66]? = (wX xa f0 f1 f2 cI cZ ++ wM ma cI cZ)[66]? := by
  rw [ax_ws_at]; rfl
theorem wa_67 {xa ma adK : Nat → Nat} {b : Nat} {f0 f1 f2 : Nat → Int32} {cI cZ : ClassId} : (ax_ws (mu xa ma adK b) cI cZ (sg0 f0 f1 f2))[67]? = (wX xa f0 f1 f2 cI cZ ++ wM ma cI cZ)[67]? := by
  rw [ax_ws_at]; rfl
theorem wa_68 {xa ma adK : Nat → Nat} {b : Nat} {f0 f1 f2 : Nat → Int32} {cI cZ : ClassId} : (ax_ws (mu xa ma adK b) cI cZ (sg0 f0 f1 f2))[68]? = (wX xa f0 f1 f2 cI cZ ++ wM ma cI cZ)[68]? := by
  rw [ax_ws_at]; rfl
theorem wa_69 {xa ma adK : Nat → Nat} {b : Nat} {f0 f1 f2 : Nat → Int32} {cI cZ : ClassId} : (ax_ws (mu xa ma adK b) cI cZ (sg0 f0 f1 f2))[69]? = (wX xa f0 f1 f2 cI cZ ++ wM ma cI cZ)[69]? := by
  rw [ax_ws_at]; rfl
theorem wa_70 {xa ma adK : Nat → Nat} {b : Nat} {f0 f1 f2 : Nat → Int32} {cI cZ : ClassId} : (ax_ws (mu xa ma adK b) cI cZ (sg0 f0 f1 f2))[70]? = (wX xa f0 f1 f2 cI cZ ++ wM ma cI cZ)[70]? := by
  rw [ax_ws_at]; rfl
theorem wa_71 {xa ma adK : Nat → Nat} {b : Nat} {f0 f1 f2 : Nat → Int32} {cI cZ : ClassId} : (ax_ws (mu xa ma adK b) cI cZ (sg0 f0 f1 f2))[71]? = (wX xa f0 f1 f2 cI cZ ++ wM ma cI cZ)[71]? := by
  rw [ax_ws_at]; rfl
theorem wa_72 {xa ma adK : Nat → Nat} {b : Nat} {f0 f1 f2 : Nat → Int32} {cI cZ : ClassId} : (ax_ws (mu xa ma adK b) cI cZ (sg0 f0 f1 f2))[72]? = (wX xa f0 f1 f2 cI cZ ++ wM ma cI cZ)[72]? := by
  rw [ax_ws_at]; rfl
theorem wa_73 {xa ma adK : Nat → Nat} {b : Nat} {f0 f1 f2 : Nat → Int32} {cI cZ : ClassId} : (ax_ws (mu xa ma adK b) cI cZ (sg0 f0 f1 f2))[73]? = (wX xa f0 f1 f2 cI cZ ++ wM ma cI cZ)[73]? := by
  rw [ax_ws_at]; rfl
theorem wa_74 {xa ma adK : Nat → Nat} {b : Nat} {f0 f1 f2 : Nat → Int32} {cI cZ : ClassId} : (ax_ws (mu xa ma adK b) cI cZ (sg0 f0 f1 f2))[74]? = (wX xa f0 f1 f2 cI cZ ++ wM ma cI cZ)[74]? := by
  rw [ax_ws_at]; rfl
theorem wa_75 {xa ma adK : Nat → Nat} {b : Nat} {f0 f1 f2 : Nat → Int32} {cI cZ : ClassId} : (ax_ws (mu xa ma adK b) cI cZ (sg0 f0 f1 f2))[75]? = (wX xa f0 f1 f2 cI cZ ++ wM ma cI cZ)[75]? := by
  rw [ax_ws_at]; rfl
theorem wa_76 {xa ma adK : Nat → Nat} {b : Nat} {f0 f1 f2 : Nat → Int32} {cI cZ : ClassId} : (ax_ws (mu xa ma adK b) cI cZ (sg0 f0 f1 f2))[76]? = (wX xa f0 f1 f2 cI cZ ++ wM ma cI cZ)[76]? := by
  rw [ax_ws_at]; rfl
theorem wa_77 {xa ma adK : Nat → Nat} {b : Nat} {f0 f1 f2 : Nat → Int32} {cI cZ : ClassId} : (ax_ws (mu xa ma adK b) cI cZ (sg0 f0 f1 f2))[77]? = (wX xa f0 f1 f2 cI cZ ++ wM ma cI cZ)[77]? := by
  rw [ax_ws_at]; rfl
theorem wa_78 {xa ma adK : Nat → Nat} {b : Nat} {f0 f1 f2 : Nat → Int32} {cI cZ : ClassId} : (ax_ws (mu xa ma adK b) cI cZ (sg0 f0 f1 f2))[78]? = (wX xa f0 f1 f2 cI cZ ++ wM ma cI cZ)[78]? := by
  rw [ax_ws_at]; rfl
theorem wa_79 {xa ma adK : Nat → Nat} {b : Nat} {f0 f1 f2 : Nat → Int32} {cI cZ : ClassId} : (ax_ws (mu xa ma adK b) cI cZ (sg0 f0 f1 f2))[79]? = (wX xa f0 f1 f2 cI cZ ++ wM ma cI cZ)[79]? := by
  rw [ax_ws_at]; rfl
theorem wa_80 {xa ma adK : Nat → Nat} {b : Nat} {f0 f1 f2 : Nat → Int32} {cI cZ : ClassId} : (ax_ws (mu xa ma adK b) cI cZ (sg0 f0 f1 f2))[80]? = (wX xa f0 f1 f2 cI cZ ++ wM ma cI cZ)[80]? := by
  rw [ax_ws_at]; rfl
theorem wa_81 {xa ma adK : Nat → Nat} {b : Nat} {f0 f1 f2 : Nat → Int32} {cI cZ : ClassId} : (ax_ws (mu xa ma adK b) cI cZ (sg0 f0 f1 f2))[81]? = (wX xa f0 f1 f2 cI cZ ++ wM ma cI cZ)[81]? := by
  rw [ax_ws_at]; rfl
theorem wa_82 {xa ma adK : Nat → Nat} {b : Nat} {f0 f1 f2 : Nat → Int32} {cI cZ : ClassId} : (ax_ws (mu xa ma adK b) cI cZ (sg0 f0 f1 f2))[82]? = (wX xa f0 f1 f2 cI cZ ++ wM ma cI cZ)[82]? := by
  rw [ax_ws_at]; rfl
theorem wa_83 {xa ma adK : Nat → Nat} {b : Nat} {f0 f1 f2 : Nat → Int32} {cI cZ : ClassId} : (ax_ws (mu xa ma adK b) cI cZ (sg0 f0 f1 f2))[83]? = (wX xa f0 f1 f2 cI cZ ++ wM ma cI cZ)[83]? := by
  rw [ax_ws_at]; rfl
theorem wa_84 {xa ma adK : Nat → Nat} {b : Nat} {f0 f1 f2 : Nat → Int32} {cI cZ : ClassId} : (ax_ws (mu xa ma adK b) cI cZ (sg0 f0 f1 f2))[84]? = (wX xa f0 f1 f2 cI cZ ++ wM ma cI cZ)[84]? := by
  rw [ax_ws_at]; rfl
theorem wa_85 {xa ma adK : Nat → Nat} {b : Nat} {f0 f1 f2 : Nat → Int32} {cI cZ : ClassId} : (ax_ws (mu xa ma adK b) cI cZ (sg0 f0 f1 f2))[85]? = (wX xa f0 f1 f2 cI cZ ++ wM ma cI cZ)[85]? := by
  rw [ax_ws_at]; rfl
theorem wa_86 {xa ma adK : Nat → Nat} {b : Nat} {f0 f1 f2 : Nat → Int32} {cI cZ : ClassId} : (ax_ws (mu xa ma adK b) cI cZ (sg0 f0 f1 f2))[86]? = (wX xa f0 f1 f2 cI cZ ++ wM ma cI cZ)[86]? := by
  rw [ax_ws_at]; rfl
theorem wa_87 {xa ma adK : Nat → Nat} {b : Nat} {f0 f1 f2 : Nat → Int32} {cI cZ : ClassId} : (ax_ws (mu xa ma adK b) cI cZ (sg0 f0 f1 f2))[87]? = (wX xa f0 f1 f2 cI cZ ++ wM ma cI cZ)[87]? := by
  rw [ax_ws_at]; rfl
theorem wa_88 {xa ma adK : Nat → Nat} {b : Nat} {f0 f1 f2 : Nat → Int32} {cI cZ : ClassId} : (ax_ws (mu xa ma adK b) cI cZ (sg0 f0 f1 f2))[88]? = (wX xa f0 f1 f2 cI cZ ++ wM ma cI cZ)[88]? := by
  rw [ax_ws_at]; rfl
theorem wa_89 {xa ma adK : Nat → Nat} {b : Nat} {f0 f1 f2 : Nat → Int32} {cI cZ : ClassId} : (ax_ws (mu xa ma adK b) cI cZ (sg0 f0 f1 f2))[89]? = (wX xa f0 f1 f2 cI cZ ++ wM ma cI cZ)[89]? := by
  rw [ax_ws_at]; rfl
theorem wa_90 {xa ma adK : Nat → Nat} {b : Nat} {f0 f1 f2 : Nat → Int32} {cI cZ : ClassId} : (ax_ws (mu xa ma adK b) cI cZ (sg0 f0 f1 f2))[90]? = (wX xa f0 f1 f2 cI cZ ++ wM ma cI cZ)[90]? := by
  rw [ax_ws_at]; rfl
theorem wa_91 {xa ma adK : Nat → Nat} {b : Nat} {f0 f1 f2 : Nat → Int32} {cI cZ : ClassId} : (ax_ws (mu xa ma adK b) cI cZ (sg0 f0 f1 f2))[91]? = (wX xa f0 f1 f2 cI cZ ++ wM ma cI cZ)[91]? := by
  rw [ax_ws_at]; rfl
theorem wa_92 {xa ma adK : Nat → Nat} {b : Nat} {f0 f1 f2 : Nat → Int32} {cI cZ : ClassId} : (ax_ws (mu xa ma adK b) cI cZ (sg0 f0 f1 f2))[92]? = (wX xa f0 f1 f2 cI cZ ++ wM ma cI cZ)[92]? := by
  rw [ax_ws_at]; rfl
theorem wa_c0 {xa ma adK : Nat → Nat} {b : Nat} {f0 f1 f2 : Nat → Int32} {cI cZ : ClassId} : ∀ k, 0 ≤ k → k < 8 → (ax_ws (mu xa ma adK b) cI cZ (sg0 f0 f1 f2))[k]? = (wX xa f0 f1 f2 cI cZ ++ wM ma cI cZ)[gL.getD k 0]? := by
  intro k h1 h2
  rcases (show k = 0 ∨ k = 1 ∨ k = 2 ∨ k = 3 ∨ k = 4 ∨ k = 5 ∨ k = 6 ∨ k = 7 by omega) with rfl | rfl | rfl | rfl | rfl | rfl | rfl | rfl
  · exact wa_0
  · exact wa_1
  · exact wa_2
  · exact wa_3
  · exact wa_4
  · exact wa_5
  · exact wa_6
  · exact wa_7
theorem wa_c8 {xa ma adK : Nat → Nat} {b : Nat} {f0 f1 f2 : Nat → Int32} {cI cZ : ClassId} : ∀ k, 8 ≤ k → k < 16 → (ax_ws (mu xa ma adK b) cI cZ (sg0 f0 f1 f2))[k]? = (wX xa f0 f1 f2 cI cZ ++ wM ma cI cZ)[gL.getD k 0]? := by
  intro k h1 h2
  rcases (show k = 8 ∨ k = 9 ∨ k = 10 ∨ k = 11 ∨ k = 12 ∨ k = 13 ∨ k = 14 ∨ k = 15 by omega) with rfl | rfl | rfl | rfl | rfl | rfl | rfl | rfl
  · exact wa_8
  · exact wa_9
  · exact wa_10
  · exact wa_11
  · exact wa_12
  · exact wa_13
  · exact wa_14
  · exact wa_15
theorem wa_c16 {xa ma adK : Nat → Nat} {b : Nat} {f0 f1 f2 : Nat → Int32} {cI cZ : ClassId} : ∀ k, 16 ≤ k → k < 24 → (ax_ws (mu xa ma adK b) cI cZ (sg0 f0 f1 f2))[k]? = (wX xa f0 f1 f2 cI cZ ++ wM ma cI cZ)[gL.getD k 0]? := by
  intro k h1 h2
  rcases (show k = 16 ∨ k = 17 ∨ k = 18 ∨ k = 19 ∨ k = 20 ∨ k = 21 ∨ k = 22 ∨ k = 23 by omega) with rfl | rfl | rfl | rfl | rfl | rfl | rfl | rfl
  · exact wa_16
  · exact wa_17
  · exact wa_18
  · exact wa_19
  · exact wa_20
  · exact wa_21
  · exact wa_22
  · exact wa_23
theorem wa_c24 {xa ma adK : Nat → Nat} {b : Nat} {f0 f1 f2 : Nat → Int32} {cI cZ : ClassId} : ∀ k, 24 ≤ k → k < 32 → (ax_ws (mu xa ma adK b) cI cZ (sg0 f0 f1 f2))[k]? = (wX xa f0 f1 f2 cI cZ ++ wM ma cI cZ)[gL.getD k 0]? := by
  intro k h1 h2
  rcases (show k = 24 ∨ k = 25 ∨ k = 26 ∨ k = 27 ∨ k = 28 ∨ k = 29 ∨ k = 30 ∨ k = 31 by omega) with rfl | rfl | rfl | rfl | rfl | rfl | rfl | rfl
  · exact wa_24
  · exact wa_25
  · exact wa_26
  · exact wa_27
  · exact wa_28
  · exact wa_29
  · exact wa_30
  · exact wa_31
theorem wa_c32 {xa ma adK : Nat → Nat} {b : Nat} {f0 f1 f2 : Nat → Int32} {cI cZ : ClassId} : ∀ k, 32 ≤ k → k < 40 → (ax_ws (mu xa ma adK b) cI cZ (sg0 f0 f1 f2))[k]? = (wX xa f0 f1 f2 cI cZ ++ wM ma cI cZ)[gL.getD k 0]? := by
  intro k h1 h2
  rcases (show k = 32 ∨ k = 33 ∨ k = 34 ∨ k = 35 ∨ k = 36 ∨ k = 37 ∨ k = 38 ∨ k = 39 by omega) with rfl | rfl | rfl | rfl | rfl | rfl | rfl | rfl
  · exact wa_32
  · exact wa_33
  · exact wa_34
  · exact wa_35
  · exact wa_36
  · exact wa_37
  · exact wa_38
  · exact wa_39
theorem wa_c40 {xa ma adK : Nat → Nat} {b : Nat} {f0 f1 f2 : Nat → Int32} {cI cZ : ClassId} : ∀ k, 40 ≤ k → k < 48 → (ax_ws (mu xa ma adK b) cI cZ (sg0 f0 f1 f2))[k]? = (wX xa f0 f1 f2 cI cZ ++ wM ma cI cZ)[gL.getD k 0]? := by
  intro k h1 h2
  rcases (show k = 40 ∨ k = 41 ∨ k = 42 ∨ k = 43 ∨ k = 44 ∨ k = 45 ∨ k = 46 ∨ k = 47 by omega) with rfl | rfl | rfl | rfl | rfl | rfl | rfl | rfl
  · exact wa_40
  · exact wa_41
  · exact wa_42
  · exact wa_43
  · exact wa_44
  · exact wa_45
  · exact wa_46
  · exact wa_47
theorem wa_c48 {xa ma adK : Nat → Nat} {b : Nat} {f0 f1 f2 : Nat → Int32} {cI cZ : ClassId} : ∀ k, 48 ≤ k → k < 56 → (ax_ws (mu xa ma adK b) cI cZ (sg0 f0 f1 f2))[k]? = (wX xa f0 f1 f2 cI cZ ++ wM ma cI cZ)[gL.getD k 0]? := by
  intro k h1 h2
  rcases (show k = 48 ∨ k = 49 ∨ k = 50 ∨ k = 51 ∨ k = 52 ∨ k = 53 ∨ k = 54 ∨ k = 55 by omega) with rfl | rfl | rfl | rfl | rfl | rfl | rfl | rfl
  · exact wa_48
  · exact wa_49
  · exact wa_50
  · exact wa_51
  · exact wa_52
  · exact wa_53
  · exact wa_54
  · exact wa_55
theorem wa_c56 {xa ma adK : Nat → Nat} {b : Nat} {f0 f1 f2 : Nat → Int32} {cI cZ : ClassId} : ∀ k, 56 ≤ k → k < 64 → (ax_ws (mu xa ma adK b) cI cZ (sg0 f0 f1 f2))[k]? = (wX xa f0 f1 f2 cI cZ ++ wM ma cI cZ)[gL.getD k 0]? := by
  intro k h1 h2
  rcases (show k = 56 ∨ k = 57 ∨ k = 58 ∨ k = 59 ∨ k = 60 ∨ k = 61 ∨ k = 62 ∨ k = 63 by omega) with rfl | rfl | rfl | rfl | rfl | rfl | rfl | rfl
  · exact wa_56
  · exact wa_57
  · exact wa_58
  · exact wa_59
  · exact wa_60
  · exact wa_61
  · exact wa_62
  · exact wa_63
theorem wa_c64 {xa ma adK : Nat → Nat} {b : Nat} {f0 f1 f2 : Nat → Int32} {cI cZ : ClassId} : ∀ k, 64 ≤ k → k < 72 → (ax_ws (mu xa ma adK b) cI cZ (sg0 f0 f1 f2))[k]? = (wX xa f0 f1 f2 cI cZ ++ wM ma cI cZ)[gL.getD k 0]? := by
  intro k h1 h2
  rcases (show k = 64 ∨ k = 65 ∨ k = 66 ∨ k = 67 ∨ k = 68 ∨ k = 69 ∨ k = 70 ∨ k = 71 by omega) with rfl | rfl | rfl | rfl | rfl | rfl | rfl | rfl
  · exact wa_64
  · exact wa_65
  · exact wa_66
  · exact wa_67
  · exact wa_68
  · exact wa_69
  · exact wa_70
  · exact wa_71
theorem wa_c72 {xa ma adK : Nat → Nat} {b : Nat} {f0 f1 f2 : Nat → Int32} {cI cZ : ClassId} : ∀ k, 72 ≤ k → k < 80 → (ax_ws (mu xa ma adK b) cI cZ (sg0 f0 f1 f2))[k]? = (wX xa f0 f1 f2 cI cZ ++ wM ma cI cZ)[gL.getD k 0]? := by
  intro k h1 h2
  rcases (show k = 72 ∨ k = 73 ∨ k = 74 ∨ k = 75 ∨ k = 76 ∨ k = 77 ∨ k = 78 ∨ k = 79 by omega) with rfl | rfl | rfl | rfl | rfl | rfl | rfl | rfl
  · exact wa_72
  · exact wa_73
  · exact wa_74
  · exact wa_75
  · exact wa_76
  · exact wa_77
  · exact wa_78
  · exact wa_79
theorem wa_c80 {xa ma adK : Nat → Nat} {b : Nat} {f0 f1 f2 : Nat → Int32} {cI cZ : ClassId} : ∀ k, 80 ≤ k → k < 88 → (ax_ws (mu xa ma adK b) cI cZ (sg0 f0 f1 f2))[k]? = (wX xa f0 f1 f2 cI cZ ++ wM ma cI cZ)[gL.getD k 0]? := by
  intro k h1 h2
  rcases (show k = 80 ∨ k = 81 ∨ k = 82 ∨ k = 83 ∨ k = 84 ∨ k = 85 ∨ k = 86 ∨ k = 87 by omega) with rfl | rfl | rfl | rfl | rfl | rfl | rfl | rfl
  · exact wa_80
  · exact wa_81
  · exact wa_82
  · exact wa_83
  · exact wa_84
  · exact wa_85
  · exact wa_86
  · exact wa_87
theorem wa_c88 {xa ma adK : Nat → Nat} {b : Nat} {f0 f1 f2 : Nat → Int32} {cI cZ : ClassId} : ∀ k, 88 ≤ k → k < 93 → (ax_ws (mu xa ma adK b) cI cZ (sg0 f0 f1 f2))[k]? = (wX xa f0 f1 f2 cI cZ ++ wM ma cI cZ)[gL.getD k 0]? := by
  intro k h1 h2
  rcases (show k = 88 ∨ k = 89 ∨ k = 90 ∨ k = 91 ∨ k = 92 by omega) with rfl | rfl | rfl | rfl | rfl
  · exact wa_88
  · exact wa_89
  · exact wa_90
  · exact wa_91
  · exact wa_92
theorem wa_all {xa ma adK : Nat → Nat} {b : Nat} {f0 f1 f2 : Nat → Int32} {cI cZ : ClassId} : ∀ (k : Nat) (q : Nat × va_E), (ax_ws (mu xa ma adK b) cI cZ (sg0 f0 f1 f2))[k]? = some q → (wX xa f0 f1 f2 cI cZ ++ wM ma cI cZ)[gL.getD k 0]? = some q := by
  intro k q hq
  have hk : k < 93 := by
    rw [ax_ws_at] at hq
    by_cases c : k < 93
    · exact c
    · rw [List.getElem?_eq_none (by rw [ax_sh_len]; omega)] at hq
      cases hq
  rw [← hq]
  symm
  by_cases d0 : k < 8
  · exact wa_c0 k (by omega) d0
  by_cases d8 : k < 16
  · exact wa_c8 k (by omega) d8
  by_cases d16 : k < 24
  · exact wa_c16 k (by omega) d16
  by_cases d24 : k < 32
  · exact wa_c24 k (by omega) d24
  by_cases d32 : k < 40
  · exact wa_c32 k (by omega) d32
  by_cases d40 : k < 48
  · exact wa_c40 k (by omega) d40
  by_cases d48 : k < 56
  · exact wa_c48 k (by omega) d48
  by_cases d56 : k < 64
  · exact wa_c56 k (by omega) d56
  by_cases d64 : k < 72
  · exact wa_c64 k (by omega) d64
  by_cases d72 : k < 80
  · exact wa_c72 k (by omega) d72
  by_cases d80 : k < 88
  · exact wa_c80 k (by omega) d80
  exact wa_c88 k (by omega) hk
theorem gL_inj : ∀ i j : Fin 93, gL.getD i.val 0 = gL.getD j.val 0 → i = j := by decide +kernel
