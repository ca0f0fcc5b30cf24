/-! what a program decides of the tables, once for all methods -/
def ax_m0 : ax_Mi := (yL_law, code, 4, some .boolean, 12, 0, 0, 0, 0, 0, 0, true)
def ax_m (k : Nat) : ax_Mi := ax_mis.getD k ax_m0
def ax_tb (k : Nat) : List (List ax_Rw) := ax_tbs.getD k []
def ax_T (ci : Nat) : u_T := (vwCl.getD ci (RX0, TX0, 1)).2.1
def ax_cnm (oc : Nat) : String := ax_cn.getD oc ""
def ax_gw (w : Cond) : Bool := goodWord w || (match w with
  | .fieldLinkNest .. => true
  | .methodLinkNest .. => true
  | _ => false)
def lw_w : List Cond := lw_tbl.filter ax_gw
theorem lw_w_in {w : Cond} (h : w ∈ lw_tbl) (hg : ax_gw w = true) : w ∈ lw_w := List.mem_filter.mpr ⟨h, hg⟩
def ax_len : Instr → Nat
  | .bipush _ => 2
  | .sipush _ => 3
  | .ldc _ => 2
  | .ldc_w _ => 3
  | .ldc2_w _ => 3
  | .iload _ => 2
  | .lload _ => 2
  | .aload _ => 2
  | .istore _ => 2
  | .lstore _ => 2
  | .astore _ => 2
  | .iinc .. => 3
  | .goto _ => 3
  | .ifCond .. => 3
  | .if_icmp .. => 3
  | .ifnull _ => 3
  | .getfield _ => 3
  | .putfield _ => 3
  | .invokevirtual _ => 3
  | .invokestatic _ => 3
  | .invokespecial _ => 3
  | .new _ => 3
  | _ => 1
def ax_swi : Instr → Bool
  | .tableswitch .. => true
  | .lookupswitch .. => true
  | _ => false
def ax_dok (cc : ByteArray) (r : ax_Rw) : Bool := match decode cc r.1 with
  | .ok (i, n) => decide (i = r.2.1) && (ax_swi i || Nat.beq n (ax_len i))
  | _ => false
def ax_cok (oc' st' : Nat × Bool) (fr lo b : Nat) (sw : List (Int32 × Nat)) (m' : Option ax_Mi) : Bool := match m' with
  | some (y, _, mL, _, oc, fr', lo', p0, _, _, _, st) => Nat.blt 0 p0 && (st == st'.2) && Nat.beq oc oc'.1 && Nat.ble (fr' + 1) fr && Nat.ble (8 + (mL + 11) + lo') lo && (match sw with
    | [(_, n), _] => Nat.beq n mL
    | _ => false) && decide ((parseMethodDescriptor y.desc).map (fun d => d.parameters.length) = some b)
  | none => false
def ax_mok (oc x a : Nat) : Bool := ax_mt.any fun q => Nat.beq q.1 oc && Nat.beq q.2.1 x && Nat.beq q.2.2.1 a
def ax_fok (oc x a b : Nat) : Bool := ax_ft.any fun q => Nat.beq q.1 oc && Nat.beq q.2.1 x && Nat.beq q.2.2.1 a && Nat.beq q.2.2.2.1 b
def ax_iok (oc x : Nat) (v : Int32) : Bool := ax_ci.any fun q => Nat.beq q.1 oc && Nat.beq q.2.1 x && decide (q.2.2.1 = v)
def ax_jok (oc x : Nat) (v : Int64) : Bool := ax_cj.any fun q => Nat.beq q.1 oc && Nat.beq q.2.1 x && decide (q.2.2.1 = v)
def ax_pok (m : ax_Mi) (r : ax_Rw) : Bool :=
  match m, r with
  | (_, _, _, rt, oc, fr, lo, _), (pc, i, a, b, c, v, z, sw) =>
  match i with
  | .iconst n => decide (Int32.ofInt n = v)
  | .bipush n => decide ((Int8.ofInt n).toInt32 = v)
  | .sipush n => decide ((Int16.ofInt n).toInt32 = v)
  | .lconst n => decide (Int64.ofNat (n : Nat) = z)
  | .ldc x => cond (Nat.beq b 0) (ax_iok oc x v) (decide (oc = 9 ∧ a < 6 ∧ x = 75 + 2 * a))
  | .ldc_w x => ax_iok oc x v
  | .ldc2_w x => ax_jok oc x z
  | .iload_n n => Nat.beq n a
  | .lload_n n => Nat.beq n a
  | .aload_n n => Nat.beq n a
  | .istore_n n => Nat.beq n a
  | .lstore_n n => Nat.beq n a
  | .astore_n n => Nat.beq n a
  | .iload n => Nat.beq n a
  | .lload n => Nat.beq n a
  | .aload n => Nat.beq n a
  | .istore n => Nat.beq n a
  | .lstore n => Nat.beq n a
  | .astore n => Nat.beq n a
  | .iinc n d => Nat.beq n a && decide (Int32.ofInt d = v)
  | .goto o => decide ((pc : Int) + o = (a : Int))
  | .ifCond _ o => decide ((pc : Int) + o = (a : Int))
  | .if_icmp _ o => decide ((pc : Int) + o = (a : Int))
  | .ifnull o => decide ((pc : Int) + o = (a : Int))
  | .tableswitch d lo hi offs => decide ((pc : Int) + d = (a : Int) ∧ offs.toList.map (fun o => (pc : Int) + o) = sw.map (fun q => (q.2 : Int)) ∧ sw.map (fun q => q.1.toInt) = (List.range sw.length).map (fun j : Nat => lo + (j : Int)) ∧ hi = lo + (sw.length : Int) - 1)
  | .lookupswitch d ps => decide ((pc : Int) + d = (a : Int) ∧ ps.toList.map (fun q => (q.1, (pc : Int) + q.2)) = sw.map (fun q => (q.1.toInt, (q.2 : Int))) ∧ (ps.toList.zip (ps.toList.drop 1)).all (fun (a, next) => a.1 < next.1) = true)
  | .getfield x => ax_fok oc x a b
  | .putfield x => ax_fok oc x a b && decide ((ax_T a b).2.2.2 = false ∧ (ax_T a b).2.2.1 = "I")
  | .invokevirtual x => ax_mok oc x a && (match a with
    | 997 => Nat.beq b 0 && Nat.ble 2 fr && Nat.ble 40 lo
    | 998 => Nat.beq b 1 && Nat.ble 4 fr && Nat.ble 85 lo
    | a => ax_cok (c, true) (0, false) fr lo b sw ax_mis[a]?)
  | .invokestatic x => ax_mok oc x a && (match a with
    | 999 => Nat.beq b 5 && Nat.ble 1 fr && Nat.ble 26 lo
    | a => ax_cok (c, true) (0, true) fr lo b sw ax_mis[a]?)
  | .ireturn => decide ((b = 0 ∧ rt = some .int) ∨ (b = 1 ∧ rt = some .boolean))
  | .areturn => decide (rt = some (.object "java/lang/String"))
  | .return_ => decide (rt = none)
  | _ => true
def ax_rok (m : ax_Mi) (r : ax_Rw) : Bool := ax_dok m.2.1 r && ax_pok m r
def ax_chk (m : ax_Mi) (t : List (List ax_Rw)) : Bool := t.all fun rs => rs.all (ax_rok m)
def ax_fw (q : Nat × Nat × Nat × Nat × Bool × Nat) : Cond := match q with
  | (oc, x, a, b, nest, _) => cond nest (.fieldLinkNest (ax_cnm oc) x (ax_T a b).1 (ax_T a b).2.1 (ax_T a b).2.2.1 "PlateHire") (.fieldLink (ax_cnm oc) x (ax_T a b).1 (ax_T a b).2.1 (ax_T a b).2.2.1)
theorem ax_ft_ok : ax_ft.all (fun q => decide (lw_tbl[q.2.2.2.2.2]? = some (ax_fw q)) && Nat.blt q.2.2.1 12 && Nat.blt q.2.2.2.1 (vwCl.getD q.2.2.1 (RX0, TX0, 1)).2.2) = true := by decide +kernel
def ax_nm (a : Nat) : MethodName := match a with
  | 997 => yJ0_length_8abf5
  | 998 => yJ0_charAt_5068e
  | 999 => arraycopyName
  | a => (ax_m a).1
def ax_mw (q : Nat × Nat × Nat × Bool × Nat) : Cond := match q with
  | (oc, x, a, nest, _) => cond nest (.methodLinkNest (ax_cnm oc) x (ax_nm a) "PlateHire") (.methodLink (ax_cnm oc) x (ax_nm a))
theorem ax_mt_ok : ax_mt.all (fun q => decide (lw_tbl[q.2.2.2.2]? = some (ax_mw q))) = true := by decide +kernel
theorem ax_ci_ok : ax_ci.all (fun q => decide (lw_tbl[q.2.2.2]? = some (.constant (ax_cnm q.1) q.2.1 q.2.2.1))) = true := by decide +kernel
theorem ax_cj_ok : ax_cj.all (fun q => decide (lw_tbl[q.2.2.2]? = some (.constantLong (ax_cnm q.1) q.2.1 q.2.2.1))) = true := by decide +kernel
def ax_miok (m : ax_Mi) : Bool := match m with
  | (y, _, _, _, oc, _, _, _, p1, p2, p3, st) => decide (lw_tbl[p1]? = some (.initialized y.cls)) && cond st (decide (lw_tbl[p2]? = some (.static y))) (decide (lw_tbl[p2]? = some (.instanceMethod y)) && decide (lw_tbl[p3]? = some (.selects y.cls y y))) && decide (y.cls = ax_cnm oc) && plainFor y && decide (y.cls ≠ "java/lang/invoke/MethodHandle" ∧ y.cls ≠ "java/lang/invoke/VarHandle")
theorem ax_mi_ok : (ax_mis.drop 1).all ax_miok = true := by decide +kernel
def ax_mwf (m : ax_Mi) : Prop := m.2.2.2.2.2.2.2.1 = 0 ∨ Cond.code m.1 m.2.1 m.2.2.1 m.2.2.2.1 ∈ lw_tbl
