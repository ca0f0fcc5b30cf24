/-! an instruction's meaning over the abstract world, as a predicate transformer; and a stretch of code up to its cuts -/
abbrev ax_Lc : Type := List (Option Value)
/-- pc, instruction; a, b, c: slot, target, class, field, method, arguments; an int, a long; a switch's cases -/
abbrev ax_Rw : Type := Nat × Instr × Nat × Nat × Nat × Int32 × Int64 × List (Int32 × Nat)
def ax_ld : ax_Lc → Nat → Option Value
  | [], _ => none
  | o :: _, 0 => o
  | _ :: L, i + 1 => ax_ld L i
def ax_dr (o : Option Value) (i : Nat) : Option Value := match i, o with
  | 0, some (.long _) => none
  | 0, some (.double _) => none
  | _, o => o
def ax_sv : ax_Lc → Nat → Value → ax_Lc
  | [], _, _ => []
  | _ :: L, 0, v => some v :: L
  | o :: L, i + 1, v => ax_dr o i :: ax_sv L i v
def ax_cl : ax_Lc → Nat → ax_Lc
  | [], _ => []
  | _ :: L, 0 => none :: L
  | o :: L, i + 1 => o :: ax_cl L i
def ax_mk : List Bool → ax_Lc → ax_Lc
  | b :: bs, o :: L => cond b o none :: ax_mk bs L
  | _, L => L
/-- a method's locals at its start -/
def ax_c2 : Value → Bool
  | .long _ => true
  | .double _ => true
  | _ => false
def ax_en : Nat → List Value → ax_Lc
  | n, [] => List.replicate n none
  | 0, _ :: _ => []
  | 1, v :: _ => [some v]
  | n + 2, v :: vs => cond (ax_c2 v) (some v :: none :: ax_en n vs) (some v :: ax_en (n + 1) vs)
def ax_li (L : ax_Lc) (i : Nat) (k : Int32 → Prop) : Prop := match ax_ld L i with
  | some (.int x) => k x
  | _ => False
def ax_ll (L : ax_Lc) (i : Nat) (k : Int64 → Prop) : Prop := match ax_ld L i with
  | some (.long x) => k x
  | _ => False
def ax_la (L : ax_Lc) (i : Nat) (k : Nat → Prop) : Prop := match ax_ld L i with
  | some (.ref x) => k x
  | _ => False
def ax_i1 (st : List Value) (k : Int32 → List Value → Prop) : Prop := match st with
  | .int x :: r => k x r
  | _ => False
def ax_i2 (st : List Value) (k : Int32 → Int32 → List Value → Prop) : Prop := match st with
  | .int y :: .int x :: r => k x y r
  | _ => False
def ax_l1 (st : List Value) (k : Int64 → List Value → Prop) : Prop := match st with
  | .long x :: r => k x r
  | _ => False
def ax_l2 (st : List Value) (k : Int64 → Int64 → List Value → Prop) : Prop := match st with
  | .long y :: .long x :: r => k x y r
  | _ => False
def ax_li2 (st : List Value) (k : Int64 → Int32 → List Value → Prop) : Prop := match st with
  | .int y :: .long x :: r => k x y r
  | _ => False
def ax_r1 (st : List Value) (k : Nat → List Value → Prop) : Prop := match st with
  | .ref x :: r => k x r
  | _ => False
def ax_ri (st : List Value) (k : Nat → Int32 → List Value → Prop) : Prop := match st with
  | .int i :: .ref x :: r => k x i r
  | _ => False
def ax_rii (st : List Value) (k : Nat → Int32 → Int32 → List Value → Prop) : Prop := match st with
  | .int v :: .int i :: .ref x :: r => k x i v r
  | _ => False
/-- a cell of the world -/
def ax_cell (x : Nat) (t : Nat) (k : Nat → List (Option (Option Nat)) → Prop) : Prop := match ax_sh[x]? with
  | some (t', n, fs) => cond (Nat.beq t' t) (k n fs) False
  | none => False
def ax_fld (σ : ax_Sg) (x j : Nat) (fs : List (Option (Option Nat))) (k : Value → Prop) : Prop := match fs[j]? with
  | some none => k (.int (σ x j))
  | some (some none) => k .null
  | some (some (some r)) => k (.ref r)
  | none => False
def ax_pf (j : Nat) (fs : List (Option (Option Nat))) (k : Prop) : Prop := match fs[j]? with
  | some none => k
  | _ => False
def ax_sw (x : Int32) (d : Nat) (f : Nat → Prop) : List (Int32 × Nat) → Prop
  | [] => f d
  | (c, t) :: r => (x = c → f t) ∧ (¬ x = c → ax_sw x d f r)
/-- n arguments off the stack, in their order -/
def ax_pop : Nat → List Value → List Value → (List Value → List Value → Prop) → Prop
  | 0, st, as, k => k as st
  | n + 1, v :: st, as, k => ax_pop n st (v :: as) k
  | _ + 1, [], _, _ => False
def ax_cat : List Value → Nat
  | [] => 0
  | .long _ :: r => 2 + ax_cat r
  | .double _ :: r => 2 + ax_cat r
  | _ :: r => 1 + ax_cat r
def ax_br (q : Prop) (t f : Prop) : Prop := (q → t) ∧ (¬ q → f)
/-- the six texts, by their signs -/
def ax_tx : List (List Int32) := [[98, 97, 115, 101, 32], [115, 116, 101, 112, 32], [110, 105, 103, 104, 116, 32], [119, 97, 114, 100, 32], [119, 97, 105, 116, 32], [99, 97, 112, 32]]
abbrev ax_Ca : Type := Nat → ax_Lc → ax_Sg → (Option Value → ax_Sg → Prop) → Prop
def ax_ov (o : Option Value) (k : Prop) : Prop := match o with
  | none => k
  | _ => False
def ax_oi (o : Option Value) (k : Int32 → Prop) : Prop := match o with
  | some (.int x) => k x
  | _ => False
def ax_or (o : Option Value) (k : Nat → Prop) : Prop := match o with
  | some (.ref x) => k x
  | _ => False
/-- a call: the callee's locals (their number stands in the row), its answer (0 none, 1 an int, else a reference) -/
def ax_go (C : ax_Ca) (a : Nat) (sw : List (Int32 × Nat)) (as : List Value) (σ : ax_Sg) (k : List Value → ax_Sg → Prop) : Prop := match sw with
  | [(_, n), (_, kd)] => cond (Nat.ble (ax_cat as) n) (C a (ax_en n as) σ (match kd with
    | 0 => fun o σ' => ax_ov o (k [] σ')
    | 1 => fun o σ' => ax_oi o fun x => k [.int x] σ'
    | _ => fun o σ' => ax_or o fun x => k [.ref x] σ')) False
  | _ => False
def ax_ex (C : ax_Ca) (P : Option Value → ax_Sg → Prop) (scr : Option (Nat × (Nat → Int32))) (row : ax_Rw) (L : ax_Lc) (st : List Value) (σ : ax_Sg) (K : Nat → ax_Lc → List Value → ax_Sg → Prop) : Prop :=
  match row with
  | (pc, i, a, b, c, v, z, sw) =>
  match i with
  | .iconst _ => K (pc + 1) L (.int v :: st) σ
  | .bipush _ => K (pc + 2) L (.int v :: st) σ
  | .sipush _ => K (pc + 3) L (.int v :: st) σ
  | .lconst _ => K (pc + 1) L (.long z :: st) σ
  | .ldc _ => cond (Nat.beq b 0) (K (pc + 2) L (.int v :: st) σ) (K (pc + 2) L (.ref (1000 + a) :: st) σ)
  | .ldc_w _ => K (pc + 3) L (.int v :: st) σ
  | .ldc2_w _ => K (pc + 3) L (.long z :: st) σ
  | .iload_n _ => ax_li L a fun x => K (pc + 1) L (.int x :: st) σ
  | .iload _ => ax_li L a fun x => K (pc + 2) L (.int x :: st) σ
  | .lload_n _ => ax_ll L a fun x => K (pc + 1) L (.long x :: st) σ
  | .lload _ => ax_ll L a fun x => K (pc + 2) L (.long x :: st) σ
  | .aload_n _ => ax_la L a fun x => K (pc + 1) L (.ref x :: st) σ
  | .aload _ => ax_la L a fun x => K (pc + 2) L (.ref x :: st) σ
  | .istore_n _ => ax_i1 st fun x r => cond (Nat.blt a L.length) (K (pc + 1) (ax_sv L a (.int x)) r σ) False
  | .istore _ => ax_i1 st fun x r => cond (Nat.blt a L.length) (K (pc + 2) (ax_sv L a (.int x)) r σ) False
  | .lstore_n _ => ax_l1 st fun x r => cond (Nat.blt (a + 1) L.length) (K (pc + 1) (ax_cl (ax_sv L a (.long x)) (a + 1)) r σ) False
  | .lstore _ => ax_l1 st fun x r => cond (Nat.blt (a + 1) L.length) (K (pc + 2) (ax_cl (ax_sv L a (.long x)) (a + 1)) r σ) False
  | .astore_n _ => ax_r1 st fun x r => cond (Nat.blt a L.length) (K (pc + 1) (ax_sv L a (.ref x)) r σ) False
  | .astore _ => ax_r1 st fun x r => cond (Nat.blt a L.length) (K (pc + 2) (ax_sv L a (.ref x)) r σ) False
  | .iinc _ _ => ax_li L a fun x => K (pc + 3) (ax_sv L a (.int (x + v))) st σ
  | .iadd => ax_i2 st fun x y r => K (pc + 1) L (.int (x + y) :: r) σ
  | .isub => ax_i2 st fun x y r => K (pc + 1) L (.int (x - y) :: r) σ
  | .imul => ax_i2 st fun x y r => K (pc + 1) L (.int (x * y) :: r) σ
  | .iand => ax_i2 st fun x y r => K (pc + 1) L (.int (x &&& y) :: r) σ
  | .ior => ax_i2 st fun x y r => K (pc + 1) L (.int (x ||| y) :: r) σ
  | .ixor => ax_i2 st fun x y r => K (pc + 1) L (.int (x ^^^ y) :: r) σ
  | .idiv => ax_i2 st fun x y r => (¬ y = 0) ∧ K (pc + 1) L (.int (x / y) :: r) σ
  | .irem => ax_i2 st fun x y r => (¬ y = 0) ∧ K (pc + 1) L (.int (x - x / y * y) :: r) σ
  | .ineg => ax_i1 st fun x r => K (pc + 1) L (.int (-x) :: r) σ
  | .ishl => ax_i2 st fun x y r => K (pc + 1) L (.int (x <<< (y &&& 31)) :: r) σ
  | .ishr => ax_i2 st fun x y r => K (pc + 1) L (.int (x >>> (y &&& 31)) :: r) σ
  | .iushr => ax_i2 st fun x y r => K (pc + 1) L (.int (x.toUInt32 >>> (y.toUInt32 &&& Int32.toUInt32 31)).toInt32 :: r) σ
  | .ladd => ax_l2 st fun x y r => K (pc + 1) L (.long (x + y) :: r) σ
  | .lsub => ax_l2 st fun x y r => K (pc + 1) L (.long (x - y) :: r) σ
  | .lmul => ax_l2 st fun x y r => K (pc + 1) L (.long (x * y) :: r) σ
  | .land => ax_l2 st fun x y r => K (pc + 1) L (.long (x &&& y) :: r) σ
  | .lor => ax_l2 st fun x y r => K (pc + 1) L (.long (x ||| y) :: r) σ
  | .ldiv => ax_l2 st fun x y r => (¬ y = 0) ∧ K (pc + 1) L (.long (x / y) :: r) σ
  | .lcmp => ax_l2 st fun x y r => K (pc + 1) L (.int (lg_cmp x y) :: r) σ
  | .lshl => ax_li2 st fun x y r => K (pc + 1) L (.long (x <<< (y.toInt64 &&& 63)) :: r) σ
  | .lshr => ax_li2 st fun x y r => K (pc + 1) L (.long (x >>> (y.toInt64 &&& 63)) :: r) σ
  | .lushr => ax_li2 st fun x y r => K (pc + 1) L (.long (x.toUInt64 >>> (y.toInt64.toUInt64 &&& Int64.toUInt64 63)).toInt64 :: r) σ
  | .i2l => ax_i1 st fun x r => K (pc + 1) L (.long x.toInt64 :: r) σ
  | .l2i => ax_l1 st fun x r => K (pc + 1) L (.int x.toInt32 :: r) σ
  | .dup => (match st with
    | .int x :: r => K (pc + 1) L (.int x :: .int x :: r) σ
    | .ref x :: r => K (pc + 1) L (.ref x :: .ref x :: r) σ
    | _ => False)
  | .dup2 => ax_ri st fun x i r => K (pc + 1) L (.int i :: .ref x :: .int i :: .ref x :: r) σ
  | .pop => ax_i1 st fun _ r => K (pc + 1) L r σ
  | .goto _ => K a L st σ
  | .ifCond .eq _ => ax_i1 st fun x r => ax_br (x = 0) (K a L r σ) (K (pc + 3) L r σ)
  | .ifCond .ne _ => ax_i1 st fun x r => ax_br (x = 0) (K (pc + 3) L r σ) (K a L r σ)
  | .ifCond .lt _ => ax_i1 st fun x r => ax_br (x < 0) (K a L r σ) (K (pc + 3) L r σ)
  | .ifCond .ge _ => ax_i1 st fun x r => ax_br (x < 0) (K (pc + 3) L r σ) (K a L r σ)
  | .ifCond .gt _ => ax_i1 st fun x r => ax_br (0 < x) (K a L r σ) (K (pc + 3) L r σ)
  | .ifCond .le _ => ax_i1 st fun x r => ax_br (0 < x) (K (pc + 3) L r σ) (K a L r σ)
  | .if_icmp .eq _ => ax_i2 st fun x y r => ax_br (x = y) (K a L r σ) (K (pc + 3) L r σ)
  | .if_icmp .ne _ => ax_i2 st fun x y r => ax_br (x = y) (K (pc + 3) L r σ) (K a L r σ)
  | .if_icmp .lt _ => ax_i2 st fun x y r => ax_br (x < y) (K a L r σ) (K (pc + 3) L r σ)
  | .if_icmp .ge _ => ax_i2 st fun x y r => ax_br (x < y) (K (pc + 3) L r σ) (K a L r σ)
  | .if_icmp .gt _ => ax_i2 st fun x y r => ax_br (y < x) (K a L r σ) (K (pc + 3) L r σ)
  | .if_icmp .le _ => ax_i2 st fun x y r => ax_br (y < x) (K (pc + 3) L r σ) (K a L r σ)
  | .ifnull _ => (match st with
    | .ref _ :: r => K (pc + 3) L r σ
    | .null :: r => K a L r σ
    | _ => False)
  | .tableswitch _ _ _ _ => ax_i1 st fun x r => ax_sw x a (fun t => K t L r σ) sw
  | .lookupswitch _ _ => ax_i1 st fun x r => ax_sw x a (fun t => K t L r σ) sw
  | .getfield _ => ax_r1 st fun x r => ax_cell x (a + 2) fun _ fs => ax_fld σ x b fs fun w => K (pc + 3) L (w :: r) σ
  | .putfield _ => (match st with
    | .int w :: .ref x :: r => ax_cell x (a + 2) fun _ fs => ax_pf b fs (K (pc + 3) L r (ax_us σ x b w))
    | _ => False)
  | .iaload => ax_ri st fun x i r => cond (Nat.beq x 2000)
      (match scr with
      | some (n, xs) => vp_in i n ∧ K (pc + 1) L (.int (xs i.toNatClampNeg) :: r) σ
      | none => False)
      (ax_cell x 0 fun n _ => vp_in i n ∧ K (pc + 1) L (.int (σ x i.toNatClampNeg) :: r) σ)
  | .baload => ax_ri st fun x i r => ax_cell x 1 fun n _ => vp_in i n ∧ K (pc + 1) L (.int (σ x i.toNatClampNeg) :: r) σ
  | .iastore => ax_rii st fun x i w r => ax_cell x 0 fun n _ => vp_in i n ∧ K (pc + 1) L r (ax_us σ x i.toNatClampNeg w)
  | .bastore => ax_rii st fun x i w r => ax_cell x 1 fun n _ => vp_in i n ∧ K (pc + 1) L r (ax_us σ x i.toNatClampNeg (vp_nar .boolean w))
  | .arraylength => ax_r1 st fun x r => cond (Nat.beq x 2000)
      (match scr with
      | some (n, _) => K (pc + 1) L (.int (Int32.ofNat n) :: r) σ
      | none => False)
      (ax_cell x 0 fun n _ => K (pc + 1) L (.int (Int32.ofNat n) :: r) σ)
  | .invokevirtual _ => ax_pop b st [] fun as r' => ax_r1 r' fun x r => cond (Nat.ble (ax_cat r) 8)
      (match a with
      | 997 => (match as with
        | [] => (match ax_tx[x - 1000]? with
          | some t => cond (Nat.ble 1000 x) (K (pc + 3) L (.int (Int32.ofNat t.length) :: r) σ) False
          | none => False)
        | _ => False)
      | 998 => (match as with
        | [.int i] => (match ax_tx[x - 1000]? with
          | some t => cond (Nat.ble 1000 x) (vp_in i t.length ∧ K (pc + 3) L (.int (t.getD i.toNatClampNeg 0) :: r) σ) False
          | none => False)
        | _ => False)
      | a => ax_cell x (c + 2) fun _ _ => ax_go C a sw (.ref x :: as) σ fun vs σ' => K (pc + 3) L (vs ++ r) σ')
      False
  | .invokestatic _ => ax_pop b st [] fun as r => cond (Nat.ble (ax_cat r) 8)
      (match a with
      | 999 => (match as with
        | [.ref x, .int sp, .ref y, .int dp, .int n] => ax_cell x 0 fun nx _ => ax_cell y 0 fun ny _ => (¬ sp < 0 ∧ ¬ dp < 0 ∧ ¬ n < 0 ∧ sp.toNatClampNeg + n.toNatClampNeg ≤ nx ∧ dp.toNatClampNeg + n.toNatClampNeg ≤ ny) ∧ K (pc + 3) L r (ax_uc σ y (va_cpy (σ x) (σ y) sp.toNatClampNeg dp.toNatClampNeg n.toNatClampNeg))
        | _ => False)
      | a => ax_go C a sw as σ fun vs σ' => K (pc + 3) L (vs ++ r) σ')
      False
  | .ireturn => (match st with
    | [.int x] => cond (Nat.beq b 0) (P (some (.int x)) σ) (vp_nar .boolean x = x ∧ P (some (.int x)) σ)
    | _ => False)
  | .areturn => (match st with
    | [.ref x] => P (some (.ref x)) σ
    | _ => False)
  | .return_ => (match st with
    | [] => P none σ
    | _ => False)
  | _ => False
def ax_fd : List ax_Rw → Nat → Option ax_Rw
  | [], _ => none
  | r :: rs, pc => cond (Nat.beq r.1 pc) (some r) (ax_fd rs pc)
def ax_rw (t : List (List ax_Rw)) (pc : Nat) : Option ax_Rw := match t[pc / 32]? with
  | some rs => ax_fd rs pc
  | none => none
def ax_ct : List (Nat × List Bool) → Nat → Option (List Bool)
  | [], _ => none
  | q :: r, pc => cond (Nat.beq q.1 pc) (some q.2) (ax_ct r pc)
def ax_wp (t : List (List ax_Rw)) (ct : List (Nat × List Bool)) (E : Nat → ax_Lc → List Value → ax_Sg → Prop) (C : ax_Ca) (P : Option Value → ax_Sg → Prop) (scr : Option (Nat × (Nat → Int32))) : Nat → Nat → ax_Lc → List Value → ax_Sg → Prop
  | 0, pc, L, st, σ => E pc L st σ
  | n + 1, pc, L, st, σ => match ax_ct ct pc with
    | some bs => E pc (ax_mk bs L) st σ
    | none => match ax_rw t pc with
      | some r => ax_ex C P scr r L st σ (fun pc L st σ => ax_wp t ct E C P scr n pc L st σ)
      | none => False
def ax_bk (t : List (List ax_Rw)) (ct : List (Nat × List Bool)) (E : Nat → ax_Lc → List Value → ax_Sg → Prop) (C : ax_Ca) (P : Option Value → ax_Sg → Prop) (scr : Option (Nat × (Nat → Int32))) (n pc : Nat) (L : ax_Lc) (st : List Value) (σ : ax_Sg) : Prop :=
  match ax_rw t pc with
  | some r => ax_ex C P scr r L st σ (fun pc L st σ => ax_wp t ct E C P scr n pc L st σ)
  | none => False
