/-! A small machine of its own: cells by number, ints by cell and place, one long, six references that move. -/
abbrev mm_H : Type := (Nat → Nat → Int32) × (Nat → Nat) × Int64
abbrev mm_R : Type := (Int32 × Int64 × Nat) × mm_H
abbrev mm_C : Type := Nat × List Value × List Value × mm_H
abbrev mm_E : Type := Nat × Instr × Nat × (Nat × Nat × Nat × Nat) × Int32 × List (Int32 × Nat)
abbrev mm_A : Type := (Bool × mm_R) ⊕ ((Bool × mm_C × Option mm_C) ⊕ ((Bool × Nat × List Value × Nat × List Value × List Value) ⊕ (Int32 × List (Int32 × Nat) × Nat × List Value × List Value)))
/-- kinds of cells: 0 row of ints, 1 row of references, 2 row of ints that nobody writes, 10 + c an object of kind c -/
def mm_kdl : List Nat := [14, 10, 1, 13, 11, 0, 0, 0, 0, 0, 0, 0, 0, 0, 12, 12, 12, 12, 12, 12, 12, 0, 0, 0, 0, 0, 0, 0, 0, 0, 0, 0, 0, 0, 0, 0, 0, 0, 0, 0, 0, 0, 0, 0, 0, 0, 0, 0, 0, 15, 0, 0, 0, 0, 0, 0, 0, 0, 0, 0, 0, 0, 0, 2, 2, 2]
def mm_kd (k : Nat) : Nat := mm_kdl.getD k 99
def mm_lel : List Nat := [0, 0, 5, 0, 0, 120, 48, 12, 12, 12, 12, 12, 60, 180, 0, 0, 0, 0, 0, 0, 0, 12, 240, 12, 12, 12, 240, 12, 12, 12, 240, 12, 12, 12, 240, 12, 12, 12, 240, 12, 12, 12, 240, 12, 12, 12, 240, 12, 12, 0, 266, 266, 1330, 3, 120, 48, 12, 12, 12, 12, 12, 60, 180, 4, 4, 0]
def mm_len (sc : Nat × (Nat → Int32)) (k : Nat) : Nat := bif Nat.beq k 65 then sc.1 else mm_lel.getD k 0
def mm_ro (sc : Nat × (Nat → Int32)) (k j : Nat) : Int32 := bif Nat.beq k 63 then ([2, 3, 5, 7] : List Int32).getD j 0 else bif Nat.beq k 64 then ([120000, 190196, 278631, 336883] : List Int32).getD j 0 else sc.2 j
/-- references that stay -/
def mm_rfl : List (List Nat) := [[1, 3, 4, 5], [2, 0, 14], [], [6, 7, 8, 9, 10, 11], [12, 13]]
def mm_rfm : List Nat := [50, 51, 52, 0, 53, 54, 0, 55, 56, 57, 58, 59, 60, 0, 0, 0, 61, 62]
def mm_rf (k j : Nat) : Nat := bif Nat.ble k 13 then (mm_rfl.getD k []).getD j 0 else bif Nat.ble k 20 then 21 + 4 * (k - 14) + j else mm_rfm.getD j 0
def mm_arr (sc : Nat × (Nat → Int32)) (h : mm_H) (k j : Nat) : Int32 := bif Nat.ble k 62 then h.1 k j else mm_ro sc k j
def mm_si (h : mm_H) (k j : Nat) (v : Int32) : mm_H := (fun a => if a = k then upd (h.1 k) j v else h.1 a, h.2)
def mm_sa (h : mm_H) (k : Nat) (f : Nat → Int32) : mm_H := (fun a => if a = k then f else h.1 a, h.2)
def mm_sr (h : mm_H) (j v : Nat) : mm_H := (h.1, fun a => if a = j then v else h.2.1 a, h.2.2)
def mm_sl (h : mm_H) (v : Int64) : mm_H := (h.1, h.2.1, v)
def mm_inb (i : Int32) (n : Nat) : Bool := decide (0 ≤ i.toInt) && decide (i.toInt < (n : Int))
/-- the words of a stack -/
def mm_cat : List Value → Nat
  | [] => 0
  | v :: r => v.category + mm_cat r
def mm_kill (ls : List Value) (n : Nat) : List Value := match n with
  | 0 => ls
  | m + 1 => match ls[m]? with
    | some (.long _) => ls.set m .null
    | some (.double _) => ls.set m .null
    | _ => ls
def mm_st1 (ls : List Value) (n : Nat) (v : Value) : List Value := (mm_kill ls n).set n v
def mm_st2 (ls : List Value) (n : Nat) (v : Value) : List Value := ((mm_kill ls n).set n v).set (n + 1) .null
def mm_flat : List Value → List Value
  | [] => []
  | .long x :: r => .long x :: .null :: mm_flat r
  | .double x :: r => .double x :: .null :: mm_flat r
  | v :: r => v :: mm_flat r
def mm_pad : List Value → Nat → List Value
  | [], 0 => []
  | [], n + 1 => .null :: mm_pad [] n
  | v :: r, 0 => v :: r
  | v :: r, n + 1 => v :: mm_pad r n
def mm_go (k : Nat) (ls st : List Value) (h : mm_H) : mm_A := .inr (.inl (true, (k, ls, st, h), none))
def mm_ck (b : Bool) (k : Nat) (ls st : List Value) (h : mm_H) : mm_A := .inr (.inl (b, (k, ls, st, h), none))
def mm_br (b : Bool) (k1 k2 : Nat) (ls st : List Value) (h : mm_H) : mm_A := .inr (.inl (b, (k1, ls, st, h), some (k2, ls, st, h)))
def mm_no (h : mm_H) : mm_A := .inl (false, (0, 0, 0), h)
def mm_aload (n k : Nat) (ls st : List Value) (h : mm_H) : mm_A := match ls[n]? with
  | some (.ref x) => mm_go (k + 1) ls (.ref x :: st) h
  | _ => mm_no h
def mm_iload (n k : Nat) (ls st : List Value) (h : mm_H) : mm_A := match ls[n]? with
  | some (.int x) => mm_go (k + 1) ls (.int x :: st) h
  | _ => mm_no h
def mm_lload (n k : Nat) (ls st : List Value) (h : mm_H) : mm_A := match ls[n]? with
  | some (.long x) => mm_go (k + 1) ls (.long x :: st) h
  | _ => mm_no h
def mm_astore (n k : Nat) (ls st : List Value) (h : mm_H) : mm_A := match st with
  | .ref x :: r => mm_ck (Nat.blt n ls.length) (k + 1) (mm_st1 ls n (.ref x)) r h
  | _ => mm_no h
def mm_istore (n k : Nat) (ls st : List Value) (h : mm_H) : mm_A := match st with
  | .int x :: r => mm_ck (Nat.blt n ls.length) (k + 1) (mm_st1 ls n (.int x)) r h
  | _ => mm_no h
def mm_lstore (n k : Nat) (ls st : List Value) (h : mm_H) : mm_A := match st with
  | .long x :: r => mm_ck (Nat.blt (n + 1) ls.length) (k + 1) (mm_st2 ls n (.long x)) r h
  | _ => mm_no h
def mm_iinc (n k : Nat) (v : Int32) (ls st : List Value) (h : mm_H) : mm_A := match ls[n]? with
  | some (.int x) => mm_ck (Nat.blt n ls.length) (k + 1) (mm_st1 ls n (.int (x + v))) st h
  | _ => mm_no h
def mm_bin (f : Int32 → Int32 → Int32) (k : Nat) (ls st : List Value) (h : mm_H) : mm_A := match st with
  | .int y :: .int x :: r => mm_go (k + 1) ls (.int (f x y) :: r) h
  | _ => mm_no h
def mm_dv (f : Int32 → Int32 → Int32) (k : Nat) (ls st : List Value) (h : mm_H) : mm_A := match st with
  | .int y :: .int x :: r => mm_ck (!decide (y = 0)) (k + 1) ls (.int (f x y) :: r) h
  | _ => mm_no h
def mm_lbin (f : Int64 → Int64 → Int64) (k : Nat) (ls st : List Value) (h : mm_H) : mm_A := match st with
  | .long y :: .long x :: r => mm_go (k + 1) ls (.long (f x y) :: r) h
  | _ => mm_no h
def mm_neg (k : Nat) (ls st : List Value) (h : mm_H) : mm_A := match st with
  | .int x :: r => mm_go (k + 1) ls (.int (-x) :: r) h
  | _ => mm_no h
def mm_i2l (k : Nat) (ls st : List Value) (h : mm_H) : mm_A := match st with
  | .int x :: r => mm_go (k + 1) ls (.long x.toInt64 :: r) h
  | _ => mm_no h
def mm_lcmp (k : Nat) (ls st : List Value) (h : mm_H) : mm_A := match st with
  | .long y :: .long x :: r => mm_go (k + 1) ls (.int (lg_cmp x y) :: r) h
  | _ => mm_no h
def mm_dup (k : Nat) (ls st : List Value) (h : mm_H) : mm_A := match st with
  | .int x :: r => mm_go (k + 1) ls (.int x :: .int x :: r) h
  | .ref x :: r => mm_go (k + 1) ls (.ref x :: .ref x :: r) h
  | _ => mm_no h
def mm_dup2 (k : Nat) (ls st : List Value) (h : mm_H) : mm_A := match st with
  | .int y :: .ref x :: r => mm_go (k + 1) ls (.int y :: .ref x :: .int y :: .ref x :: r) h
  | _ => mm_no h
def mm_pop (k : Nat) (ls st : List Value) (h : mm_H) : mm_A := match st with
  | .int _ :: r => mm_go (k + 1) ls r h
  | _ => mm_no h
/-- two ints compared: which is asked -/
def mm_if2 (c : Jvm.ClassFile.Cond) (k t : Nat) (ls st : List Value) (h : mm_H) : mm_A := match st with
  | .int y :: .int x :: r => match c with
    | .eq => mm_br (decide (x = y)) t (k + 1) ls r h
    | .ne => mm_br (decide (x = y)) (k + 1) t ls r h
    | .lt => mm_br (decide (x < y)) t (k + 1) ls r h
    | .ge => mm_br (decide (y ≤ x)) t (k + 1) ls r h
    | .gt => mm_br (decide (y < x)) t (k + 1) ls r h
    | .le => mm_br (decide (x ≤ y)) t (k + 1) ls r h
  | _ => mm_no h
def mm_if1 (c : Jvm.ClassFile.Cond) (k t : Nat) (ls st : List Value) (h : mm_H) : mm_A := match st with
  | .int x :: r => match c with
    | .eq => mm_br (decide (x = 0)) t (k + 1) ls r h
    | .ne => mm_br (decide (x = 0)) (k + 1) t ls r h
    | .lt => mm_br (decide (x < 0)) t (k + 1) ls r h
    | .ge => mm_br (decide (0 ≤ x)) t (k + 1) ls r h
    | .gt => mm_br (decide (0 < x)) t (k + 1) ls r h
    | .le => mm_br (decide (x ≤ 0)) t (k + 1) ls r h
  | _ => mm_no h
def mm_sw (q : mm_E) (ls st : List Value) (h : mm_H) : mm_A := match st with
  | .int x :: r => .inr (.inr (.inr (x, q.2.2.2.2.2, q.2.2.2.1.1, ls, r)))
  | _ => mm_no h
def mm_get (a c d k : Nat) (ls st : List Value) (h : mm_H) : mm_A := match st with
  | .ref x :: r => match c with
    | 0 => mm_ck (Nat.beq (mm_kd x) (10 + d)) (k + 1) ls (.int (h.1 x a) :: r) h
    | 1 => mm_ck (Nat.beq (mm_kd x) (10 + d)) (k + 1) ls (.ref (mm_rf x a) :: r) h
    | 2 => mm_ck (Nat.beq (mm_kd x) (10 + d)) (k + 1) ls (.ref (h.2.1 5) :: r) h
    | _ => mm_ck (Nat.beq (mm_kd x) (10 + d)) (k + 1) ls (.long h.2.2 :: r) h
  | _ => mm_no h
def mm_put (a c d k : Nat) (ls st : List Value) (h : mm_H) : mm_A := match c with
  | 0 => match st with
    | .int v :: .ref x :: r => mm_ck (Nat.beq (mm_kd x) (10 + d)) (k + 1) ls r (mm_si h x a v)
    | _ => mm_no h
  | 2 => match st with
    | .ref v :: .ref x :: r => mm_ck (Nat.beq (mm_kd x) (10 + d)) (k + 1) ls r (mm_sr h 5 v)
    | _ => mm_no h
  | 3 => match st with
    | .long v :: .ref x :: r => mm_ck (Nat.beq (mm_kd x) (10 + d)) (k + 1) ls r (mm_sl h v)
    | _ => mm_no h
  | _ => mm_no h
def mm_iald (sc : Nat × (Nat → Int32)) (k : Nat) (ls st : List Value) (h : mm_H) : mm_A := match st with
  | .int i :: .ref x :: r => mm_ck ((Nat.beq (mm_kd x) 0 || Nat.beq (mm_kd x) 2) && mm_inb i (mm_len sc x)) (k + 1) ls (.int (mm_arr sc h x i.toNatClampNeg) :: r) h
  | _ => mm_no h
def mm_iast (sc : Nat × (Nat → Int32)) (k : Nat) (ls st : List Value) (h : mm_H) : mm_A := match st with
  | .int v :: .int i :: .ref x :: r => mm_ck (Nat.beq (mm_kd x) 0 && mm_inb i (mm_len sc x)) (k + 1) ls r (mm_si h x i.toNatClampNeg v)
  | _ => mm_no h
def mm_aald (k : Nat) (ls st : List Value) (h : mm_H) : mm_A := match st with
  | .int i :: .ref x :: r => mm_ck (Nat.beq (mm_kd x) 1 && mm_inb i 5) (k + 1) ls (.ref (h.2.1 i.toNatClampNeg) :: r) h
  | _ => mm_no h
def mm_aast (k : Nat) (ls st : List Value) (h : mm_H) : mm_A := match st with
  | .ref v :: .int i :: .ref x :: r => mm_ck (Nat.beq (mm_kd x) 1 && (mm_inb i 5 && Nat.beq (mm_kd v) 12)) (k + 1) ls r (mm_sr h i.toNatClampNeg v)
  | _ => mm_no h
def mm_alen (sc : Nat × (Nat → Int32)) (k : Nat) (ls st : List Value) (h : mm_H) : mm_A := match st with
  | .ref x :: r => mm_ck (Nat.beq (mm_kd x) 0 || Nat.beq (mm_kd x) 2) (k + 1) ls (.int (nI (mm_len sc x)) :: r) h
  | _ => mm_no h
/-- a call: callee a, c values (with the receiver), of kind d (0: a static one) -/
def mm_inv (a c d k : Nat) (ls st : List Value) (h : mm_H) : mm_A := match d with
  | 0 => .inr (.inr (.inl (Nat.ble c st.length && Nat.ble (mm_cat (st.drop c)) 8, a, (st.take c).reverse, k + 1, ls, st.drop c)))
  | d + 1 => match (st.take c).reverse with
    | .ref x :: r => .inr (.inr (.inl ((Nat.beq (mm_kd x) (d + 1) && Nat.ble c st.length) && Nat.ble (mm_cat (st.drop c)) 8, a, .ref x :: r, k + 1, ls, st.drop c)))
    | _ => mm_no h
def mm_cpy (sc : Nat × (Nat → Int32)) (k : Nat) (ls st : List Value) (h : mm_H) : mm_A := match st with
  | .int n :: .int dp :: .ref y :: .int sp :: .ref x :: r =>
    mm_ck ((Nat.beq (mm_kd x) 0 && Nat.beq (mm_kd y) 0) && (Nat.ble (mm_cat r) 8 && ((decide (0 ≤ sp.toInt) && (decide (0 ≤ dp.toInt) && decide (0 ≤ n.toInt))) && (Nat.ble (sp.toNatClampNeg + n.toNatClampNeg) (mm_len sc x) && Nat.ble (dp.toNatClampNeg + n.toNatClampNeg) (mm_len sc y))))) (k + 1) ls r (mm_sa h y (va_cpy (h.1 x) (h.1 y) sp.toNatClampNeg dp.toNatClampNeg n.toNatClampNeg))
  | _ => mm_no h
def mm_ret (rt : Nat) (st : List Value) (h : mm_H) : mm_A := match st with
  | [.int v] => match rt with
    | 1 => .inl (true, (v, 0, 0), h)
    | 2 => .inl (decide (v = 0) || decide (v = 1), (v, 0, 0), h)
    | _ => mm_no h
  | _ => mm_no h
def mm_act (sc : Nat × (Nat → Int32)) (rt : Nat) (q : mm_E) (k : Nat) (ls st : List Value) (h : mm_H) : mm_A := match q.2.1 with
  | .aload n => mm_aload n k ls st h
  | .aload_n n => mm_aload n.val k ls st h
  | .iload n => mm_iload n k ls st h
  | .iload_n n => mm_iload n.val k ls st h
  | .lload n => mm_lload n k ls st h
  | .lload_n n => mm_lload n.val k ls st h
  | .astore n => mm_astore n k ls st h
  | .astore_n n => mm_astore n.val k ls st h
  | .istore n => mm_istore n k ls st h
  | .istore_n n => mm_istore n.val k ls st h
  | .lstore n => mm_lstore n k ls st h
  | .lstore_n n => mm_lstore n.val k ls st h
  | .iconst _ => mm_go (k + 1) ls (.int q.2.2.2.2.1 :: st) h
  | .bipush _ => mm_go (k + 1) ls (.int q.2.2.2.2.1 :: st) h
  | .sipush _ => mm_go (k + 1) ls (.int q.2.2.2.2.1 :: st) h
  | .ldc _ => mm_go (k + 1) ls (.int q.2.2.2.2.1 :: st) h
  | .ldc2_w _ => mm_go (k + 1) ls (.long q.2.2.2.2.1.toInt64 :: st) h
  | .iinc n _ => mm_iinc n k q.2.2.2.2.1 ls st h
  | .iadd => mm_bin (fun x y => x + y) k ls st h
  | .isub => mm_bin (fun x y => x - y) k ls st h
  | .imul => mm_bin (fun x y => x * y) k ls st h
  | .iand => mm_bin (fun x y => x &&& y) k ls st h
  | .ixor => mm_bin (fun x y => x ^^^ y) k ls st h
  | .idiv => mm_dv (fun x y => x / y) k ls st h
  | .irem => mm_dv (fun x y => x - x / y * y) k ls st h
  | .ineg => mm_neg k ls st h
  | .ladd => mm_lbin (fun x y => x + y) k ls st h
  | .lmul => mm_lbin (fun x y => x * y) k ls st h
  | .i2l => mm_i2l k ls st h
  | .lcmp => mm_lcmp k ls st h
  | .dup => mm_dup k ls st h
  | .dup2 => mm_dup2 k ls st h
  | .pop => mm_pop k ls st h
  | .goto _ => mm_go q.2.2.2.1.1 ls st h
  | .if_icmp c _ => mm_if2 c k q.2.2.2.1.1 ls st h
  | .ifCond c _ => mm_if1 c k q.2.2.2.1.1 ls st h
  | .tableswitch _ _ _ _ => mm_sw q ls st h
  | .lookupswitch _ _ => mm_sw q ls st h
  | .getfield _ => mm_get q.2.2.2.1.1 q.2.2.2.1.2.2.1 q.2.2.2.1.2.2.2 k ls st h
  | .putfield _ => mm_put q.2.2.2.1.1 q.2.2.2.1.2.2.1 q.2.2.2.1.2.2.2 k ls st h
  | .getstatic _ => mm_go (k + 1) ls (.ref q.2.2.2.1.1 :: st) h
  | .iaload => mm_iald sc k ls st h
  | .iastore => mm_iast sc k ls st h
  | .aaload => mm_aald k ls st h
  | .aastore => mm_aast k ls st h
  | .arraylength => mm_alen sc k ls st h
  | .invokevirtual _ => mm_inv q.2.2.2.1.1 q.2.2.2.1.2.2.1 q.2.2.2.1.2.2.2 k ls st h
  | .invokestatic _ => match q.2.2.2.1.2.2.2 with
    | 0 => mm_inv q.2.2.2.1.1 q.2.2.2.1.2.2.1 0 k ls st h
    | _ => mm_cpy sc k ls st h
  | .ireturn => mm_ret rt st h
  | .lreturn => match st with
    | [.long v] => .inl (Nat.beq rt 3, (0, v, 0), h)
    | _ => mm_no h
  | .areturn => match st with
    | [.ref v] => .inl (Nat.beq rt 4, (0, 0, v), h)
    | _ => mm_no h
  | .return_ => match st with
    | [] => .inl (Nat.beq rt 0, (0, 0, 0), h)
    | _ => mm_no h
  | _ => mm_no h
def mm_swc (K : Nat → Option mm_R) (x : Int32) (d : Nat) : List (Int32 × Nat) → Option mm_R
  | [] => K d
  | (k, t) :: r => bif decide (x = k) then K t else mm_swc K x d r
/-- what an answer is on the caller's stack -/
def mm_rv (rt : Nat) (r : mm_R) : List Value := match rt with
  | 0 => []
  | 1 => [.int r.1.1]
  | 2 => [.int r.1.1]
  | 3 => [.long r.1.2.1]
  | _ => [.ref r.1.2.2]
def mm_bd (o : Option mm_R) (f : mm_R → Option mm_R) : Option mm_R := match o with
  | none => none
  | some r => f r
def mm_drv (rs : Nat → Nat) (Ec : Nat → List Value → mm_H → Option mm_R) (E : Nat → List Value → List Value → mm_H → Option mm_R) (h : mm_H) (a : mm_A) : Option mm_R := match a with
  | .inl (b, r) => bif b then some r else none
  | .inr (.inl (b, c, none)) => bif b then E c.1 c.2.1 c.2.2.1 c.2.2.2 else none
  | .inr (.inl (b, c, some d)) => bif b then E c.1 c.2.1 c.2.2.1 c.2.2.2 else E d.1 d.2.1 d.2.2.1 d.2.2.2
  | .inr (.inr (.inl (b, j, as, k, ls, st))) => bif b then mm_bd (Ec j as h) (fun r => E k ls (mm_rv (rs j) r ++ st) r.2) else none
  | .inr (.inr (.inr (x, ps, d, ls, st))) => mm_swc (fun k => E k ls st h) x d ps
