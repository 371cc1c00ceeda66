/-! what a program decides of the tables: each instruction is where the code has it, links are in the tables' words, rooms suffice -/
def mm_ftl : List (List Nat) := [[1, 0, 1, 2], [1, 1, 0, 0, 0, 0], [1, 1, 1, 1, 0, 0], [1, 1, 1, 1, 1, 1, 0, 0], [1, 1, 1, 1, 0, 0, 0, 0], [1, 1, 1, 0, 1, 1, 0, 1, 1, 1, 1, 1, 1, 0, 0, 0, 1, 1, 3]]
def mm_ft (ci j : Nat) : Nat := (mm_ftl.getD ci []).getD j 9
def mm_nf (ci : Nat) : Nat := (mm_ftl.getD ci []).length
def mm_has (b : Nat) (w : Cond) : Bool := match lw_tbl[b]? with
  | some u => decide (u = w) && goodWord u
  | none => false
def mm_pc (i k : Nat) : Nat := match (mm_code i)[k]? with
  | some q => q.1
  | none => 0
def mm_nx (i k pc : Nat) : Bool := match (mm_code i)[k]? with
  | some q => Nat.beq q.1 pc
  | none => false
def mm_tg (i t pc : Nat) (off : Int) : Bool := match (mm_code i)[t]? with
  | some q => decide ((pc : Int) + off = (q.1 : Int))
  | none => false
def mm_tsw (i pc : Nat) (lo : Int) : List Int → List (Int32 × Nat) → Bool
  | [], [] => true
  | o :: os, (x, t) :: r => (decide (x.toInt = lo) && mm_tg i t pc o) && mm_tsw i pc (lo + 1) os r
  | _, _ => false
def mm_lsw (i pc : Nat) : List (Int × Int) → List (Int32 × Nat) → Bool
  | [], [] => true
  | (a, o) :: os, (x, t) :: r => (decide (x.toInt = a) && mm_tg i t pc o) && mm_lsw i pc os r
  | _, _ => false
def mm_fld (i : Nat) (idx a b c d : Nat) : Bool := match vwCl[d]? with
  | some (_, T, N) => (Nat.blt a N && Nat.beq (mm_ft d a) c) && mm_has b (.fieldLink (mm_y i).cls idx (T a).1 (T a).2.1 (T a).2.2.1)
  | none => false
def mm_fin (a d : Nat) : Bool := match vwCl[d]? with
  | some (_, T, _) => !(T a).2.2.2
  | none => false
def mm_stl : List Bool := [true, true, true, true, true, true, true, true, true, false, false, false, false, false, false, false, false, false, true, false, false, false, false, false, false, false, false, false, false, false, false, false, false, false, false, false, false, false, false, false, false, false, false, false, false, false, false, false, false, false, false, false, false, false, false, false, false, false, false, false, false, false, false, true, false, false, false, false, false, false, false, false, false, false, false, false, false, false, false, false, false, false, false, false, false, false, false, false, false, false, false, false, false, false, false, false, false, false, true, true, true, true, true, false, true, true, true, true, true, false, false, false, false, false, false, false, false, false, false, false, false, false, false, false, false, false, false, false, false, false, false, false, false, false, false, false, false, false, false, false, false, false, false, false, false, false, false, false, false, false, false, false, true, false, false, false, false, false, false, false, false, false, false, false, false, true, false, false, false, false, false, false, false, false, false, true]
def mm_sta (i : Nat) : Bool := mm_stl.getD i false
/-- the callee's own words, its parameters, its room under the caller's -/
def mm_cle (i j c : Nat) : Bool :=
  (Nat.blt j 175 && (Nat.beq (mm_na j) c && Nat.blt i 176)) && ((Nat.ble ((mm_rm j).1 + 1) (mm_rm i).1 && Nat.ble (8 + (mm_mx j + 11) + (mm_rm j).2) (mm_rm i).2))
def mm_ok (i k : Nat) (q : mm_E) : Bool := decide (decode (mm_by i) q.1 = .ok (q.2.1, q.2.2.1)) && match q.2.1 with
  | .aload _ => Nat.beq q.2.2.1 2 && mm_nx i (k + 1) (q.1 + 2)
  | .aload_n _ => Nat.beq q.2.2.1 1 && mm_nx i (k + 1) (q.1 + 1)
  | .iload _ => Nat.beq q.2.2.1 2 && mm_nx i (k + 1) (q.1 + 2)
  | .iload_n _ => Nat.beq q.2.2.1 1 && mm_nx i (k + 1) (q.1 + 1)
  | .lload _ => Nat.beq q.2.2.1 2 && mm_nx i (k + 1) (q.1 + 2)
  | .lload_n _ => Nat.beq q.2.2.1 1 && mm_nx i (k + 1) (q.1 + 1)
  | .astore _ => Nat.beq q.2.2.1 2 && mm_nx i (k + 1) (q.1 + 2)
  | .astore_n _ => Nat.beq q.2.2.1 1 && mm_nx i (k + 1) (q.1 + 1)
  | .istore _ => Nat.beq q.2.2.1 2 && mm_nx i (k + 1) (q.1 + 2)
  | .istore_n _ => Nat.beq q.2.2.1 1 && mm_nx i (k + 1) (q.1 + 1)
  | .lstore _ => Nat.beq q.2.2.1 2 && mm_nx i (k + 1) (q.1 + 2)
  | .lstore_n _ => Nat.beq q.2.2.1 1 && mm_nx i (k + 1) (q.1 + 1)
  | .iconst n => (Nat.beq q.2.2.1 1 && mm_nx i (k + 1) (q.1 + 1)) && decide (Int32.ofInt n = q.2.2.2.2.1)
  | .bipush n => (Nat.beq q.2.2.1 2 && mm_nx i (k + 1) (q.1 + 2)) && decide ((Int8.ofInt n).toInt32 = q.2.2.2.2.1)
  | .sipush n => (Nat.beq q.2.2.1 3 && mm_nx i (k + 1) (q.1 + 3)) && decide ((Int16.ofInt n).toInt32 = q.2.2.2.2.1)
  | .ldc n => (Nat.beq q.2.2.1 2 && mm_nx i (k + 1) (q.1 + 2)) && mm_has q.2.2.2.1.2.1 (.constant (mm_y i).cls n q.2.2.2.2.1)
  | .ldc2_w n => (Nat.beq q.2.2.1 3 && mm_nx i (k + 1) (q.1 + 3)) && mm_has q.2.2.2.1.2.1 (.constantLong (mm_y i).cls n q.2.2.2.2.1.toInt64)
  | .iinc _ n => (Nat.beq q.2.2.1 3 && mm_nx i (k + 1) (q.1 + 3)) && decide (Int32.ofInt n = q.2.2.2.2.1)
  | .iadd => Nat.beq q.2.2.1 1 && mm_nx i (k + 1) (q.1 + 1)
  | .isub => Nat.beq q.2.2.1 1 && mm_nx i (k + 1) (q.1 + 1)
  | .imul => Nat.beq q.2.2.1 1 && mm_nx i (k + 1) (q.1 + 1)
  | .iand => Nat.beq q.2.2.1 1 && mm_nx i (k + 1) (q.1 + 1)
  | .ixor => Nat.beq q.2.2.1 1 && mm_nx i (k + 1) (q.1 + 1)
  | .idiv => Nat.beq q.2.2.1 1 && mm_nx i (k + 1) (q.1 + 1)
  | .irem => Nat.beq q.2.2.1 1 && mm_nx i (k + 1) (q.1 + 1)
  | .ineg => Nat.beq q.2.2.1 1 && mm_nx i (k + 1) (q.1 + 1)
  | .ladd => Nat.beq q.2.2.1 1 && mm_nx i (k + 1) (q.1 + 1)
  | .lmul => Nat.beq q.2.2.1 1 && mm_nx i (k + 1) (q.1 + 1)
  | .i2l => Nat.beq q.2.2.1 1 && mm_nx i (k + 1) (q.1 + 1)
  | .lcmp => Nat.beq q.2.2.1 1 && mm_nx i (k + 1) (q.1 + 1)
  | .dup => Nat.beq q.2.2.1 1 && mm_nx i (k + 1) (q.1 + 1)
  | .dup2 => Nat.beq q.2.2.1 1 && mm_nx i (k + 1) (q.1 + 1)
  | .pop => Nat.beq q.2.2.1 1 && mm_nx i (k + 1) (q.1 + 1)
  | .goto off => Nat.beq q.2.2.1 3 && mm_tg i q.2.2.2.1.1 q.1 off
  | .if_icmp _ off => (Nat.beq q.2.2.1 3 && mm_nx i (k + 1) (q.1 + 3)) && mm_tg i q.2.2.2.1.1 q.1 off
  | .ifCond _ off => (Nat.beq q.2.2.1 3 && mm_nx i (k + 1) (q.1 + 3)) && mm_tg i q.2.2.2.1.1 q.1 off
  | .tableswitch dflt lo hi offs => (mm_tg i q.2.2.2.1.1 q.1 dflt && decide (hi = lo + (q.2.2.2.2.2.length : Int) - 1)) && mm_tsw i q.1 lo offs.toList q.2.2.2.2.2
  | .lookupswitch dflt ps => (mm_tg i q.2.2.2.1.1 q.1 dflt && (ps.toList.zip (ps.toList.drop 1)).all (fun (a, next) => a.1 < next.1)) && mm_lsw i q.1 ps.toList q.2.2.2.2.2
  | .getfield n => (Nat.beq q.2.2.1 3 && mm_nx i (k + 1) (q.1 + 3)) && mm_fld i n q.2.2.2.1.1 q.2.2.2.1.2.1 q.2.2.2.1.2.2.1 q.2.2.2.1.2.2.2
  | .putfield n => ((Nat.beq q.2.2.1 3 && mm_nx i (k + 1) (q.1 + 3)) && mm_fin q.2.2.2.1.1 q.2.2.2.1.2.2.2) && mm_fld i n q.2.2.2.1.1 q.2.2.2.1.2.1 q.2.2.2.1.2.2.1 q.2.2.2.1.2.2.2
  | .getstatic n => (Nat.beq q.2.2.1 3 && mm_nx i (k + 1) (q.1 + 3)) && ((Nat.beq q.2.2.2.1.1 63 && mm_has q.2.2.2.1.2.1 (.fieldLink (mm_y i).cls n "CommaChoir$Ratios" "PRIMES" "[I")) || (Nat.beq q.2.2.2.1.1 64 && mm_has q.2.2.2.1.2.1 (.fieldLink (mm_y i).cls n "CommaChoir$Ratios" "PRIME_SIZES" "[I")))
  | .iaload => Nat.beq q.2.2.1 1 && mm_nx i (k + 1) (q.1 + 1)
  | .iastore => Nat.beq q.2.2.1 1 && mm_nx i (k + 1) (q.1 + 1)
  | .aaload => Nat.beq q.2.2.1 1 && mm_nx i (k + 1) (q.1 + 1)
  | .aastore => Nat.beq q.2.2.1 1 && mm_nx i (k + 1) (q.1 + 1)
  | .arraylength => Nat.beq q.2.2.1 1 && mm_nx i (k + 1) (q.1 + 1)
  | .invokevirtual n => ((Nat.beq q.2.2.1 3 && mm_nx i (k + 1) (q.1 + 3)) && mm_cle i q.2.2.2.1.1 q.2.2.2.1.2.2.1) && ((mm_has q.2.2.2.1.2.1 (.methodLink (mm_y i).cls n (mm_y q.2.2.2.1.1)) && !mm_sta q.2.2.2.1.1) && (Nat.blt 9 q.2.2.2.1.2.2.2 && (match vwCl[q.2.2.2.1.2.2.2 - 10]? with
      | some (C, _, _) => decide (C = (mm_y q.2.2.2.1.1).cls) && (mm_has (mm_wp q.2.2.2.1.1).2.2.1 (.instanceMethod (mm_y q.2.2.2.1.1)) && mm_has (mm_wp q.2.2.2.1.1).2.2.2 (.selects C (mm_y q.2.2.2.1.1) (mm_y q.2.2.2.1.1)))
      | none => false)))
  | .invokestatic n => (Nat.beq q.2.2.1 3 && mm_nx i (k + 1) (q.1 + 3)) && (match q.2.2.2.1.2.2.2 with
      | 0 => (mm_cle i q.2.2.2.1.1 q.2.2.2.1.2.2.1 && (mm_has (mm_wp q.2.2.2.1.1).2.2.1 (.static (mm_y q.2.2.2.1.1)) && mm_sta q.2.2.2.1.1)) && (mm_has q.2.2.2.1.2.1 (.methodLink (mm_y i).cls n (mm_y q.2.2.2.1.1)) || (decide ((mm_y i).cls = "CommaChoir$Score") && (Nat.beq n 64 && decide (mm_y q.2.2.2.1.1 = ⟨"CommaChoir", "isWithin", "(II)Z"⟩))))
      | _ => mm_has q.2.2.2.1.2.1 (.methodLink (mm_y i).cls n arraycopyName) && (Nat.ble 1 (mm_rm i).1 && Nat.ble 40 (mm_rm i).2))
  | .ireturn => Nat.beq q.2.2.1 1
  | .lreturn => Nat.beq q.2.2.1 1
  | .areturn => Nat.beq q.2.2.1 1
  | .return_ => Nat.beq q.2.2.1 1
  | _ => true
def mm_oks (i : Nat) : Nat → List mm_E → Bool
  | _, [] => true
  | k, q :: r => mm_ok i k q && mm_oks i (k + 1) r
