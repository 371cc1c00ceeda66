/-! every run of the small machine is a run of the machine -/
def mm_T0 : List Cond := lw_tbl.filter goodWord
theorem mm_has_in {b : Nat} {w : Cond} (h : mm_has b w = true) : w ∈ mm_T0 := by
  unfold mm_has at h
  split at h
  · next u hu =>
    simp only [Bool.and_eq_true, decide_eq_true_eq] at h
    obtain ⟨h1, h2⟩ := h
    rw [← h1]
    exact List.mem_filter.mpr ⟨List.mem_of_getElem? hu, h2⟩
  · cases h
theorem mm_T0_good : ∀ w ∈ mm_T0, goodWord w = true := fun _ h => (List.mem_filter.mp h).2
def mm_wsJ (j : Nat) : List Cond := .code (mm_y j) (mm_by j) (mm_mx j) (mm_re (mm_rt j)) :: mm_T0
def mm_rmR (j : Nat) : Room := { frames := (mm_rm j).1, cells := 0, slots := 0, locals := (mm_rm j).2 }
theorem mm_goodT {ws : List Cond} (h : ∀ w ∈ ws, w ∈ mm_T0) : GoodIn mm_T0 ws := fun w hw => ⟨h w hw, good_of_word (mm_T0_good w (h w hw))⟩
def mm_Env (D : va_G) (ad : Nat → Nat) (cI cS : ClassId) (A : Nat → Prop) (sc : Nat × (Nat → Int32)) (U : State) : Prop :=
  va_K D vwCl [(cI, .int), (cS, .object RX3)] U ∧ va_Z "CommaChoir$Ratios" "PRIMES" "[I" (.ref (ad 63)) A U U.heap ∧ va_Z "CommaChoir$Ratios" "PRIME_SIZES" "[I" (.ref (ad 64)) A U U.heap ∧ (∀ k, 63 ≤ k → k < 66 → va_T .int (ad k) (mm_len sc k) (fun j => .int (mm_ro sc k j)) A U U.heap) ∧ va_Nw (.methodLinkNest "CommaChoir$Score" 64 ⟨"CommaChoir", "isWithin", "(II)Z"⟩ "CommaChoir") U
theorem mm_Env.to {D : va_G} {ad : Nat → Nat} {cI cS : ClassId} {A : Nat → Prop} {sc : Nat × (Nat → Int32)} {s U : State} {H : Heap} {locs : List Loc} (h : mm_Env D ad cI cS A sc s) (hS : va_S A s.heap H locs) (hU : U.heap = H) (hW : s.WarmedH U.vm) : mm_Env D ad cI cS A sc U := by
  obtain ⟨h1, h2, h3, h4, h5⟩ := h
  refine ⟨va_K.moved hW.alike h1, ?_, ?_, fun k k1 k2 => ?_, va_Nw.warmM hW h5⟩
  · rw [hU]; exact (h2.kept hS.2.1).moved hW.alike
  · rw [hU]; exact (h3.kept hS.2.1).moved hW.alike
  · rw [hU]; exact ((h4 k k1 k2).kept hS.2.1).moved hW.alike
def mm_rq (rt : Nat) (r : mm_R) : Option Value := match rt with
  | 0 => none
  | 1 => some (.int r.1.1)
  | 2 => some (.int r.1.1)
  | 3 => some (.long r.1.2.1)
  | _ => some (.ref r.1.2.2)
theorem mm_rv_eq (rt : Nat) (r : mm_R) : mm_rv rt r = (mm_rq rt r).toList := by
  match rt with
  | 0 => rfl
  | 1 => rfl
  | 2 => rfl
  | 3 => rfl
  | n + 4 => rfl
def mm_Pre (D : va_G) (ad : Nat → Nat) (cI cS : ClassId) (A : Nat → Prop) (sc : Nat × (Nat → Int32)) (as : List Value) (h : mm_H) : Array Value → State → Prop := va_Pc (as.map (mm_mv ad)) (fun U => va_P D vwCl (mm_ws ad cI cS h) U.heap ∧ mm_Env D ad cI cS A sc U)
def mm_Post (D : va_G) (ad : Nat → Nat) (cI cS : ClassId) (A : Nat → Prop) (j : Nat) (u : mm_R) : Array Value → State → Outcome → State → Prop := fun _ st oc t => oc = .returned ((mm_rq (mm_rt j) u).map (mm_mv ad)) ∧ va_P D vwCl (mm_ws ad cI cS u.2) t.heap ∧ va_F A st t
theorem mm_Pre_blind (D : va_G) (ad : Nat → Nat) (cI cS : ClassId) (A : Nat → Prop) (sc : Nat × (Nat → Int32)) (as : List Value) (h : mm_H) : FrameBlind (mm_Pre D ad cI cS A sc as h) := by
  intro a U g mk q
  obtain ⟨q0, q1, e1, e2, e3, e4, e5⟩ := q
  exact ⟨q0, q1, va_K.moved (u := U) (U := U.calling g mk a) (Vm.Alike.refl U.vm) e1, va_Z.moved (u := U) (U := U.calling g mk a) (Vm.Alike.refl U.vm) e2, va_Z.moved (u := U) (U := U.calling g mk a) (Vm.Alike.refl U.vm) e3, fun k k1 k2 => va_T.moved (u := U) (U := U.calling g mk a) (Vm.Alike.refl U.vm) (e4 k k1 k2), va_Nw.same (u := U) (U := U.calling g mk a) rfl rfl e5⟩
/-- what stays fixed in a method's body -/
def mm_Cx (p : Program) (R : Room) (s : State) (m : MethodId) (args : Array Value) (c : Code) (cells slots : Nat) (i : Nat) : Prop := p.tables.exec = Jvm.exec ∧ c.code = mm_by i ∧ c.maxLocals = mm_mx i ∧ s.vm.findClass (mm_y i).cls = some m.cls ∧ (∀ w ∈ mm_T0, w.before args s = true) ∧ ((mm_rm i).1 ≤ R.frames ∧ (mm_rm i).2 ≤ R.locals) ∧ cells ≤ R.cells ∧ slots ≤ R.slots
def mm_Ct (p : Program) (l : Launch) (e : Env) (R : Room) (s : State) (m : MethodId) (args : Array Value) (below : List Frame) (meth : Method) (c : Code) (cells slots : Nat) (Q : State → Prop) (D : va_G) (ad : Nat → Nat) (cI cS : ClassId) (A : Nat → Prop) (i k : Nat) (ls st : List Value) (h : mm_H) : Prop :=
  ∀ (H : Heap) (locs : List Loc) (lsA : Array Slot), mm_lok ad lsA (mm_mx i) ls → va_P D vwCl (mm_ws ad cI cS h) H → va_S A s.heap H locs → W p l e R s m args below meth c H locs cells slots Q (F0 m (mm_pc i k) lsA (st.map (mm_mv ad)))
theorem mm_nx_pc {i k pc : Nat} (h : mm_nx i k pc = true) : mm_pc i k = pc := by
  unfold mm_nx at h
  unfold mm_pc
  split at h
  · next q hq => exact Nat.eq_of_beq_eq_true h
  · cases h
theorem mm_tg_pc {i t pc : Nat} {off : Int} (h : mm_tg i t pc off = true) : (pc : Int) + off = (mm_pc i t : Int) := by
  unfold mm_tg at h
  unfold mm_pc
  split at h
  · next q hq => simpa using h
  · cases h
theorem ok_n {i k pc len N : Nat} {ins : Instr} (hok : (decide (decode (mm_by i) pc = .ok (ins, len)) && (Nat.beq len N && mm_nx i (k + 1) (pc + N))) = true) : decode (mm_by i) pc = .ok (ins, N) ∧ mm_pc i (k + 1) = pc + N := by
  simp only [Bool.and_eq_true, decide_eq_true_eq] at hok
  obtain ⟨h1, h2, h3⟩ := hok
  have := Nat.eq_of_beq_eq_true h2
  subst this
  exact ⟨h1, mm_nx_pc h3⟩
theorem ok_x {i k pc len N : Nat} {ins : Instr} {b : Bool} (hok : (decide (decode (mm_by i) pc = .ok (ins, len)) && ((Nat.beq len N && mm_nx i (k + 1) (pc + N)) && b)) = true) : decode (mm_by i) pc = .ok (ins, N) ∧ mm_pc i (k + 1) = pc + N ∧ b = true := by
  simp only [Bool.and_eq_true, decide_eq_true_eq] at hok
  obtain ⟨h1, ⟨h2, h3⟩, h4⟩ := hok
  have := Nat.eq_of_beq_eq_true h2
  subst this
  exact ⟨h1, mm_nx_pc h3, h4⟩
set_option maxRecDepth 100000 in
theorem mm_hin0 : (∀ w ∈ u_ws RX0 TX0 4, w ∈ mm_T0) ∧ (∀ w ∈ u_ws RX2 TX2 6, w ∈ mm_T0) ∧ (∀ w ∈ u_ws RX3 TX3 6, w ∈ mm_T0) ∧ (∀ w ∈ u_ws RX4 TX4 8, w ∈ mm_T0) ∧ (∀ w ∈ u_ws RX5 TX5 8, w ∈ mm_T0) ∧ (∀ w ∈ u_ws RX6 TX6 19, w ∈ mm_T0) := by decide +kernel
/-- what a class of the list brings -/
theorem mm_cls {d : Nat} {C : String} {T : u_T} {N : Nat} (h : vwCl[d]? = some (C, T, N)) : d < 6 ∧ N = mm_nf d ∧ (∀ w ∈ u_ws C T N, w ∈ mm_T0) ∧ ∃ ty0 : Nat → FieldType, (∀ k, k < N → parseFieldDescriptor (T k).2.2.1 = some (ty0 k)) ∧ (∀ a, a < N → ∀ b, b < N → a ≠ b → (T a).2.1 ≠ (T b).2.1) := by
  obtain ⟨i0, i1, i2, i3, i4, i5⟩ := mm_hin0
  match d, h with
  | 0, h => cases h; exact ⟨by decide, by decide, i0, tyX0, tyX0_ok, nmX0⟩
  | 1, h => cases h; exact ⟨by decide, by decide, i1, tyX2, tyX2_ok, nmX2⟩
  | 2, h => cases h; exact ⟨by decide, by decide, i2, tyX3, tyX3_ok, nmX3⟩
  | 3, h => cases h; exact ⟨by decide, by decide, i3, tyX4, tyX4_ok, nmX4⟩
  | 4, h => cases h; exact ⟨by decide, by decide, i4, tyX5, tyX5_ok, nmX5⟩
  | 5, h => cases h; exact ⟨by decide, by decide, i5, tyX6, tyX6_ok, nmX6⟩
  | d + 6, h => simp [vwCl] at h
def mm_ds (d a : Nat) : String := match vwCl[d]? with
  | some q => (q.2.1 a).2.2.1
  | none => ""
theorem mm_tyB : ∀ d, d < 6 → ∀ a, a < 19 → a < mm_nf d → (mm_ft d a = 0 → mm_ds d a = "I") ∧ (mm_ft d a = 2 → mm_ds d a = "LCommaChoir$Score;") ∧ (mm_ft d a = 3 → mm_ds d a = "J") := by decide +kernel
theorem mm_tyI : parseFieldDescriptor "I" = some .int := by decide +kernel
theorem mm_tyS : parseFieldDescriptor "LCommaChoir$Score;" = some (.object RX3) := by decide +kernel
theorem mm_tyJ : parseFieldDescriptor "J" = some .long := by decide +kernel
theorem mm_tyA {d : Nat} {C : String} {T : u_T} {N a : Nat} (h : vwCl[d]? = some (C, T, N)) (hd : d < 6) (ha : a < mm_nf d) : (mm_ft d a = 0 → parseFieldDescriptor (T a).2.2.1 = some .int) ∧ (mm_ft d a = 2 → parseFieldDescriptor (T a).2.2.1 = some (.object RX3)) ∧ (mm_ft d a = 3 → parseFieldDescriptor (T a).2.2.1 = some .long) := by
  have e : mm_ds d a = (T a).2.2.1 := by
    unfold mm_ds
    rw [h]
  have h19 := mm_nf_in d hd
  obtain ⟨h1, h2, h3⟩ := mm_tyB d hd a (by omega) ha
  rw [e] at h1 h2 h3
  exact ⟨fun q => by rw [h1 q]; exact mm_tyI, fun q => by rw [h2 q]; exact mm_tyS, fun q => by rw [h3 q]; exact mm_tyJ⟩
section SP
variable {p : Program} {l : Launch} {e : Env} {R : Room} {s : State} {m : MethodId} {args : Array Value} {below : List Frame} {meth : Method} {c : Code} {cells slots : Nat} {Q : State → Prop} {D : va_G} {ad : Nat → Nat} {cI cS : ClassId} {A : Nat → Prop} {sc : Nat × (Nat → Int32)} {i k pc n : Nat} {ls st : List Value} {h : mm_H}
theorem sp_aload_n {z : Fin 4} {x : Nat} (hC : mm_Cx p R s m args c cells slots i) (hpc : mm_pc i k = pc) (hd : decode (mm_by i) pc = .ok (.aload_n z, 1)) (hn : mm_pc i (k + 1) = pc + 1) (h1 : ls[z.val]? = some (.ref x)) (kk : mm_Ct p l e R s m args below meth c cells slots Q D ad cI cS A i (k + 1) ls (.ref x :: st) h) : mm_Ct p l e R s m args below meth c cells slots Q D ad cI cS A i k ls st h := fun H locs lsA hl hP hS => by
  have w := kk H locs lsA hl hP hS
  rw [hn] at w
  rw [hpc]
  exact lv_aload_n hC.1 hC.2.1 hd rfl (hl.2.2.2 _ _ h1 (by simp)) w
theorem sp_aload {x : Nat} (hC : mm_Cx p R s m args c cells slots i) (hpc : mm_pc i k = pc) (hd : decode (mm_by i) pc = .ok (.aload n, 2)) (hn : mm_pc i (k + 1) = pc + 2) (h1 : ls[n]? = some (.ref x)) (kk : mm_Ct p l e R s m args below meth c cells slots Q D ad cI cS A i (k + 1) ls (.ref x :: st) h) : mm_Ct p l e R s m args below meth c cells slots Q D ad cI cS A i k ls st h := fun H locs lsA hl hP hS => by
  have w := kk H locs lsA hl hP hS
  rw [hn] at w
  rw [hpc]
  exact lv_aload hC.1 hC.2.1 hd (hl.2.2.2 _ _ h1 (by simp)) w
theorem sp_iload_n {z : Fin 4} {x : Int32} (hC : mm_Cx p R s m args c cells slots i) (hpc : mm_pc i k = pc) (hd : decode (mm_by i) pc = .ok (.iload_n z, 1)) (hn : mm_pc i (k + 1) = pc + 1) (h1 : ls[z.val]? = some (.int x)) (kk : mm_Ct p l e R s m args below meth c cells slots Q D ad cI cS A i (k + 1) ls (.int x :: st) h) : mm_Ct p l e R s m args below meth c cells slots Q D ad cI cS A i k ls st h := fun H locs lsA hl hP hS => by
  have w := kk H locs lsA hl hP hS
  rw [hn] at w
  rw [hpc]
  exact lv_iload_n hC.1 hC.2.1 hd rfl (hl.2.2.2 _ _ h1 (by simp)) w
theorem sp_iload {x : Int32} (hC : mm_Cx p R s m args c cells slots i) (hpc : mm_pc i k = pc) (hd : decode (mm_by i) pc = .ok (.iload n, 2)) (hn : mm_pc i (k + 1) = pc + 2) (h1 : ls[n]? = some (.int x)) (kk : mm_Ct p l e R s m args below meth c cells slots Q D ad cI cS A i (k + 1) ls (.int x :: st) h) : mm_Ct p l e R s m args below meth c cells slots Q D ad cI cS A i k ls st h := fun H locs lsA hl hP hS => by
  have w := kk H locs lsA hl hP hS
  rw [hn] at w
  rw [hpc]
  exact lv_iload hC.1 hC.2.1 hd (hl.2.2.2 _ _ h1 (by simp)) w
theorem sp_lload_n {z : Fin 4} {x : Int64} (hC : mm_Cx p R s m args c cells slots i) (hpc : mm_pc i k = pc) (hd : decode (mm_by i) pc = .ok (.lload_n z, 1)) (hn : mm_pc i (k + 1) = pc + 1) (h1 : ls[z.val]? = some (.long x)) (kk : mm_Ct p l e R s m args below meth c cells slots Q D ad cI cS A i (k + 1) ls (.long x :: st) h) : mm_Ct p l e R s m args below meth c cells slots Q D ad cI cS A i k ls st h := fun H locs lsA hl hP hS => by
  have w := kk H locs lsA hl hP hS
  rw [hn] at w
  rw [hpc]
  exact lv_lload_n hC.1 hC.2.1 hd rfl (hl.2.2.2 _ _ h1 (by simp)) w
theorem sp_lload {x : Int64} (hC : mm_Cx p R s m args c cells slots i) (hpc : mm_pc i k = pc) (hd : decode (mm_by i) pc = .ok (.lload n, 2)) (hn : mm_pc i (k + 1) = pc + 2) (h1 : ls[n]? = some (.long x)) (kk : mm_Ct p l e R s m args below meth c cells slots Q D ad cI cS A i (k + 1) ls (.long x :: st) h) : mm_Ct p l e R s m args below meth c cells slots Q D ad cI cS A i k ls st h := fun H locs lsA hl hP hS => by
  have w := kk H locs lsA hl hP hS
  rw [hn] at w
  rw [hpc]
  exact lv_lload hC.1 hC.2.1 hd (hl.2.2.2 _ _ h1 (by simp)) w
theorem sp_astore_n {z : Fin 4} {x : Nat} (hC : mm_Cx p R s m args c cells slots i) (hpc : mm_pc i k = pc) (hd : decode (mm_by i) pc = .ok (.astore_n z, 1)) (hn : mm_pc i (k + 1) = pc + 1) (hlt : z.val < ls.length) (kk : mm_Ct p l e R s m args below meth c cells slots Q D ad cI cS A i (k + 1) (mm_st1 ls z.val (.ref x)) st h) : mm_Ct p l e R s m args below meth c cells slots Q D ad cI cS A i k ls (.ref x :: st) h := fun H locs lsA hl hP hS => by
  rw [hpc]
  rw [hl.2.2.1] at hlt
  refine lv_astore_n hC.1 hC.2.1 hd rfl (mm_lok_has hl) hlt rfl (fun ls' h' => ?_)
  have w := kk H locs ls' (mm_lok_st1 (v := .ref x) hl.2.2.1 hlt h') hP hS
  rw [hn] at w
  exact w
theorem sp_astore {x : Nat} (hC : mm_Cx p R s m args c cells slots i) (hpc : mm_pc i k = pc) (hd : decode (mm_by i) pc = .ok (.astore n, 2)) (hn : mm_pc i (k + 1) = pc + 2) (hlt : n < ls.length) (kk : mm_Ct p l e R s m args below meth c cells slots Q D ad cI cS A i (k + 1) (mm_st1 ls n (.ref x)) st h) : mm_Ct p l e R s m args below meth c cells slots Q D ad cI cS A i k ls (.ref x :: st) h := fun H locs lsA hl hP hS => by
  rw [hpc]
  rw [hl.2.2.1] at hlt
  refine lv_astore hC.1 hC.2.1 hd (mm_lok_has hl) hlt rfl (fun ls' h' => ?_)
  have w := kk H locs ls' (mm_lok_st1 (v := .ref x) hl.2.2.1 hlt h') hP hS
  rw [hn] at w
  exact w
theorem sp_istore_n {z : Fin 4} {x : Int32} (hC : mm_Cx p R s m args c cells slots i) (hpc : mm_pc i k = pc) (hd : decode (mm_by i) pc = .ok (.istore_n z, 1)) (hn : mm_pc i (k + 1) = pc + 1) (hlt : z.val < ls.length) (kk : mm_Ct p l e R s m args below meth c cells slots Q D ad cI cS A i (k + 1) (mm_st1 ls z.val (.int x)) st h) : mm_Ct p l e R s m args below meth c cells slots Q D ad cI cS A i k ls (.int x :: st) h := fun H locs lsA hl hP hS => by
  rw [hpc]
  rw [hl.2.2.1] at hlt
  refine lv_istore_n hC.1 hC.2.1 hd rfl (mm_lok_has hl) hlt rfl (fun ls' h' => ?_)
  have w := kk H locs ls' (mm_lok_st1 (v := .int x) hl.2.2.1 hlt h') hP hS
  rw [hn] at w
  exact w
theorem sp_istore {x : Int32} (hC : mm_Cx p R s m args c cells slots i) (hpc : mm_pc i k = pc) (hd : decode (mm_by i) pc = .ok (.istore n, 2)) (hn : mm_pc i (k + 1) = pc + 2) (hlt : n < ls.length) (kk : mm_Ct p l e R s m args below meth c cells slots Q D ad cI cS A i (k + 1) (mm_st1 ls n (.int x)) st h) : mm_Ct p l e R s m args below meth c cells slots Q D ad cI cS A i k ls (.int x :: st) h := fun H locs lsA hl hP hS => by
  rw [hpc]
  rw [hl.2.2.1] at hlt
  refine lv_istore hC.1 hC.2.1 hd (mm_lok_has hl) hlt rfl (fun ls' h' => ?_)
  have w := kk H locs ls' (mm_lok_st1 (v := .int x) hl.2.2.1 hlt h') hP hS
  rw [hn] at w
  exact w
theorem sp_lstore_n {z : Fin 4} {x : Int64} (hC : mm_Cx p R s m args c cells slots i) (hpc : mm_pc i k = pc) (hd : decode (mm_by i) pc = .ok (.lstore_n z, 1)) (hn : mm_pc i (k + 1) = pc + 1) (hlt : z.val + 1 < ls.length) (kk : mm_Ct p l e R s m args below meth c cells slots Q D ad cI cS A i (k + 1) (mm_st2 ls z.val (.long x)) st h) : mm_Ct p l e R s m args below meth c cells slots Q D ad cI cS A i k ls (.long x :: st) h := fun H locs lsA hl hP hS => by
  rw [hpc]
  rw [hl.2.2.1] at hlt
  refine lv_lstore_n hC.1 hC.2.1 hd rfl (mm_lok_has hl) hlt rfl (fun ls' h' => ?_)
  have w := kk H locs ls' (mm_lok_st2 (v := .long x) hl.2.2.1 hlt h') hP hS
  rw [hn] at w
  exact w
theorem sp_lstore {x : Int64} (hC : mm_Cx p R s m args c cells slots i) (hpc : mm_pc i k = pc) (hd : decode (mm_by i) pc = .ok (.lstore n, 2)) (hn : mm_pc i (k + 1) = pc + 2) (hlt : n + 1 < ls.length) (kk : mm_Ct p l e R s m args below meth c cells slots Q D ad cI cS A i (k + 1) (mm_st2 ls n (.long x)) st h) : mm_Ct p l e R s m args below meth c cells slots Q D ad cI cS A i k ls (.long x :: st) h := fun H locs lsA hl hP hS => by
  rw [hpc]
  rw [hl.2.2.1] at hlt
  refine lv_lstore hC.1 hC.2.1 hd (mm_lok_has hl) hlt rfl (fun ls' h' => ?_)
  have w := kk H locs ls' (mm_lok_st2 (v := .long x) hl.2.2.1 hlt h') hP hS
  rw [hn] at w
  exact w
theorem sp_iinc {x v : Int32} {z : Int} (hC : mm_Cx p R s m args c cells slots i) (hpc : mm_pc i k = pc) (hd : decode (mm_by i) pc = .ok (.iinc n z, 3)) (hn : mm_pc i (k + 1) = pc + 3) (hv : Int32.ofInt z = v) (h1 : ls[n]? = some (.int x)) (kk : mm_Ct p l e R s m args below meth c cells slots Q D ad cI cS A i (k + 1) (mm_st1 ls n (.int (x + v))) st h) : mm_Ct p l e R s m args below meth c cells slots Q D ad cI cS A i k ls st h := fun H locs lsA hl hP hS => by
  rw [hpc]
  have hlt : n < mm_mx i := by rw [← hl.2.2.1]; exact (List.getElem?_eq_some_iff.mp h1).1
  obtain ⟨q, hq⟩ := List.getElem?_of_mem (mm_lvl_mem (ad := ad) h1 (by simp))
  refine lv_iinc (v := x + v) hC.1 hC.2.1 hd (mm_lok_has hl) hq (by rw [hv]) hlt rfl (fun ls' h' => ?_)
  have w := kk H locs ls' (mm_lok_st1 (v := .int (x + v)) hl.2.2.1 hlt h') hP hS
  rw [hn] at w
  exact w
theorem sp_iconst {v : Int32} {z : Int} (hC : mm_Cx p R s m args c cells slots i) (hpc : mm_pc i k = pc) (hd : decode (mm_by i) pc = .ok (.iconst z, 1)) (hn : mm_pc i (k + 1) = pc + 1) (hv : Int32.ofInt z = v) (kk : mm_Ct p l e R s m args below meth c cells slots Q D ad cI cS A i (k + 1) ls (.int v :: st) h) : mm_Ct p l e R s m args below meth c cells slots Q D ad cI cS A i k ls st h := fun H locs lsA hl hP hS => by
  have w := kk H locs lsA hl hP hS
  rw [hn] at w
  rw [hpc]
  exact lv_iconst hC.1 hC.2.1 hd hv w
theorem sp_bipush {v : Int32} {z : Int} (hC : mm_Cx p R s m args c cells slots i) (hpc : mm_pc i k = pc) (hd : decode (mm_by i) pc = .ok (.bipush z, 2)) (hn : mm_pc i (k + 1) = pc + 2) (hv : (Int8.ofInt z).toInt32 = v) (kk : mm_Ct p l e R s m args below meth c cells slots Q D ad cI cS A i (k + 1) ls (.int v :: st) h) : mm_Ct p l e R s m args below meth c cells slots Q D ad cI cS A i k ls st h := fun H locs lsA hl hP hS => by
  have w := kk H locs lsA hl hP hS
  rw [hn] at w
  rw [hpc]
  exact lv_bipush hC.1 hC.2.1 hd hv w
theorem sp_sipush {v : Int32} {z : Int} (hC : mm_Cx p R s m args c cells slots i) (hpc : mm_pc i k = pc) (hd : decode (mm_by i) pc = .ok (.sipush z, 3)) (hn : mm_pc i (k + 1) = pc + 3) (hv : (Int16.ofInt z).toInt32 = v) (kk : mm_Ct p l e R s m args below meth c cells slots Q D ad cI cS A i (k + 1) ls (.int v :: st) h) : mm_Ct p l e R s m args below meth c cells slots Q D ad cI cS A i k ls st h := fun H locs lsA hl hP hS => by
  have w := kk H locs lsA hl hP hS
  rw [hn] at w
  rw [hpc]
  exact lv_sipush hC.1 hC.2.1 hd hv w
theorem sp_ldc {v : Int32} (hC : mm_Cx p R s m args c cells slots i) (hpc : mm_pc i k = pc) (hd : decode (mm_by i) pc = .ok (.ldc n, 2)) (hn : mm_pc i (k + 1) = pc + 2) (hw : Cond.constant (mm_y i).cls n v ∈ mm_T0) (kk : mm_Ct p l e R s m args below meth c cells slots Q D ad cI cS A i (k + 1) ls (.int v :: st) h) : mm_Ct p l e R s m args below meth c cells slots Q D ad cI cS A i k ls st h := fun H locs lsA hl hP hS => by
  have w := kk H locs lsA hl hP hS
  rw [hn] at w
  rw [hpc]
  exact lv_ldc hC.1 hC.2.1 hC.2.2.2.1 (hC.2.2.2.2.1 _ hw) hd w
theorem sp_ldc2 {v : Int64} (hC : mm_Cx p R s m args c cells slots i) (hpc : mm_pc i k = pc) (hd : decode (mm_by i) pc = .ok (.ldc2_w n, 3)) (hn : mm_pc i (k + 1) = pc + 3) (hw : Cond.constantLong (mm_y i).cls n v ∈ mm_T0) (kk : mm_Ct p l e R s m args below meth c cells slots Q D ad cI cS A i (k + 1) ls (.long v :: st) h) : mm_Ct p l e R s m args below meth c cells slots Q D ad cI cS A i k ls st h := fun H locs lsA hl hP hS => by
  have w := kk H locs lsA hl hP hS
  rw [hn] at w
  rw [hpc]
  exact lv_ldc2 hC.1 hC.2.1 hC.2.2.2.1 (hC.2.2.2.2.1 _ hw) hd w
theorem sp_iadd {x y : Int32} (hC : mm_Cx p R s m args c cells slots i) (hpc : mm_pc i k = pc) (hd : decode (mm_by i) pc = .ok (.iadd, 1)) (hn : mm_pc i (k + 1) = pc + 1) (kk : mm_Ct p l e R s m args below meth c cells slots Q D ad cI cS A i (k + 1) ls (.int (x + y) :: st) h) : mm_Ct p l e R s m args below meth c cells slots Q D ad cI cS A i k ls (.int y :: .int x :: st) h := fun H locs lsA hl hP hS => by
  have w := kk H locs lsA hl hP hS
  rw [hn] at w
  rw [hpc]
  exact lv_iadd hC.1 hC.2.1 hd w
theorem sp_isub {x y : Int32} (hC : mm_Cx p R s m args c cells slots i) (hpc : mm_pc i k = pc) (hd : decode (mm_by i) pc = .ok (.isub, 1)) (hn : mm_pc i (k + 1) = pc + 1) (kk : mm_Ct p l e R s m args below meth c cells slots Q D ad cI cS A i (k + 1) ls (.int (x - y) :: st) h) : mm_Ct p l e R s m args below meth c cells slots Q D ad cI cS A i k ls (.int y :: .int x :: st) h := fun H locs lsA hl hP hS => by
  have w := kk H locs lsA hl hP hS
  rw [hn] at w
  rw [hpc]
  exact lv_isub hC.1 hC.2.1 hd w
theorem sp_imul {x y : Int32} (hC : mm_Cx p R s m args c cells slots i) (hpc : mm_pc i k = pc) (hd : decode (mm_by i) pc = .ok (.imul, 1)) (hn : mm_pc i (k + 1) = pc + 1) (kk : mm_Ct p l e R s m args below meth c cells slots Q D ad cI cS A i (k + 1) ls (.int (x * y) :: st) h) : mm_Ct p l e R s m args below meth c cells slots Q D ad cI cS A i k ls (.int y :: .int x :: st) h := fun H locs lsA hl hP hS => by
  have w := kk H locs lsA hl hP hS
  rw [hn] at w
  rw [hpc]
  exact lv_imul hC.1 hC.2.1 hd w
theorem sp_iand {x y : Int32} (hC : mm_Cx p R s m args c cells slots i) (hpc : mm_pc i k = pc) (hd : decode (mm_by i) pc = .ok (.iand, 1)) (hn : mm_pc i (k + 1) = pc + 1) (kk : mm_Ct p l e R s m args below meth c cells slots Q D ad cI cS A i (k + 1) ls (.int (x &&& y) :: st) h) : mm_Ct p l e R s m args below meth c cells slots Q D ad cI cS A i k ls (.int y :: .int x :: st) h := fun H locs lsA hl hP hS => by
  have w := kk H locs lsA hl hP hS
  rw [hn] at w
  rw [hpc]
  exact lv_iand hC.1 hC.2.1 hd w
theorem sp_ixor {x y : Int32} (hC : mm_Cx p R s m args c cells slots i) (hpc : mm_pc i k = pc) (hd : decode (mm_by i) pc = .ok (.ixor, 1)) (hn : mm_pc i (k + 1) = pc + 1) (kk : mm_Ct p l e R s m args below meth c cells slots Q D ad cI cS A i (k + 1) ls (.int (x ^^^ y) :: st) h) : mm_Ct p l e R s m args below meth c cells slots Q D ad cI cS A i k ls (.int y :: .int x :: st) h := fun H locs lsA hl hP hS => by
  have w := kk H locs lsA hl hP hS
  rw [hn] at w
  rw [hpc]
  exact lv_ixor hC.1 hC.2.1 hd w
theorem sp_ladd {x y : Int64} (hC : mm_Cx p R s m args c cells slots i) (hpc : mm_pc i k = pc) (hd : decode (mm_by i) pc = .ok (.ladd, 1)) (hn : mm_pc i (k + 1) = pc + 1) (kk : mm_Ct p l e R s m args below meth c cells slots Q D ad cI cS A i (k + 1) ls (.long (x + y) :: st) h) : mm_Ct p l e R s m args below meth c cells slots Q D ad cI cS A i k ls (.long y :: .long x :: st) h := fun H locs lsA hl hP hS => by
  have w := kk H locs lsA hl hP hS
  rw [hn] at w
  rw [hpc]
  exact lv_ladd hC.1 hC.2.1 hd w
theorem sp_lmul {x y : Int64} (hC : mm_Cx p R s m args c cells slots i) (hpc : mm_pc i k = pc) (hd : decode (mm_by i) pc = .ok (.lmul, 1)) (hn : mm_pc i (k + 1) = pc + 1) (kk : mm_Ct p l e R s m args below meth c cells slots Q D ad cI cS A i (k + 1) ls (.long (x * y) :: st) h) : mm_Ct p l e R s m args below meth c cells slots Q D ad cI cS A i k ls (.long y :: .long x :: st) h := fun H locs lsA hl hP hS => by
  have w := kk H locs lsA hl hP hS
  rw [hn] at w
  rw [hpc]
  exact lv_lmul hC.1 hC.2.1 hd w
theorem sp_idiv {x y : Int32} (hC : mm_Cx p R s m args c cells slots i) (hpc : mm_pc i k = pc) (hd : decode (mm_by i) pc = .ok (.idiv, 1)) (hn : mm_pc i (k + 1) = pc + 1) (hy : ¬ y = 0) (kk : mm_Ct p l e R s m args below meth c cells slots Q D ad cI cS A i (k + 1) ls (.int (x / y) :: st) h) : mm_Ct p l e R s m args below meth c cells slots Q D ad cI cS A i k ls (.int y :: .int x :: st) h := fun H locs lsA hl hP hS => by
  have w := kk H locs lsA hl hP hS
  rw [hn] at w
  rw [hpc]
  exact lv_idiv hC.1 hC.2.1 hd hy w
theorem sp_irem {x y : Int32} (hC : mm_Cx p R s m args c cells slots i) (hpc : mm_pc i k = pc) (hd : decode (mm_by i) pc = .ok (.irem, 1)) (hn : mm_pc i (k + 1) = pc + 1) (hy : ¬ y = 0) (kk : mm_Ct p l e R s m args below meth c cells slots Q D ad cI cS A i (k + 1) ls (.int (x - x / y * y) :: st) h) : mm_Ct p l e R s m args below meth c cells slots Q D ad cI cS A i k ls (.int y :: .int x :: st) h := fun H locs lsA hl hP hS => by
  have w := kk H locs lsA hl hP hS
  rw [hn] at w
  rw [hpc]
  exact lv_irem hC.1 hC.2.1 hd hy w
theorem sp_ineg {x : Int32} (hC : mm_Cx p R s m args c cells slots i) (hpc : mm_pc i k = pc) (hd : decode (mm_by i) pc = .ok (.ineg, 1)) (hn : mm_pc i (k + 1) = pc + 1) (kk : mm_Ct p l e R s m args below meth c cells slots Q D ad cI cS A i (k + 1) ls (.int (-x) :: st) h) : mm_Ct p l e R s m args below meth c cells slots Q D ad cI cS A i k ls (.int x :: st) h := fun H locs lsA hl hP hS => by
  have w := kk H locs lsA hl hP hS
  rw [hn] at w
  rw [hpc]
  exact lv_ineg hC.1 hC.2.1 hd w
theorem sp_i2l {x : Int32} (hC : mm_Cx p R s m args c cells slots i) (hpc : mm_pc i k = pc) (hd : decode (mm_by i) pc = .ok (.i2l, 1)) (hn : mm_pc i (k + 1) = pc + 1) (kk : mm_Ct p l e R s m args below meth c cells slots Q D ad cI cS A i (k + 1) ls (.long x.toInt64 :: st) h) : mm_Ct p l e R s m args below meth c cells slots Q D ad cI cS A i k ls (.int x :: st) h := fun H locs lsA hl hP hS => by
  have w := kk H locs lsA hl hP hS
  rw [hn] at w
  rw [hpc]
  exact lv_i2l hC.1 hC.2.1 hd rfl w
theorem sp_lcmp {x y : Int64} (hC : mm_Cx p R s m args c cells slots i) (hpc : mm_pc i k = pc) (hd : decode (mm_by i) pc = .ok (.lcmp, 1)) (hn : mm_pc i (k + 1) = pc + 1) (kk : mm_Ct p l e R s m args below meth c cells slots Q D ad cI cS A i (k + 1) ls (.int (lg_cmp x y) :: st) h) : mm_Ct p l e R s m args below meth c cells slots Q D ad cI cS A i k ls (.long y :: .long x :: st) h := fun H locs lsA hl hP hS => by
  have w := kk H locs lsA hl hP hS
  rw [hn] at w
  rw [hpc]
  exact W.lcmp hC.1 hC.2.1 hd w
theorem sp_dup {v : Value} (hC : mm_Cx p R s m args c cells slots i) (hpc : mm_pc i k = pc) (hd : decode (mm_by i) pc = .ok (.dup, 1)) (hn : mm_pc i (k + 1) = pc + 1) (hv : v.category = 1) (kk : mm_Ct p l e R s m args below meth c cells slots Q D ad cI cS A i (k + 1) ls (v :: v :: st) h) : mm_Ct p l e R s m args below meth c cells slots Q D ad cI cS A i k ls (v :: st) h := fun H locs lsA hl hP hS => by
  have w := kk H locs lsA hl hP hS
  rw [hn] at w
  rw [hpc]
  exact lv_dup hC.1 hC.2.1 hd (by rw [mm_mv_cat]; exact hv) w
theorem sp_dup2 {y : Int32} {x : Nat} (hC : mm_Cx p R s m args c cells slots i) (hpc : mm_pc i k = pc) (hd : decode (mm_by i) pc = .ok (.dup2, 1)) (hn : mm_pc i (k + 1) = pc + 1) (kk : mm_Ct p l e R s m args below meth c cells slots Q D ad cI cS A i (k + 1) ls (.int y :: .ref x :: .int y :: .ref x :: st) h) : mm_Ct p l e R s m args below meth c cells slots Q D ad cI cS A i k ls (.int y :: .ref x :: st) h := fun H locs lsA hl hP hS => by
  have w := kk H locs lsA hl hP hS
  rw [hn] at w
  rw [hpc]
  exact lv_dup2_11 hC.1 hC.2.1 hd rfl rfl w
theorem sp_pop {x : Int32} (hC : mm_Cx p R s m args c cells slots i) (hpc : mm_pc i k = pc) (hd : decode (mm_by i) pc = .ok (.pop, 1)) (hn : mm_pc i (k + 1) = pc + 1) (kk : mm_Ct p l e R s m args below meth c cells slots Q D ad cI cS A i (k + 1) ls st h) : mm_Ct p l e R s m args below meth c cells slots Q D ad cI cS A i k ls (.int x :: st) h := fun H locs lsA hl hP hS => by
  have w := kk H locs lsA hl hP hS
  rw [hn] at w
  rw [hpc]
  exact lv_pop hC.1 hC.2.1 hd rfl w
theorem sp_goto {t : Nat} {off : Int} (hC : mm_Cx p R s m args c cells slots i) (hpc : mm_pc i k = pc) (hd : decode (mm_by i) pc = .ok (.goto off, 3)) (ht : (pc : Int) + off = (mm_pc i t : Int)) (kk : mm_Ct p l e R s m args below meth c cells slots Q D ad cI cS A i t ls st h) : mm_Ct p l e R s m args below meth c cells slots Q D ad cI cS A i k ls st h := fun H locs lsA hl hP hS => by
  have w := kk H locs lsA hl hP hS
  rw [hpc]
  exact lv_goto hC.1 hC.2.1 hd ht w
theorem sp_if_icmp_eq {x y : Int32} {t : Nat} {off : Int} (hC : mm_Cx p R s m args c cells slots i) (hpc : mm_pc i k = pc) (hd : decode (mm_by i) pc = .ok (.if_icmp .eq off, 3)) (hn : mm_pc i (k + 1) = pc + 3) (ht : (pc : Int) + off = (mm_pc i t : Int)) (k1 : decide (x = y) = true → mm_Ct p l e R s m args below meth c cells slots Q D ad cI cS A i (t) ls st h) (k2 : decide (x = y) = false → mm_Ct p l e R s m args below meth c cells slots Q D ad cI cS A i (k + 1) ls st h) : mm_Ct p l e R s m args below meth c cells slots Q D ad cI cS A i k ls (.int y :: .int x :: st) h := fun H locs lsA hl hP hS => by
  rw [hpc]
  exact lv_icmp_eq hC.1 hC.2.1 hd ht (fun q => k1 (by simpa using q) H locs lsA hl hP hS) (fun q => by have w := k2 (by simpa using q) H locs lsA hl hP hS; rw [hn] at w; exact w)
theorem sp_if_icmp_ne {x y : Int32} {t : Nat} {off : Int} (hC : mm_Cx p R s m args c cells slots i) (hpc : mm_pc i k = pc) (hd : decode (mm_by i) pc = .ok (.if_icmp .ne off, 3)) (hn : mm_pc i (k + 1) = pc + 3) (ht : (pc : Int) + off = (mm_pc i t : Int)) (k1 : decide (x = y) = true → mm_Ct p l e R s m args below meth c cells slots Q D ad cI cS A i (k + 1) ls st h) (k2 : decide (x = y) = false → mm_Ct p l e R s m args below meth c cells slots Q D ad cI cS A i (t) ls st h) : mm_Ct p l e R s m args below meth c cells slots Q D ad cI cS A i k ls (.int y :: .int x :: st) h := fun H locs lsA hl hP hS => by
  rw [hpc]
  exact lv_icmp_ne hC.1 hC.2.1 hd ht (fun q => k2 (by simpa using q) H locs lsA hl hP hS) (fun q => by have w := k1 (by simpa using q) H locs lsA hl hP hS; rw [hn] at w; exact w)
theorem sp_if_icmp_lt {x y : Int32} {t : Nat} {off : Int} (hC : mm_Cx p R s m args c cells slots i) (hpc : mm_pc i k = pc) (hd : decode (mm_by i) pc = .ok (.if_icmp .lt off, 3)) (hn : mm_pc i (k + 1) = pc + 3) (ht : (pc : Int) + off = (mm_pc i t : Int)) (k1 : decide (x < y) = true → mm_Ct p l e R s m args below meth c cells slots Q D ad cI cS A i (t) ls st h) (k2 : decide (x < y) = false → mm_Ct p l e R s m args below meth c cells slots Q D ad cI cS A i (k + 1) ls st h) : mm_Ct p l e R s m args below meth c cells slots Q D ad cI cS A i k ls (.int y :: .int x :: st) h := fun H locs lsA hl hP hS => by
  rw [hpc]
  exact lv_icmp_lt hC.1 hC.2.1 hd ht (fun q => k1 (by simpa using q) H locs lsA hl hP hS) (fun q => by have w := k2 (by simpa using q) H locs lsA hl hP hS; rw [hn] at w; exact w)
theorem sp_if_icmp_ge {x y : Int32} {t : Nat} {off : Int} (hC : mm_Cx p R s m args c cells slots i) (hpc : mm_pc i k = pc) (hd : decode (mm_by i) pc = .ok (.if_icmp .ge off, 3)) (hn : mm_pc i (k + 1) = pc + 3) (ht : (pc : Int) + off = (mm_pc i t : Int)) (k1 : decide (y ≤ x) = true → mm_Ct p l e R s m args below meth c cells slots Q D ad cI cS A i (t) ls st h) (k2 : decide (y ≤ x) = false → mm_Ct p l e R s m args below meth c cells slots Q D ad cI cS A i (k + 1) ls st h) : mm_Ct p l e R s m args below meth c cells slots Q D ad cI cS A i k ls (.int y :: .int x :: st) h := fun H locs lsA hl hP hS => by
  rw [hpc]
  exact lv_icmp_ge hC.1 hC.2.1 hd ht (fun q => k1 (by simpa using q) H locs lsA hl hP hS) (fun q => by have w := k2 (by simpa using q) H locs lsA hl hP hS; rw [hn] at w; exact w)
theorem sp_if_icmp_gt {x y : Int32} {t : Nat} {off : Int} (hC : mm_Cx p R s m args c cells slots i) (hpc : mm_pc i k = pc) (hd : decode (mm_by i) pc = .ok (.if_icmp .gt off, 3)) (hn : mm_pc i (k + 1) = pc + 3) (ht : (pc : Int) + off = (mm_pc i t : Int)) (k1 : decide (y < x) = true → mm_Ct p l e R s m args below meth c cells slots Q D ad cI cS A i (t) ls st h) (k2 : decide (y < x) = false → mm_Ct p l e R s m args below meth c cells slots Q D ad cI cS A i (k + 1) ls st h) : mm_Ct p l e R s m args below meth c cells slots Q D ad cI cS A i k ls (.int y :: .int x :: st) h := fun H locs lsA hl hP hS => by
  rw [hpc]
  exact lv_icmp_gt hC.1 hC.2.1 hd ht (fun q => k1 (by simpa using q) H locs lsA hl hP hS) (fun q => by have w := k2 (by simpa using q) H locs lsA hl hP hS; rw [hn] at w; exact w)
theorem sp_if_icmp_le {x y : Int32} {t : Nat} {off : Int} (hC : mm_Cx p R s m args c cells slots i) (hpc : mm_pc i k = pc) (hd : decode (mm_by i) pc = .ok (.if_icmp .le off, 3)) (hn : mm_pc i (k + 1) = pc + 3) (ht : (pc : Int) + off = (mm_pc i t : Int)) (k1 : decide (x ≤ y) = true → mm_Ct p l e R s m args below meth c cells slots Q D ad cI cS A i (t) ls st h) (k2 : decide (x ≤ y) = false → mm_Ct p l e R s m args below meth c cells slots Q D ad cI cS A i (k + 1) ls st h) : mm_Ct p l e R s m args below meth c cells slots Q D ad cI cS A i k ls (.int y :: .int x :: st) h := fun H locs lsA hl hP hS => by
  rw [hpc]
  exact lv_icmp_le hC.1 hC.2.1 hd ht (fun q => k1 (by simpa using q) H locs lsA hl hP hS) (fun q => by have w := k2 (by simpa using q) H locs lsA hl hP hS; rw [hn] at w; exact w)
theorem sp_ifCond_eq {x : Int32} {t : Nat} {off : Int} (hC : mm_Cx p R s m args c cells slots i) (hpc : mm_pc i k = pc) (hd : decode (mm_by i) pc = .ok (.ifCond .eq off, 3)) (hn : mm_pc i (k + 1) = pc + 3) (ht : (pc : Int) + off = (mm_pc i t : Int)) (k1 : decide (x = 0) = true → mm_Ct p l e R s m args below meth c cells slots Q D ad cI cS A i (t) ls st h) (k2 : decide (x = 0) = false → mm_Ct p l e R s m args below meth c cells slots Q D ad cI cS A i (k + 1) ls st h) : mm_Ct p l e R s m args below meth c cells slots Q D ad cI cS A i k ls (.int x :: st) h := fun H locs lsA hl hP hS => by
  rw [hpc]
  exact lv_if_eq hC.1 hC.2.1 hd ht (fun q => k1 (by simpa using q) H locs lsA hl hP hS) (fun q => by have w := k2 (by simpa using q) H locs lsA hl hP hS; rw [hn] at w; exact w)
theorem sp_ifCond_ne {x : Int32} {t : Nat} {off : Int} (hC : mm_Cx p R s m args c cells slots i) (hpc : mm_pc i k = pc) (hd : decode (mm_by i) pc = .ok (.ifCond .ne off, 3)) (hn : mm_pc i (k + 1) = pc + 3) (ht : (pc : Int) + off = (mm_pc i t : Int)) (k1 : decide (x = 0) = true → mm_Ct p l e R s m args below meth c cells slots Q D ad cI cS A i (k + 1) ls st h) (k2 : decide (x = 0) = false → mm_Ct p l e R s m args below meth c cells slots Q D ad cI cS A i (t) ls st h) : mm_Ct p l e R s m args below meth c cells slots Q D ad cI cS A i k ls (.int x :: st) h := fun H locs lsA hl hP hS => by
  rw [hpc]
  exact lv_if_ne hC.1 hC.2.1 hd ht (fun q => k2 (by simpa using q) H locs lsA hl hP hS) (fun q => by have w := k1 (by simpa using q) H locs lsA hl hP hS; rw [hn] at w; exact w)
theorem sp_ifCond_lt {x : Int32} {t : Nat} {off : Int} (hC : mm_Cx p R s m args c cells slots i) (hpc : mm_pc i k = pc) (hd : decode (mm_by i) pc = .ok (.ifCond .lt off, 3)) (hn : mm_pc i (k + 1) = pc + 3) (ht : (pc : Int) + off = (mm_pc i t : Int)) (k1 : decide (x < 0) = true → mm_Ct p l e R s m args below meth c cells slots Q D ad cI cS A i (t) ls st h) (k2 : decide (x < 0) = false → mm_Ct p l e R s m args below meth c cells slots Q D ad cI cS A i (k + 1) ls st h) : mm_Ct p l e R s m args below meth c cells slots Q D ad cI cS A i k ls (.int x :: st) h := fun H locs lsA hl hP hS => by
  rw [hpc]
  exact lv_if_lt hC.1 hC.2.1 hd ht (fun q => k1 (by simpa using q) H locs lsA hl hP hS) (fun q => by have w := k2 (by simpa using q) H locs lsA hl hP hS; rw [hn] at w; exact w)
theorem sp_ifCond_ge {x : Int32} {t : Nat} {off : Int} (hC : mm_Cx p R s m args c cells slots i) (hpc : mm_pc i k = pc) (hd : decode (mm_by i) pc = .ok (.ifCond .ge off, 3)) (hn : mm_pc i (k + 1) = pc + 3) (ht : (pc : Int) + off = (mm_pc i t : Int)) (k1 : decide (0 ≤ x) = true → mm_Ct p l e R s m args below meth c cells slots Q D ad cI cS A i (t) ls st h) (k2 : decide (0 ≤ x) = false → mm_Ct p l e R s m args below meth c cells slots Q D ad cI cS A i (k + 1) ls st h) : mm_Ct p l e R s m args below meth c cells slots Q D ad cI cS A i k ls (.int x :: st) h := fun H locs lsA hl hP hS => by
  rw [hpc]
  exact lv_if_ge hC.1 hC.2.1 hd ht (fun q => k1 (by simpa using q) H locs lsA hl hP hS) (fun q => by have w := k2 (by simpa using q) H locs lsA hl hP hS; rw [hn] at w; exact w)
theorem sp_ifCond_gt {x : Int32} {t : Nat} {off : Int} (hC : mm_Cx p R s m args c cells slots i) (hpc : mm_pc i k = pc) (hd : decode (mm_by i) pc = .ok (.ifCond .gt off, 3)) (hn : mm_pc i (k + 1) = pc + 3) (ht : (pc : Int) + off = (mm_pc i t : Int)) (k1 : decide (0 < x) = true → mm_Ct p l e R s m args below meth c cells slots Q D ad cI cS A i (t) ls st h) (k2 : decide (0 < x) = false → mm_Ct p l e R s m args below meth c cells slots Q D ad cI cS A i (k + 1) ls st h) : mm_Ct p l e R s m args below meth c cells slots Q D ad cI cS A i k ls (.int x :: st) h := fun H locs lsA hl hP hS => by
  rw [hpc]
  exact lv_if_gt hC.1 hC.2.1 hd ht (fun q => k1 (by simpa using q) H locs lsA hl hP hS) (fun q => by have w := k2 (by simpa using q) H locs lsA hl hP hS; rw [hn] at w; exact w)
theorem sp_ifCond_le {x : Int32} {t : Nat} {off : Int} (hC : mm_Cx p R s m args c cells slots i) (hpc : mm_pc i k = pc) (hd : decode (mm_by i) pc = .ok (.ifCond .le off, 3)) (hn : mm_pc i (k + 1) = pc + 3) (ht : (pc : Int) + off = (mm_pc i t : Int)) (k1 : decide (x ≤ 0) = true → mm_Ct p l e R s m args below meth c cells slots Q D ad cI cS A i (t) ls st h) (k2 : decide (x ≤ 0) = false → mm_Ct p l e R s m args below meth c cells slots Q D ad cI cS A i (k + 1) ls st h) : mm_Ct p l e R s m args below meth c cells slots Q D ad cI cS A i k ls (.int x :: st) h := fun H locs lsA hl hP hS => by
  rw [hpc]
  exact lv_if_le hC.1 hC.2.1 hd ht (fun q => k1 (by simpa using q) H locs lsA hl hP hS) (fun q => by have w := k2 (by simpa using q) H locs lsA hl hP hS; rw [hn] at w; exact w)
theorem sp_getstatic {t : Nat} {nm : String} (hC : mm_Cx p R s m args c cells slots i) (hZ : va_Z "CommaChoir$Ratios" nm "[I" (.ref (ad t)) A s s.heap) (hpc : mm_pc i k = pc) (hd : decode (mm_by i) pc = .ok (.getstatic n, 3)) (hn : mm_pc i (k + 1) = pc + 3) (hw : Cond.fieldLink (mm_y i).cls n "CommaChoir$Ratios" nm "[I" ∈ mm_T0) (kk : mm_Ct p l e R s m args below meth c cells slots Q D ad cI cS A i (k + 1) ls (.ref t :: st) h) : mm_Ct p l e R s m args below meth c cells slots Q D ad cI cS A i k ls st h := fun H locs lsA hl hP hS => by
  have w := kk H locs lsA hl hP hS
  rw [hn] at w
  rw [hpc]
  exact va_gets hC.1 hC.2.1 hZ hS hC.2.2.2.1 (hC.2.2.2.2.1 _ hw) (fun _ h9 => h9) hd w
theorem sp_get {a b f d x : Nat} (hC : mm_Cx p R s m args c cells slots i) (hE : mm_Env D ad cI cS A sc s) (hpc : mm_pc i k = pc) (hd : decode (mm_by i) pc = .ok (.getfield n, 3)) (hn : mm_pc i (k + 1) = pc + 3) (hf : mm_fld i n a b f d = true) (hx : mm_kd x = 10 + d) (kk : mm_Ct p l e R s m args below meth c cells slots Q D ad cI cS A i (k + 1) ls ((if f = 0 then Value.int (h.1 x a) else if f = 1 then .ref (mm_rf x a) else if f = 2 then .ref (h.2.1 5) else .long h.2.2) :: st) h) : mm_Ct p l e R s m args below meth c cells slots Q D ad cI cS A i k ls (.ref x :: st) h := fun H locs lsA hl hP hS => by
  have w := kk H locs lsA hl hP hS
  rw [hn] at w
  rw [hpc]
  unfold mm_fld at hf
  split at hf
  · next C T N hcl =>
    simp only [Bool.and_eq_true] at hf
    obtain ⟨⟨ha, hft⟩, hlk⟩ := hf
    have ha : a < N := by simpa using ha
    have hft := Nat.eq_of_beq_eq_true hft
    obtain ⟨hd6, hN, hin, -⟩ := mm_cls hcl
    have h63 : x < 63 := ((mm_kd_lt x (mm_kd_in hx (by omega))).2.2.2.2.2 (by omega)).1
    have he := mm_ws_at (ad := ad) (cI := cI) (cS := cS) (h := h) h63
    rw [mm_cell_o hx] at he
    have hv := mm_fs_at (ad := ad) (h := h) (k := x) (ci := d) (j := a) (by rw [← hN]; exact ha)
    refine va_get (D := D) (ci := d) (v := mm_fv ad h x d a) (C := C) (T := T) (N := N) hC.1 hC.2.1 hC.2.2.2.2.1 hin hC.2.2.2.1 hE.1 hP x he hcl a ha (hC.2.2.2.2.1 _ (mm_has_in hlk)) (fun _ h9 => h9) hv hd ?_
    have e : mm_fv ad h x d a = mm_mv ad (if f = 0 then Value.int (h.1 x a) else if f = 1 then .ref (mm_rf x a) else if f = 2 then .ref (h.2.1 5) else .long h.2.2) := by
      unfold mm_fv
      rw [hft]
      split
      · rfl
      · split
        · rfl
        · split <;> rfl
    rw [e]
    exact w
  · cases hf
theorem sp_put {a b f d x : Nat} {v : Value} {h' : mm_H} (hC : mm_Cx p R s m args c cells slots i) (hE : mm_Env D ad cI cS A sc s) (hinj : ∀ i j, i < 63 → j < 63 → ad i = ad j → i = j) (hA : ∀ k, k < 63 → A (ad k)) (hpc : mm_pc i k = pc) (hd : decode (mm_by i) pc = .ok (.putfield n, 3)) (hn : mm_pc i (k + 1) = pc + 3) (hfi : mm_fin a d = true) (hf : mm_fld i n a b f d = true) (hx : mm_kd x = 10 + d)
    (hh : (f = 0 ∧ ∃ z, v = .int z ∧ h' = mm_si h x a z) ∨ (f = 2 ∧ ∃ z, v = .ref z ∧ h' = mm_sr h 5 z) ∨ (f = 3 ∧ ∃ z, v = .long z ∧ h' = mm_sl h z)) (kk : mm_Ct p l e R s m args below meth c cells slots Q D ad cI cS A i (k + 1) ls st h') : mm_Ct p l e R s m args below meth c cells slots Q D ad cI cS A i k ls (v :: .ref x :: st) h := fun H locs lsA hl hP hS => by
  rw [hpc]
  unfold mm_fld at hf
  split at hf
  · next C T N hcl =>
    simp only [Bool.and_eq_true] at hf
    obtain ⟨⟨ha, hft⟩, hlk⟩ := hf
    have ha : a < N := by simpa using ha
    have hft := Nat.eq_of_beq_eq_true hft
    obtain ⟨hd6, hN, hin, ty0, hty, hnm⟩ := mm_cls hcl
    have h63 : x < 63 := ((mm_kd_lt x (mm_kd_in hx (by omega))).2.2.2.2.2 (by omega)).1
    have he := mm_ws_at (ad := ad) (cI := cI) (cS := cS) (h := h) h63
    rw [mm_cell_o hx] at he
    have hal : a < (mm_fs ad h x d).length := by rw [mm_fs_len, ← hN]; exact ha
    have h19 := mm_nf_in d hd6
    have hty2 := mm_tyA (a := a) hcl hd6 (by omega)
    have hfin : (T a).2.2.2 = false := by
      unfold mm_fin at hfi
      rw [hcl] at hfi
      simpa using hfi
    have key : ∀ (ty : FieldType), parseFieldDescriptor (T a).2.2.1 = some ty → narrow ty (mm_mv ad v) = mm_mv ad v → fits ty (mm_mv ad v) = true → (mm_ws ad cI cS h).set x (ad x, .inr (d, (mm_fs ad h x d).set a (mm_mv ad v))) = mm_ws ad cI cS h' → W p l e R s m args below meth c H locs cells slots Q (F0 m pc lsA ((v :: .ref x :: st).map (mm_mv ad))) := by
      intro ty t1 t2 t3 t4
      refine va_put (D := D) (ci := d) (v := mm_mv ad v) (ty := ty) (C := C) (T := T) (N := N) hC.1 hC.2.1 hC.2.2.2.2.1 hin ty0 hty hnm hC.2.2.2.1 hE.1 hP (mm_D hinj hA) hS x he hcl a ha (hC.2.2.2.2.1 _ (mm_has_in hlk)) (fun _ h9 => h9) hfin t1 t2 t3 hal hd (fun H1 locs1 hP1 hD1 hS1 => ?_)
      rw [t4] at hP1
      have w := kk H1 locs1 lsA hl hP1 hS1
      rw [hn] at w
      exact w
    rcases hh with ⟨rfl, z, rfl, rfl⟩ | ⟨rfl, z, rfl, rfl⟩ | ⟨rfl, z, rfl, rfl⟩
    · exact key .int (hty2.1 hft) rfl rfl (mm_set_f hx h63 hft)
    · exact key (.object RX3) (hty2.2.1 hft) rfl rfl (mm_set_r hx h63 hd6 (by omega) hft)
    · exact key .long (hty2.2.2 hft) rfl rfl (mm_set_l hx h63 hd6 (by omega) hft)
  · cases hf
theorem mm_len_w {x : Nat} (hx : x < 63) : mm_len sc x = mm_lel.getD x 0 := by
  unfold mm_len
  have e : Nat.beq x 65 = false := by
    cases q : Nat.beq x 65
    · rfl
    · have := Nat.eq_of_beq_eq_true q; omega
  rw [e]
  rfl
theorem sp_iald {x : Nat} {j : Int32} (hC : mm_Cx p R s m args c cells slots i) (hE : mm_Env D ad cI cS A sc s) (hpc : mm_pc i k = pc) (hd : decode (mm_by i) pc = .ok (.iaload, 1)) (hn : mm_pc i (k + 1) = pc + 1) (hx : mm_kd x = 0 ∨ mm_kd x = 2) (hj : vp_in j (mm_len sc x)) (kk : mm_Ct p l e R s m args below meth c cells slots Q D ad cI cS A i (k + 1) ls (.int (mm_arr sc h x j.toNatClampNeg) :: st) h) : mm_Ct p l e R s m args below meth c cells slots Q D ad cI cS A i k ls (.int j :: .ref x :: st) h := fun H locs lsA hl hP hS => by
  have w := kk H locs lsA hl hP hS
  rw [hn] at w
  rw [hpc]
  rcases hx with hx | hx
  · have h63 : x < 63 := (mm_kd_lt x (mm_kd_in hx (by omega))).1 hx
    have he := mm_ws_at (ad := ad) (cI := cI) (cS := cS) (h := h) h63
    rw [mm_cell_0 hx] at he
    rw [mm_len_w h63] at hj
    have e : mm_arr sc h x j.toNatClampNeg = h.1 x j.toNatClampNeg := by
      unfold mm_arr
      rw [Nat.ble_eq_true_of_le (by omega)]
      rfl
    rw [e] at w
    exact va_iald hC.1 hC.2.1 hE.1 hP x 0 he rfl hj hd w
  · have hk := (mm_kd_lt x (mm_kd_in hx (by omega))).2.2.1 hx
    have e : mm_arr sc h x j.toNatClampNeg = mm_ro sc x j.toNatClampNeg := by
      unfold mm_arr
      have : Nat.ble x 62 = false := by
        cases q : Nat.ble x 62
        · rfl
        · have := Nat.le_of_ble_eq_true q; omega
      rw [this]
      rfl
    rw [e] at w
    exact va_ti hC.1 hC.2.1 (hE.2.2.2.1 x (by omega) (by omega)) hS hj rfl hd w
theorem sp_alen {x : Nat} (hC : mm_Cx p R s m args c cells slots i) (hE : mm_Env D ad cI cS A sc s) (hpc : mm_pc i k = pc) (hd : decode (mm_by i) pc = .ok (.arraylength, 1)) (hn : mm_pc i (k + 1) = pc + 1) (hx : mm_kd x = 0 ∨ mm_kd x = 2) (kk : mm_Ct p l e R s m args below meth c cells slots Q D ad cI cS A i (k + 1) ls (.int (nI (mm_len sc x)) :: st) h) : mm_Ct p l e R s m args below meth c cells slots Q D ad cI cS A i k ls (.ref x :: st) h := fun H locs lsA hl hP hS => by
  have w := kk H locs lsA hl hP hS
  rw [hn] at w
  rw [hpc]
  rcases hx with hx | hx
  · have h63 : x < 63 := (mm_kd_lt x (mm_kd_in hx (by omega))).1 hx
    have he := mm_ws_at (ad := ad) (cI := cI) (cS := cS) (h := h) h63
    rw [mm_cell_0 hx] at he
    rw [mm_len_w h63] at w
    exact va_alen hC.1 hC.2.1 hE.1 hP x 0 he rfl rfl hd w
  · have hk := (mm_kd_lt x (mm_kd_in hx (by omega))).2.2.1 hx
    exact va_tlen hC.1 hC.2.1 (hE.2.2.2.1 x (by omega) (by omega)) hS rfl hd w
theorem sp_iast {x : Nat} {j v : Int32} (hC : mm_Cx p R s m args c cells slots i) (hE : mm_Env D ad cI cS A sc s) (hinj : ∀ i j, i < 63 → j < 63 → ad i = ad j → i = j) (hA : ∀ k, k < 63 → A (ad k)) (hpc : mm_pc i k = pc) (hd : decode (mm_by i) pc = .ok (.iastore, 1)) (hn : mm_pc i (k + 1) = pc + 1) (hx : mm_kd x = 0) (hj : vp_in j (mm_len sc x)) (kk : mm_Ct p l e R s m args below meth c cells slots Q D ad cI cS A i (k + 1) ls st (mm_si h x j.toNatClampNeg v)) : mm_Ct p l e R s m args below meth c cells slots Q D ad cI cS A i k ls (.int v :: .int j :: .ref x :: st) h := fun H locs lsA hl hP hS => by
  rw [hpc]
  have h63 : x < 63 := (mm_kd_lt x (mm_kd_in hx (by omega))).1 hx
  have he := mm_ws_at (ad := ad) (cI := cI) (cS := cS) (h := h) h63
  rw [mm_cell_0 hx] at he
  rw [mm_len_w h63] at hj
  refine va_iast hC.1 hC.2.1 hE.1 hP (mm_D hinj hA) hS x 0 he rfl hj hd (fun H1 locs1 hP1 hD1 hS1 => ?_)
  rw [mm_set_i hx h63] at hP1
  have w := kk H1 locs1 lsA hl hP1 hS1
  rw [hn] at w
  exact w
theorem sp_aald {x : Nat} {j : Int32} (hC : mm_Cx p R s m args c cells slots i) (hE : mm_Env D ad cI cS A sc s) (hpc : mm_pc i k = pc) (hd : decode (mm_by i) pc = .ok (.aaload, 1)) (hn : mm_pc i (k + 1) = pc + 1) (hx : mm_kd x = 1) (hj : vp_in j 5) (kk : mm_Ct p l e R s m args below meth c cells slots Q D ad cI cS A i (k + 1) ls (.ref (h.2.1 j.toNatClampNeg) :: st) h) : mm_Ct p l e R s m args below meth c cells slots Q D ad cI cS A i k ls (.int j :: .ref x :: st) h := fun H locs lsA hl hP hS => by
  have w := kk H locs lsA hl hP hS
  rw [hn] at w
  rw [hpc]
  have h2 : x = 2 := (mm_kd_lt x (mm_kd_in hx (by omega))).2.1 hx
  have he := mm_ws_at (ad := ad) (cI := cI) (cS := cS) (h := h) (k := x) (by omega)
  rw [mm_cell_1 hx] at he
  refine va_aldq hC.1 hC.2.1 hE.1 hP x 1 he rfl hj hd ?_
  have hlt : j.toNatClampNeg < 5 := Nat.not_le.mp fun q => hj (Or.inr q)
  rw [if_pos hlt]
  exact w
theorem sp_aast {x v : Nat} {j : Int32} (hC : mm_Cx p R s m args c cells slots i) (hE : mm_Env D ad cI cS A sc s) (hinj : ∀ i j, i < 63 → j < 63 → ad i = ad j → i = j) (hA : ∀ k, k < 63 → A (ad k)) (hpc : mm_pc i k = pc) (hd : decode (mm_by i) pc = .ok (.aastore, 1)) (hn : mm_pc i (k + 1) = pc + 1) (hx : mm_kd x = 1) (hj : vp_in j 5) (hv : mm_kd v = 12) (kk : mm_Ct p l e R s m args below meth c cells slots Q D ad cI cS A i (k + 1) ls st (mm_sr h j.toNatClampNeg v)) : mm_Ct p l e R s m args below meth c cells slots Q D ad cI cS A i k ls (.ref v :: .int j :: .ref x :: st) h := fun H locs lsA hl hP hS => by
  rw [hpc]
  have h2 : x = 2 := (mm_kd_lt x (mm_kd_in hx (by omega))).2.1 hx
  have he := mm_ws_at (ad := ad) (cI := cI) (cS := cS) (h := h) (k := x) (by omega)
  rw [mm_cell_1 hx] at he
  have hv63 : v < 63 := ((mm_kd_lt v (mm_kd_in hv (by omega))).2.2.2.2.2 (by omega)).1
  have hve := mm_ws_at (ad := ad) (cI := cI) (cS := cS) (h := h) hv63
  rw [mm_cell_o (d := 2) hv] at hve
  have hlt : j.toNatClampNeg < 5 := Nat.not_le.mp fun q => hj (Or.inr q)
  refine va_astq hC.1 hC.2.1 hE.1 hP (mm_D hinj hA) hS x 1 v 2 (r := (RX3, TX3, 6)) he rfl hve rfl hj hd (fun H1 locs1 hP1 hD1 hS1 => ?_)
  rw [mm_set_q hx (by omega) hlt] at hP1
  have w := kk H1 locs1 lsA hl hP1 hS1
  rw [hn] at w
  exact w
theorem mm_cat_sum (ad : Nat → Nat) (st : List Value) : ((st.map (mm_mv ad)).map fun v => v.category).sum = mm_cat st := by
  induction st with
  | nil => rfl
  | cons v r ih => simp only [List.map_cons, List.sum_cons, mm_cat, mm_mv_cat, ih]
theorem sp_cpy {x y : Nat} {z dp sp : Int32} (hC : mm_Cx p R s m args c cells slots i) (hE : mm_Env D ad cI cS A sc s) (hinj : ∀ i j, i < 63 → j < 63 → ad i = ad j → i = j) (hA : ∀ k, k < 63 → A (ad k)) (hpc : mm_pc i k = pc) (hd : decode (mm_by i) pc = .ok (.invokestatic n, 3)) (hn : mm_pc i (k + 1) = pc + 3) (hw : Cond.methodLink (mm_y i).cls n arraycopyName ∈ mm_T0) (hna : Cond.native arraycopyName ∈ mm_T0) (hst : Cond.static arraycopyName ∈ mm_T0) (hini : Cond.initialized "java/lang/System" ∈ mm_T0) (hr1 : 1 ≤ (mm_rm i).1) (hr2 : 40 ≤ (mm_rm i).2)
    (hx : mm_kd x = 0) (hy : mm_kd y = 0) (hc : mm_cat st ≤ 8) (h1 : ¬ sp < 0) (h2 : ¬ dp < 0) (h3 : ¬ z < 0) (h4 : sp.toNatClampNeg + z.toNatClampNeg ≤ mm_len sc x) (h5 : dp.toNatClampNeg + z.toNatClampNeg ≤ mm_len sc y) (kk : mm_Ct p l e R s m args below meth c cells slots Q D ad cI cS A i (k + 1) ls st (mm_sa h y (va_cpy (h.1 x) (h.1 y) sp.toNatClampNeg dp.toNatClampNeg z.toNatClampNeg))) : mm_Ct p l e R s m args below meth c cells slots Q D ad cI cS A i k ls (.int z :: .int dp :: .ref y :: .int sp :: .ref x :: st) h := fun H locs lsA hl hP hS => by
  rw [hpc]
  have x63 : x < 63 := (mm_kd_lt x (mm_kd_in hx (by omega))).1 hx
  have y63 : y < 63 := (mm_kd_lt y (mm_kd_in hy (by omega))).1 hy
  have hex := mm_ws_at (ad := ad) (cI := cI) (cS := cS) (h := h) x63
  rw [mm_cell_0 hx] at hex
  have hey := mm_ws_at (ad := ad) (cI := cI) (cS := cS) (h := h) y63
  rw [mm_cell_0 hy] at hey
  rw [mm_len_w x63] at h4
  rw [mm_len_w y63] at h5
  have hrl := hC.2.2.2.2.2.1.2
  have hrf := hC.2.2.2.2.2.1.1
  have hnf : nativeFrameWords "java/lang/System" "arraycopy" 5 = 7 := by decide +kernel
  refine va_copyi (ty := .int) hC.1 hC.2.1 (hC.2.2.1.trans hl.1.symm) hC.2.2.2.1 (hC.2.2.2.2.1 _ hw) (hC.2.2.2.2.1 _ hna) (hC.2.2.2.2.1 _ hst) (hC.2.2.2.2.1 _ hini) hE.1 hP (mm_D hinj hA) hS x y 0 0 hex hey rfl rfl rfl h1 h2 h3 h4 h5 (fun _ _ => rfl) (by omega) (by rw [mm_cat_sum]; omega) hd (fun H1 locs1 hP1 hD1 hS1 => ?_)
  rw [mm_set_a hy y63] at hP1
  have w := kk H1 locs1 lsA hl hP1 hS1
  rw [hn] at w
  exact w
theorem mm_after {j : Nat} {u : mm_R} {H : Heap} {locs : List Loc} {lsA : Array Slot} {st0 rest : List Value} {a : Array Value} (hr : va_Run p l e R s m args below meth c H locs cells slots 0 0 (F0 m pc lsA st0) rest (mm_Post D ad cI cS A j u a) A) (hS : va_S A s.heap H locs)
    (kk : ∀ (H1 : Heap) (locs1 : List Loc), va_P D vwCl (mm_ws ad cI cS u.2) H1 → va_S A s.heap H1 locs1 → W p l e R s m args below meth c H1 locs1 cells slots Q (F0 m (pc + 3) lsA (((mm_rq (mm_rt j) u).map (mm_mv ad)).toList ++ rest))) : W p l e R s m args below meth c H locs cells slots Q (F0 m pc lsA st0) := by
  intro T hT X
  obtain ⟨v, st₀, t, T', L, h0, X', hL, e1, e2, ⟨hv, hp, hz, hk⟩, stp⟩ := hr T hT X
  have hv : v = (mm_rq (mm_rt j) u).map (mm_mv ad) := by
    cases hv
    rfl
  subst hv
  rw [h0] at hz hk
  obtain ⟨t2, a1, b1⟩ := kk T'.heap (locs ++ L) (by rw [e1]; exact hp) ⟨Nat.le_trans hS.1 (by rw [e1]; exact hz), fun q h1 h2 => by rw [e1, hk q (Nat.lt_of_lt_of_le h1 hS.1) h2]; exact hS.2.1 q h1 h2, fun q hq => (List.mem_append.mp hq).elim (hS.2.2 q) (hL q)⟩ T' rfl X'
  exact ⟨t2, stp t2 a1, b1⟩
theorem mm_rv_map (ad : Nat → Nat) (rt : Nat) (u : mm_R) (rest : List Value) : (mm_rv rt u ++ rest).map (mm_mv ad) = ((mm_rq rt u).map (mm_mv ad)).toList ++ rest.map (mm_mv ad) := by
  rw [mm_rv_eq, List.map_append]
  cases mm_rq rt u <;> rfl
theorem sp_inv1 {idx j x d N : Nat} {C : String} {T : u_T} {As rest : List Value} {u : mm_R} (hC : mm_Cx p R s m args c cells slots i) (hE : mm_Env D ad cI cS A sc s) (hpc : mm_pc i k = pc) (hd : decode (mm_by i) pc = .ok (.invokevirtual idx, 3)) (hn : mm_pc i (k + 1) = pc + 3) (hM : Met l (mm_y j) (mm_wsJ j) (mm_rmR j) (mm_Pre D ad cI cS A sc (.ref x :: As) h) (mm_Post D ad cI cS A j u) 0 0 A)
    (hcw : Cond.code (mm_y j) (mm_by j) (mm_mx j) (mm_re (mm_rt j)) ∈ mm_T0) (hlk : Cond.methodLink (mm_y i).cls idx (mm_y j) ∈ mm_T0) (hins : Cond.instanceMethod (mm_y j) ∈ mm_T0) (hsel : Cond.selects C (mm_y j) (mm_y j) ∈ mm_T0) (hini : Cond.initialized (mm_y j).cls ∈ mm_T0) (hcl : vwCl[d]? = some (C, T, N)) (hCe : C = (mm_y j).cls) (hkx : mm_kd x = 10 + d)
    (hy : (mm_y j).cls ≠ "java/lang/invoke/MethodHandle" ∧ (mm_y j).cls ≠ "java/lang/invoke/VarHandle") (hpar : (parseMethodDescriptor (mm_y j).desc).map (fun d => d.parameters.length) = some As.length) (hfr : (mm_rm j).1 + 1 ≤ (mm_rm i).1) (hlo : 8 + (mm_mx j + 11) + (mm_rm j).2 ≤ (mm_rm i).2) (hcat : mm_cat rest ≤ 8) (kk : mm_Ct p l e R s m args below meth c cells slots Q D ad cI cS A i (k + 1) ls (mm_rv (mm_rt j) u ++ rest) u.2) : mm_Ct p l e R s m args below meth c cells slots Q D ad cI cS A i k ls (As.reverse ++ .ref x :: rest) h := fun H locs lsA hl hP hS => by
  rw [hpc]
  subst hCe
  have hrl := hC.2.2.2.2.2.1.2
  have hrf := hC.2.2.2.2.2.1.1
  have h63 : x < 63 := ((mm_kd_lt x (mm_kd_in hkx (by have := (mm_cls hcl).1; omega))).2.2.2.2.2 (by omega)).1
  have he := mm_ws_at (ad := ad) (cI := cI) (cS := cS) (h := h) h63
  rw [mm_cell_o hkx] at he
  have hG : GoodIn mm_T0 (wsV (mm_y i).cls idx (mm_y j).cls (mm_y j) (mm_wsJ j)) := mm_goodT (fun w hw => by
    unfold wsV at hw
    rcases List.mem_append.mp hw with q | q
    · simp only [List.mem_cons, List.not_mem_nil, or_false] at q
      rcases q with rfl | rfl | rfl | rfl
      · exact hlk
      · exact hins
      · exact hsel
      · exact hini
    · rcases List.mem_cons.mp q with rfl | q
      · exact hcw
      · exact q)
  have est : (As.reverse ++ .ref x :: rest).map (mm_mv ad) = (As.map (mm_mv ad)).reverse ++ .ref (ad x) :: rest.map (mm_mv ad) := by simp [mm_mv]
  rw [est]
  have CW := cwV (R := R) (s := s) (args := args) (bytes := mm_by j) (maxL := mm_mx j) (ret := mm_re (mm_rt j)) (rm := mm_rmR j) (mc := 0) (ms := 0) As.length hC.2.2.2.2.1 hG rfl rfl rfl ⟨rfl, hy.1, hy.2, hpar⟩ ⟨by show (mm_rm j).1 + 1 ≤ _; omega, by show 8 + (mm_mx j + 11) + (mm_rm j).2 ≤ _; omega⟩
  have RN := va_runV (p := p) (l := l) (e := e) (R := R) (s := s) (m := m) (args := args) (below := below) (meth := meth) (c := c) (H := H) (locs := locs) (cells := cells) (slots := slots) (g := F0 m pc lsA ((As.map (mm_mv ad)).reverse ++ .ref (ad x) :: rest.map (mm_mv ad))) (As := As.map (mm_mv ad)) (rest := rest.map (mm_mv ad)) (b := ad x) ⟨hC.1, hC.2.1, hC.2.2.1, hC.2.2.2.1, hC.2.2.2.2.1⟩ hM CW ⟨mm_Pre_blind D ad cI cS A sc _ h, va_recv hE.1 hP hcl he, fun U hU hW => ⟨rfl, by rw [hU]; exact hP, hE.to hS hU hW⟩⟩ rfl (by simp) hl.1 rfl (lv_room (by rw [mm_cat_sum]; exact hcat)) hd ⟨hC.2.2.2.2.2.2.1, hC.2.2.2.2.2.2.2⟩
  refine mm_after RN hS (fun H1 locs1 hP1 hS1 => ?_)
  have w := kk H1 locs1 lsA hl hP1 hS1
  rw [hn, mm_rv_map] at w
  exact w
theorem sp_inv0 {idx j : Nat} {As rest : List Value} {u : mm_R} (hC : mm_Cx p R s m args c cells slots i) (hE : mm_Env D ad cI cS A sc s) (hpc : mm_pc i k = pc) (hd : decode (mm_by i) pc = .ok (.invokestatic idx, 3)) (hn : mm_pc i (k + 1) = pc + 3) (hM : Met l (mm_y j) (mm_wsJ j) (mm_rmR j) (mm_Pre D ad cI cS A sc As h) (mm_Post D ad cI cS A j u) 0 0 A)
    (hcw : Cond.code (mm_y j) (mm_by j) (mm_mx j) (mm_re (mm_rt j)) ∈ mm_T0) (hlk : Cond.methodLink (mm_y i).cls idx (mm_y j) ∈ mm_T0 ∨ ((mm_y i).cls = "CommaChoir$Score" ∧ idx = 64 ∧ mm_y j = ⟨"CommaChoir", "isWithin", "(II)Z"⟩)) (hst : Cond.static (mm_y j) ∈ mm_T0) (hini : Cond.initialized (mm_y j).cls ∈ mm_T0)
    (hy : (mm_y j).cls ≠ "java/lang/invoke/MethodHandle" ∧ (mm_y j).cls ≠ "java/lang/invoke/VarHandle") (hpar : (parseMethodDescriptor (mm_y j).desc).map (fun d => d.parameters.length) = some As.length) (hfr : (mm_rm j).1 + 1 ≤ (mm_rm i).1) (hlo : 8 + (mm_mx j + 11) + (mm_rm j).2 ≤ (mm_rm i).2) (hcat : mm_cat rest ≤ 8) (kk : mm_Ct p l e R s m args below meth c cells slots Q D ad cI cS A i (k + 1) ls (mm_rv (mm_rt j) u ++ rest) u.2) : mm_Ct p l e R s m args below meth c cells slots Q D ad cI cS A i k ls (As.reverse ++ rest) h := fun H locs lsA hl hP hS => by
  rw [hpc]
  have hrl := hC.2.2.2.2.2.1.2
  have hrf := hC.2.2.2.2.2.1.1
  have est : (As.reverse ++ rest).map (mm_mv ad) = (As.map (mm_mv ad)).reverse ++ rest.map (mm_mv ad) := by simp
  rw [est]
  have hGJ : ∀ w ∈ mm_wsJ j, w ∈ mm_T0 := fun w hw => by
    rcases List.mem_cons.mp hw with rfl | q
    · exact hcw
    · exact q
  have hp : PreS s H (mm_Pre D ad cI cS A sc As h) (As.map (mm_mv ad)) := ⟨mm_Pre_blind D ad cI cS A sc _ h, fun U hU hW => ⟨rfl, by rw [hU]; exact hP, hE.to hS hU hW⟩⟩
  have RN : va_Run p l e R s m args below meth c H locs cells slots 0 0 (F0 m pc lsA ((As.map (mm_mv ad)).reverse ++ rest.map (mm_mv ad))) (rest.map (mm_mv ad)) (mm_Post D ad cI cS A j u (As.map (mm_mv ad)).toArray) A := by
    rcases hlk with hlk | ⟨q1, rfl, q2⟩
    · have hG : GoodIn mm_T0 (va_wsS (mm_y i).cls idx (mm_y j) (mm_wsJ j)) := mm_goodT (fun w hw => by
        unfold va_wsS at hw
        rcases List.mem_append.mp hw with q | q
        · simp only [List.mem_cons, List.not_mem_nil, or_false] at q
          rcases q with rfl | rfl | rfl
          · exact hlk
          · exact hst
          · exact hini
        · exact hGJ w q)
      have CW := va_cwS (R := R) (s := s) (args := args) (bytes := mm_by j) (maxL := mm_mx j) (ret := mm_re (mm_rt j)) (rm := mm_rmR j) (mc := 0) (ms := 0) As.length hC.2.2.2.2.1 hG rfl rfl rfl ⟨hy.1, hy.2, hpar⟩ ⟨by show (mm_rm j).1 + 1 ≤ _; omega, by show 8 + (mm_mx j + 11) + (mm_rm j).2 ≤ _; omega⟩
      exact va_runS (g := F0 m pc lsA ((As.map (mm_mv ad)).reverse ++ rest.map (mm_mv ad))) (As := As.map (mm_mv ad)) (rest := rest.map (mm_mv ad)) ⟨hC.1, hC.2.1, hC.2.2.1, hC.2.2.2.1, hC.2.2.2.2.1⟩ hM CW hp rfl (by simp) hl.1 rfl (lv_room (by rw [mm_cat_sum]; exact hcat)) hd ⟨hC.2.2.2.2.2.2.1, hC.2.2.2.2.2.2.2⟩
    · have hNw : va_Nw (.methodLinkNest (mm_y i).cls 64 (mm_y j) "CommaChoir") s := by
        rw [q1, q2]
        exact hE.2.2.2.2
      have CW := va_cnB (R := R) (s := s) (args := args) (own := (mm_y i).cls) (host := "CommaChoir") (bytes := mm_by j) (maxL := mm_mx j) (ret := mm_re (mm_rt j)) (rm := mm_rmR j) (mc := 0) (ms := 0) As.length hC.2.2.2.2.1 (mm_goodT hGJ) rfl rfl rfl hNw (hC.2.2.2.2.1 _ hini) ⟨hy.1, hy.2, hpar⟩ ⟨by show (mm_rm j).1 + 1 ≤ _; omega, by show 8 + (mm_mx j + 11) + (mm_rm j).2 ≤ _; omega⟩
      exact va_runSN (g := F0 m pc lsA ((As.map (mm_mv ad)).reverse ++ rest.map (mm_mv ad))) (As := As.map (mm_mv ad)) (rest := rest.map (mm_mv ad)) ⟨hC.1, hC.2.1, hC.2.2.1, hC.2.2.2.1, hC.2.2.2.2.1⟩ hM ⟨CW, hC.2.2.2.2.1 _ hst, trivial⟩ hp rfl (by simp) hl.1 rfl (lv_room (by rw [mm_cat_sum]; exact hcat)) hd ⟨hC.2.2.2.2.2.2.1, hC.2.2.2.2.2.2.2⟩
  refine mm_after RN hS (fun H1 locs1 hP1 hS1 => ?_)
  have w := kk H1 locs1 lsA hl hP1 hS1
  rw [hn, mm_rv_map] at w
  exact w
end SP
