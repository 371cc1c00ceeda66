/-! the constructors -/
abbrev cX0_init : ByteArray := prog_2_method_1_code
def yCHist : MethodName := ⟨RX0, "<init>", "()V"⟩
abbrev cX2_init : ByteArray := prog_4_method_1_code
def yCRead : MethodName := ⟨RX2, "<init>", "()V"⟩
abbrev cX3_init : ByteArray := prog_5_method_1_code
def yCScor : MethodName := ⟨RX3, "<init>", "()V"⟩
abbrev cX4_init : ByteArray := prog_6_method_1_code
def yCTuni : MethodName := ⟨RX4, "<init>", "()V"⟩
abbrev cX5_init : ByteArray := prog_1_method_1_code
def yCChoi : MethodName := ⟨RX5, "<init>", "()V"⟩
abbrev cX6_init : ByteArray := prog_8_method_1_code
def yCModl : MethodName := ⟨RX6, "<init>", "()V"⟩
def wsC (y : MethodName) (b : ByteArray) (n : Nat) : List Cond := .code y b n none :: mm_T0
set_option maxHeartbeats 4000000 in
set_option maxRecDepth 100000 in
theorem k_Scor (l : Launch) (D : va_G) (cI : ClassId) (h0 sz : Nat) : Met l yCScor (wsC yCScor cX3_init 1) ({ frames := 1, cells := 4, slots := 276, locals := 12 }) (va_Pc [.ref h0] (fun U => U.heap.size = sz ∧ va_P D vwCl [(h0, .inr (2, [.null, .null, .null, .null, .int 0, .int 0]))] U.heap ∧ va_K D vwCl [(cI, .int)] U ∧ va_D (fun _ => True) [(h0, .inr (2, [.null, .null, .null, .null, .int 0, .int 0]))])) (va_Qv (fun _ : Unit => True) (fun _ t => ∃ q0 q1 q2 q3 : Nat, va_P D vwCl [(h0, .inr (2, [.ref q0, .ref q1, .ref q2, .ref q3, .int 0, .int 2000])), (q0, .inl (cI, 12, .inl (fun _ => 0))), (q1, .inl (cI, 240, .inl (fun _ => 0))), (q2, .inl (cI, 12, .inl (fun _ => 0))), (q3, .inl (cI, 12, .inl (fun _ => 0)))] t.heap ∧ va_K D vwCl [(cI, .int)] t ∧ va_D (va_A [(h0, .inr (2, [.null, .null, .null, .null, .int 0, .int 0]))] sz) [(h0, .inr (2, [.ref q0, .ref q1, .ref q2, .ref q3, .int 0, .int 2000])), (q0, .inl (cI, 12, .inl (fun _ => 0))), (q1, .inl (cI, 240, .inl (fun _ => 0))), (q2, .inl (cI, 12, .inl (fun _ => 0))), (q3, .inl (cI, 12, .inl (fun _ => 0)))]) (va_A [(h0, .inr (2, [.null, .null, .null, .null, .int 0, .int 0]))] sz)) 4 276 (va_A [(h0, .inr (2, [.null, .null, .null, .null, .int 0, .int 0]))] sz) := by
  refine Met.ofW (cc := cX3_init) (maxL := 1) (ret := none) (by decide +kernel) rfl ?_
  intro p e s m args below meth c s₁ B hml hv
  obtain ⟨rfl, hsz, hP, hK, hD0⟩ := hv
  have hx := B.exec
  have hb := B.bytes
  have hr := B.returns
  have hts := atoms_spec (ws := wsC yCScor cX3_init 1) B.pre
  have hT : ∀ w ∈ mm_T0, w.before _ s = true := fun w hw => hts w (List.mem_cons_of_mem _ hw)
  have hown : s.vm.findClass RX3 = some m.cls := findClass_of_methodNamed B.named
  have hlocks := B.notSynchronized
  have hin : meth.name = "<init>" := (name_of_methodNamed B.named B.method).1
  subst hsz
  have hD := hD0.self (sz := s.heap.size)
  generalize hAe : va_A [(h0, .inr (2, [.null, .null, .null, .null, .int 0, .int 0]))] s.heap.size = A at hD ⊢
  have hA : ∀ q : Nat, s.heap.size ≤ q → A q := fun q h => by rw [← hAe]; exact Or.inr h
  have hS : va_S A s.heap s.heap [] := va_S.rf
  have hl := lv_entry ([.ref h0]) (n := 1) (Nat.le_of_ble_eq_true rfl)
  rw [lg_entry_eq]
  generalize (lg_sl ([.ref h0]) ++ List.replicate (1 - (lg_sl ([.ref h0])).length) Slot.unset).toArray = ls at hl ⊢
  have hl : lv_has ls 1 [(0, .ref h0)] := hl
  refine lv_aload_n hx hb (by decide +kernel : decode cX3_init 0 = .ok (.aload_n 0, 1)) rfl (lv_at hl 0 rfl) ?_
  refine W.objInit hx hb hown (hT (.methodLink RX3 3 objectInit) (mm_has_in (b := 86) (by decide +kernel))) (hT (.instanceMethod objectInit) (mm_has_in (b := 72) (by decide +kernel))) (hT (.code objectInit ⟨#[0xb1]⟩ 1 none) (mm_has_in (b := 73) (by decide +kernel))) rfl (by rw [hml]; exact hl.1) rfl (by decide +kernel : decode cX3_init 1 = .ok (.invokespecial 3, 3)) (Nat.le_of_ble_eq_true rfl) (Nat.le_of_ble_eq_true rfl) ?_
  refine W.eq (g2 := F0 m 4 ls []) rfl ?_
  refine lv_aload_n hx hb (by decide +kernel : decode cX3_init 4 = .ok (.aload_n 0, 1)) rfl (lv_at hl 0 rfl) ?_
  refine lv_bipush (v := 12) hx hb (by decide +kernel : decode cX3_init 5 = .ok (.bipush 12, 2)) (by decide +kernel) ?_
  refine va_newa (atype := .int) (ty := .int) (a0 := (12, .inl (fun _ => 0))) hx hb (hT (.arrayClass .int) (mm_has_in (b := 106) (by decide +kernel))) rfl hK hP hD hS hA (fun _ => rfl) (by decide +kernel) (by decide +kernel) (Nat.le_of_ble_eq_true rfl) (Nat.le_of_ble_eq_true rfl) (Nat.le_of_ble_eq_true rfl) (by decide +kernel : decode cX3_init 7 = .ok (.newarray .int, 2)) (fun q0 cA H hK2 hP hD hS => ?_)
  obtain rfl : cI = cA := Option.some.inj ((hK.2 0 _ rfl).2.symm.trans (hK2.2 1 _ rfl).2)
  clear hK2
  have hP : va_P D vwCl [(h0, .inr (2, [.null, .null, .null, .null, .int 0, .int 0])), (q0, .inl (cI, 12, .inl (fun _ => 0)))] H := hP
  have hD : va_D A [(h0, .inr (2, [.null, .null, .null, .null, .int 0, .int 0])), (q0, .inl (cI, 12, .inl (fun _ => 0)))] := hD
  refine W.widen (k := 1) (n := 12) (Nat.le_of_ble_eq_true rfl) (Nat.le_of_ble_eq_true rfl) ?_
  refine va_putF (D := D) (ci := 2) (v := .ref q0) (ty := .array (.int)) (C := RX3) (T := TX3) (N := 6) hx hb hT mm_hin0.2.2.1 tyX3 tyX3_ok nmX3 hown hK hP hD hS 0 rfl rfl 0 (by decide) (hT (.fieldLink RX3 9 "CommaChoir$Score" "toneCounts" "[I") (mm_has_in (b := 87) (by decide +kernel))) (fun _ h9 => h9) rfl hin rfl (by decide +kernel) rfl rfl (Nat.le_of_ble_eq_true rfl) (by decide +kernel : decode cX3_init 9 = .ok (.putfield 9, 3)) (fun H locs hP hD hS => ?_)
  have hP : va_P D vwCl [(h0, .inr (2, [.ref q0, .null, .null, .null, .int 0, .int 0])), (q0, .inl (cI, 12, .inl (fun _ => 0)))] H := hP
  have hD : va_D A [(h0, .inr (2, [.ref q0, .null, .null, .null, .int 0, .int 0])), (q0, .inl (cI, 12, .inl (fun _ => 0)))] := hD
  refine lv_aload_n hx hb (by decide +kernel : decode cX3_init 12 = .ok (.aload_n 0, 1)) rfl (lv_at hl 0 rfl) ?_
  refine lv_sipush (v := 240) hx hb (by decide +kernel : decode cX3_init 13 = .ok (.sipush 240, 3)) (by decide +kernel) ?_
  refine va_newa (atype := .int) (ty := .int) (a0 := (240, .inl (fun _ => 0))) hx hb (hT (.arrayClass .int) (mm_has_in (b := 106) (by decide +kernel))) rfl hK hP hD hS hA (fun _ => rfl) (by decide +kernel) (by decide +kernel) (Nat.le_of_ble_eq_true rfl) (Nat.le_of_ble_eq_true rfl) (Nat.le_of_ble_eq_true rfl) (by decide +kernel : decode cX3_init 16 = .ok (.newarray .int, 2)) (fun q1 cA H hK2 hP hD hS => ?_)
  obtain rfl : cI = cA := Option.some.inj ((hK.2 0 _ rfl).2.symm.trans (hK2.2 1 _ rfl).2)
  clear hK2
  have hP : va_P D vwCl [(h0, .inr (2, [.ref q0, .null, .null, .null, .int 0, .int 0])), (q0, .inl (cI, 12, .inl (fun _ => 0))), (q1, .inl (cI, 240, .inl (fun _ => 0)))] H := hP
  have hD : va_D A [(h0, .inr (2, [.ref q0, .null, .null, .null, .int 0, .int 0])), (q0, .inl (cI, 12, .inl (fun _ => 0))), (q1, .inl (cI, 240, .inl (fun _ => 0)))] := hD
  refine W.widen (k := 2) (n := 252) (Nat.le_of_ble_eq_true rfl) (Nat.le_of_ble_eq_true rfl) ?_
  refine va_putF (D := D) (ci := 2) (v := .ref q1) (ty := .array (.int)) (C := RX3) (T := TX3) (N := 6) hx hb hT mm_hin0.2.2.1 tyX3 tyX3_ok nmX3 hown hK hP hD hS 0 rfl rfl 1 (by decide) (hT (.fieldLink RX3 15 "CommaChoir$Score" "powers" "[I") (mm_has_in (b := 88) (by decide +kernel))) (fun _ h9 => h9) rfl hin rfl (by decide +kernel) rfl rfl (Nat.le_of_ble_eq_true rfl) (by decide +kernel : decode cX3_init 18 = .ok (.putfield 15, 3)) (fun H locs hP hD hS => ?_)
  have hP : va_P D vwCl [(h0, .inr (2, [.ref q0, .ref q1, .null, .null, .int 0, .int 0])), (q0, .inl (cI, 12, .inl (fun _ => 0))), (q1, .inl (cI, 240, .inl (fun _ => 0)))] H := hP
  have hD : va_D A [(h0, .inr (2, [.ref q0, .ref q1, .null, .null, .int 0, .int 0])), (q0, .inl (cI, 12, .inl (fun _ => 0))), (q1, .inl (cI, 240, .inl (fun _ => 0)))] := hD
  refine lv_aload_n hx hb (by decide +kernel : decode cX3_init 21 = .ok (.aload_n 0, 1)) rfl (lv_at hl 0 rfl) ?_
  refine lv_bipush (v := 12) hx hb (by decide +kernel : decode cX3_init 22 = .ok (.bipush 12, 2)) (by decide +kernel) ?_
  refine va_newa (atype := .int) (ty := .int) (a0 := (12, .inl (fun _ => 0))) hx hb (hT (.arrayClass .int) (mm_has_in (b := 106) (by decide +kernel))) rfl hK hP hD hS hA (fun _ => rfl) (by decide +kernel) (by decide +kernel) (Nat.le_of_ble_eq_true rfl) (Nat.le_of_ble_eq_true rfl) (Nat.le_of_ble_eq_true rfl) (by decide +kernel : decode cX3_init 24 = .ok (.newarray .int, 2)) (fun q2 cA H hK2 hP hD hS => ?_)
  obtain rfl : cI = cA := Option.some.inj ((hK.2 0 _ rfl).2.symm.trans (hK2.2 1 _ rfl).2)
  clear hK2
  have hP : va_P D vwCl [(h0, .inr (2, [.ref q0, .ref q1, .null, .null, .int 0, .int 0])), (q0, .inl (cI, 12, .inl (fun _ => 0))), (q1, .inl (cI, 240, .inl (fun _ => 0))), (q2, .inl (cI, 12, .inl (fun _ => 0)))] H := hP
  have hD : va_D A [(h0, .inr (2, [.ref q0, .ref q1, .null, .null, .int 0, .int 0])), (q0, .inl (cI, 12, .inl (fun _ => 0))), (q1, .inl (cI, 240, .inl (fun _ => 0))), (q2, .inl (cI, 12, .inl (fun _ => 0)))] := hD
  refine W.widen (k := 3) (n := 264) (Nat.le_of_ble_eq_true rfl) (Nat.le_of_ble_eq_true rfl) ?_
  refine va_putF (D := D) (ci := 2) (v := .ref q2) (ty := .array (.int)) (C := RX3) (T := TX3) (N := 6) hx hb hT mm_hin0.2.2.1 tyX3 tyX3_ok nmX3 hown hK hP hD hS 0 rfl rfl 2 (by decide) (hT (.fieldLink RX3 18 "CommaChoir$Score" "heldTones" "[I") (mm_has_in (b := 89) (by decide +kernel))) (fun _ h9 => h9) rfl hin rfl (by decide +kernel) rfl rfl (Nat.le_of_ble_eq_true rfl) (by decide +kernel : decode cX3_init 26 = .ok (.putfield 18, 3)) (fun H locs hP hD hS => ?_)
  have hP : va_P D vwCl [(h0, .inr (2, [.ref q0, .ref q1, .ref q2, .null, .int 0, .int 0])), (q0, .inl (cI, 12, .inl (fun _ => 0))), (q1, .inl (cI, 240, .inl (fun _ => 0))), (q2, .inl (cI, 12, .inl (fun _ => 0)))] H := hP
  have hD : va_D A [(h0, .inr (2, [.ref q0, .ref q1, .ref q2, .null, .int 0, .int 0])), (q0, .inl (cI, 12, .inl (fun _ => 0))), (q1, .inl (cI, 240, .inl (fun _ => 0))), (q2, .inl (cI, 12, .inl (fun _ => 0)))] := hD
  refine lv_aload_n hx hb (by decide +kernel : decode cX3_init 29 = .ok (.aload_n 0, 1)) rfl (lv_at hl 0 rfl) ?_
  refine lv_bipush (v := 12) hx hb (by decide +kernel : decode cX3_init 30 = .ok (.bipush 12, 2)) (by decide +kernel) ?_
  refine va_newa (atype := .int) (ty := .int) (a0 := (12, .inl (fun _ => 0))) hx hb (hT (.arrayClass .int) (mm_has_in (b := 106) (by decide +kernel))) rfl hK hP hD hS hA (fun _ => rfl) (by decide +kernel) (by decide +kernel) (Nat.le_of_ble_eq_true rfl) (Nat.le_of_ble_eq_true rfl) (Nat.le_of_ble_eq_true rfl) (by decide +kernel : decode cX3_init 32 = .ok (.newarray .int, 2)) (fun q3 cA H hK2 hP hD hS => ?_)
  obtain rfl : cI = cA := Option.some.inj ((hK.2 0 _ rfl).2.symm.trans (hK2.2 1 _ rfl).2)
  clear hK2
  have hP : va_P D vwCl [(h0, .inr (2, [.ref q0, .ref q1, .ref q2, .null, .int 0, .int 0])), (q0, .inl (cI, 12, .inl (fun _ => 0))), (q1, .inl (cI, 240, .inl (fun _ => 0))), (q2, .inl (cI, 12, .inl (fun _ => 0))), (q3, .inl (cI, 12, .inl (fun _ => 0)))] H := hP
  have hD : va_D A [(h0, .inr (2, [.ref q0, .ref q1, .ref q2, .null, .int 0, .int 0])), (q0, .inl (cI, 12, .inl (fun _ => 0))), (q1, .inl (cI, 240, .inl (fun _ => 0))), (q2, .inl (cI, 12, .inl (fun _ => 0))), (q3, .inl (cI, 12, .inl (fun _ => 0)))] := hD
  refine W.widen (k := 4) (n := 276) (Nat.le_of_ble_eq_true rfl) (Nat.le_of_ble_eq_true rfl) ?_
  refine va_putF (D := D) (ci := 2) (v := .ref q3) (ty := .array (.int)) (C := RX3) (T := TX3) (N := 6) hx hb hT mm_hin0.2.2.1 tyX3 tyX3_ok nmX3 hown hK hP hD hS 0 rfl rfl 3 (by decide) (hT (.fieldLink RX3 21 "CommaChoir$Score" "heldAs" "[I") (mm_has_in (b := 90) (by decide +kernel))) (fun _ h9 => h9) rfl hin rfl (by decide +kernel) rfl rfl (Nat.le_of_ble_eq_true rfl) (by decide +kernel : decode cX3_init 34 = .ok (.putfield 21, 3)) (fun H locs hP hD hS => ?_)
  have hP : va_P D vwCl [(h0, .inr (2, [.ref q0, .ref q1, .ref q2, .ref q3, .int 0, .int 0])), (q0, .inl (cI, 12, .inl (fun _ => 0))), (q1, .inl (cI, 240, .inl (fun _ => 0))), (q2, .inl (cI, 12, .inl (fun _ => 0))), (q3, .inl (cI, 12, .inl (fun _ => 0)))] H := hP
  have hD : va_D A [(h0, .inr (2, [.ref q0, .ref q1, .ref q2, .ref q3, .int 0, .int 0])), (q0, .inl (cI, 12, .inl (fun _ => 0))), (q1, .inl (cI, 240, .inl (fun _ => 0))), (q2, .inl (cI, 12, .inl (fun _ => 0))), (q3, .inl (cI, 12, .inl (fun _ => 0)))] := hD
  refine lv_aload_n hx hb (by decide +kernel : decode cX3_init 37 = .ok (.aload_n 0, 1)) rfl (lv_at hl 0 rfl) ?_
  refine lv_sipush (v := 2000) hx hb (by decide +kernel : decode cX3_init 38 = .ok (.sipush 2000, 3)) (by decide +kernel) ?_
  refine va_put (D := D) (ci := 2) (v := .int 2000) (ty := .int) (C := RX3) (T := TX3) (N := 6) hx hb hT mm_hin0.2.2.1 tyX3 tyX3_ok nmX3 hown hK hP hD hS 0 rfl rfl 5 (by decide) (hT (.fieldLink RX3 24 "CommaChoir$Score" "limit" "I") (mm_has_in (b := 92) (by decide +kernel))) (fun _ h9 => h9) rfl (by decide +kernel) rfl rfl (Nat.le_of_ble_eq_true rfl) (by decide +kernel : decode cX3_init 41 = .ok (.putfield 24, 3)) (fun H locs hP hD hS => ?_)
  have hP : va_P D vwCl [(h0, .inr (2, [.ref q0, .ref q1, .ref q2, .ref q3, .int 0, .int 2000])), (q0, .inl (cI, 12, .inl (fun _ => 0))), (q1, .inl (cI, 240, .inl (fun _ => 0))), (q2, .inl (cI, 12, .inl (fun _ => 0))), (q3, .inl (cI, 12, .inl (fun _ => 0)))] H := hP
  have hD : va_D A [(h0, .inr (2, [.ref q0, .ref q1, .ref q2, .ref q3, .int 0, .int 2000])), (q0, .inl (cI, 12, .inl (fun _ => 0))), (q1, .inl (cI, 240, .inl (fun _ => 0))), (q2, .inl (cI, 12, .inl (fun _ => 0))), (q3, .inl (cI, 12, .inl (fun _ => 0)))] := hD
  exact W.vret hx hb hr (fun t ht hW => ⟨⟨(), rfl, trivial, q0, q1, q2, q3, by rw [ht]; exact hP, va_K.moved hW.alike hK, hD⟩, hS.F ht⟩) hS.2.2 (by decide +kernel : decode cX3_init 44 = .ok (.return_, 1))
set_option maxHeartbeats 4000000 in
set_option maxRecDepth 100000 in
theorem k_Tuni (l : Launch) (D : va_G) (cI : ClassId) (h0 sz : Nat) : Met l yCTuni (wsC yCTuni cX4_init 1) ({ frames := 1, cells := 6, slots := 108, locals := 12 }) (va_Pc [.ref h0] (fun U => U.heap.size = sz ∧ va_P D vwCl [(h0, .inr (3, [.null, .null, .null, .null, .null, .null, .int 0, .int 0]))] U.heap ∧ va_K D vwCl [(cI, .int)] U ∧ va_D (fun _ => True) [(h0, .inr (3, [.null, .null, .null, .null, .null, .null, .int 0, .int 0]))])) (va_Qv (fun _ : Unit => True) (fun _ t => ∃ q0 q1 q2 q3 q4 q5 : Nat, va_P D vwCl [(h0, .inr (3, [.ref q0, .ref q1, .ref q2, .ref q3, .ref q4, .ref q5, .int 0, .int 0])), (q0, .inl (cI, 48, .inl (fun _ => 0))), (q1, .inl (cI, 12, .inl (fun _ => 0))), (q2, .inl (cI, 12, .inl (fun _ => 0))), (q3, .inl (cI, 12, .inl (fun _ => 0))), (q4, .inl (cI, 12, .inl (fun _ => 0))), (q5, .inl (cI, 12, .inl (fun _ => 0)))] t.heap ∧ va_K D vwCl [(cI, .int)] t ∧ va_D (va_A [(h0, .inr (3, [.null, .null, .null, .null, .null, .null, .int 0, .int 0]))] sz) [(h0, .inr (3, [.ref q0, .ref q1, .ref q2, .ref q3, .ref q4, .ref q5, .int 0, .int 0])), (q0, .inl (cI, 48, .inl (fun _ => 0))), (q1, .inl (cI, 12, .inl (fun _ => 0))), (q2, .inl (cI, 12, .inl (fun _ => 0))), (q3, .inl (cI, 12, .inl (fun _ => 0))), (q4, .inl (cI, 12, .inl (fun _ => 0))), (q5, .inl (cI, 12, .inl (fun _ => 0)))]) (va_A [(h0, .inr (3, [.null, .null, .null, .null, .null, .null, .int 0, .int 0]))] sz)) 6 108 (va_A [(h0, .inr (3, [.null, .null, .null, .null, .null, .null, .int 0, .int 0]))] sz) := by
  refine Met.ofW (cc := cX4_init) (maxL := 1) (ret := none) (by decide +kernel) rfl ?_
  intro p e s m args below meth c s₁ B hml hv
  obtain ⟨rfl, hsz, hP, hK, hD0⟩ := hv
  have hx := B.exec
  have hb := B.bytes
  have hr := B.returns
  have hts := atoms_spec (ws := wsC yCTuni cX4_init 1) B.pre
  have hT : ∀ w ∈ mm_T0, w.before _ s = true := fun w hw => hts w (List.mem_cons_of_mem _ hw)
  have hown : s.vm.findClass RX4 = some m.cls := findClass_of_methodNamed B.named
  have hlocks := B.notSynchronized
  have hin : meth.name = "<init>" := (name_of_methodNamed B.named B.method).1
  subst hsz
  have hD := hD0.self (sz := s.heap.size)
  generalize hAe : va_A [(h0, .inr (3, [.null, .null, .null, .null, .null, .null, .int 0, .int 0]))] s.heap.size = A at hD ⊢
  have hA : ∀ q : Nat, s.heap.size ≤ q → A q := fun q h => by rw [← hAe]; exact Or.inr h
  have hS : va_S A s.heap s.heap [] := va_S.rf
  have hl := lv_entry ([.ref h0]) (n := 1) (Nat.le_of_ble_eq_true rfl)
  rw [lg_entry_eq]
  generalize (lg_sl ([.ref h0]) ++ List.replicate (1 - (lg_sl ([.ref h0])).length) Slot.unset).toArray = ls at hl ⊢
  have hl : lv_has ls 1 [(0, .ref h0)] := hl
  refine lv_aload_n hx hb (by decide +kernel : decode cX4_init 0 = .ok (.aload_n 0, 1)) rfl (lv_at hl 0 rfl) ?_
  refine W.objInit hx hb hown (hT (.methodLink RX4 3 objectInit) (mm_has_in (b := 125) (by decide +kernel))) (hT (.instanceMethod objectInit) (mm_has_in (b := 72) (by decide +kernel))) (hT (.code objectInit ⟨#[0xb1]⟩ 1 none) (mm_has_in (b := 73) (by decide +kernel))) rfl (by rw [hml]; exact hl.1) rfl (by decide +kernel : decode cX4_init 1 = .ok (.invokespecial 3, 3)) (Nat.le_of_ble_eq_true rfl) (Nat.le_of_ble_eq_true rfl) ?_
  refine W.eq (g2 := F0 m 4 ls []) rfl ?_
  refine lv_aload_n hx hb (by decide +kernel : decode cX4_init 4 = .ok (.aload_n 0, 1)) rfl (lv_at hl 0 rfl) ?_
  refine lv_bipush (v := 48) hx hb (by decide +kernel : decode cX4_init 5 = .ok (.bipush 48, 2)) (by decide +kernel) ?_
  refine va_newa (atype := .int) (ty := .int) (a0 := (48, .inl (fun _ => 0))) hx hb (hT (.arrayClass .int) (mm_has_in (b := 106) (by decide +kernel))) rfl hK hP hD hS hA (fun _ => rfl) (by decide +kernel) (by decide +kernel) (Nat.le_of_ble_eq_true rfl) (Nat.le_of_ble_eq_true rfl) (Nat.le_of_ble_eq_true rfl) (by decide +kernel : decode cX4_init 7 = .ok (.newarray .int, 2)) (fun q0 cA H hK2 hP hD hS => ?_)
  obtain rfl : cI = cA := Option.some.inj ((hK.2 0 _ rfl).2.symm.trans (hK2.2 1 _ rfl).2)
  clear hK2
  have hP : va_P D vwCl [(h0, .inr (3, [.null, .null, .null, .null, .null, .null, .int 0, .int 0])), (q0, .inl (cI, 48, .inl (fun _ => 0)))] H := hP
  have hD : va_D A [(h0, .inr (3, [.null, .null, .null, .null, .null, .null, .int 0, .int 0])), (q0, .inl (cI, 48, .inl (fun _ => 0)))] := hD
  refine W.widen (k := 1) (n := 48) (Nat.le_of_ble_eq_true rfl) (Nat.le_of_ble_eq_true rfl) ?_
  refine va_putF (D := D) (ci := 3) (v := .ref q0) (ty := .array (.int)) (C := RX4) (T := TX4) (N := 8) hx hb hT mm_hin0.2.2.2.1 tyX4 tyX4_ok nmX4 hown hK hP hD hS 0 rfl rfl 0 (by decide) (hT (.fieldLink RX4 9 "CommaChoir$Tuning" "rootPowers" "[I") (mm_has_in (b := 126) (by decide +kernel))) (fun _ h9 => h9) rfl hin rfl (by decide +kernel) rfl rfl (Nat.le_of_ble_eq_true rfl) (by decide +kernel : decode cX4_init 9 = .ok (.putfield 9, 3)) (fun H locs hP hD hS => ?_)
  have hP : va_P D vwCl [(h0, .inr (3, [.ref q0, .null, .null, .null, .null, .null, .int 0, .int 0])), (q0, .inl (cI, 48, .inl (fun _ => 0)))] H := hP
  have hD : va_D A [(h0, .inr (3, [.ref q0, .null, .null, .null, .null, .null, .int 0, .int 0])), (q0, .inl (cI, 48, .inl (fun _ => 0)))] := hD
  refine lv_aload_n hx hb (by decide +kernel : decode cX4_init 12 = .ok (.aload_n 0, 1)) rfl (lv_at hl 0 rfl) ?_
  refine lv_bipush (v := 12) hx hb (by decide +kernel : decode cX4_init 13 = .ok (.bipush 12, 2)) (by decide +kernel) ?_
  refine va_newa (atype := .int) (ty := .int) (a0 := (12, .inl (fun _ => 0))) hx hb (hT (.arrayClass .int) (mm_has_in (b := 106) (by decide +kernel))) rfl hK hP hD hS hA (fun _ => rfl) (by decide +kernel) (by decide +kernel) (Nat.le_of_ble_eq_true rfl) (Nat.le_of_ble_eq_true rfl) (Nat.le_of_ble_eq_true rfl) (by decide +kernel : decode cX4_init 15 = .ok (.newarray .int, 2)) (fun q1 cA H hK2 hP hD hS => ?_)
  obtain rfl : cI = cA := Option.some.inj ((hK.2 0 _ rfl).2.symm.trans (hK2.2 1 _ rfl).2)
  clear hK2
  have hP : va_P D vwCl [(h0, .inr (3, [.ref q0, .null, .null, .null, .null, .null, .int 0, .int 0])), (q0, .inl (cI, 48, .inl (fun _ => 0))), (q1, .inl (cI, 12, .inl (fun _ => 0)))] H := hP
  have hD : va_D A [(h0, .inr (3, [.ref q0, .null, .null, .null, .null, .null, .int 0, .int 0])), (q0, .inl (cI, 48, .inl (fun _ => 0))), (q1, .inl (cI, 12, .inl (fun _ => 0)))] := hD
  refine W.widen (k := 2) (n := 60) (Nat.le_of_ble_eq_true rfl) (Nat.le_of_ble_eq_true rfl) ?_
  refine va_putF (D := D) (ci := 3) (v := .ref q1) (ty := .array (.int)) (C := RX4) (T := TX4) (N := 8) hx hb hT mm_hin0.2.2.2.1 tyX4 tyX4_ok nmX4 hown hK hP hD hS 0 rfl rfl 1 (by decide) (hT (.fieldLink RX4 15 "CommaChoir$Tuning" "partNumbers" "[I") (mm_has_in (b := 127) (by decide +kernel))) (fun _ h9 => h9) rfl hin rfl (by decide +kernel) rfl rfl (Nat.le_of_ble_eq_true rfl) (by decide +kernel : decode cX4_init 17 = .ok (.putfield 15, 3)) (fun H locs hP hD hS => ?_)
  have hP : va_P D vwCl [(h0, .inr (3, [.ref q0, .ref q1, .null, .null, .null, .null, .int 0, .int 0])), (q0, .inl (cI, 48, .inl (fun _ => 0))), (q1, .inl (cI, 12, .inl (fun _ => 0)))] H := hP
  have hD : va_D A [(h0, .inr (3, [.ref q0, .ref q1, .null, .null, .null, .null, .int 0, .int 0])), (q0, .inl (cI, 48, .inl (fun _ => 0))), (q1, .inl (cI, 12, .inl (fun _ => 0)))] := hD
  refine lv_aload_n hx hb (by decide +kernel : decode cX4_init 20 = .ok (.aload_n 0, 1)) rfl (lv_at hl 0 rfl) ?_
  refine lv_bipush (v := 12) hx hb (by decide +kernel : decode cX4_init 21 = .ok (.bipush 12, 2)) (by decide +kernel) ?_
  refine va_newa (atype := .int) (ty := .int) (a0 := (12, .inl (fun _ => 0))) hx hb (hT (.arrayClass .int) (mm_has_in (b := 106) (by decide +kernel))) rfl hK hP hD hS hA (fun _ => rfl) (by decide +kernel) (by decide +kernel) (Nat.le_of_ble_eq_true rfl) (Nat.le_of_ble_eq_true rfl) (Nat.le_of_ble_eq_true rfl) (by decide +kernel : decode cX4_init 23 = .ok (.newarray .int, 2)) (fun q2 cA H hK2 hP hD hS => ?_)
  obtain rfl : cI = cA := Option.some.inj ((hK.2 0 _ rfl).2.symm.trans (hK2.2 1 _ rfl).2)
  clear hK2
  have hP : va_P D vwCl [(h0, .inr (3, [.ref q0, .ref q1, .null, .null, .null, .null, .int 0, .int 0])), (q0, .inl (cI, 48, .inl (fun _ => 0))), (q1, .inl (cI, 12, .inl (fun _ => 0))), (q2, .inl (cI, 12, .inl (fun _ => 0)))] H := hP
  have hD : va_D A [(h0, .inr (3, [.ref q0, .ref q1, .null, .null, .null, .null, .int 0, .int 0])), (q0, .inl (cI, 48, .inl (fun _ => 0))), (q1, .inl (cI, 12, .inl (fun _ => 0))), (q2, .inl (cI, 12, .inl (fun _ => 0)))] := hD
  refine W.widen (k := 3) (n := 72) (Nat.le_of_ble_eq_true rfl) (Nat.le_of_ble_eq_true rfl) ?_
  refine va_putF (D := D) (ci := 3) (v := .ref q2) (ty := .array (.int)) (C := RX4) (T := TX4) (N := 8) hx hb hT mm_hin0.2.2.2.1 tyX4 tyX4_ok nmX4 hown hK hP hD hS 0 rfl rfl 2 (by decide) (hT (.fieldLink RX4 18 "CommaChoir$Tuning" "firsts" "[I") (mm_has_in (b := 128) (by decide +kernel))) (fun _ h9 => h9) rfl hin rfl (by decide +kernel) rfl rfl (Nat.le_of_ble_eq_true rfl) (by decide +kernel : decode cX4_init 25 = .ok (.putfield 18, 3)) (fun H locs hP hD hS => ?_)
  have hP : va_P D vwCl [(h0, .inr (3, [.ref q0, .ref q1, .ref q2, .null, .null, .null, .int 0, .int 0])), (q0, .inl (cI, 48, .inl (fun _ => 0))), (q1, .inl (cI, 12, .inl (fun _ => 0))), (q2, .inl (cI, 12, .inl (fun _ => 0)))] H := hP
  have hD : va_D A [(h0, .inr (3, [.ref q0, .ref q1, .ref q2, .null, .null, .null, .int 0, .int 0])), (q0, .inl (cI, 48, .inl (fun _ => 0))), (q1, .inl (cI, 12, .inl (fun _ => 0))), (q2, .inl (cI, 12, .inl (fun _ => 0)))] := hD
  refine lv_aload_n hx hb (by decide +kernel : decode cX4_init 28 = .ok (.aload_n 0, 1)) rfl (lv_at hl 0 rfl) ?_
  refine lv_bipush (v := 12) hx hb (by decide +kernel : decode cX4_init 29 = .ok (.bipush 12, 2)) (by decide +kernel) ?_
  refine va_newa (atype := .int) (ty := .int) (a0 := (12, .inl (fun _ => 0))) hx hb (hT (.arrayClass .int) (mm_has_in (b := 106) (by decide +kernel))) rfl hK hP hD hS hA (fun _ => rfl) (by decide +kernel) (by decide +kernel) (Nat.le_of_ble_eq_true rfl) (Nat.le_of_ble_eq_true rfl) (Nat.le_of_ble_eq_true rfl) (by decide +kernel : decode cX4_init 31 = .ok (.newarray .int, 2)) (fun q3 cA H hK2 hP hD hS => ?_)
  obtain rfl : cI = cA := Option.some.inj ((hK.2 0 _ rfl).2.symm.trans (hK2.2 1 _ rfl).2)
  clear hK2
  have hP : va_P D vwCl [(h0, .inr (3, [.ref q0, .ref q1, .ref q2, .null, .null, .null, .int 0, .int 0])), (q0, .inl (cI, 48, .inl (fun _ => 0))), (q1, .inl (cI, 12, .inl (fun _ => 0))), (q2, .inl (cI, 12, .inl (fun _ => 0))), (q3, .inl (cI, 12, .inl (fun _ => 0)))] H := hP
  have hD : va_D A [(h0, .inr (3, [.ref q0, .ref q1, .ref q2, .null, .null, .null, .int 0, .int 0])), (q0, .inl (cI, 48, .inl (fun _ => 0))), (q1, .inl (cI, 12, .inl (fun _ => 0))), (q2, .inl (cI, 12, .inl (fun _ => 0))), (q3, .inl (cI, 12, .inl (fun _ => 0)))] := hD
  refine W.widen (k := 4) (n := 84) (Nat.le_of_ble_eq_true rfl) (Nat.le_of_ble_eq_true rfl) ?_
  refine va_putF (D := D) (ci := 3) (v := .ref q3) (ty := .array (.int)) (C := RX4) (T := TX4) (N := 8) hx hb hT mm_hin0.2.2.2.1 tyX4 tyX4_ok nmX4 hown hK hP hD hS 0 rfl rfl 3 (by decide) (hT (.fieldLink RX4 21 "CommaChoir$Tuning" "lasts" "[I") (mm_has_in (b := 129) (by decide +kernel))) (fun _ h9 => h9) rfl hin rfl (by decide +kernel) rfl rfl (Nat.le_of_ble_eq_true rfl) (by decide +kernel : decode cX4_init 33 = .ok (.putfield 21, 3)) (fun H locs hP hD hS => ?_)
  have hP : va_P D vwCl [(h0, .inr (3, [.ref q0, .ref q1, .ref q2, .ref q3, .null, .null, .int 0, .int 0])), (q0, .inl (cI, 48, .inl (fun _ => 0))), (q1, .inl (cI, 12, .inl (fun _ => 0))), (q2, .inl (cI, 12, .inl (fun _ => 0))), (q3, .inl (cI, 12, .inl (fun _ => 0)))] H := hP
  have hD : va_D A [(h0, .inr (3, [.ref q0, .ref q1, .ref q2, .ref q3, .null, .null, .int 0, .int 0])), (q0, .inl (cI, 48, .inl (fun _ => 0))), (q1, .inl (cI, 12, .inl (fun _ => 0))), (q2, .inl (cI, 12, .inl (fun _ => 0))), (q3, .inl (cI, 12, .inl (fun _ => 0)))] := hD
  refine lv_aload_n hx hb (by decide +kernel : decode cX4_init 36 = .ok (.aload_n 0, 1)) rfl (lv_at hl 0 rfl) ?_
  refine lv_bipush (v := 12) hx hb (by decide +kernel : decode cX4_init 37 = .ok (.bipush 12, 2)) (by decide +kernel) ?_
  refine va_newa (atype := .int) (ty := .int) (a0 := (12, .inl (fun _ => 0))) hx hb (hT (.arrayClass .int) (mm_has_in (b := 106) (by decide +kernel))) rfl hK hP hD hS hA (fun _ => rfl) (by decide +kernel) (by decide +kernel) (Nat.le_of_ble_eq_true rfl) (Nat.le_of_ble_eq_true rfl) (Nat.le_of_ble_eq_true rfl) (by decide +kernel : decode cX4_init 39 = .ok (.newarray .int, 2)) (fun q4 cA H hK2 hP hD hS => ?_)
  obtain rfl : cI = cA := Option.some.inj ((hK.2 0 _ rfl).2.symm.trans (hK2.2 1 _ rfl).2)
  clear hK2
  have hP : va_P D vwCl [(h0, .inr (3, [.ref q0, .ref q1, .ref q2, .ref q3, .null, .null, .int 0, .int 0])), (q0, .inl (cI, 48, .inl (fun _ => 0))), (q1, .inl (cI, 12, .inl (fun _ => 0))), (q2, .inl (cI, 12, .inl (fun _ => 0))), (q3, .inl (cI, 12, .inl (fun _ => 0))), (q4, .inl (cI, 12, .inl (fun _ => 0)))] H := hP
  have hD : va_D A [(h0, .inr (3, [.ref q0, .ref q1, .ref q2, .ref q3, .null, .null, .int 0, .int 0])), (q0, .inl (cI, 48, .inl (fun _ => 0))), (q1, .inl (cI, 12, .inl (fun _ => 0))), (q2, .inl (cI, 12, .inl (fun _ => 0))), (q3, .inl (cI, 12, .inl (fun _ => 0))), (q4, .inl (cI, 12, .inl (fun _ => 0)))] := hD
  refine W.widen (k := 5) (n := 96) (Nat.le_of_ble_eq_true rfl) (Nat.le_of_ble_eq_true rfl) ?_
  refine va_putF (D := D) (ci := 3) (v := .ref q4) (ty := .array (.int)) (C := RX4) (T := TX4) (N := 8) hx hb hT mm_hin0.2.2.2.1 tyX4 tyX4_ok nmX4 hown hK hP hD hS 0 rfl rfl 4 (by decide) (hT (.fieldLink RX4 24 "CommaChoir$Tuning" "shares" "[I") (mm_has_in (b := 130) (by decide +kernel))) (fun _ h9 => h9) rfl hin rfl (by decide +kernel) rfl rfl (Nat.le_of_ble_eq_true rfl) (by decide +kernel : decode cX4_init 41 = .ok (.putfield 24, 3)) (fun H locs hP hD hS => ?_)
  have hP : va_P D vwCl [(h0, .inr (3, [.ref q0, .ref q1, .ref q2, .ref q3, .ref q4, .null, .int 0, .int 0])), (q0, .inl (cI, 48, .inl (fun _ => 0))), (q1, .inl (cI, 12, .inl (fun _ => 0))), (q2, .inl (cI, 12, .inl (fun _ => 0))), (q3, .inl (cI, 12, .inl (fun _ => 0))), (q4, .inl (cI, 12, .inl (fun _ => 0)))] H := hP
  have hD : va_D A [(h0, .inr (3, [.ref q0, .ref q1, .ref q2, .ref q3, .ref q4, .null, .int 0, .int 0])), (q0, .inl (cI, 48, .inl (fun _ => 0))), (q1, .inl (cI, 12, .inl (fun _ => 0))), (q2, .inl (cI, 12, .inl (fun _ => 0))), (q3, .inl (cI, 12, .inl (fun _ => 0))), (q4, .inl (cI, 12, .inl (fun _ => 0)))] := hD
  refine lv_aload_n hx hb (by decide +kernel : decode cX4_init 44 = .ok (.aload_n 0, 1)) rfl (lv_at hl 0 rfl) ?_
  refine lv_bipush (v := 12) hx hb (by decide +kernel : decode cX4_init 45 = .ok (.bipush 12, 2)) (by decide +kernel) ?_
  refine va_newa (atype := .int) (ty := .int) (a0 := (12, .inl (fun _ => 0))) hx hb (hT (.arrayClass .int) (mm_has_in (b := 106) (by decide +kernel))) rfl hK hP hD hS hA (fun _ => rfl) (by decide +kernel) (by decide +kernel) (Nat.le_of_ble_eq_true rfl) (Nat.le_of_ble_eq_true rfl) (Nat.le_of_ble_eq_true rfl) (by decide +kernel : decode cX4_init 47 = .ok (.newarray .int, 2)) (fun q5 cA H hK2 hP hD hS => ?_)
  obtain rfl : cI = cA := Option.some.inj ((hK.2 0 _ rfl).2.symm.trans (hK2.2 1 _ rfl).2)
  clear hK2
  have hP : va_P D vwCl [(h0, .inr (3, [.ref q0, .ref q1, .ref q2, .ref q3, .ref q4, .null, .int 0, .int 0])), (q0, .inl (cI, 48, .inl (fun _ => 0))), (q1, .inl (cI, 12, .inl (fun _ => 0))), (q2, .inl (cI, 12, .inl (fun _ => 0))), (q3, .inl (cI, 12, .inl (fun _ => 0))), (q4, .inl (cI, 12, .inl (fun _ => 0))), (q5, .inl (cI, 12, .inl (fun _ => 0)))] H := hP
  have hD : va_D A [(h0, .inr (3, [.ref q0, .ref q1, .ref q2, .ref q3, .ref q4, .null, .int 0, .int 0])), (q0, .inl (cI, 48, .inl (fun _ => 0))), (q1, .inl (cI, 12, .inl (fun _ => 0))), (q2, .inl (cI, 12, .inl (fun _ => 0))), (q3, .inl (cI, 12, .inl (fun _ => 0))), (q4, .inl (cI, 12, .inl (fun _ => 0))), (q5, .inl (cI, 12, .inl (fun _ => 0)))] := hD
  refine W.widen (k := 6) (n := 108) (Nat.le_of_ble_eq_true rfl) (Nat.le_of_ble_eq_true rfl) ?_
  refine va_putF (D := D) (ci := 3) (v := .ref q5) (ty := .array (.int)) (C := RX4) (T := TX4) (N := 8) hx hb hT mm_hin0.2.2.2.1 tyX4 tyX4_ok nmX4 hown hK hP hD hS 0 rfl rfl 5 (by decide) (hT (.fieldLink RX4 27 "CommaChoir$Tuning" "sets" "[I") (mm_has_in (b := 131) (by decide +kernel))) (fun _ h9 => h9) rfl hin rfl (by decide +kernel) rfl rfl (Nat.le_of_ble_eq_true rfl) (by decide +kernel : decode cX4_init 49 = .ok (.putfield 27, 3)) (fun H locs hP hD hS => ?_)
  have hP : va_P D vwCl [(h0, .inr (3, [.ref q0, .ref q1, .ref q2, .ref q3, .ref q4, .ref q5, .int 0, .int 0])), (q0, .inl (cI, 48, .inl (fun _ => 0))), (q1, .inl (cI, 12, .inl (fun _ => 0))), (q2, .inl (cI, 12, .inl (fun _ => 0))), (q3, .inl (cI, 12, .inl (fun _ => 0))), (q4, .inl (cI, 12, .inl (fun _ => 0))), (q5, .inl (cI, 12, .inl (fun _ => 0)))] H := hP
  have hD : va_D A [(h0, .inr (3, [.ref q0, .ref q1, .ref q2, .ref q3, .ref q4, .ref q5, .int 0, .int 0])), (q0, .inl (cI, 48, .inl (fun _ => 0))), (q1, .inl (cI, 12, .inl (fun _ => 0))), (q2, .inl (cI, 12, .inl (fun _ => 0))), (q3, .inl (cI, 12, .inl (fun _ => 0))), (q4, .inl (cI, 12, .inl (fun _ => 0))), (q5, .inl (cI, 12, .inl (fun _ => 0)))] := hD
  exact W.vret hx hb hr (fun t ht hW => ⟨⟨(), rfl, trivial, q0, q1, q2, q3, q4, q5, by rw [ht]; exact hP, va_K.moved hW.alike hK, hD⟩, hS.F ht⟩) hS.2.2 (by decide +kernel : decode cX4_init 52 = .ok (.return_, 1))
set_option maxHeartbeats 4000000 in
set_option maxRecDepth 100000 in
theorem k_Read (l : Launch) (D : va_G) (cI : ClassId) (h0 sz : Nat) : Met l yCRead (wsC yCRead cX2_init 1) ({ frames := 1, cells := 2, slots := 240, locals := 12 }) (va_Pc [.ref h0] (fun U => U.heap.size = sz ∧ va_P D vwCl [(h0, .inr (1, [.null, .null, .int 0, .int 0, .int 0, .int 0]))] U.heap ∧ va_K D vwCl [(cI, .int)] U ∧ va_D (fun _ => True) [(h0, .inr (1, [.null, .null, .int 0, .int 0, .int 0, .int 0]))])) (va_Qv (fun _ : Unit => True) (fun _ t => ∃ q0 q1 : Nat, va_P D vwCl [(h0, .inr (1, [.ref q0, .ref q1, .int 0, .int 0, .int 0, .int 0])), (q0, .inl (cI, 60, .inl (fun _ => 0))), (q1, .inl (cI, 180, .inl (fun _ => 0)))] t.heap ∧ va_K D vwCl [(cI, .int)] t ∧ va_D (va_A [(h0, .inr (1, [.null, .null, .int 0, .int 0, .int 0, .int 0]))] sz) [(h0, .inr (1, [.ref q0, .ref q1, .int 0, .int 0, .int 0, .int 0])), (q0, .inl (cI, 60, .inl (fun _ => 0))), (q1, .inl (cI, 180, .inl (fun _ => 0)))]) (va_A [(h0, .inr (1, [.null, .null, .int 0, .int 0, .int 0, .int 0]))] sz)) 2 240 (va_A [(h0, .inr (1, [.null, .null, .int 0, .int 0, .int 0, .int 0]))] sz) := by
  refine Met.ofW (cc := cX2_init) (maxL := 1) (ret := none) (by decide +kernel) rfl ?_
  intro p e s m args below meth c s₁ B hml hv
  obtain ⟨rfl, hsz, hP, hK, hD0⟩ := hv
  have hx := B.exec
  have hb := B.bytes
  have hr := B.returns
  have hts := atoms_spec (ws := wsC yCRead cX2_init 1) B.pre
  have hT : ∀ w ∈ mm_T0, w.before _ s = true := fun w hw => hts w (List.mem_cons_of_mem _ hw)
  have hown : s.vm.findClass RX2 = some m.cls := findClass_of_methodNamed B.named
  have hlocks := B.notSynchronized
  have hin : meth.name = "<init>" := (name_of_methodNamed B.named B.method).1
  subst hsz
  have hD := hD0.self (sz := s.heap.size)
  generalize hAe : va_A [(h0, .inr (1, [.null, .null, .int 0, .int 0, .int 0, .int 0]))] s.heap.size = A at hD ⊢
  have hA : ∀ q : Nat, s.heap.size ≤ q → A q := fun q h => by rw [← hAe]; exact Or.inr h
  have hS : va_S A s.heap s.heap [] := va_S.rf
  have hl := lv_entry ([.ref h0]) (n := 1) (Nat.le_of_ble_eq_true rfl)
  rw [lg_entry_eq]
  generalize (lg_sl ([.ref h0]) ++ List.replicate (1 - (lg_sl ([.ref h0])).length) Slot.unset).toArray = ls at hl ⊢
  have hl : lv_has ls 1 [(0, .ref h0)] := hl
  refine lv_aload_n hx hb (by decide +kernel : decode cX2_init 0 = .ok (.aload_n 0, 1)) rfl (lv_at hl 0 rfl) ?_
  refine W.objInit hx hb hown (hT (.methodLink RX2 3 objectInit) (mm_has_in (b := 156) (by decide +kernel))) (hT (.instanceMethod objectInit) (mm_has_in (b := 72) (by decide +kernel))) (hT (.code objectInit ⟨#[0xb1]⟩ 1 none) (mm_has_in (b := 73) (by decide +kernel))) rfl (by rw [hml]; exact hl.1) rfl (by decide +kernel : decode cX2_init 1 = .ok (.invokespecial 3, 3)) (Nat.le_of_ble_eq_true rfl) (Nat.le_of_ble_eq_true rfl) ?_
  refine W.eq (g2 := F0 m 4 ls []) rfl ?_
  refine lv_aload_n hx hb (by decide +kernel : decode cX2_init 4 = .ok (.aload_n 0, 1)) rfl (lv_at hl 0 rfl) ?_
  refine lv_bipush (v := 60) hx hb (by decide +kernel : decode cX2_init 5 = .ok (.bipush 60, 2)) (by decide +kernel) ?_
  refine va_newa (atype := .int) (ty := .int) (a0 := (60, .inl (fun _ => 0))) hx hb (hT (.arrayClass .int) (mm_has_in (b := 106) (by decide +kernel))) rfl hK hP hD hS hA (fun _ => rfl) (by decide +kernel) (by decide +kernel) (Nat.le_of_ble_eq_true rfl) (Nat.le_of_ble_eq_true rfl) (Nat.le_of_ble_eq_true rfl) (by decide +kernel : decode cX2_init 7 = .ok (.newarray .int, 2)) (fun q0 cA H hK2 hP hD hS => ?_)
  obtain rfl : cI = cA := Option.some.inj ((hK.2 0 _ rfl).2.symm.trans (hK2.2 1 _ rfl).2)
  clear hK2
  have hP : va_P D vwCl [(h0, .inr (1, [.null, .null, .int 0, .int 0, .int 0, .int 0])), (q0, .inl (cI, 60, .inl (fun _ => 0)))] H := hP
  have hD : va_D A [(h0, .inr (1, [.null, .null, .int 0, .int 0, .int 0, .int 0])), (q0, .inl (cI, 60, .inl (fun _ => 0)))] := hD
  refine W.widen (k := 1) (n := 60) (Nat.le_of_ble_eq_true rfl) (Nat.le_of_ble_eq_true rfl) ?_
  refine va_putF (D := D) (ci := 1) (v := .ref q0) (ty := .array (.int)) (C := RX2) (T := TX2) (N := 6) hx hb hT mm_hin0.2.1 tyX2 tyX2_ok nmX2 hown hK hP hD hS 0 rfl rfl 0 (by decide) (hT (.fieldLink RX2 11 "CommaChoir$Reader" "letters" "[I") (mm_has_in (b := 157) (by decide +kernel))) (fun _ h9 => h9) rfl hin rfl (by decide +kernel) rfl rfl (Nat.le_of_ble_eq_true rfl) (by decide +kernel : decode cX2_init 9 = .ok (.putfield 11, 3)) (fun H locs hP hD hS => ?_)
  have hP : va_P D vwCl [(h0, .inr (1, [.ref q0, .null, .int 0, .int 0, .int 0, .int 0])), (q0, .inl (cI, 60, .inl (fun _ => 0)))] H := hP
  have hD : va_D A [(h0, .inr (1, [.ref q0, .null, .int 0, .int 0, .int 0, .int 0])), (q0, .inl (cI, 60, .inl (fun _ => 0)))] := hD
  refine lv_aload_n hx hb (by decide +kernel : decode cX2_init 12 = .ok (.aload_n 0, 1)) rfl (lv_at hl 0 rfl) ?_
  refine lv_sipush (v := 180) hx hb (by decide +kernel : decode cX2_init 13 = .ok (.sipush 180, 3)) (by decide +kernel) ?_
  refine va_newa (atype := .int) (ty := .int) (a0 := (180, .inl (fun _ => 0))) hx hb (hT (.arrayClass .int) (mm_has_in (b := 106) (by decide +kernel))) rfl hK hP hD hS hA (fun _ => rfl) (by decide +kernel) (by decide +kernel) (Nat.le_of_ble_eq_true rfl) (Nat.le_of_ble_eq_true rfl) (Nat.le_of_ble_eq_true rfl) (by decide +kernel : decode cX2_init 16 = .ok (.newarray .int, 2)) (fun q1 cA H hK2 hP hD hS => ?_)
  obtain rfl : cI = cA := Option.some.inj ((hK.2 0 _ rfl).2.symm.trans (hK2.2 1 _ rfl).2)
  clear hK2
  have hP : va_P D vwCl [(h0, .inr (1, [.ref q0, .null, .int 0, .int 0, .int 0, .int 0])), (q0, .inl (cI, 60, .inl (fun _ => 0))), (q1, .inl (cI, 180, .inl (fun _ => 0)))] H := hP
  have hD : va_D A [(h0, .inr (1, [.ref q0, .null, .int 0, .int 0, .int 0, .int 0])), (q0, .inl (cI, 60, .inl (fun _ => 0))), (q1, .inl (cI, 180, .inl (fun _ => 0)))] := hD
  refine W.widen (k := 2) (n := 240) (Nat.le_of_ble_eq_true rfl) (Nat.le_of_ble_eq_true rfl) ?_
  refine va_putF (D := D) (ci := 1) (v := .ref q1) (ty := .array (.int)) (C := RX2) (T := TX2) (N := 6) hx hb hT mm_hin0.2.1 tyX2 tyX2_ok nmX2 hown hK hP hD hS 0 rfl rfl 1 (by decide) (hT (.fieldLink RX2 15 "CommaChoir$Reader" "numbers" "[I") (mm_has_in (b := 158) (by decide +kernel))) (fun _ h9 => h9) rfl hin rfl (by decide +kernel) rfl rfl (Nat.le_of_ble_eq_true rfl) (by decide +kernel : decode cX2_init 18 = .ok (.putfield 15, 3)) (fun H locs hP hD hS => ?_)
  have hP : va_P D vwCl [(h0, .inr (1, [.ref q0, .ref q1, .int 0, .int 0, .int 0, .int 0])), (q0, .inl (cI, 60, .inl (fun _ => 0))), (q1, .inl (cI, 180, .inl (fun _ => 0)))] H := hP
  have hD : va_D A [(h0, .inr (1, [.ref q0, .ref q1, .int 0, .int 0, .int 0, .int 0])), (q0, .inl (cI, 60, .inl (fun _ => 0))), (q1, .inl (cI, 180, .inl (fun _ => 0)))] := hD
  exact W.vret hx hb hr (fun t ht hW => ⟨⟨(), rfl, trivial, q0, q1, by rw [ht]; exact hP, va_K.moved hW.alike hK, hD⟩, hS.F ht⟩) hS.2.2 (by decide +kernel : decode cX2_init 21 = .ok (.return_, 1))
