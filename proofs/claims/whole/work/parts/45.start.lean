set_option maxHeartbeats 8000000 in
set_option maxRecDepth 100000 in
theorem whole_start {p : Program} {e : Env} {s : State} {m : MethodId} {below : List Frame} {meth : Method} {c : Code} (l : Launch) (hflags : l.flags = flags0) {b L : Nat} {xs : Nat → Int32} (hL : L ≤ 2560) (C0 : lw_At p s m meth c b L xs) : W p l e room_1 s m #[Value.ref b] below meth c s.heap [] 0 0 (lw_Z below #[Value.ref b] s) (entryFrame m ([Value.ref b] : List Value).toArray 4) := by
  obtain ⟨hx, hb, hr, hml, hown, hts, hX, hbl, hlocks, hgv⟩ := id C0
  have hT : ∀ w ∈ mm_T0, w.before #[Value.ref b] s = true := fun w hw => hts w (List.mem_filter.mp hw).1
  have hs := flat_of_before _ hgv
  have hAO : va_AO RX3 s := va_AO.of (hts (.arrayOver (.object RX3)) (List.mem_of_getElem? (i := 81) (by decide +kernel)))
  obtain ⟨A, hAd⟩ : ∃ A : Nat → Prop, A = fun q => s.heap.size ≤ q := ⟨_, rfl⟩
  have hA : ∀ q : Nat, s.heap.size ≤ q → A q := fun q h => by rw [hAd]; exact h
  have hA2 : ∀ a : Nat, a < s.heap.size → ¬ A a := fun a h => by rw [hAd]; exact Nat.not_le.mpr h
  have hA3 : ∀ q : Nat, A q → s.heap.size ≤ q := fun q h => by rw [hAd] at h; exact h
  clear hAd
  obtain ⟨cI, kA, comp, i1, i2, i3⟩ := Cond.arrayClass_spec (hT (.arrayClass .int) (mm_has_in (b := 106) (by decide +kernel)))
  obtain ⟨c0, iS0, hKn0⟩ := u_known (C := RX0) (T := TX0) (N := 4) (n := 4) hT mm_hin0.1 (hT (.instantiable RX0 4) (mm_has_in (b := 75) (by decide +kernel)))
  obtain ⟨c1, iS1, hKn1⟩ := u_known (C := RX2) (T := TX2) (N := 6) (n := 6) hT mm_hin0.2.1 (hT (.instantiable RX2 6) (mm_has_in (b := 152) (by decide +kernel)))
  obtain ⟨c2, iS2, hKn2⟩ := u_known (C := RX3) (T := TX3) (N := 6) (n := 6) hT mm_hin0.2.2.1 (hT (.instantiable RX3 6) (mm_has_in (b := 82) (by decide +kernel)))
  obtain ⟨c3, iS3, hKn3⟩ := u_known (C := RX4) (T := TX4) (N := 8) (n := 8) hT mm_hin0.2.2.2.1 (hT (.instantiable RX4 8) (mm_has_in (b := 121) (by decide +kernel)))
  obtain ⟨c4, iS4, hKn4⟩ := u_known (C := RX5) (T := TX5) (N := 8) (n := 8) hT mm_hin0.2.2.2.2.1 (hT (.instantiable RX5 8) (mm_has_in (b := 67) (by decide +kernel)))
  obtain ⟨c5, iS5, hKn5⟩ := u_known (C := RX6) (T := TX6) (N := 19) (n := 19) hT mm_hin0.2.2.2.2.2 (hT (.instantiable RX6 19) (mm_has_in (b := 647) (by decide +kernel)))
  obtain ⟨D, hKc⟩ : ∃ D : va_G, ∀ (k : Nat) (q : vw_C), vwCl[k]? = some q → u_Kn s q.1 q.2.1 q.2.2 (D.1 k) (D.2 k) := by
    refine ⟨(fun k => if k = 0 then c0 else if k = 1 then c1 else if k = 2 then c2 else if k = 3 then c3 else if k = 4 then c4 else c5, fun k => if k = 0 then iS0 else if k = 1 then iS1 else if k = 2 then iS2 else if k = 3 then iS3 else if k = 4 then iS4 else iS5), ?_⟩
    intro k q hq
    match k, hq with
    | 0, hq => cases hq; exact hKn0
    | 1, hq => cases hq; exact hKn1
    | 2, hq => cases hq; exact hKn2
    | 3, hq => cases hq; exact hKn3
    | 4, hq => cases hq; exact hKn4
    | 5, hq => cases hq; exact hKn5
    | k + 6, hq => simp [vwCl] at hq
  have hK : va_K D vwCl [(cI, .int)] s := ⟨hKc, fun k q h => by
    match k, h with
    | 0, h => cases h; exact ⟨fun n z => ⟨fun k h => (by cases h), kA, i2, comp, i3⟩, i1⟩
    | k + 1, h => simp at h⟩
  have hP : va_P D vwCl [] s.heap := fun k q h => by simp at h
  have hD : va_D A [] := ⟨fun i j p q h => by simp at h, fun k q h => by simp at h⟩
  have hS : va_S A s.heap s.heap [] := va_S.rf
  -- the tables that stand
  obtain ⟨t63, v63, T63⟩ := va_Tof (tm := .static "CommaChoir$Ratios" "PRIMES" "[I") (ty := .int) (N := 4) (f := fun j => .int (mm_ro (L, xs) 63 j)) (A := A) (by omega) (hs (.arrayOf (.static "CommaChoir$Ratios" "PRIMES" "[I") .int) (by decide +kernel)) (va_eqt (hs (.eq (.length (.static "CommaChoir$Ratios" "PRIMES" "[I")) (.int 4)) (by decide +kernel))) (fun j hj => by
    rcases (show j = 0 ∨ j = 1 ∨ j = 2 ∨ j = 3 by omega) with rfl | rfl | rfl | rfl
    · exact va_eqt (hs (.eq (.elem (.static "CommaChoir$Ratios" "PRIMES" "[I") (.int 0)) (.int 2)) (by decide +kernel))
    · exact va_eqt (hs (.eq (.elem (.static "CommaChoir$Ratios" "PRIMES" "[I") (.int 1)) (.int 3)) (by decide +kernel))
    · exact va_eqt (hs (.eq (.elem (.static "CommaChoir$Ratios" "PRIMES" "[I") (.int 2)) (.int 5)) (by decide +kernel))
    · exact va_eqt (hs (.eq (.elem (.static "CommaChoir$Ratios" "PRIMES" "[I") (.int 3)) (.int 7)) (by decide +kernel))) hA2
  obtain ⟨t64, v64, T64⟩ := va_Tof (tm := .static "CommaChoir$Ratios" "PRIME_SIZES" "[I") (ty := .int) (N := 4) (f := fun j => .int (mm_ro (L, xs) 64 j)) (A := A) (by omega) (hs (.arrayOf (.static "CommaChoir$Ratios" "PRIME_SIZES" "[I") .int) (by decide +kernel)) (va_eqt (hs (.eq (.length (.static "CommaChoir$Ratios" "PRIME_SIZES" "[I")) (.int 4)) (by decide +kernel))) (fun j hj => by
    rcases (show j = 0 ∨ j = 1 ∨ j = 2 ∨ j = 3 by omega) with rfl | rfl | rfl | rfl
    · exact va_eqt (hs (.eq (.elem (.static "CommaChoir$Ratios" "PRIME_SIZES" "[I") (.int 0)) (.int 120000)) (by decide +kernel))
    · exact va_eqt (hs (.eq (.elem (.static "CommaChoir$Ratios" "PRIME_SIZES" "[I") (.int 1)) (.int 190196)) (by decide +kernel))
    · exact va_eqt (hs (.eq (.elem (.static "CommaChoir$Ratios" "PRIME_SIZES" "[I") (.int 2)) (.int 278631)) (by decide +kernel))
    · exact va_eqt (hs (.eq (.elem (.static "CommaChoir$Ratios" "PRIME_SIZES" "[I") (.int 3)) (.int 336883)) (by decide +kernel))) hA2
  have Z63 : va_Z "CommaChoir$Ratios" "PRIMES" "[I" (.ref t63) A s s.heap := va_Zof (hts (.laysStatic "CommaChoir$Ratios" "PRIMES" "[I") (List.mem_of_getElem? (i := 346) (by decide +kernel))) (hT (.initialized "CommaChoir$Ratios") (mm_has_in (b := 64) (by decide +kernel))) v63 hA2
  have Z64 : va_Z "CommaChoir$Ratios" "PRIME_SIZES" "[I" (.ref t64) A s s.heap := va_Zof (hts (.laysStatic "CommaChoir$Ratios" "PRIME_SIZES" "[I") (List.mem_of_getElem? (i := 310) (by decide +kernel))) (hT (.initialized "CommaChoir$Ratios") (mm_has_in (b := 64) (by decide +kernel))) v64 hA2
  have T65 : va_T .int b L (fun j => .int (xs j)) A s s.heap := by
    obtain ⟨scr, x1, x2, x3, x4, x5⟩ := hX
    exact ⟨scr, x1, x2, x3, by omega, by rw [x4], x5, hA2 b hbl⟩
  have hNw : va_Nw (.methodLinkNest "CommaChoir$Score" 64 ⟨"CommaChoir", "isWithin", "(II)Z"⟩ "CommaChoir") s := va_Nw.of (by decide +kernel) (hts (.methodLinkNest "CommaChoir$Score" 64 ⟨"CommaChoir", "isWithin", "(II)Z"⟩ "CommaChoir") (List.mem_of_getElem? (i := 264) (by decide +kernel)))
  have hl := lv_entry ([.ref b]) (n := 4) (Nat.le_of_ble_eq_true rfl)
  rw [lg_entry_eq]
  generalize (lg_sl ([.ref b]) ++ List.replicate (4 - (lg_sl ([.ref b])).length) Slot.unset).toArray = ls at hl ⊢
  have hl : lv_has ls 4 [(0, .ref b)] := hl
  refine va_new (ci := 4) (fs := [.null, .null, .null, .null, .int 0, .int 0, .int 0, .int 0]) (C := RX5) (T := TX5) (N := 8) hx hb hT mm_hin0.2.2.2.2.1 tyX5 tyX5_ok hown (hT (.classLink R_law 7 RX5) (mm_has_in (b := 66) (by decide +kernel))) (hT (.instantiable RX5 8) (mm_has_in (b := 67) (by decide +kernel))) (hT (.initialized RX5) (mm_has_in (b := 57) (by decide +kernel))) hK hP hD hS hA rfl (fun j hj => by rcases (show j = 0 ∨ j = 1 ∨ j = 2 ∨ j = 3 ∨ j = 4 ∨ j = 5 ∨ j = 6 ∨ j = 7 by omega) with rfl | rfl | rfl | rfl | rfl | rfl | rfl | rfl <;> rfl) (Nat.le_of_ble_eq_true rfl) (Nat.le_of_ble_eq_true rfl) (by decide +kernel : decode code 0 = .ok (.new 7, 3)) (fun q0 H hP hD hS => ?_)
  have hP : va_P D vwCl [(q0, .inr (4, [.null, .null, .null, .null, .int 0, .int 0, .int 0, .int 0]))] H := hP
  have hD : va_D A [(q0, .inr (4, [.null, .null, .null, .null, .int 0, .int 0, .int 0, .int 0]))] := hD
  refine W.widen (k := 1) (n := 8) (Nat.le_of_ble_eq_true rfl) (Nat.le_of_ble_eq_true rfl) ?_
  refine lv_dup hx hb (by decide +kernel : decode code 3 = .ok (.dup, 1)) rfl ?_
  have hPc := hP.sub (ws' := [(q0, .inr (4, [.null, .null, .null, .null, .int 0, .int 0, .int 0, .int 0]))]) [0] rfl
  have hDc := hD.sub (ws' := [(q0, .inr (4, [.null, .null, .null, .null, .int 0, .int 0, .int 0, .int 0]))]) [0] (by decide) rfl
  have hKc := hK.sub (tys' := [(cI, .int)]) [0] rfl
  have hFc := va_free (wc := [(q0, .inr (4, [.null, .null, .null, .null, .int 0, .int 0, .int 0, .int 0]))]) hD hS hA [0] rfl
  refine va_callv (va_runI (As := []) (rest := [.ref q0]) ⟨hx, hb, hml, hown, hT⟩ (k_Choi l D cI q0 H.size) (cwI 0 hT (wsC_good (mm_has_in (b := 70) (by decide +kernel))) rfl rfl rfl (hT (.initialized RX5) (mm_has_in (b := 57) (by decide +kernel))) (hT (.methodLink R_law 9 yCChoi) (mm_has_in (b := 68) (by decide +kernel))) (hT (.instanceMethod yCChoi) (mm_has_in (b := 69) (by decide +kernel))) rfl (by decide +kernel) ⟨Nat.le_of_ble_eq_true rfl, Nat.le_of_ble_eq_true rfl⟩) ⟨fun a U g mk q => by obtain ⟨q0, q1, qP, qK, qD, qO⟩ := q; exact ⟨q0, q1, qP, va_K.moved (u := U) (U := U.calling g mk a) (Vm.Alike.refl U.vm) qK, qD, va_AO.moved (u := U) (U := U.calling g mk a) (Vm.Alike.refl U.vm) qO⟩, fun U hU hW => ⟨rfl, by rw [hU], by rw [hU]; exact hPc, va_K.moved hW.alike hKc, hDc.weaken (fun _ _ _ _ => trivial), hAO.moved hW.alike⟩⟩ rfl rfl hl.1 rfl (lv_room (Nat.le_of_ble_eq_true rfl)) (by decide +kernel : decode code 4 = .ok (.invokespecial 9, 3)) ⟨Nat.le_of_ble_eq_true rfl, Nat.le_of_ble_eq_true rfl⟩) hS (fun q _ h => hFc q h) hFc (fun u t H1 locs ht hvm hw hB hz1 hk1 hS => ?_)
  obtain ⟨cS, q1, q2, q3, q4, q5, q6, q7, q8, q9, q10, q11, q12, q13, q14, q15, q16, q17, q18, q19, q20, q21, q22, q23, q24, q25, q26, q27, q28, q29, q30, q31, q32, q33, q34, q35, q36, q37, q38, q39, q40, q41, q42, q43, q44, q45, q46, q47, q48, hP1, hK1, hD1⟩ := hB
  rw [ht] at hP1
  have hK1 := va_K.moved hvm.symm hK1
  have hK := (hK.sub (tys' := [(cI, .int)]) [0] rfl).app (hK1.sub (tys' := [(cS, .object RX3)]) [1] rfl)
  obtain ⟨hP, hD⟩ := va_join (wr := []) (w1 := [(q0, .inr (4, [.ref q1, .ref q38, .ref q45, .ref q48, .int 0, .int 0, .int 0, .int 0])), (q1, .inr (0, [.ref q2, .int 0, .ref q28, .ref q33])), (q2, .inl (cS, 5, .inr (.inr (.inr (.inr (va_up (va_up (va_up (va_up (va_up (fun _ => none) 0 (some q3)) 1 (some q8)) 2 (some q13)) 3 (some q18)) 4 (some q23))))))), (q3, .inr (2, [.ref q4, .ref q5, .ref q6, .ref q7, .int 0, .int 2000])), (q4, .inl (cI, 12, .inl (fun _ => 0))), (q5, .inl (cI, 240, .inl (fun _ => 0))), (q6, .inl (cI, 12, .inl (fun _ => 0))), (q7, .inl (cI, 12, .inl (fun _ => 0))), (q8, .inr (2, [.ref q9, .ref q10, .ref q11, .ref q12, .int 0, .int 2000])), (q9, .inl (cI, 12, .inl (fun _ => 0))), (q10, .inl (cI, 240, .inl (fun _ => 0))), (q11, .inl (cI, 12, .inl (fun _ => 0))), (q12, .inl (cI, 12, .inl (fun _ => 0))), (q13, .inr (2, [.ref q14, .ref q15, .ref q16, .ref q17, .int 0, .int 2000])), (q14, .inl (cI, 12, .inl (fun _ => 0))), (q15, .inl (cI, 240, .inl (fun _ => 0))), (q16, .inl (cI, 12, .inl (fun _ => 0))), (q17, .inl (cI, 12, .inl (fun _ => 0))), (q18, .inr (2, [.ref q19, .ref q20, .ref q21, .ref q22, .int 0, .int 2000])), (q19, .inl (cI, 12, .inl (fun _ => 0))), (q20, .inl (cI, 240, .inl (fun _ => 0))), (q21, .inl (cI, 12, .inl (fun _ => 0))), (q22, .inl (cI, 12, .inl (fun _ => 0))), (q23, .inr (2, [.ref q24, .ref q25, .ref q26, .ref q27, .int 0, .int 2000])), (q24, .inl (cI, 12, .inl (fun _ => 0))), (q25, .inl (cI, 240, .inl (fun _ => 0))), (q26, .inl (cI, 12, .inl (fun _ => 0))), (q27, .inl (cI, 12, .inl (fun _ => 0))), (q28, .inr (2, [.ref q29, .ref q30, .ref q31, .ref q32, .int 0, .int 2000])), (q29, .inl (cI, 12, .inl (fun _ => 0))), (q30, .inl (cI, 240, .inl (fun _ => 0))), (q31, .inl (cI, 12, .inl (fun _ => 0))), (q32, .inl (cI, 12, .inl (fun _ => 0))), (q33, .inr (2, [.ref q34, .ref q35, .ref q36, .ref q37, .int 0, .int 2000])), (q34, .inl (cI, 12, .inl (fun _ => 0))), (q35, .inl (cI, 240, .inl (fun _ => 0))), (q36, .inl (cI, 12, .inl (fun _ => 0))), (q37, .inl (cI, 12, .inl (fun _ => 0))), (q38, .inr (3, [.ref q39, .ref q40, .ref q41, .ref q42, .ref q43, .ref q44, .int 0, .int 0])), (q39, .inl (cI, 48, .inl (fun _ => 0))), (q40, .inl (cI, 12, .inl (fun _ => 0))), (q41, .inl (cI, 12, .inl (fun _ => 0))), (q42, .inl (cI, 12, .inl (fun _ => 0))), (q43, .inl (cI, 12, .inl (fun _ => 0))), (q44, .inl (cI, 12, .inl (fun _ => 0))), (q45, .inr (1, [.ref q46, .ref q47, .int 0, .int 0, .int 0, .int 0])), (q46, .inl (cI, 60, .inl (fun _ => 0))), (q47, .inl (cI, 180, .inl (fun _ => 0))), (q48, .inl (cI, 120, .inl (fun _ => 0)))]) hP hD [0] [] rfl rfl (by decide) (by decide) hk1 hFc hP1 hD1
  generalize H1 = H at hP hS ⊢
  have hP : va_P D vwCl [(q0, .inr (4, [.ref q1, .ref q38, .ref q45, .ref q48, .int 0, .int 0, .int 0, .int 0])), (q1, .inr (0, [.ref q2, .int 0, .ref q28, .ref q33])), (q2, .inl (cS, 5, .inr (.inr (.inr (.inr (va_up (va_up (va_up (va_up (va_up (fun _ => none) 0 (some q3)) 1 (some q8)) 2 (some q13)) 3 (some q18)) 4 (some q23))))))), (q3, .inr (2, [.ref q4, .ref q5, .ref q6, .ref q7, .int 0, .int 2000])), (q4, .inl (cI, 12, .inl (fun _ => 0))), (q5, .inl (cI, 240, .inl (fun _ => 0))), (q6, .inl (cI, 12, .inl (fun _ => 0))), (q7, .inl (cI, 12, .inl (fun _ => 0))), (q8, .inr (2, [.ref q9, .ref q10, .ref q11, .ref q12, .int 0, .int 2000])), (q9, .inl (cI, 12, .inl (fun _ => 0))), (q10, .inl (cI, 240, .inl (fun _ => 0))), (q11, .inl (cI, 12, .inl (fun _ => 0))), (q12, .inl (cI, 12, .inl (fun _ => 0))), (q13, .inr (2, [.ref q14, .ref q15, .ref q16, .ref q17, .int 0, .int 2000])), (q14, .inl (cI, 12, .inl (fun _ => 0))), (q15, .inl (cI, 240, .inl (fun _ => 0))), (q16, .inl (cI, 12, .inl (fun _ => 0))), (q17, .inl (cI, 12, .inl (fun _ => 0))), (q18, .inr (2, [.ref q19, .ref q20, .ref q21, .ref q22, .int 0, .int 2000])), (q19, .inl (cI, 12, .inl (fun _ => 0))), (q20, .inl (cI, 240, .inl (fun _ => 0))), (q21, .inl (cI, 12, .inl (fun _ => 0))), (q22, .inl (cI, 12, .inl (fun _ => 0))), (q23, .inr (2, [.ref q24, .ref q25, .ref q26, .ref q27, .int 0, .int 2000])), (q24, .inl (cI, 12, .inl (fun _ => 0))), (q25, .inl (cI, 240, .inl (fun _ => 0))), (q26, .inl (cI, 12, .inl (fun _ => 0))), (q27, .inl (cI, 12, .inl (fun _ => 0))), (q28, .inr (2, [.ref q29, .ref q30, .ref q31, .ref q32, .int 0, .int 2000])), (q29, .inl (cI, 12, .inl (fun _ => 0))), (q30, .inl (cI, 240, .inl (fun _ => 0))), (q31, .inl (cI, 12, .inl (fun _ => 0))), (q32, .inl (cI, 12, .inl (fun _ => 0))), (q33, .inr (2, [.ref q34, .ref q35, .ref q36, .ref q37, .int 0, .int 2000])), (q34, .inl (cI, 12, .inl (fun _ => 0))), (q35, .inl (cI, 240, .inl (fun _ => 0))), (q36, .inl (cI, 12, .inl (fun _ => 0))), (q37, .inl (cI, 12, .inl (fun _ => 0))), (q38, .inr (3, [.ref q39, .ref q40, .ref q41, .ref q42, .ref q43, .ref q44, .int 0, .int 0])), (q39, .inl (cI, 48, .inl (fun _ => 0))), (q40, .inl (cI, 12, .inl (fun _ => 0))), (q41, .inl (cI, 12, .inl (fun _ => 0))), (q42, .inl (cI, 12, .inl (fun _ => 0))), (q43, .inl (cI, 12, .inl (fun _ => 0))), (q44, .inl (cI, 12, .inl (fun _ => 0))), (q45, .inr (1, [.ref q46, .ref q47, .int 0, .int 0, .int 0, .int 0])), (q46, .inl (cI, 60, .inl (fun _ => 0))), (q47, .inl (cI, 180, .inl (fun _ => 0))), (q48, .inl (cI, 120, .inl (fun _ => 0)))] H := hP
  have hD : va_D A [(q0, .inr (4, [.ref q1, .ref q38, .ref q45, .ref q48, .int 0, .int 0, .int 0, .int 0])), (q1, .inr (0, [.ref q2, .int 0, .ref q28, .ref q33])), (q2, .inl (cS, 5, .inr (.inr (.inr (.inr (va_up (va_up (va_up (va_up (va_up (fun _ => none) 0 (some q3)) 1 (some q8)) 2 (some q13)) 3 (some q18)) 4 (some q23))))))), (q3, .inr (2, [.ref q4, .ref q5, .ref q6, .ref q7, .int 0, .int 2000])), (q4, .inl (cI, 12, .inl (fun _ => 0))), (q5, .inl (cI, 240, .inl (fun _ => 0))), (q6, .inl (cI, 12, .inl (fun _ => 0))), (q7, .inl (cI, 12, .inl (fun _ => 0))), (q8, .inr (2, [.ref q9, .ref q10, .ref q11, .ref q12, .int 0, .int 2000])), (q9, .inl (cI, 12, .inl (fun _ => 0))), (q10, .inl (cI, 240, .inl (fun _ => 0))), (q11, .inl (cI, 12, .inl (fun _ => 0))), (q12, .inl (cI, 12, .inl (fun _ => 0))), (q13, .inr (2, [.ref q14, .ref q15, .ref q16, .ref q17, .int 0, .int 2000])), (q14, .inl (cI, 12, .inl (fun _ => 0))), (q15, .inl (cI, 240, .inl (fun _ => 0))), (q16, .inl (cI, 12, .inl (fun _ => 0))), (q17, .inl (cI, 12, .inl (fun _ => 0))), (q18, .inr (2, [.ref q19, .ref q20, .ref q21, .ref q22, .int 0, .int 2000])), (q19, .inl (cI, 12, .inl (fun _ => 0))), (q20, .inl (cI, 240, .inl (fun _ => 0))), (q21, .inl (cI, 12, .inl (fun _ => 0))), (q22, .inl (cI, 12, .inl (fun _ => 0))), (q23, .inr (2, [.ref q24, .ref q25, .ref q26, .ref q27, .int 0, .int 2000])), (q24, .inl (cI, 12, .inl (fun _ => 0))), (q25, .inl (cI, 240, .inl (fun _ => 0))), (q26, .inl (cI, 12, .inl (fun _ => 0))), (q27, .inl (cI, 12, .inl (fun _ => 0))), (q28, .inr (2, [.ref q29, .ref q30, .ref q31, .ref q32, .int 0, .int 2000])), (q29, .inl (cI, 12, .inl (fun _ => 0))), (q30, .inl (cI, 240, .inl (fun _ => 0))), (q31, .inl (cI, 12, .inl (fun _ => 0))), (q32, .inl (cI, 12, .inl (fun _ => 0))), (q33, .inr (2, [.ref q34, .ref q35, .ref q36, .ref q37, .int 0, .int 2000])), (q34, .inl (cI, 12, .inl (fun _ => 0))), (q35, .inl (cI, 240, .inl (fun _ => 0))), (q36, .inl (cI, 12, .inl (fun _ => 0))), (q37, .inl (cI, 12, .inl (fun _ => 0))), (q38, .inr (3, [.ref q39, .ref q40, .ref q41, .ref q42, .ref q43, .ref q44, .int 0, .int 0])), (q39, .inl (cI, 48, .inl (fun _ => 0))), (q40, .inl (cI, 12, .inl (fun _ => 0))), (q41, .inl (cI, 12, .inl (fun _ => 0))), (q42, .inl (cI, 12, .inl (fun _ => 0))), (q43, .inl (cI, 12, .inl (fun _ => 0))), (q44, .inl (cI, 12, .inl (fun _ => 0))), (q45, .inr (1, [.ref q46, .ref q47, .int 0, .int 0, .int 0, .int 0])), (q46, .inl (cI, 60, .inl (fun _ => 0))), (q47, .inl (cI, 180, .inl (fun _ => 0))), (q48, .inl (cI, 120, .inl (fun _ => 0)))] := hD
  refine W.widen (k := 49) (n := 2473) (Nat.le_of_ble_eq_true rfl) (Nat.le_of_ble_eq_true rfl) ?_
  refine lv_astore_n (lv' := [(1, .ref q0), (0, .ref b)]) hx hb (by decide +kernel : decode code 7 = .ok (.astore_n 1, 1)) rfl hl (by decide) rfl (fun ls hl => ?_)
  refine va_new (ci := 5) (fs := [.null, .null, .null, .int 0, .null, .null, .int 0, .null, .null, .null, .null, .null, .null, .int 0, .int 0, .int 0, .null, .null, .long 0]) (C := RX6) (T := TX6) (N := 19) hx hb hT mm_hin0.2.2.2.2.2 tyX6 tyX6_ok hown (hT (.classLink R_law 10 RX6) (mm_has_in (b := 646) (by decide +kernel))) (hT (.instantiable RX6 19) (mm_has_in (b := 647) (by decide +kernel))) (hT (.initialized RX6) (mm_has_in (b := 62) (by decide +kernel))) hK hP hD hS hA rfl (fun j hj => by rcases (show j = 0 ∨ j = 1 ∨ j = 2 ∨ j = 3 ∨ j = 4 ∨ j = 5 ∨ j = 6 ∨ j = 7 ∨ j = 8 ∨ j = 9 ∨ j = 10 ∨ j = 11 ∨ j = 12 ∨ j = 13 ∨ j = 14 ∨ j = 15 ∨ j = 16 ∨ j = 17 ∨ j = 18 by omega) with rfl | rfl | rfl | rfl | rfl | rfl | rfl | rfl | rfl | rfl | rfl | rfl | rfl | rfl | rfl | rfl | rfl | rfl | rfl <;> rfl) (Nat.le_of_ble_eq_true rfl) (Nat.le_of_ble_eq_true rfl) (by decide +kernel : decode code 8 = .ok (.new 10, 3)) (fun q49 H hP hD hS => ?_)
  have hP : va_P D vwCl [(q0, .inr (4, [.ref q1, .ref q38, .ref q45, .ref q48, .int 0, .int 0, .int 0, .int 0])), (q1, .inr (0, [.ref q2, .int 0, .ref q28, .ref q33])), (q2, .inl (cS, 5, .inr (.inr (.inr (.inr (va_up (va_up (va_up (va_up (va_up (fun _ => none) 0 (some q3)) 1 (some q8)) 2 (some q13)) 3 (some q18)) 4 (some q23))))))), (q3, .inr (2, [.ref q4, .ref q5, .ref q6, .ref q7, .int 0, .int 2000])), (q4, .inl (cI, 12, .inl (fun _ => 0))), (q5, .inl (cI, 240, .inl (fun _ => 0))), (q6, .inl (cI, 12, .inl (fun _ => 0))), (q7, .inl (cI, 12, .inl (fun _ => 0))), (q8, .inr (2, [.ref q9, .ref q10, .ref q11, .ref q12, .int 0, .int 2000])), (q9, .inl (cI, 12, .inl (fun _ => 0))), (q10, .inl (cI, 240, .inl (fun _ => 0))), (q11, .inl (cI, 12, .inl (fun _ => 0))), (q12, .inl (cI, 12, .inl (fun _ => 0))), (q13, .inr (2, [.ref q14, .ref q15, .ref q16, .ref q17, .int 0, .int 2000])), (q14, .inl (cI, 12, .inl (fun _ => 0))), (q15, .inl (cI, 240, .inl (fun _ => 0))), (q16, .inl (cI, 12, .inl (fun _ => 0))), (q17, .inl (cI, 12, .inl (fun _ => 0))), (q18, .inr (2, [.ref q19, .ref q20, .ref q21, .ref q22, .int 0, .int 2000])), (q19, .inl (cI, 12, .inl (fun _ => 0))), (q20, .inl (cI, 240, .inl (fun _ => 0))), (q21, .inl (cI, 12, .inl (fun _ => 0))), (q22, .inl (cI, 12, .inl (fun _ => 0))), (q23, .inr (2, [.ref q24, .ref q25, .ref q26, .ref q27, .int 0, .int 2000])), (q24, .inl (cI, 12, .inl (fun _ => 0))), (q25, .inl (cI, 240, .inl (fun _ => 0))), (q26, .inl (cI, 12, .inl (fun _ => 0))), (q27, .inl (cI, 12, .inl (fun _ => 0))), (q28, .inr (2, [.ref q29, .ref q30, .ref q31, .ref q32, .int 0, .int 2000])), (q29, .inl (cI, 12, .inl (fun _ => 0))), (q30, .inl (cI, 240, .inl (fun _ => 0))), (q31, .inl (cI, 12, .inl (fun _ => 0))), (q32, .inl (cI, 12, .inl (fun _ => 0))), (q33, .inr (2, [.ref q34, .ref q35, .ref q36, .ref q37, .int 0, .int 2000])), (q34, .inl (cI, 12, .inl (fun _ => 0))), (q35, .inl (cI, 240, .inl (fun _ => 0))), (q36, .inl (cI, 12, .inl (fun _ => 0))), (q37, .inl (cI, 12, .inl (fun _ => 0))), (q38, .inr (3, [.ref q39, .ref q40, .ref q41, .ref q42, .ref q43, .ref q44, .int 0, .int 0])), (q39, .inl (cI, 48, .inl (fun _ => 0))), (q40, .inl (cI, 12, .inl (fun _ => 0))), (q41, .inl (cI, 12, .inl (fun _ => 0))), (q42, .inl (cI, 12, .inl (fun _ => 0))), (q43, .inl (cI, 12, .inl (fun _ => 0))), (q44, .inl (cI, 12, .inl (fun _ => 0))), (q45, .inr (1, [.ref q46, .ref q47, .int 0, .int 0, .int 0, .int 0])), (q46, .inl (cI, 60, .inl (fun _ => 0))), (q47, .inl (cI, 180, .inl (fun _ => 0))), (q48, .inl (cI, 120, .inl (fun _ => 0))), (q49, .inr (5, [.null, .null, .null, .int 0, .null, .null, .int 0, .null, .null, .null, .null, .null, .null, .int 0, .int 0, .int 0, .null, .null, .long 0]))] H := hP
  have hD : va_D A [(q0, .inr (4, [.ref q1, .ref q38, .ref q45, .ref q48, .int 0, .int 0, .int 0, .int 0])), (q1, .inr (0, [.ref q2, .int 0, .ref q28, .ref q33])), (q2, .inl (cS, 5, .inr (.inr (.inr (.inr (va_up (va_up (va_up (va_up (va_up (fun _ => none) 0 (some q3)) 1 (some q8)) 2 (some q13)) 3 (some q18)) 4 (some q23))))))), (q3, .inr (2, [.ref q4, .ref q5, .ref q6, .ref q7, .int 0, .int 2000])), (q4, .inl (cI, 12, .inl (fun _ => 0))), (q5, .inl (cI, 240, .inl (fun _ => 0))), (q6, .inl (cI, 12, .inl (fun _ => 0))), (q7, .inl (cI, 12, .inl (fun _ => 0))), (q8, .inr (2, [.ref q9, .ref q10, .ref q11, .ref q12, .int 0, .int 2000])), (q9, .inl (cI, 12, .inl (fun _ => 0))), (q10, .inl (cI, 240, .inl (fun _ => 0))), (q11, .inl (cI, 12, .inl (fun _ => 0))), (q12, .inl (cI, 12, .inl (fun _ => 0))), (q13, .inr (2, [.ref q14, .ref q15, .ref q16, .ref q17, .int 0, .int 2000])), (q14, .inl (cI, 12, .inl (fun _ => 0))), (q15, .inl (cI, 240, .inl (fun _ => 0))), (q16, .inl (cI, 12, .inl (fun _ => 0))), (q17, .inl (cI, 12, .inl (fun _ => 0))), (q18, .inr (2, [.ref q19, .ref q20, .ref q21, .ref q22, .int 0, .int 2000])), (q19, .inl (cI, 12, .inl (fun _ => 0))), (q20, .inl (cI, 240, .inl (fun _ => 0))), (q21, .inl (cI, 12, .inl (fun _ => 0))), (q22, .inl (cI, 12, .inl (fun _ => 0))), (q23, .inr (2, [.ref q24, .ref q25, .ref q26, .ref q27, .int 0, .int 2000])), (q24, .inl (cI, 12, .inl (fun _ => 0))), (q25, .inl (cI, 240, .inl (fun _ => 0))), (q26, .inl (cI, 12, .inl (fun _ => 0))), (q27, .inl (cI, 12, .inl (fun _ => 0))), (q28, .inr (2, [.ref q29, .ref q30, .ref q31, .ref q32, .int 0, .int 2000])), (q29, .inl (cI, 12, .inl (fun _ => 0))), (q30, .inl (cI, 240, .inl (fun _ => 0))), (q31, .inl (cI, 12, .inl (fun _ => 0))), (q32, .inl (cI, 12, .inl (fun _ => 0))), (q33, .inr (2, [.ref q34, .ref q35, .ref q36, .ref q37, .int 0, .int 2000])), (q34, .inl (cI, 12, .inl (fun _ => 0))), (q35, .inl (cI, 240, .inl (fun _ => 0))), (q36, .inl (cI, 12, .inl (fun _ => 0))), (q37, .inl (cI, 12, .inl (fun _ => 0))), (q38, .inr (3, [.ref q39, .ref q40, .ref q41, .ref q42, .ref q43, .ref q44, .int 0, .int 0])), (q39, .inl (cI, 48, .inl (fun _ => 0))), (q40, .inl (cI, 12, .inl (fun _ => 0))), (q41, .inl (cI, 12, .inl (fun _ => 0))), (q42, .inl (cI, 12, .inl (fun _ => 0))), (q43, .inl (cI, 12, .inl (fun _ => 0))), (q44, .inl (cI, 12, .inl (fun _ => 0))), (q45, .inr (1, [.ref q46, .ref q47, .int 0, .int 0, .int 0, .int 0])), (q46, .inl (cI, 60, .inl (fun _ => 0))), (q47, .inl (cI, 180, .inl (fun _ => 0))), (q48, .inl (cI, 120, .inl (fun _ => 0))), (q49, .inr (5, [.null, .null, .null, .int 0, .null, .null, .int 0, .null, .null, .null, .null, .null, .null, .int 0, .int 0, .int 0, .null, .null, .long 0]))] := hD
  refine W.widen (k := 50) (n := 2492) (Nat.le_of_ble_eq_true rfl) (Nat.le_of_ble_eq_true rfl) ?_
  refine lv_dup hx hb (by decide +kernel : decode code 11 = .ok (.dup, 1)) rfl ?_
  have hPc := hP.sub (ws' := [(q49, .inr (5, [.null, .null, .null, .int 0, .null, .null, .int 0, .null, .null, .null, .null, .null, .null, .int 0, .int 0, .int 0, .null, .null, .long 0]))]) [49] rfl
  have hDc := hD.sub (ws' := [(q49, .inr (5, [.null, .null, .null, .int 0, .null, .null, .int 0, .null, .null, .null, .null, .null, .null, .int 0, .int 0, .int 0, .null, .null, .long 0]))]) [49] (by decide) rfl
  have hKc := hK.sub (tys' := [(cI, .int)]) [0] rfl
  have hFc := va_free (wc := [(q49, .inr (5, [.null, .null, .null, .int 0, .null, .null, .int 0, .null, .null, .null, .null, .null, .null, .int 0, .int 0, .int 0, .null, .null, .long 0]))]) hD hS hA [49] rfl
  refine va_callv (va_runI (As := []) (rest := [.ref q49]) ⟨hx, hb, hml, hown, hT⟩ (k_Modl l D cI q49 H.size) (cwI 0 hT (wsC_good (mm_has_in (b := 650) (by decide +kernel))) rfl rfl rfl (hT (.initialized RX6) (mm_has_in (b := 62) (by decide +kernel))) (hT (.methodLink R_law 12 yCModl) (mm_has_in (b := 648) (by decide +kernel))) (hT (.instanceMethod yCModl) (mm_has_in (b := 649) (by decide +kernel))) rfl (by decide +kernel) ⟨Nat.le_of_ble_eq_true rfl, Nat.le_of_ble_eq_true rfl⟩) ⟨fun a U g mk q => by obtain ⟨q0, q1, qP, qK, qD⟩ := q; exact ⟨q0, q1, qP, va_K.moved (u := U) (U := U.calling g mk a) (Vm.Alike.refl U.vm) qK, qD⟩, fun U hU hW => ⟨rfl, by rw [hU], by rw [hU]; exact hPc, va_K.moved hW.alike hKc, hDc.weaken (fun _ _ _ _ => trivial)⟩⟩ rfl rfl hl.1 rfl (lv_room (Nat.le_of_ble_eq_true rfl)) (by decide +kernel : decode code 12 = .ok (.invokespecial 12, 3)) ⟨Nat.le_of_ble_eq_true rfl, Nat.le_of_ble_eq_true rfl⟩) hS (fun q _ h => hFc q h) hFc (fun u t H1 locs ht hvm hw hB hz1 hk1 hS => ?_)
  obtain ⟨f, q50, q51, q52, q53, q54, q55, q56, q57, q58, q59, q60, q61, q62, hP1, f0, hK1, hD1⟩ := hB
  rw [ht] at hP1
  obtain ⟨hP, hD⟩ := va_join (wr := [(q0, .inr (4, [.ref q1, .ref q38, .ref q45, .ref q48, .int 0, .int 0, .int 0, .int 0])), (q1, .inr (0, [.ref q2, .int 0, .ref q28, .ref q33])), (q2, .inl (cS, 5, .inr (.inr (.inr (.inr (va_up (va_up (va_up (va_up (va_up (fun _ => none) 0 (some q3)) 1 (some q8)) 2 (some q13)) 3 (some q18)) 4 (some q23))))))), (q3, .inr (2, [.ref q4, .ref q5, .ref q6, .ref q7, .int 0, .int 2000])), (q4, .inl (cI, 12, .inl (fun _ => 0))), (q5, .inl (cI, 240, .inl (fun _ => 0))), (q6, .inl (cI, 12, .inl (fun _ => 0))), (q7, .inl (cI, 12, .inl (fun _ => 0))), (q8, .inr (2, [.ref q9, .ref q10, .ref q11, .ref q12, .int 0, .int 2000])), (q9, .inl (cI, 12, .inl (fun _ => 0))), (q10, .inl (cI, 240, .inl (fun _ => 0))), (q11, .inl (cI, 12, .inl (fun _ => 0))), (q12, .inl (cI, 12, .inl (fun _ => 0))), (q13, .inr (2, [.ref q14, .ref q15, .ref q16, .ref q17, .int 0, .int 2000])), (q14, .inl (cI, 12, .inl (fun _ => 0))), (q15, .inl (cI, 240, .inl (fun _ => 0))), (q16, .inl (cI, 12, .inl (fun _ => 0))), (q17, .inl (cI, 12, .inl (fun _ => 0))), (q18, .inr (2, [.ref q19, .ref q20, .ref q21, .ref q22, .int 0, .int 2000])), (q19, .inl (cI, 12, .inl (fun _ => 0))), (q20, .inl (cI, 240, .inl (fun _ => 0))), (q21, .inl (cI, 12, .inl (fun _ => 0))), (q22, .inl (cI, 12, .inl (fun _ => 0))), (q23, .inr (2, [.ref q24, .ref q25, .ref q26, .ref q27, .int 0, .int 2000])), (q24, .inl (cI, 12, .inl (fun _ => 0))), (q25, .inl (cI, 240, .inl (fun _ => 0))), (q26, .inl (cI, 12, .inl (fun _ => 0))), (q27, .inl (cI, 12, .inl (fun _ => 0))), (q28, .inr (2, [.ref q29, .ref q30, .ref q31, .ref q32, .int 0, .int 2000])), (q29, .inl (cI, 12, .inl (fun _ => 0))), (q30, .inl (cI, 240, .inl (fun _ => 0))), (q31, .inl (cI, 12, .inl (fun _ => 0))), (q32, .inl (cI, 12, .inl (fun _ => 0))), (q33, .inr (2, [.ref q34, .ref q35, .ref q36, .ref q37, .int 0, .int 2000])), (q34, .inl (cI, 12, .inl (fun _ => 0))), (q35, .inl (cI, 240, .inl (fun _ => 0))), (q36, .inl (cI, 12, .inl (fun _ => 0))), (q37, .inl (cI, 12, .inl (fun _ => 0))), (q38, .inr (3, [.ref q39, .ref q40, .ref q41, .ref q42, .ref q43, .ref q44, .int 0, .int 0])), (q39, .inl (cI, 48, .inl (fun _ => 0))), (q40, .inl (cI, 12, .inl (fun _ => 0))), (q41, .inl (cI, 12, .inl (fun _ => 0))), (q42, .inl (cI, 12, .inl (fun _ => 0))), (q43, .inl (cI, 12, .inl (fun _ => 0))), (q44, .inl (cI, 12, .inl (fun _ => 0))), (q45, .inr (1, [.ref q46, .ref q47, .int 0, .int 0, .int 0, .int 0])), (q46, .inl (cI, 60, .inl (fun _ => 0))), (q47, .inl (cI, 180, .inl (fun _ => 0))), (q48, .inl (cI, 120, .inl (fun _ => 0)))]) (w1 := [(q49, .inr (5, [.ref q50, .ref q51, .ref q52, .int 0, .ref q53, .ref q54, .int 0, .ref q55, .ref q56, .ref q57, .ref q58, .ref q59, .ref q60, .int 0, .int 0, .int 0, .ref q61, .ref q62, .long 0])), (q50, .inl (cI, 266, .inl (f))), (q51, .inl (cI, 266, .inl (fun _ => 0))), (q52, .inl (cI, 1330, .inl (fun _ => 0))), (q53, .inl (cI, 3, .inl (fun _ => 0))), (q54, .inl (cI, 120, .inl (fun _ => 0))), (q55, .inl (cI, 48, .inl (fun _ => 0))), (q56, .inl (cI, 12, .inl (fun _ => 0))), (q57, .inl (cI, 12, .inl (fun _ => 0))), (q58, .inl (cI, 12, .inl (fun _ => 0))), (q59, .inl (cI, 12, .inl (fun _ => 0))), (q60, .inl (cI, 12, .inl (fun _ => 0))), (q61, .inl (cI, 60, .inl (fun _ => 0))), (q62, .inl (cI, 180, .inl (fun _ => 0)))]) hP hD [49] [0, 1, 2, 3, 4, 5, 6, 7, 8, 9, 10, 11, 12, 13, 14, 15, 16, 17, 18, 19, 20, 21, 22, 23, 24, 25, 26, 27, 28, 29, 30, 31, 32, 33, 34, 35, 36, 37, 38, 39, 40, 41, 42, 43, 44, 45, 46, 47, 48] rfl rfl (by decide) (by decide) hk1 hFc hP1 hD1
  generalize H1 = H at hP hS ⊢
  have hP : va_P D vwCl [(q0, .inr (4, [.ref q1, .ref q38, .ref q45, .ref q48, .int 0, .int 0, .int 0, .int 0])), (q1, .inr (0, [.ref q2, .int 0, .ref q28, .ref q33])), (q2, .inl (cS, 5, .inr (.inr (.inr (.inr (va_up (va_up (va_up (va_up (va_up (fun _ => none) 0 (some q3)) 1 (some q8)) 2 (some q13)) 3 (some q18)) 4 (some q23))))))), (q3, .inr (2, [.ref q4, .ref q5, .ref q6, .ref q7, .int 0, .int 2000])), (q4, .inl (cI, 12, .inl (fun _ => 0))), (q5, .inl (cI, 240, .inl (fun _ => 0))), (q6, .inl (cI, 12, .inl (fun _ => 0))), (q7, .inl (cI, 12, .inl (fun _ => 0))), (q8, .inr (2, [.ref q9, .ref q10, .ref q11, .ref q12, .int 0, .int 2000])), (q9, .inl (cI, 12, .inl (fun _ => 0))), (q10, .inl (cI, 240, .inl (fun _ => 0))), (q11, .inl (cI, 12, .inl (fun _ => 0))), (q12, .inl (cI, 12, .inl (fun _ => 0))), (q13, .inr (2, [.ref q14, .ref q15, .ref q16, .ref q17, .int 0, .int 2000])), (q14, .inl (cI, 12, .inl (fun _ => 0))), (q15, .inl (cI, 240, .inl (fun _ => 0))), (q16, .inl (cI, 12, .inl (fun _ => 0))), (q17, .inl (cI, 12, .inl (fun _ => 0))), (q18, .inr (2, [.ref q19, .ref q20, .ref q21, .ref q22, .int 0, .int 2000])), (q19, .inl (cI, 12, .inl (fun _ => 0))), (q20, .inl (cI, 240, .inl (fun _ => 0))), (q21, .inl (cI, 12, .inl (fun _ => 0))), (q22, .inl (cI, 12, .inl (fun _ => 0))), (q23, .inr (2, [.ref q24, .ref q25, .ref q26, .ref q27, .int 0, .int 2000])), (q24, .inl (cI, 12, .inl (fun _ => 0))), (q25, .inl (cI, 240, .inl (fun _ => 0))), (q26, .inl (cI, 12, .inl (fun _ => 0))), (q27, .inl (cI, 12, .inl (fun _ => 0))), (q28, .inr (2, [.ref q29, .ref q30, .ref q31, .ref q32, .int 0, .int 2000])), (q29, .inl (cI, 12, .inl (fun _ => 0))), (q30, .inl (cI, 240, .inl (fun _ => 0))), (q31, .inl (cI, 12, .inl (fun _ => 0))), (q32, .inl (cI, 12, .inl (fun _ => 0))), (q33, .inr (2, [.ref q34, .ref q35, .ref q36, .ref q37, .int 0, .int 2000])), (q34, .inl (cI, 12, .inl (fun _ => 0))), (q35, .inl (cI, 240, .inl (fun _ => 0))), (q36, .inl (cI, 12, .inl (fun _ => 0))), (q37, .inl (cI, 12, .inl (fun _ => 0))), (q38, .inr (3, [.ref q39, .ref q40, .ref q41, .ref q42, .ref q43, .ref q44, .int 0, .int 0])), (q39, .inl (cI, 48, .inl (fun _ => 0))), (q40, .inl (cI, 12, .inl (fun _ => 0))), (q41, .inl (cI, 12, .inl (fun _ => 0))), (q42, .inl (cI, 12, .inl (fun _ => 0))), (q43, .inl (cI, 12, .inl (fun _ => 0))), (q44, .inl (cI, 12, .inl (fun _ => 0))), (q45, .inr (1, [.ref q46, .ref q47, .int 0, .int 0, .int 0, .int 0])), (q46, .inl (cI, 60, .inl (fun _ => 0))), (q47, .inl (cI, 180, .inl (fun _ => 0))), (q48, .inl (cI, 120, .inl (fun _ => 0))), (q49, .inr (5, [.ref q50, .ref q51, .ref q52, .int 0, .ref q53, .ref q54, .int 0, .ref q55, .ref q56, .ref q57, .ref q58, .ref q59, .ref q60, .int 0, .int 0, .int 0, .ref q61, .ref q62, .long 0])), (q50, .inl (cI, 266, .inl (f))), (q51, .inl (cI, 266, .inl (fun _ => 0))), (q52, .inl (cI, 1330, .inl (fun _ => 0))), (q53, .inl (cI, 3, .inl (fun _ => 0))), (q54, .inl (cI, 120, .inl (fun _ => 0))), (q55, .inl (cI, 48, .inl (fun _ => 0))), (q56, .inl (cI, 12, .inl (fun _ => 0))), (q57, .inl (cI, 12, .inl (fun _ => 0))), (q58, .inl (cI, 12, .inl (fun _ => 0))), (q59, .inl (cI, 12, .inl (fun _ => 0))), (q60, .inl (cI, 12, .inl (fun _ => 0))), (q61, .inl (cI, 60, .inl (fun _ => 0))), (q62, .inl (cI, 180, .inl (fun _ => 0)))] H := hP
  have hD : va_D A [(q0, .inr (4, [.ref q1, .ref q38, .ref q45, .ref q48, .int 0, .int 0, .int 0, .int 0])), (q1, .inr (0, [.ref q2, .int 0, .ref q28, .ref q33])), (q2, .inl (cS, 5, .inr (.inr (.inr (.inr (va_up (va_up (va_up (va_up (va_up (fun _ => none) 0 (some q3)) 1 (some q8)) 2 (some q13)) 3 (some q18)) 4 (some q23))))))), (q3, .inr (2, [.ref q4, .ref q5, .ref q6, .ref q7, .int 0, .int 2000])), (q4, .inl (cI, 12, .inl (fun _ => 0))), (q5, .inl (cI, 240, .inl (fun _ => 0))), (q6, .inl (cI, 12, .inl (fun _ => 0))), (q7, .inl (cI, 12, .inl (fun _ => 0))), (q8, .inr (2, [.ref q9, .ref q10, .ref q11, .ref q12, .int 0, .int 2000])), (q9, .inl (cI, 12, .inl (fun _ => 0))), (q10, .inl (cI, 240, .inl (fun _ => 0))), (q11, .inl (cI, 12, .inl (fun _ => 0))), (q12, .inl (cI, 12, .inl (fun _ => 0))), (q13, .inr (2, [.ref q14, .ref q15, .ref q16, .ref q17, .int 0, .int 2000])), (q14, .inl (cI, 12, .inl (fun _ => 0))), (q15, .inl (cI, 240, .inl (fun _ => 0))), (q16, .inl (cI, 12, .inl (fun _ => 0))), (q17, .inl (cI, 12, .inl (fun _ => 0))), (q18, .inr (2, [.ref q19, .ref q20, .ref q21, .ref q22, .int 0, .int 2000])), (q19, .inl (cI, 12, .inl (fun _ => 0))), (q20, .inl (cI, 240, .inl (fun _ => 0))), (q21, .inl (cI, 12, .inl (fun _ => 0))), (q22, .inl (cI, 12, .inl (fun _ => 0))), (q23, .inr (2, [.ref q24, .ref q25, .ref q26, .ref q27, .int 0, .int 2000])), (q24, .inl (cI, 12, .inl (fun _ => 0))), (q25, .inl (cI, 240, .inl (fun _ => 0))), (q26, .inl (cI, 12, .inl (fun _ => 0))), (q27, .inl (cI, 12, .inl (fun _ => 0))), (q28, .inr (2, [.ref q29, .ref q30, .ref q31, .ref q32, .int 0, .int 2000])), (q29, .inl (cI, 12, .inl (fun _ => 0))), (q30, .inl (cI, 240, .inl (fun _ => 0))), (q31, .inl (cI, 12, .inl (fun _ => 0))), (q32, .inl (cI, 12, .inl (fun _ => 0))), (q33, .inr (2, [.ref q34, .ref q35, .ref q36, .ref q37, .int 0, .int 2000])), (q34, .inl (cI, 12, .inl (fun _ => 0))), (q35, .inl (cI, 240, .inl (fun _ => 0))), (q36, .inl (cI, 12, .inl (fun _ => 0))), (q37, .inl (cI, 12, .inl (fun _ => 0))), (q38, .inr (3, [.ref q39, .ref q40, .ref q41, .ref q42, .ref q43, .ref q44, .int 0, .int 0])), (q39, .inl (cI, 48, .inl (fun _ => 0))), (q40, .inl (cI, 12, .inl (fun _ => 0))), (q41, .inl (cI, 12, .inl (fun _ => 0))), (q42, .inl (cI, 12, .inl (fun _ => 0))), (q43, .inl (cI, 12, .inl (fun _ => 0))), (q44, .inl (cI, 12, .inl (fun _ => 0))), (q45, .inr (1, [.ref q46, .ref q47, .int 0, .int 0, .int 0, .int 0])), (q46, .inl (cI, 60, .inl (fun _ => 0))), (q47, .inl (cI, 180, .inl (fun _ => 0))), (q48, .inl (cI, 120, .inl (fun _ => 0))), (q49, .inr (5, [.ref q50, .ref q51, .ref q52, .int 0, .ref q53, .ref q54, .int 0, .ref q55, .ref q56, .ref q57, .ref q58, .ref q59, .ref q60, .int 0, .int 0, .int 0, .ref q61, .ref q62, .long 0])), (q50, .inl (cI, 266, .inl (f))), (q51, .inl (cI, 266, .inl (fun _ => 0))), (q52, .inl (cI, 1330, .inl (fun _ => 0))), (q53, .inl (cI, 3, .inl (fun _ => 0))), (q54, .inl (cI, 120, .inl (fun _ => 0))), (q55, .inl (cI, 48, .inl (fun _ => 0))), (q56, .inl (cI, 12, .inl (fun _ => 0))), (q57, .inl (cI, 12, .inl (fun _ => 0))), (q58, .inl (cI, 12, .inl (fun _ => 0))), (q59, .inl (cI, 12, .inl (fun _ => 0))), (q60, .inl (cI, 12, .inl (fun _ => 0))), (q61, .inl (cI, 60, .inl (fun _ => 0))), (q62, .inl (cI, 180, .inl (fun _ => 0)))] := hD
  refine W.widen (k := 63) (n := 4825) (Nat.le_of_ble_eq_true rfl) (Nat.le_of_ble_eq_true rfl) ?_
  refine lv_astore_n (lv' := [(2, .ref q49), (1, .ref q0), (0, .ref b)]) hx hb (by decide +kernel : decode code 15 = .ok (.astore_n 2, 1)) rfl hl (by decide) rfl (fun ls hl => ?_)
  refine lv_iconst (v := 0) hx hb (by decide +kernel : decode code 16 = .ok (.iconst 0, 1)) (by decide +kernel) ?_
  refine lv_istore_n (lv' := [(3, .int 0), (2, .ref q49), (1, .ref q0), (0, .ref b)]) hx hb (by decide +kernel : decode code 17 = .ok (.istore_n 3, 1)) rfl hl (by decide) rfl (fun ls hl => ?_)
  have key : ∃ ad : Nat → Nat, ad 0 = q0 ∧ ad 49 = q49 ∧ ad 63 = t63 ∧ ad 64 = t64 ∧ ad 65 = b ∧ (∀ i j, i < 63 → j < 63 → ad i = ad j → i = j) ∧ (∀ k, k < 63 → A (ad k)) ∧ va_P D vwCl (mm_ws ad cI cS (h00 f)) H := by
    have pls : ∀ k, k < 63 → ∃ e, ([(q0, .inr (4, [.ref q1, .ref q38, .ref q45, .ref q48, .int 0, .int 0, .int 0, .int 0])), (q1, .inr (0, [.ref q2, .int 0, .ref q28, .ref q33])), (q2, .inl (cS, 5, .inr (.inr (.inr (.inr (va_up (va_up (va_up (va_up (va_up (fun _ => none) 0 (some q3)) 1 (some q8)) 2 (some q13)) 3 (some q18)) 4 (some q23))))))), (q3, .inr (2, [.ref q4, .ref q5, .ref q6, .ref q7, .int 0, .int 2000])), (q4, .inl (cI, 12, .inl (fun _ => 0))), (q5, .inl (cI, 240, .inl (fun _ => 0))), (q6, .inl (cI, 12, .inl (fun _ => 0))), (q7, .inl (cI, 12, .inl (fun _ => 0))), (q8, .inr (2, [.ref q9, .ref q10, .ref q11, .ref q12, .int 0, .int 2000])), (q9, .inl (cI, 12, .inl (fun _ => 0))), (q10, .inl (cI, 240, .inl (fun _ => 0))), (q11, .inl (cI, 12, .inl (fun _ => 0))), (q12, .inl (cI, 12, .inl (fun _ => 0))), (q13, .inr (2, [.ref q14, .ref q15, .ref q16, .ref q17, .int 0, .int 2000])), (q14, .inl (cI, 12, .inl (fun _ => 0))), (q15, .inl (cI, 240, .inl (fun _ => 0))), (q16, .inl (cI, 12, .inl (fun _ => 0))), (q17, .inl (cI, 12, .inl (fun _ => 0))), (q18, .inr (2, [.ref q19, .ref q20, .ref q21, .ref q22, .int 0, .int 2000])), (q19, .inl (cI, 12, .inl (fun _ => 0))), (q20, .inl (cI, 240, .inl (fun _ => 0))), (q21, .inl (cI, 12, .inl (fun _ => 0))), (q22, .inl (cI, 12, .inl (fun _ => 0))), (q23, .inr (2, [.ref q24, .ref q25, .ref q26, .ref q27, .int 0, .int 2000])), (q24, .inl (cI, 12, .inl (fun _ => 0))), (q25, .inl (cI, 240, .inl (fun _ => 0))), (q26, .inl (cI, 12, .inl (fun _ => 0))), (q27, .inl (cI, 12, .inl (fun _ => 0))), (q28, .inr (2, [.ref q29, .ref q30, .ref q31, .ref q32, .int 0, .int 2000])), (q29, .inl (cI, 12, .inl (fun _ => 0))), (q30, .inl (cI, 240, .inl (fun _ => 0))), (q31, .inl (cI, 12, .inl (fun _ => 0))), (q32, .inl (cI, 12, .inl (fun _ => 0))), (q33, .inr (2, [.ref q34, .ref q35, .ref q36, .ref q37, .int 0, .int 2000])), (q34, .inl (cI, 12, .inl (fun _ => 0))), (q35, .inl (cI, 240, .inl (fun _ => 0))), (q36, .inl (cI, 12, .inl (fun _ => 0))), (q37, .inl (cI, 12, .inl (fun _ => 0))), (q38, .inr (3, [.ref q39, .ref q40, .ref q41, .ref q42, .ref q43, .ref q44, .int 0, .int 0])), (q39, .inl (cI, 48, .inl (fun _ => 0))), (q40, .inl (cI, 12, .inl (fun _ => 0))), (q41, .inl (cI, 12, .inl (fun _ => 0))), (q42, .inl (cI, 12, .inl (fun _ => 0))), (q43, .inl (cI, 12, .inl (fun _ => 0))), (q44, .inl (cI, 12, .inl (fun _ => 0))), (q45, .inr (1, [.ref q46, .ref q47, .int 0, .int 0, .int 0, .int 0])), (q46, .inl (cI, 60, .inl (fun _ => 0))), (q47, .inl (cI, 180, .inl (fun _ => 0))), (q48, .inl (cI, 120, .inl (fun _ => 0))), (q49, .inr (5, [.ref q50, .ref q51, .ref q52, .int 0, .ref q53, .ref q54, .int 0, .ref q55, .ref q56, .ref q57, .ref q58, .ref q59, .ref q60, .int 0, .int 0, .int 0, .ref q61, .ref q62, .long 0])), (q50, .inl (cI, 266, .inl (f))), (q51, .inl (cI, 266, .inl (fun _ => 0))), (q52, .inl (cI, 1330, .inl (fun _ => 0))), (q53, .inl (cI, 3, .inl (fun _ => 0))), (q54, .inl (cI, 120, .inl (fun _ => 0))), (q55, .inl (cI, 48, .inl (fun _ => 0))), (q56, .inl (cI, 12, .inl (fun _ => 0))), (q57, .inl (cI, 12, .inl (fun _ => 0))), (q58, .inl (cI, 12, .inl (fun _ => 0))), (q59, .inl (cI, 12, .inl (fun _ => 0))), (q60, .inl (cI, 12, .inl (fun _ => 0))), (q61, .inl (cI, 60, .inl (fun _ => 0))), (q62, .inl (cI, 180, .inl (fun _ => 0)))] : va_W)[([0, 1, 2, 38, 45, 48, 39, 40, 41, 42, 43, 44, 46, 47, 28, 3, 8, 13, 18, 23, 33, 29, 30, 31, 32, 4, 5, 6, 7, 9, 10, 11, 12, 14, 15, 16, 17, 19, 20, 21, 22, 24, 25, 26, 27, 34, 35, 36, 37, 49, 50, 51, 52, 53, 54, 55, 56, 57, 58, 59, 60, 61, 62] : List Nat).getD k 0]? = some ((adL [q0, q1, q2, q38, q45, q48, q39, q40, q41, q42, q43, q44, q46, q47, q28, q3, q8, q13, q18, q23, q33, q29, q30, q31, q32, q4, q5, q6, q7, q9, q10, q11, q12, q14, q15, q16, q17, q19, q20, q21, q22, q24, q25, q26, q27, q34, q35, q36, q37, q49, q50, q51, q52, q53, q54, q55, q56, q57, q58, q59, q60, q61, q62, t63, t64, b]) k, e) := by
      intro k hk
      match k, hk with
      | 0, _ => exact ⟨_, rfl⟩
      | 1, _ => exact ⟨_, rfl⟩
      | 2, _ => exact ⟨_, rfl⟩
      | 3, _ => exact ⟨_, rfl⟩
      | 4, _ => exact ⟨_, rfl⟩
      | 5, _ => exact ⟨_, rfl⟩
      | 6, _ => exact ⟨_, rfl⟩
      | 7, _ => exact ⟨_, rfl⟩
      | 8, _ => exact ⟨_, rfl⟩
      | 9, _ => exact ⟨_, rfl⟩
      | 10, _ => exact ⟨_, rfl⟩
      | 11, _ => exact ⟨_, rfl⟩
      | 12, _ => exact ⟨_, rfl⟩
      | 13, _ => exact ⟨_, rfl⟩
      | 14, _ => exact ⟨_, rfl⟩
      | 15, _ => exact ⟨_, rfl⟩
      | 16, _ => exact ⟨_, rfl⟩
      | 17, _ => exact ⟨_, rfl⟩
      | 18, _ => exact ⟨_, rfl⟩
      | 19, _ => exact ⟨_, rfl⟩
      | 20, _ => exact ⟨_, rfl⟩
      | 21, _ => exact ⟨_, rfl⟩
      | 22, _ => exact ⟨_, rfl⟩
      | 23, _ => exact ⟨_, rfl⟩
      | 24, _ => exact ⟨_, rfl⟩
      | 25, _ => exact ⟨_, rfl⟩
      | 26, _ => exact ⟨_, rfl⟩
      | 27, _ => exact ⟨_, rfl⟩
      | 28, _ => exact ⟨_, rfl⟩
      | 29, _ => exact ⟨_, rfl⟩
      | 30, _ => exact ⟨_, rfl⟩
      | 31, _ => exact ⟨_, rfl⟩
      | 32, _ => exact ⟨_, rfl⟩
      | 33, _ => exact ⟨_, rfl⟩
      | 34, _ => exact ⟨_, rfl⟩
      | 35, _ => exact ⟨_, rfl⟩
      | 36, _ => exact ⟨_, rfl⟩
      | 37, _ => exact ⟨_, rfl⟩
      | 38, _ => exact ⟨_, rfl⟩
      | 39, _ => exact ⟨_, rfl⟩
      | 40, _ => exact ⟨_, rfl⟩
      | 41, _ => exact ⟨_, rfl⟩
      | 42, _ => exact ⟨_, rfl⟩
      | 43, _ => exact ⟨_, rfl⟩
      | 44, _ => exact ⟨_, rfl⟩
      | 45, _ => exact ⟨_, rfl⟩
      | 46, _ => exact ⟨_, rfl⟩
      | 47, _ => exact ⟨_, rfl⟩
      | 48, _ => exact ⟨_, rfl⟩
      | 49, _ => exact ⟨_, rfl⟩
      | 50, _ => exact ⟨_, rfl⟩
      | 51, _ => exact ⟨_, rfl⟩
      | 52, _ => exact ⟨_, rfl⟩
      | 53, _ => exact ⟨_, rfl⟩
      | 54, _ => exact ⟨_, rfl⟩
      | 55, _ => exact ⟨_, rfl⟩
      | 56, _ => exact ⟨_, rfl⟩
      | 57, _ => exact ⟨_, rfl⟩
      | 58, _ => exact ⟨_, rfl⟩
      | 59, _ => exact ⟨_, rfl⟩
      | 60, _ => exact ⟨_, rfl⟩
      | 61, _ => exact ⟨_, rfl⟩
      | 62, _ => exact ⟨_, rfl⟩
      | k + 63, hk => exact absurd hk (by omega)
    refine ⟨adL [q0, q1, q2, q38, q45, q48, q39, q40, q41, q42, q43, q44, q46, q47, q28, q3, q8, q13, q18, q23, q33, q29, q30, q31, q32, q4, q5, q6, q7, q9, q10, q11, q12, q14, q15, q16, q17, q19, q20, q21, q22, q24, q25, q26, q27, q34, q35, q36, q37, q49, q50, q51, q52, q53, q54, q55, q56, q57, q58, q59, q60, q61, q62, t63, t64, b], rfl, rfl, rfl, rfl, rfl, fun i j hi hj hij => ?_, fun k hk => ?_, fun k q hq => ?_⟩
    · obtain ⟨e1, h1⟩ := pls i hi
      obtain ⟨e2, h2⟩ := pls j hj
      exact (by decide +kernel : ∀ i, i < 63 → ∀ j, j < 63 → ([0, 1, 2, 38, 45, 48, 39, 40, 41, 42, 43, 44, 46, 47, 28, 3, 8, 13, 18, 23, 33, 29, 30, 31, 32, 4, 5, 6, 7, 9, 10, 11, 12, 14, 15, 16, 17, 19, 20, 21, 22, 24, 25, 26, 27, 34, 35, 36, 37, 49, 50, 51, 52, 53, 54, 55, 56, 57, 58, 59, 60, 61, 62] : List Nat).getD i 0 = ([0, 1, 2, 38, 45, 48, 39, 40, 41, 42, 43, 44, 46, 47, 28, 3, 8, 13, 18, 23, 33, 29, 30, 31, 32, 4, 5, 6, 7, 9, 10, 11, 12, 14, 15, 16, 17, 19, 20, 21, 22, 24, 25, 26, 27, 34, 35, 36, 37, 49, 50, 51, 52, 53, 54, 55, 56, 57, 58, 59, 60, 61, 62] : List Nat).getD j 0 → i = j) i hi j hj (hD.1 _ _ _ _ h1 h2 hij)
    · obtain ⟨e1, h1⟩ := pls k hk
      exact hD.2 _ _ h1
    · obtain ⟨hk, rfl⟩ := mm_ws_lt hq
      clear hq pls
      have e2 : va_up (va_up (va_up (va_up (va_up (fun _ => none) 0 (some q3)) 1 (some q8)) 2 (some q13)) 3 (some q18)) 4 (some q23) = (fun j => if j < 5 then some ((adL [q0, q1, q2, q38, q45, q48, q39, q40, q41, q42, q43, q44, q46, q47, q28, q3, q8, q13, q18, q23, q33, q29, q30, q31, q32, q4, q5, q6, q7, q9, q10, q11, q12, q14, q15, q16, q17, q19, q20, q21, q22, q24, q25, q26, q27, q34, q35, q36, q37, q49, q50, q51, q52, q53, q54, q55, q56, q57, q58, q59, q60, q61, q62, t63, t64, b]) ((h00 f).2.1 j)) else none) := by
        funext j
        by_cases h5 : j < 5
        · rcases (show j = 0 ∨ j = 1 ∨ j = 2 ∨ j = 3 ∨ j = 4 by omega) with rfl | rfl | rfl | rfl | rfl <;> rfl
        · rw [if_neg h5, va_up_ne _ _ (by omega), va_up_ne _ _ (by omega), va_up_ne _ _ (by omega), va_up_ne _ _ (by omega), va_up_ne _ _ (by omega)]
      match k, hk with
      | 0, _ => exact hP 0 _ rfl
      | 1, _ => exact hP 1 _ rfl
      | 2, _ =>
        have q := hP 2 _ rfl
        rw [e2] at q
        exact q
      | 3, _ => exact hP 38 _ rfl
      | 4, _ => exact hP 45 _ rfl
      | 5, _ => exact hP 48 _ rfl
      | 6, _ => exact hP 39 _ rfl
      | 7, _ => exact hP 40 _ rfl
      | 8, _ => exact hP 41 _ rfl
      | 9, _ => exact hP 42 _ rfl
      | 10, _ => exact hP 43 _ rfl
      | 11, _ => exact hP 44 _ rfl
      | 12, _ => exact hP 46 _ rfl
      | 13, _ => exact hP 47 _ rfl
      | 14, _ => exact hP 28 _ rfl
      | 15, _ => exact hP 3 _ rfl
      | 16, _ => exact hP 8 _ rfl
      | 17, _ => exact hP 13 _ rfl
      | 18, _ => exact hP 18 _ rfl
      | 19, _ => exact hP 23 _ rfl
      | 20, _ => exact hP 33 _ rfl
      | 21, _ => exact hP 29 _ rfl
      | 22, _ => exact hP 30 _ rfl
      | 23, _ => exact hP 31 _ rfl
      | 24, _ => exact hP 32 _ rfl
      | 25, _ => exact hP 4 _ rfl
      | 26, _ => exact hP 5 _ rfl
      | 27, _ => exact hP 6 _ rfl
      | 28, _ => exact hP 7 _ rfl
      | 29, _ => exact hP 9 _ rfl
      | 30, _ => exact hP 10 _ rfl
      | 31, _ => exact hP 11 _ rfl
      | 32, _ => exact hP 12 _ rfl
      | 33, _ => exact hP 14 _ rfl
      | 34, _ => exact hP 15 _ rfl
      | 35, _ => exact hP 16 _ rfl
      | 36, _ => exact hP 17 _ rfl
      | 37, _ => exact hP 19 _ rfl
      | 38, _ => exact hP 20 _ rfl
      | 39, _ => exact hP 21 _ rfl
      | 40, _ => exact hP 22 _ rfl
      | 41, _ => exact hP 24 _ rfl
      | 42, _ => exact hP 25 _ rfl
      | 43, _ => exact hP 26 _ rfl
      | 44, _ => exact hP 27 _ rfl
      | 45, _ => exact hP 34 _ rfl
      | 46, _ => exact hP 35 _ rfl
      | 47, _ => exact hP 36 _ rfl
      | 48, _ => exact hP 37 _ rfl
      | 49, _ => exact hP 49 _ rfl
      | 50, _ => exact hP 50 _ rfl
      | 51, _ => exact hP 51 _ rfl
      | 52, _ => exact hP 52 _ rfl
      | 53, _ => exact hP 53 _ rfl
      | 54, _ => exact hP 54 _ rfl
      | 55, _ => exact hP 55 _ rfl
      | 56, _ => exact hP 56 _ rfl
      | 57, _ => exact hP 57 _ rfl
      | 58, _ => exact hP 58 _ rfl
      | 59, _ => exact hP 59 _ rfl
      | 60, _ => exact hP 60 _ rfl
      | 61, _ => exact hP 61 _ rfl
      | 62, _ => exact hP 62 _ rfl
      | k + 63, hk => exact absurd hk (by omega)
  obtain ⟨ad, a0, a49, a63, a64, a65, hinj, hAad, hPw⟩ := key
  have hEnv : mm_Env D ad cI cS A (L, xs) s := ⟨hK, by rw [a63]; exact Z63, by rw [a64]; exact Z64, fun k k1 k2 => by
    rcases (show k = 63 ∨ k = 64 ∨ k = 65 by omega) with rfl | rfl | rfl
    · rw [a63]; exact T63
    · rw [a64]; exact T64
    · rw [a65]; exact T65, hNw⟩
  obtain ⟨g, hg⟩ := law_run (L, xs) (by show L < 2147483648; omega) (L + 1) 0 (h00 f) g00 (by show L - 0 < L + 1; omega) (Nat.zero_le _) (ic00 f) (im00 f0)
  obtain ⟨n, hn⟩ := mm_ex_of_ev hg
  have hCx : mm_Cx p room_1 s m #[Value.ref b] c 63 4825 175 := ⟨hx, hb, hml, hown, hT, by decide +kernel, Nat.le_of_ble_eq_true rfl, Nat.le_of_ble_eq_true rfl⟩
  have hrt : mm_rt 175 = 2 := by decide +kernel
  have hpc : mm_pc 175 10 = 18 := by decide +kernel
  have w := mm_walk (l := l) hinj hAad n 175 10 _ _ _ _ hn (by omega) p e room_1 s m #[Value.ref b] below meth c 63 4825 (lw_Z below #[Value.ref b] s) hCx hEnv (fun H locs lsA pc hP hS hrok => by
    rw [hrt]
    refine va_forget (fun q hq => hA3 _ (hS.2.2 q hq)) ?_
    refine W.widen (k := 600000) (n := 7302250) (Nat.le_of_ble_eq_true rfl) (Nat.le_of_ble_eq_true rfl) ?_
    have hd : decode code pc = .ok (.ireturn, 1) := by
      rcases hrok with ⟨z, _⟩ | ⟨z, _⟩ | ⟨_, z, _⟩ | ⟨z, _⟩ | ⟨z, _⟩
      · rw [hrt] at z; cases z
      · rw [hrt] at z; cases z
      · exact z
      · rw [hrt] at z; cases z
      · rw [hrt] at z; cases z
    exact lw_ret hx hb hr hlocks hd) H _ ls ⟨hl.1, hl.2.1, rfl, fun n v hv hv0 => ?_⟩ hPw hS
  · rw [hpc] at w
    exact w
  · match n, hv with
    | 0, hv => cases hv; show ls[0]? = some (.val (.ref (ad 65))); rw [a65]; exact lv_at hl 3 rfl
    | 1, hv => cases hv; show ls[1]? = some (.val (.ref (ad 0))); rw [a0]; exact lv_at hl 2 rfl
    | 2, hv => cases hv; show ls[2]? = some (.val (.ref (ad 49))); rw [a49]; exact lv_at hl 1 rfl
    | 3, hv => cases hv; exact lv_at hl 0 rfl
    | n + 4, hv => simp at hv
