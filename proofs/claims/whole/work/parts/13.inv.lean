/-! what a step that comes to an answer says -/
section IV
variable {rs : Nat → Nat} {Ec : Nat → List Value → mm_H → Option mm_R} {E : Nat → List Value → List Value → mm_H → Option mm_R} {h : mm_H} {r : mm_R} {k n : Nat} {ls st : List Value}
theorem iv_ck {b : Bool} {k' : Nat} {ls' st' : List Value} {h' : mm_H} (H : mm_drv rs Ec E h (mm_ck b k' ls' st' h') = some r) : b = true ∧ E k' ls' st' h' = some r := by
  rcases mm_cond_some H with q | q
  · exact q
  · cases q.2
theorem iv_aload (H : mm_drv rs Ec E h (mm_aload n k ls st h) = some r) : ∃ x, ls[n]? = some (.ref x) ∧ E (k + 1) ls (.ref x :: st) h = some r := by
  unfold mm_aload at H
  split at H
  · next x hx => exact ⟨x, hx, H⟩
  · cases H
theorem iv_iload (H : mm_drv rs Ec E h (mm_iload n k ls st h) = some r) : ∃ x, ls[n]? = some (.int x) ∧ E (k + 1) ls (.int x :: st) h = some r := by
  unfold mm_iload at H
  split at H
  · next x hx => exact ⟨x, hx, H⟩
  · cases H
theorem iv_lload (H : mm_drv rs Ec E h (mm_lload n k ls st h) = some r) : ∃ x, ls[n]? = some (.long x) ∧ E (k + 1) ls (.long x :: st) h = some r := by
  unfold mm_lload at H
  split at H
  · next x hx => exact ⟨x, hx, H⟩
  · cases H
theorem iv_astore (H : mm_drv rs Ec E h (mm_astore n k ls st h) = some r) : ∃ x st', st = .ref x :: st' ∧ n < ls.length ∧ E (k + 1) (mm_st1 ls n (.ref x)) st' h = some r := by
  unfold mm_astore at H
  split at H
  · next x st' => exact ⟨x, st', rfl, by simpa using (iv_ck H).1, (iv_ck H).2⟩
  · cases H
theorem iv_istore (H : mm_drv rs Ec E h (mm_istore n k ls st h) = some r) : ∃ x st', st = .int x :: st' ∧ n < ls.length ∧ E (k + 1) (mm_st1 ls n (.int x)) st' h = some r := by
  unfold mm_istore at H
  split at H
  · next x st' => exact ⟨x, st', rfl, by simpa using (iv_ck H).1, (iv_ck H).2⟩
  · cases H
theorem iv_lstore (H : mm_drv rs Ec E h (mm_lstore n k ls st h) = some r) : ∃ x st', st = .long x :: st' ∧ n + 1 < ls.length ∧ E (k + 1) (mm_st2 ls n (.long x)) st' h = some r := by
  unfold mm_lstore at H
  split at H
  · next x st' => exact ⟨x, st', rfl, by simpa using (iv_ck H).1, (iv_ck H).2⟩
  · cases H
theorem iv_iinc {v : Int32} (H : mm_drv rs Ec E h (mm_iinc n k v ls st h) = some r) : ∃ x, ls[n]? = some (.int x) ∧ E (k + 1) (mm_st1 ls n (.int (x + v))) st h = some r := by
  unfold mm_iinc at H
  split at H
  · next x hx => exact ⟨x, hx, (iv_ck H).2⟩
  · cases H
theorem iv_bin {f : Int32 → Int32 → Int32} (H : mm_drv rs Ec E h (mm_bin f k ls st h) = some r) : ∃ x y st', st = .int y :: .int x :: st' ∧ E (k + 1) ls (.int (f x y) :: st') h = some r := by
  unfold mm_bin at H
  split at H
  · next y x st' => exact ⟨x, y, st', rfl, H⟩
  · cases H
theorem iv_dv {f : Int32 → Int32 → Int32} (H : mm_drv rs Ec E h (mm_dv f k ls st h) = some r) : ∃ x y st', st = .int y :: .int x :: st' ∧ ¬ y = 0 ∧ E (k + 1) ls (.int (f x y) :: st') h = some r := by
  unfold mm_dv at H
  split at H
  · next y x st' => exact ⟨x, y, st', rfl, by simpa using (iv_ck H).1, (iv_ck H).2⟩
  · cases H
theorem iv_lbin {f : Int64 → Int64 → Int64} (H : mm_drv rs Ec E h (mm_lbin f k ls st h) = some r) : ∃ x y st', st = .long y :: .long x :: st' ∧ E (k + 1) ls (.long (f x y) :: st') h = some r := by
  unfold mm_lbin at H
  split at H
  · next y x st' => exact ⟨x, y, st', rfl, H⟩
  · cases H
theorem iv_neg (H : mm_drv rs Ec E h (mm_neg k ls st h) = some r) : ∃ x st', st = .int x :: st' ∧ E (k + 1) ls (.int (-x) :: st') h = some r := by
  unfold mm_neg at H
  split at H
  · next x st' => exact ⟨x, st', rfl, H⟩
  · cases H
theorem iv_i2l (H : mm_drv rs Ec E h (mm_i2l k ls st h) = some r) : ∃ x st', st = .int x :: st' ∧ E (k + 1) ls (.long x.toInt64 :: st') h = some r := by
  unfold mm_i2l at H
  split at H
  · next x st' => exact ⟨x, st', rfl, H⟩
  · cases H
theorem iv_lcmp (H : mm_drv rs Ec E h (mm_lcmp k ls st h) = some r) : ∃ x y st', st = .long y :: .long x :: st' ∧ E (k + 1) ls (.int (lg_cmp x y) :: st') h = some r := by
  unfold mm_lcmp at H
  split at H
  · next y x st' => exact ⟨x, y, st', rfl, H⟩
  · cases H
theorem iv_dup (H : mm_drv rs Ec E h (mm_dup k ls st h) = some r) : ∃ v st', st = v :: st' ∧ v.category = 1 ∧ E (k + 1) ls (v :: v :: st') h = some r := by
  unfold mm_dup at H
  split at H
  · next x st' => exact ⟨_, st', rfl, rfl, H⟩
  · next x st' => exact ⟨_, st', rfl, rfl, H⟩
  · cases H
theorem iv_dup2 (H : mm_drv rs Ec E h (mm_dup2 k ls st h) = some r) : ∃ y x st', st = .int y :: .ref x :: st' ∧ E (k + 1) ls (.int y :: .ref x :: .int y :: .ref x :: st') h = some r := by
  unfold mm_dup2 at H
  split at H
  · next y x st' => exact ⟨y, x, st', rfl, H⟩
  · cases H
theorem iv_pop (H : mm_drv rs Ec E h (mm_pop k ls st h) = some r) : ∃ x st', st = .int x :: st' ∧ E (k + 1) ls st' h = some r := by
  unfold mm_pop at H
  split at H
  · next x st' => exact ⟨x, st', rfl, H⟩
  · cases H
theorem iv_br {b : Bool} {k1 k2 : Nat} {ls' st' : List Value} {h' : mm_H} (H : mm_drv rs Ec E h (mm_br b k1 k2 ls' st' h') = some r) : (b = true → E k1 ls' st' h' = some r) ∧ (b = false → E k2 ls' st' h' = some r) := by
  cases b
  · exact ⟨fun q => (by cases q), fun _ => H⟩
  · exact ⟨fun _ => H, fun q => (by cases q)⟩
theorem iv_if2 {c : Jvm.ClassFile.Cond} {t : Nat} (H : mm_drv rs Ec E h (mm_if2 c k t ls st h) = some r) : ∃ x y st', st = .int y :: .int x :: st' := by
  unfold mm_if2 at H
  split at H
  · next y x st' => exact ⟨x, y, st', rfl⟩
  · cases H
theorem iv_if1 {c : Jvm.ClassFile.Cond} {t : Nat} (H : mm_drv rs Ec E h (mm_if1 c k t ls st h) = some r) : ∃ x st', st = .int x :: st' := by
  unfold mm_if1 at H
  split at H
  · next x st' => exact ⟨x, st', rfl⟩
  · cases H
theorem iv_sw {q : mm_E} (H : mm_drv rs Ec E h (mm_sw q ls st h) = some r) : ∃ x st', st = .int x :: st' ∧ mm_swc (fun k => E k ls st' h) x q.2.2.2.1.1 q.2.2.2.2.2 = some r := by
  unfold mm_sw at H
  split at H
  · next x st' => exact ⟨x, st', rfl, H⟩
  · cases H
theorem iv_get {a c d : Nat} (H : mm_drv rs Ec E h (mm_get a c d k ls st h) = some r) : ∃ x st', st = .ref x :: st' ∧ mm_kd x = 10 + d ∧ E (k + 1) ls ((if c = 0 then Value.int (h.1 x a) else if c = 1 then .ref (mm_rf x a) else if c = 2 then .ref (h.2.1 5) else .long h.2.2) :: st') h = some r := by
  unfold mm_get at H
  split at H
  · next x st' =>
    split at H
    · exact ⟨x, st', rfl, Nat.eq_of_beq_eq_true (iv_ck H).1, (iv_ck H).2⟩
    · exact ⟨x, st', rfl, Nat.eq_of_beq_eq_true (iv_ck H).1, (iv_ck H).2⟩
    · exact ⟨x, st', rfl, Nat.eq_of_beq_eq_true (iv_ck H).1, (iv_ck H).2⟩
    · next h0 h1 h2 => exact ⟨x, st', rfl, Nat.eq_of_beq_eq_true (iv_ck H).1, by rw [if_neg h0, if_neg h1, if_neg h2]; exact (iv_ck H).2⟩
  · cases H
theorem iv_put {a c d : Nat} (H : mm_drv rs Ec E h (mm_put a c d k ls st h) = some r) : ∃ v x st', st = v :: .ref x :: st' ∧ mm_kd x = 10 + d ∧ ((∃ z, c = 0 ∧ v = .int z ∧ E (k + 1) ls st' (mm_si h x a z) = some r) ∨ (∃ z, c = 2 ∧ v = .ref z ∧ E (k + 1) ls st' (mm_sr h 5 z) = some r) ∨ (∃ z, c = 3 ∧ v = .long z ∧ E (k + 1) ls st' (mm_sl h z) = some r)) := by
  unfold mm_put at H
  split at H
  · split at H
    · next z x st' => exact ⟨_, x, st', rfl, Nat.eq_of_beq_eq_true (iv_ck H).1, Or.inl ⟨z, rfl, rfl, (iv_ck H).2⟩⟩
    · cases H
  · split at H
    · next z x st' => exact ⟨_, x, st', rfl, Nat.eq_of_beq_eq_true (iv_ck H).1, Or.inr (Or.inl ⟨z, rfl, rfl, (iv_ck H).2⟩)⟩
    · cases H
  · split at H
    · next z x st' => exact ⟨_, x, st', rfl, Nat.eq_of_beq_eq_true (iv_ck H).1, Or.inr (Or.inr ⟨z, rfl, rfl, (iv_ck H).2⟩)⟩
    · cases H
  · cases H
theorem mm_inb_vp {i : Int32} {n : Nat} (H : mm_inb i n = true) : vp_in i n := by
  unfold mm_inb at H
  simp only [Bool.and_eq_true, decide_eq_true_eq] at H
  exact vp_in_iff.mpr H
theorem iv_iald {sc : Nat × (Nat → Int32)} (H : mm_drv rs Ec E h (mm_iald sc k ls st h) = some r) : ∃ i x st', st = .int i :: .ref x :: st' ∧ (mm_kd x = 0 ∨ mm_kd x = 2) ∧ vp_in i (mm_len sc x) ∧ E (k + 1) ls (.int (mm_arr sc h x i.toNatClampNeg) :: st') h = some r := by
  unfold mm_iald at H
  split at H
  · next i x st' =>
    obtain ⟨h1, h2⟩ := iv_ck H
    simp only [Bool.and_eq_true, Bool.or_eq_true] at h1
    exact ⟨i, x, st', rfl, h1.1.imp Nat.eq_of_beq_eq_true Nat.eq_of_beq_eq_true, mm_inb_vp h1.2, h2⟩
  · cases H
theorem iv_iast {sc : Nat × (Nat → Int32)} (H : mm_drv rs Ec E h (mm_iast sc k ls st h) = some r) : ∃ v i x st', st = .int v :: .int i :: .ref x :: st' ∧ mm_kd x = 0 ∧ vp_in i (mm_len sc x) ∧ E (k + 1) ls st' (mm_si h x i.toNatClampNeg v) = some r := by
  unfold mm_iast at H
  split at H
  · next v i x st' =>
    obtain ⟨h1, h2⟩ := iv_ck H
    simp only [Bool.and_eq_true] at h1
    exact ⟨v, i, x, st', rfl, Nat.eq_of_beq_eq_true h1.1, mm_inb_vp h1.2, h2⟩
  · cases H
theorem iv_aald (H : mm_drv rs Ec E h (mm_aald k ls st h) = some r) : ∃ i x st', st = .int i :: .ref x :: st' ∧ mm_kd x = 1 ∧ vp_in i 5 ∧ E (k + 1) ls (.ref (h.2.1 i.toNatClampNeg) :: st') h = some r := by
  unfold mm_aald at H
  split at H
  · next i x st' =>
    obtain ⟨h1, h2⟩ := iv_ck H
    simp only [Bool.and_eq_true] at h1
    exact ⟨i, x, st', rfl, Nat.eq_of_beq_eq_true h1.1, mm_inb_vp h1.2, h2⟩
  · cases H
theorem iv_aast (H : mm_drv rs Ec E h (mm_aast k ls st h) = some r) : ∃ v i x st', st = .ref v :: .int i :: .ref x :: st' ∧ mm_kd x = 1 ∧ vp_in i 5 ∧ mm_kd v = 12 ∧ E (k + 1) ls st' (mm_sr h i.toNatClampNeg v) = some r := by
  unfold mm_aast at H
  split at H
  · next v i x st' =>
    obtain ⟨h1, h2⟩ := iv_ck H
    simp only [Bool.and_eq_true] at h1
    exact ⟨v, i, x, st', rfl, Nat.eq_of_beq_eq_true h1.1, mm_inb_vp h1.2.1, Nat.eq_of_beq_eq_true h1.2.2, h2⟩
  · cases H
theorem iv_alen {sc : Nat × (Nat → Int32)} (H : mm_drv rs Ec E h (mm_alen sc k ls st h) = some r) : ∃ x st', st = .ref x :: st' ∧ (mm_kd x = 0 ∨ mm_kd x = 2) ∧ E (k + 1) ls (.int (nI (mm_len sc x)) :: st') h = some r := by
  unfold mm_alen at H
  split at H
  · next x st' =>
    obtain ⟨h1, h2⟩ := iv_ck H
    simp only [Bool.or_eq_true] at h1
    exact ⟨x, st', rfl, h1.imp Nat.eq_of_beq_eq_true Nat.eq_of_beq_eq_true, h2⟩
  · cases H
theorem iv_call {b : Bool} {j k' : Nat} {as ls' st' : List Value} (H : mm_drv rs Ec E h (.inr (.inr (.inl (b, j, as, k', ls', st')))) = some r) : b = true ∧ ∃ u, Ec j as h = some u ∧ E k' ls' (mm_rv (rs j) u ++ st') u.2 = some r := by
  rcases mm_cond_some H with ⟨q1, q2⟩ | ⟨q1, q2⟩
  · obtain ⟨u, h1, h2⟩ := mm_bd_some q2
    exact ⟨q1, u, h1, h2⟩
  · cases q2
/-- a call's values and what is left below them -/
theorem iv_inv0 {a c : Nat} (H : mm_drv rs Ec E h (mm_inv a c 0 k ls st h) = some r) : ∃ As rest u, st = As.reverse ++ rest ∧ As.length = c ∧ mm_cat rest ≤ 8 ∧ Ec a As h = some u ∧ E (k + 1) ls (mm_rv (rs a) u ++ rest) u.2 = some r := by
  obtain ⟨h1, u, h2, h3⟩ := iv_call H
  simp only [Bool.and_eq_true] at h1
  have hc := Nat.le_of_ble_eq_true h1.1
  refine ⟨(st.take c).reverse, st.drop c, u, by simp, by simp; omega, Nat.le_of_ble_eq_true h1.2, h2, h3⟩
theorem iv_inv1 {a c d : Nat} (hd : 9 < d) (H : mm_drv rs Ec E h (mm_inv a c d k ls st h) = some r) : ∃ x As rest u, st = As.reverse ++ .ref x :: rest ∧ As.length + 1 = c ∧ mm_kd x = d ∧ mm_cat rest ≤ 8 ∧ Ec a (.ref x :: As) h = some u ∧ E (k + 1) ls (mm_rv (rs a) u ++ rest) u.2 = some r := by
  obtain ⟨d, rfl⟩ : ∃ e, d = e + 1 := ⟨d - 1, by omega⟩
  unfold mm_inv at H
  dsimp only at H
  split at H
  · next x As hx =>
    obtain ⟨h1, u, h2, h3⟩ := iv_call H
    simp only [Bool.and_eq_true] at h1
    have hc := Nat.le_of_ble_eq_true h1.1.2
    have e1 : st.take c = As.reverse ++ [.ref x] := by
      have := congrArg List.reverse hx
      simpa using this
    have e2 : (st.take c).length = c := by simp; omega
    refine ⟨x, As, st.drop c, u, ?_, ?_, Nat.eq_of_beq_eq_true h1.1.1, Nat.le_of_ble_eq_true h1.2, h2, h3⟩
    · have := List.take_append_drop c st
      rw [e1, List.append_assoc] at this
      exact this.symm
    · rw [e1] at e2
      simpa using e2
  · cases H
theorem iv_cpy {sc : Nat × (Nat → Int32)} (H : mm_drv rs Ec E h (mm_cpy sc k ls st h) = some r) : ∃ n dp y sp x st', st = .int n :: .int dp :: .ref y :: .int sp :: .ref x :: st' ∧ mm_kd x = 0 ∧ mm_kd y = 0 ∧ mm_cat st' ≤ 8 ∧ ¬ sp < 0 ∧ ¬ dp < 0 ∧ ¬ n < 0 ∧ sp.toNatClampNeg + n.toNatClampNeg ≤ mm_len sc x ∧ dp.toNatClampNeg + n.toNatClampNeg ≤ mm_len sc y ∧ E (k + 1) ls st' (mm_sa h y (va_cpy (h.1 x) (h.1 y) sp.toNatClampNeg dp.toNatClampNeg n.toNatClampNeg)) = some r := by
  unfold mm_cpy at H
  split at H
  · next n dp y sp x st' =>
    obtain ⟨h1, h2⟩ := iv_ck H
    simp only [Bool.and_eq_true, decide_eq_true_eq] at h1
    obtain ⟨⟨a1, a2⟩, a3, ⟨a4, a5, a6⟩, a7, a8⟩ := h1
    have nl : ∀ z : Int32, 0 ≤ z.toInt → ¬ z < 0 := fun z hz q => by
      have := Int32.lt_iff_toInt_lt.mp q
      simp at this
      omega
    exact ⟨n, dp, y, sp, x, st', rfl, Nat.eq_of_beq_eq_true a1, Nat.eq_of_beq_eq_true a2, Nat.le_of_ble_eq_true a3, nl _ a4, nl _ a5, nl _ a6, Nat.le_of_ble_eq_true a7, Nat.le_of_ble_eq_true a8, h2⟩
  · cases H
end IV
