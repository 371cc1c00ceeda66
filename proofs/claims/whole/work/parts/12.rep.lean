/-! pictures: what the heap holds of the small machine's cells -/
def mm_mv (ad : Nat → Nat) (v : Value) : Value := match v with
  | .ref k => .ref (ad k)
  | v => v
theorem mm_mv_cat (ad : Nat → Nat) (v : Value) : (mm_mv ad v).category = v.category := by cases v <;> rfl
def mm_fv (ad : Nat → Nat) (h : mm_H) (k ci j : Nat) : Value :=
  if mm_ft ci j = 0 then .int (h.1 k j) else if mm_ft ci j = 1 then .ref (ad (mm_rf k j)) else if mm_ft ci j = 2 then .ref (ad (h.2.1 5)) else .long h.2.2
def mm_fs (ad : Nat → Nat) (h : mm_H) (k ci : Nat) : List Value := (List.range (mm_nf ci)).map (mm_fv ad h k ci)
def mm_cell (ad : Nat → Nat) (cI cS : ClassId) (h : mm_H) (k : Nat) : va_E :=
  if mm_kd k = 0 then .inl (cI, mm_lel.getD k 0, .inl (h.1 k)) else if mm_kd k = 1 then .inl (cS, 5, .inr (.inr (.inr (.inr (fun j => if j < 5 then some (ad (h.2.1 j)) else none))))) else .inr (mm_kd k - 10, mm_fs ad h k (mm_kd k - 10))
def mm_ws (ad : Nat → Nat) (cI cS : ClassId) (h : mm_H) : va_W := (List.range 63).map (fun k => (ad k, mm_cell ad cI cS h k))
theorem mm_ws_at {ad : Nat → Nat} {cI cS : ClassId} {h : mm_H} {k : Nat} (hk : k < 63) : (mm_ws ad cI cS h)[k]? = some (ad k, mm_cell ad cI cS h k) := by
  simp [mm_ws, hk]
theorem mm_ws_lt {ad : Nat → Nat} {cI cS : ClassId} {h : mm_H} {k : Nat} {q : Nat × va_E} (hq : (mm_ws ad cI cS h)[k]? = some q) : k < 63 ∧ q = (ad k, mm_cell ad cI cS h k) := by
  have hl : k < 63 := by
    have := (List.getElem?_eq_some_iff.mp hq).1
    simpa [mm_ws] using this
  rw [mm_ws_at hl] at hq
  exact ⟨hl, (Option.some.inj hq).symm⟩
theorem mm_ws_set {ad : Nat → Nat} {cI cS : ClassId} {h h' : mm_H} {k : Nat} {e : va_E} (hk : k < 63) (he : mm_cell ad cI cS h' k = e) (ho : ∀ j, j < 63 → j ≠ k → mm_cell ad cI cS h' j = mm_cell ad cI cS h j) : (mm_ws ad cI cS h).set k (ad k, e) = mm_ws ad cI cS h' := by
  apply List.ext_getElem?
  intro j
  by_cases hj : j < 63
  · rw [mm_ws_at hj]
    by_cases hjk : j = k
    · subst hjk
      rw [List.getElem?_set_self (by simpa [mm_ws] using hj), he]
    · rw [List.getElem?_set_ne (Ne.symm hjk), mm_ws_at hj, ho j hj hjk]
  · rw [List.getElem?_eq_none (by simp [mm_ws]; omega), List.getElem?_eq_none (by simp [mm_ws]; omega)]
theorem mm_fs_congr {ad : Nat → Nat} {h h' : mm_H} {k ci : Nat} (h1 : h'.1 k = h.1 k) (h2 : h'.2.1 5 = h.2.1 5) (h3 : h'.2.2 = h.2.2) : mm_fs ad h' k ci = mm_fs ad h k ci := by
  unfold mm_fs
  apply List.map_congr_left
  intro j _
  unfold mm_fv
  rw [h1, h2, h3]
theorem mm_cell_congr {ad : Nat → Nat} {cI cS : ClassId} {h h' : mm_H} {k : Nat} (h1 : h'.1 k = h.1 k) (h2 : ∀ j, j < 6 → h'.2.1 j = h.2.1 j) (h3 : h'.2.2 = h.2.2) : mm_cell ad cI cS h' k = mm_cell ad cI cS h k := by
  unfold mm_cell
  have e : (fun j => if j < 5 then some (ad (h'.2.1 j)) else none) = (fun j => if j < 5 then some (ad (h.2.1 j)) else none) := by
    funext j
    by_cases hj : j < 5
    · rw [if_pos hj, if_pos hj, h2 j (by omega)]
    · rw [if_neg hj, if_neg hj]
  rw [mm_fs_congr h1 (h2 5 (by omega)) h3, h1, e]
theorem mm_kd_big {x : Nat} (h : 66 ≤ x) : mm_kd x = 99 := by
  unfold mm_kd
  rw [List.getD_eq_getElem?_getD, List.getElem?_eq_none (by simpa [mm_kdl] using h)]
  rfl
theorem mm_kd_lt : ∀ x, x < 66 → (mm_kd x = 0 → x < 63) ∧ (mm_kd x = 1 → x = 2) ∧ (mm_kd x = 2 → x = 63 ∨ x = 64 ∨ x = 65) ∧ (mm_kd x = 10 → x = 1) ∧ (mm_kd x = 15 → x = 49) ∧ (10 ≤ mm_kd x → x < 63 ∧ mm_kd x < 16) := by decide +kernel
theorem mm_kd_in {x n : Nat} (h : mm_kd x = n) (hn : n < 90) : x < 66 := by
  by_cases hx : x < 66
  · exact hx
  · rw [mm_kd_big (by omega)] at h
    omega
theorem mm_cell_0 {ad : Nat → Nat} {cI cS : ClassId} {h : mm_H} {k : Nat} (hk : mm_kd k = 0) : mm_cell ad cI cS h k = .inl (cI, mm_lel.getD k 0, .inl (h.1 k)) := by
  unfold mm_cell
  rw [if_pos hk]
theorem mm_cell_1 {ad : Nat → Nat} {cI cS : ClassId} {h : mm_H} {k : Nat} (hk : mm_kd k = 1) : mm_cell ad cI cS h k = .inl (cS, 5, .inr (.inr (.inr (.inr (fun j => if j < 5 then some (ad (h.2.1 j)) else none))))) := by
  unfold mm_cell
  rw [if_neg (by omega), if_pos hk]
theorem mm_cell_o {ad : Nat → Nat} {cI cS : ClassId} {h : mm_H} {k d : Nat} (hk : mm_kd k = 10 + d) : mm_cell ad cI cS h k = .inr (d, mm_fs ad h k d) := by
  unfold mm_cell
  have e : mm_kd k - 10 = d := by omega
  rw [if_neg (by omega), if_neg (by omega), e]
theorem mm_fs_at {ad : Nat → Nat} {h : mm_H} {k ci j : Nat} (hj : j < mm_nf ci) : (mm_fs ad h k ci)[j]? = some (mm_fv ad h k ci j) := by
  simp [mm_fs, hj]
theorem mm_fs_len {ad : Nat → Nat} {h : mm_H} {k ci : Nat} : (mm_fs ad h k ci).length = mm_nf ci := by
  simp [mm_fs]
theorem mm_fs_set {ad : Nat → Nat} {h h' : mm_H} {k ci a : Nat} {v : Value} (ha : mm_fv ad h' k ci a = v) (ho : ∀ j, j ≠ a → j < mm_nf ci → mm_fv ad h' k ci j = mm_fv ad h k ci j) : (mm_fs ad h k ci).set a v = mm_fs ad h' k ci := by
  apply List.ext_getElem?
  intro j
  by_cases hj : j < mm_nf ci
  · rw [mm_fs_at hj]
    by_cases hja : j = a
    · subst hja
      rw [List.getElem?_set_self (by rw [mm_fs_len]; exact hj), ha]
    · rw [List.getElem?_set_ne (Ne.symm hja), mm_fs_at hj, ho j hja hj]
  · rw [List.getElem?_eq_none (by rw [List.length_set, mm_fs_len]; omega), List.getElem?_eq_none (by rw [mm_fs_len]; omega)]
theorem mm_si_ne {h : mm_H} {x a j : Nat} {v : Int32} (hj : j ≠ x) : (mm_si h x a v).1 j = h.1 j := by
  simp [mm_si, hj]
theorem mm_si_eq {h : mm_H} {x a : Nat} {v : Int32} : (mm_si h x a v).1 x = upd (h.1 x) a v := by
  simp [mm_si]
theorem mm_sa_ne {h : mm_H} {x j : Nat} {f : Nat → Int32} (hj : j ≠ x) : (mm_sa h x f).1 j = h.1 j := by
  simp [mm_sa, hj]
theorem mm_sa_eq {h : mm_H} {x : Nat} {f : Nat → Int32} : (mm_sa h x f).1 x = f := by
  simp [mm_sa]
/-- a row's place is written -/
theorem mm_set_i {ad : Nat → Nat} {cI cS : ClassId} {h : mm_H} {x a : Nat} {v : Int32} (hx : mm_kd x = 0) (h63 : x < 63) : (mm_ws ad cI cS h).set x (ad x, .inl (cI, mm_lel.getD x 0, .inl (upd (h.1 x) a v))) = mm_ws ad cI cS (mm_si h x a v) :=
  mm_ws_set h63 (by rw [mm_cell_0 hx, mm_si_eq]) (fun j _ hj => mm_cell_congr (mm_si_ne hj) (fun _ _ => rfl) rfl)
theorem mm_set_a {ad : Nat → Nat} {cI cS : ClassId} {h : mm_H} {x : Nat} {f : Nat → Int32} (hx : mm_kd x = 0) (h63 : x < 63) : (mm_ws ad cI cS h).set x (ad x, .inl (cI, mm_lel.getD x 0, .inl f)) = mm_ws ad cI cS (mm_sa h x f) :=
  mm_ws_set h63 (by rw [mm_cell_0 hx, mm_sa_eq]) (fun j _ hj => mm_cell_congr (mm_sa_ne hj) (fun _ _ => rfl) rfl)
/-- an int field is written -/
theorem mm_set_f {ad : Nat → Nat} {cI cS : ClassId} {h : mm_H} {x a d : Nat} {v : Int32} (hx : mm_kd x = 10 + d) (h63 : x < 63) (ht : mm_ft d a = 0) : (mm_ws ad cI cS h).set x (ad x, .inr (d, (mm_fs ad h x d).set a (.int v))) = mm_ws ad cI cS (mm_si h x a v) := by
  refine mm_ws_set h63 ?_ (fun j _ hj => mm_cell_congr (mm_si_ne hj) (fun _ _ => rfl) rfl)
  rw [mm_cell_o hx, mm_fs_set (h' := mm_si h x a v)]
  · unfold mm_fv
    rw [if_pos ht, mm_si_eq]
    simp [upd]
  · intro j hj _
    unfold mm_fv
    rw [mm_si_eq]
    simp [upd, hj, mm_si]
theorem mm_ft_2 : ∀ d, d < 6 → ∀ j, j < 19 → mm_ft d j = 2 → d = 0 ∧ j = 3 := by decide +kernel
theorem mm_ft_3 : ∀ d, d < 6 → ∀ j, j < 19 → mm_ft d j = 3 → d = 5 ∧ j = 18 := by decide +kernel
theorem mm_ft_in : ∀ d, d < 6 → ∀ j, j < 19 → j < mm_nf d → mm_ft d j < 4 := by decide +kernel
theorem mm_nf_in : ∀ d, d < 6 → mm_nf d ≤ 19 := by decide +kernel
theorem mm_no_2 : ∀ j, j < 63 → j ≠ 1 → 10 ≤ mm_kd j → ∀ i, i < 19 → i < mm_nf (mm_kd j - 10) → mm_ft (mm_kd j - 10) i ≠ 2 := by decide +kernel
theorem mm_no_3 : ∀ j, j < 63 → j ≠ 49 → 10 ≤ mm_kd j → ∀ i, i < 19 → i < mm_nf (mm_kd j - 10) → mm_ft (mm_kd j - 10) i < 3 := by decide +kernel
theorem mm_kd_63 : ∀ j, j < 63 → mm_kd j = 0 ∨ mm_kd j = 1 ∨ (10 ≤ mm_kd j ∧ mm_kd j - 10 < 6) := by decide +kernel
/-- the moving reference of the history -/
theorem mm_set_r {ad : Nat → Nat} {cI cS : ClassId} {h : mm_H} {x a d v : Nat} (hx : mm_kd x = 10 + d) (h63 : x < 63) (hd : d < 6) (ha : a < mm_nf d) (ht : mm_ft d a = 2) : (mm_ws ad cI cS h).set x (ad x, .inr (d, (mm_fs ad h x d).set a (.ref (ad v)))) = mm_ws ad cI cS (mm_sr h 5 v) := by
  have hn := mm_nf_in d hd
  obtain ⟨rfl, rfl⟩ := mm_ft_2 d hd a (by omega) ht
  have hx1 : x = 1 := (mm_kd_lt x (by omega)).2.2.2.1 hx
  refine mm_ws_set h63 ?_ (fun j hj hjx => ?_)
  · rw [mm_cell_o hx, mm_fs_set (h' := mm_sr h 5 v)]
    · unfold mm_fv
      rw [if_neg (by omega), if_neg (by omega), if_pos ht]
      simp [mm_sr]
    · intro j hj hjn
      unfold mm_fv
      have h2 : mm_ft 0 j ≠ 2 := fun e => hj (mm_ft_2 0 (by omega) j (by omega) e).2
      rw [if_neg h2, if_neg h2]
      rfl
  · rcases mm_kd_63 j hj with h1 | h1 | ⟨h1, h2⟩
    · rw [mm_cell_0 h1, mm_cell_0 h1]; rfl
    · rw [mm_cell_1 h1, mm_cell_1 h1]
      have e : (fun i => if i < 5 then some (ad ((mm_sr h 5 v).2.1 i)) else none) = (fun i => if i < 5 then some (ad (h.2.1 i)) else none) := by
        funext i
        by_cases hi : i < 5
        · rw [if_pos hi, if_pos hi]
          simp [mm_sr, show i ≠ 5 by omega]
        · rw [if_neg hi, if_neg hi]
      rw [e]
    · have e : mm_kd j = 10 + (mm_kd j - 10) := by omega
      rw [mm_cell_o e, mm_cell_o e]
      have h19 := mm_nf_in _ h2
      have e2 : mm_fs ad (mm_sr h 5 v) j (mm_kd j - 10) = mm_fs ad h j (mm_kd j - 10) := by
        unfold mm_fs
        apply List.map_congr_left
        intro i hi
        have hi' : i < mm_nf (mm_kd j - 10) := by simpa using hi
        have hn2 := mm_no_2 j hj (by omega) h1 i (by omega) hi'
        unfold mm_fv
        rw [if_neg hn2, if_neg hn2]
        rfl
      rw [e2]
/-- the one long -/
theorem mm_set_l {ad : Nat → Nat} {cI cS : ClassId} {h : mm_H} {x a d : Nat} {v : Int64} (hx : mm_kd x = 10 + d) (h63 : x < 63) (hd : d < 6) (ha : a < mm_nf d) (ht : mm_ft d a = 3) : (mm_ws ad cI cS h).set x (ad x, .inr (d, (mm_fs ad h x d).set a (.long v))) = mm_ws ad cI cS (mm_sl h v) := by
  have hn := mm_nf_in d hd
  obtain ⟨rfl, rfl⟩ := mm_ft_3 d hd a (by omega) ht
  have hx1 : x = 49 := (mm_kd_lt x (by omega)).2.2.2.2.1 hx
  refine mm_ws_set h63 ?_ (fun j hj hjx => ?_)
  · rw [mm_cell_o hx, mm_fs_set (h' := mm_sl h v)]
    · unfold mm_fv
      rw [if_neg (by omega), if_neg (by omega), if_neg (by omega)]
      rfl
    · intro j hj hjn
      unfold mm_fv
      have h2 : mm_ft 5 j ≠ 3 := fun e => hj (mm_ft_3 5 (by omega) j (by omega) e).2
      have h4 := mm_ft_in 5 (by omega) j (by omega) hjn
      by_cases q0 : mm_ft 5 j = 0
      · rw [if_pos q0, if_pos q0]; rfl
      · by_cases q1 : mm_ft 5 j = 1
        · rw [if_neg q0, if_neg q0, if_pos q1, if_pos q1]
        · rw [if_neg q0, if_neg q0, if_neg q1, if_neg q1, if_pos (by omega), if_pos (by omega)]; rfl
  · rcases mm_kd_63 j hj with h1 | h1 | ⟨h1, h2⟩
    · rw [mm_cell_0 h1, mm_cell_0 h1]; rfl
    · rw [mm_cell_1 h1, mm_cell_1 h1]; rfl
    · have e : mm_kd j = 10 + (mm_kd j - 10) := by omega
      rw [mm_cell_o e, mm_cell_o e]
      have h19 := mm_nf_in _ h2
      have e2 : mm_fs ad (mm_sl h v) j (mm_kd j - 10) = mm_fs ad h j (mm_kd j - 10) := by
        unfold mm_fs
        apply List.map_congr_left
        intro i hi
        have hi' : i < mm_nf (mm_kd j - 10) := by simpa using hi
        have hn2 := mm_no_3 j hj (by omega) h1 i (by omega) hi'
        unfold mm_fv
        by_cases q0 : mm_ft (mm_kd j - 10) i = 0
        · rw [if_pos q0, if_pos q0]; rfl
        · by_cases q1 : mm_ft (mm_kd j - 10) i = 1
          · rw [if_neg q0, if_neg q0, if_pos q1, if_pos q1]
          · rw [if_neg q0, if_neg q0, if_neg q1, if_neg q1, if_pos (by omega), if_pos (by omega)]; rfl
      rw [e2]
/-- the row of references -/
theorem mm_set_q {ad : Nat → Nat} {cI cS : ClassId} {h : mm_H} {x i v : Nat} (hx : mm_kd x = 1) (h63 : x < 63) (hi : i < 5) : (mm_ws ad cI cS h).set x (ad x, .inl (cS, 5, .inr (.inr (.inr (.inr (va_up (fun j => if j < 5 then some (ad (h.2.1 j)) else none) i (some (ad v)))))))) = mm_ws ad cI cS (mm_sr h i v) := by
  refine mm_ws_set h63 ?_ (fun j hj hjx => ?_)
  · rw [mm_cell_1 hx]
    have e : (fun j => if j < 5 then some (ad ((mm_sr h i v).2.1 j)) else none) = va_up (fun j => if j < 5 then some (ad (h.2.1 j)) else none) i (some (ad v)) := by
      funext j
      by_cases hj : j = i
      · subst hj
        simp [va_up, hi, mm_sr]
      · by_cases h5 : j < 5
        · simp [va_up, hj, h5, mm_sr]
        · simp [va_up, hj, h5]
    rw [e]
  · rcases mm_kd_63 j hj with h1 | h1 | ⟨h1, h2⟩
    · rw [mm_cell_0 h1, mm_cell_0 h1]; rfl
    · exfalso
      have a1 := (mm_kd_lt x (by omega)).2.1 hx
      have a2 := (mm_kd_lt j (by omega)).2.1 h1
      omega
    · have e : mm_kd j = 10 + (mm_kd j - 10) := by omega
      rw [mm_cell_o e, mm_cell_o e]
      have e2 : mm_fs ad (mm_sr h i v) j (mm_kd j - 10) = mm_fs ad h j (mm_kd j - 10) := mm_fs_congr rfl (by simp [mm_sr]; omega) rfl
      rw [e2]
theorem mm_D {A : Nat → Prop} {ad : Nat → Nat} {cI cS : ClassId} {h : mm_H} (hinj : ∀ i j, i < 63 → j < 63 → ad i = ad j → i = j) (hA : ∀ k, k < 63 → A (ad k)) : va_D A (mm_ws ad cI cS h) := by
  refine ⟨fun i j p q hi hj hpq => ?_, fun k q hk => ?_⟩
  · obtain ⟨h1, rfl⟩ := mm_ws_lt hi
    obtain ⟨h2, rfl⟩ := mm_ws_lt hj
    exact hinj i j h1 h2 hpq
  · obtain ⟨h1, rfl⟩ := mm_ws_lt hk
    exact hA k h1
/-! the frame's variables -/
def mm_lok (ad : Nat → Nat) (lsA : Array Slot) (nL : Nat) (ls : List Value) : Prop := lsA.size = nL ∧ lv_wf lsA ∧ ls.length = nL ∧ ∀ (n : Nat) (v : Value), ls[n]? = some v → v ≠ .null → lsA[n]? = some (.val (mm_mv ad v))
def mm_lv1 (ad : Nat → Nat) (n : Nat) (o : Option Value) : Option (Nat × Value) := match o with
  | some Value.null => none
  | some v => some (n, mm_mv ad v)
  | none => none
def mm_lvl (ad : Nat → Nat) (ls : List Value) : List (Nat × Value) := (List.range ls.length).filterMap (fun n => mm_lv1 ad n ls[n]?)
theorem mm_lvl_mem {ad : Nat → Nat} {ls : List Value} {n : Nat} {v : Value} (h1 : ls[n]? = some v) (h2 : v ≠ .null) : (n, mm_mv ad v) ∈ mm_lvl ad ls := by
  unfold mm_lvl
  rw [List.mem_filterMap]
  refine ⟨n, List.mem_range.mpr (List.getElem?_eq_some_iff.mp h1).1, ?_⟩
  rw [h1]
  cases v <;> first | rfl | exact absurd rfl h2
theorem mm_lvl_of {ad : Nat → Nat} {ls : List Value} {q : Nat × Value} (h : q ∈ mm_lvl ad ls) : ∃ v, ls[q.1]? = some v ∧ v ≠ .null ∧ q.2 = mm_mv ad v := by
  unfold mm_lvl at h
  rw [List.mem_filterMap] at h
  obtain ⟨n, -, hn⟩ := h
  cases hv : ls[n]? with
  | none => rw [hv] at hn; cases hn
  | some v =>
    rw [hv] at hn
    cases v <;> first | (cases hn; done) | (cases hn; exact ⟨_, hv, by simp, rfl⟩)
theorem mm_lok_has {ad : Nat → Nat} {lsA : Array Slot} {nL : Nat} {ls : List Value} (h : mm_lok ad lsA nL ls) : lv_has lsA nL (mm_lvl ad ls) := by
  refine ⟨h.1, h.2.1, fun q hq => ?_⟩
  obtain ⟨v, h1, h2, h3⟩ := mm_lvl_of hq
  rw [h3]
  exact h.2.2.2 _ _ h1 h2
theorem mm_kill_len (ls : List Value) (n : Nat) : (mm_kill ls n).length = ls.length := by
  unfold mm_kill
  split
  · rfl
  · split <;> simp
theorem mm_kill_at {ls : List Value} {n j : Nat} {u : Value} (h : (mm_kill ls n)[j]? = some u) (hu : u ≠ .null) : ls[j]? = some u ∧ ¬ (j + 1 = n ∧ u.category = 2) := by
  unfold mm_kill at h
  split at h
  · exact ⟨h, fun q => by omega⟩
  · next m =>
    have key : ∀ w : Value, ls[m]? = some w → (ls.set m .null)[j]? = some u → ls[j]? = some u ∧ ¬ (j + 1 = m + 1 ∧ u.category = 2) := by
      intro w hw h
      by_cases hj : j = m
      · subst hj
        rw [List.getElem?_set_self (List.getElem?_eq_some_iff.mp hw).1] at h
        exact absurd (Option.some.inj h).symm hu
      · rw [List.getElem?_set_ne (Ne.symm hj)] at h
        exact ⟨h, fun q => hj (by omega)⟩
    split at h
    · next w hw => exact key _ hw h
    · next w hw => exact key _ hw h
    · next h1 h2 =>
      refine ⟨h, fun q => ?_⟩
      obtain ⟨q1, q2⟩ := q
      have : j = m := by omega
      subst this
      cases u <;> first | (exact absurd h (h1 _)) | (exact absurd h (h2 _)) | (simp [Value.category] at q2)
theorem mm_lok_st1 {ad : Nat → Nat} {lsA : Array Slot} {nL n : Nat} {ls : List Value} {v : Value} (hlen : ls.length = nL) (hn : n < nL) (h : lv_has lsA nL ((n, mm_mv ad v) :: (mm_lvl ad ls).filter (fun q => !(q.1 == n) && !(q.1 + 1 == n && q.2.category == 2)))) : mm_lok ad lsA nL (mm_st1 ls n v) := by
  refine ⟨h.1, h.2.1, by simp [mm_st1, mm_kill_len, hlen], fun j u hj hu => ?_⟩
  unfold mm_st1 at hj
  by_cases hjn : j = n
  · subst hjn
    rw [List.getElem?_set_self (by rw [mm_kill_len]; omega)] at hj
    cases hj
    exact h.2.2 _ List.mem_cons_self
  · rw [List.getElem?_set_ne (Ne.symm hjn)] at hj
    obtain ⟨h1, h2⟩ := mm_kill_at hj hu
    refine h.2.2 (j, mm_mv ad u) (List.mem_cons_of_mem _ (List.mem_filter.mpr ⟨mm_lvl_mem h1 hu, ?_⟩))
    simp only [Bool.and_eq_true, Bool.not_eq_true', beq_eq_false_iff_ne, ne_eq, Bool.and_eq_false_iff]
    refine ⟨hjn, ?_⟩
    by_cases q1 : j + 1 = n
    · refine Or.inr (fun q2 => h2 ⟨q1, ?_⟩)
      rw [mm_mv_cat] at q2
      exact q2
    · exact Or.inl q1
theorem mm_lok_st2 {ad : Nat → Nat} {lsA : Array Slot} {nL n : Nat} {ls : List Value} {v : Value} (hlen : ls.length = nL) (hn : n + 1 < nL) (h : lv_has lsA nL ((n, mm_mv ad v) :: (mm_lvl ad ls).filter (fun q => !(q.1 == n) && (!(q.1 == n + 1) && !(q.1 + 1 == n && q.2.category == 2))))) : mm_lok ad lsA nL (mm_st2 ls n v) := by
  refine ⟨h.1, h.2.1, by simp [mm_st2, mm_kill_len, hlen], fun j u hj hu => ?_⟩
  unfold mm_st2 at hj
  by_cases hj1 : j = n + 1
  · subst hj1
    rw [List.getElem?_set_self (by rw [List.length_set, mm_kill_len]; omega)] at hj
    exact absurd (Option.some.inj hj).symm hu
  · rw [List.getElem?_set_ne (Ne.symm hj1)] at hj
    by_cases hjn : j = n
    · subst hjn
      rw [List.getElem?_set_self (by rw [mm_kill_len]; omega)] at hj
      cases hj
      exact h.2.2 _ List.mem_cons_self
    · rw [List.getElem?_set_ne (Ne.symm hjn)] at hj
      obtain ⟨h1, h2⟩ := mm_kill_at hj hu
      refine h.2.2 (j, mm_mv ad u) (List.mem_cons_of_mem _ (List.mem_filter.mpr ⟨mm_lvl_mem h1 hu, ?_⟩))
      simp only [Bool.and_eq_true, Bool.not_eq_true', beq_eq_false_iff_ne, ne_eq, Bool.and_eq_false_iff]
      refine ⟨hjn, hj1, ?_⟩
      by_cases q1 : j + 1 = n
      · refine Or.inr (fun q2 => h2 ⟨q1, ?_⟩)
        rw [mm_mv_cat] at q2
        exact q2
      · exact Or.inl q1
