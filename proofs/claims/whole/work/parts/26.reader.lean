/-! reading a text: one byte after another -/
abbrev Ar : Type := Nat × Option (Nat × Nat) × Nat × (Nat → Nat) × (Nat → Nat)
def nof (b : Nat) : Option Nat := if b = 99 then some 0 else if b = 102 then some 1 else if b = 104 then some 3 else if b = 108 then some 1 else if b = 116 then some 3 else none
def nfn (b : Nat) : Nat := (nof b).getD 1
def upN (f : Nat → Nat) (i x : Nat) : Nat → Nat := fun j => if j = i then x else f j
def stp (A : Ar) (b : Nat) : Option Ar :=
  if 48 ≤ b ∧ b ≤ 57 then
    match A.2.1 with
    | none => none
    | some (w, g) => if A.2.2.1 = 0 then (if g < w then some (A.1, some (w, g + 1), 1, A.2.2.2.1, upN A.2.2.2.2 (A.1 * 3 + g) (b - 48)) else none) else if A.2.2.1 < 4 then some (A.1, some (w, g), A.2.2.1 + 1, A.2.2.2.1, upN A.2.2.2.2 (A.1 * 3 + g - 1) (A.2.2.2.2 (A.1 * 3 + g - 1) * 10 + (b - 48))) else none
  else if b = 32 then some (A.1, A.2.1, 0, A.2.2.2)
  else if b = 59 then
    match A.2.1 with
    | none => none
    | some (w, g) => if w ≤ g then some (A.1 + 1, none, 0, A.2.2.2) else none
  else
    match A.2.1 with
    | some _ => none
    | none => match nof b with
      | none => none
      | some m => some (A.1, some (m, 0), 0, upN A.2.2.2.1 A.1 b, A.2.2.2.2)
def rdg (tx : Nat → Int32) : Nat → Nat → Ar → Nat ⊕ Ar
  | 0, p, A => if A.2.1 = none ∧ 0 < A.1 then .inr A else .inl p
  | d + 1, p, A => match stp A (tx p).toNatClampNeg with
    | none => .inl p
    | some A' => rdg tx d (p + 1) A'
def A0 : Ar := (0, none, 0, fun _ => 0, fun _ => 0)
def WA (p : Nat) (A : Ar) : Prop := (2 * A.1 ≤ p) ∧ (A.2.1 ≠ none → 2 * A.1 + 1 ≤ p) ∧ A.2.2.1 ≤ 4 ∧ (A.2.1 = none → A.2.2.1 = 0) ∧ (∀ w g, A.2.1 = some (w, g) → g ≤ w ∧ w ≤ 3 ∧ w = nfn (A.2.2.2.1 A.1) ∧ (0 < A.2.2.1 → 1 ≤ g)) ∧ (∀ i, A.2.2.2.2 i < 10000) ∧ ∀ w g, A.2.1 = some (w, g) → 0 < A.2.2.1 → A.2.2.2.2 (A.1 * 3 + g - 1) < 10 ^ A.2.2.1
def RA (h : mm_H) (A : Ar) : Prop := h.1 4 2 = nI A.1 ∧ h.1 4 5 = nI A.2.2.1 ∧ (A.2.1 = none → h.1 4 3 = -1) ∧ (∀ w g, A.2.1 = some (w, g) → h.1 4 3 = nI w ∧ h.1 4 4 = nI g ∧ h.1 12 A.1 = nI (A.2.2.2.1 A.1) ∧ ∀ j, j < g → h.1 13 (A.1 * 3 + j) = nI (A.2.2.2.2 (A.1 * 3 + j))) ∧ (∀ i, i < A.1 → h.1 12 i = nI (A.2.2.2.1 i)) ∧ ∀ i j, i < A.1 → j < nfn (A.2.2.2.1 i) → h.1 13 (i * 3 + j) = nI (A.2.2.2.2 (i * 3 + j))
def frR (h g : mm_H) : Prop := (∀ a, a ≠ 4 → a ≠ 12 → a ≠ 13 → g.1 a = h.1 a) ∧ g.2 = h.2
theorem frR.rf {h : mm_H} : frR h h := ⟨fun _ _ _ _ => rfl, rfl⟩
theorem frR.tr {h g k : mm_H} (h1 : frR h g) (h2 : frR g k) : frR h k := ⟨fun a x y z => (h2.1 a x y z).trans (h1.1 a x y z), h2.2.trans h1.2⟩
theorem nof_le {b m : Nat} (h : nof b = some m) : m ≤ 3 ∧ m = nfn b := by
  have h2 : nfn b = m := by unfold nfn; rw [h]; rfl
  unfold nof at h
  repeat' split at h
  all_goals first
    | cases h
    | skip
  all_goals (first | exact ⟨by omega, h2.symm⟩ | skip)
theorem nfn_le (b : Nat) : nfn b ≤ 3 := by
  unfold nfn nof
  repeat' split
  all_goals decide
theorem wa_stp {A A' : Ar} {b p : Nat} (h : WA p A) (hs : stp A b = some A') : WA (p + 1) A' := by
  obtain ⟨k, o, f, L, N⟩ := A
  obtain ⟨h1, h2, h3, h4, h5, h6, h7⟩ := h
  unfold stp at hs
  dsimp only at h1 h2 h3 h4 h5 h6 h7 hs
  by_cases hd : 48 ≤ b ∧ b ≤ 57
  · rw [if_pos hd] at hs
    cases o with
    | none => cases hs
    | some q =>
      obtain ⟨w, g⟩ := q
      obtain ⟨a1, a2, a3, a4⟩ := h5 w g rfl
      have h2' := h2 (by simp)
      dsimp only at hs
      by_cases q0 : f = 0
      · rw [if_pos q0] at hs
        by_cases q1 : g < w
        · rw [if_pos q1] at hs
          cases hs
          refine ⟨by show 2 * k ≤ p + 1; omega, fun _ => by show 2 * k + 1 ≤ p + 1; omega, by show 1 ≤ 4; omega, fun q => (by cases q), fun w' g' q => ?_, fun i => ?_, fun w' g' q _ => ?_⟩
          · cases q
            exact ⟨by omega, a2, a3, fun _ => by omega⟩
          · show upN N (k * 3 + g) (b - 48) i < 10000
            unfold upN
            have := h6 i
            split <;> omega
          · cases q
            show upN N (k * 3 + g) (b - 48) (k * 3 + (g + 1) - 1) < 10 ^ 1
            unfold upN
            rw [if_pos (by omega)]
            omega
        · rw [if_neg q1] at hs
          cases hs
      · rw [if_neg q0] at hs
        by_cases q1 : f < 4
        · rw [if_pos q1] at hs
          cases hs
          have b1 := a4 (by omega)
          have b2 := h7 w g rfl (by omega)
          have b3 : N (k * 3 + g - 1) * 10 + (b - 48) < 10 ^ (f + 1) := by
            rw [Nat.pow_succ]
            omega
          have b4 : 10 ^ (f + 1) ≤ 10000 := by
            have : f = 1 ∨ f = 2 ∨ f = 3 := by omega
            rcases this with rfl | rfl | rfl <;> decide
          refine ⟨by show 2 * k ≤ p + 1; omega, fun _ => by show 2 * k + 1 ≤ p + 1; omega, by show f + 1 ≤ 4; omega, fun q => (by cases q), fun w' g' q => ?_, fun i => ?_, fun w' g' q _ => ?_⟩
          · cases q
            exact ⟨by omega, a2, a3, fun _ => by omega⟩
          · show upN N (k * 3 + g - 1) (N (k * 3 + g - 1) * 10 + (b - 48)) i < 10000
            unfold upN
            have := h6 i
            split <;> omega
          · cases q
            show upN N (k * 3 + g - 1) (N (k * 3 + g - 1) * 10 + (b - 48)) (k * 3 + g - 1) < 10 ^ (f + 1)
            unfold upN
            rw [if_pos rfl]
            exact b3
        · rw [if_neg q1] at hs
          cases hs
  · rw [if_neg hd] at hs
    by_cases hb : b = 32
    · rw [if_pos hb] at hs
      cases hs
      exact ⟨by show 2 * k ≤ p + 1; omega, fun q => by have := h2 q; show 2 * k + 1 ≤ p + 1; omega, by show 0 ≤ 4; omega, fun _ => rfl, fun w g q => ⟨(h5 w g q).1, (h5 w g q).2.1, (h5 w g q).2.2.1, fun q => absurd q (by show ¬ 0 < 0; omega)⟩, h6, fun w g q q2 => absurd q2 (by show ¬ 0 < 0; omega)⟩
    · rw [if_neg hb] at hs
      by_cases he : b = 59
      · rw [if_pos he] at hs
        cases o with
        | none => cases hs
        | some q =>
          obtain ⟨w, g⟩ := q
          have h2' := h2 (by simp)
          dsimp only at hs
          by_cases q1 : w ≤ g
          · rw [if_pos q1] at hs
            cases hs
            exact ⟨by show 2 * (k + 1) ≤ p + 1; omega, fun q => absurd rfl q, by show 0 ≤ 4; omega, fun _ => rfl, fun w g q => (by cases q), h6, fun w g q => (by cases q)⟩
          · rw [if_neg q1] at hs
            cases hs
      · rw [if_neg he] at hs
        cases o with
        | some q => cases hs
        | none =>
          dsimp only at hs
          cases hm : nof b with
          | none => rw [hm] at hs; cases hs
          | some m =>
            rw [hm] at hs
            cases hs
            obtain ⟨m1, m2⟩ := nof_le hm
            refine ⟨by show 2 * k ≤ p + 1; omega, fun _ => by show 2 * k + 1 ≤ p + 1; omega, by show 0 ≤ 4; omega, fun q => (by cases q), fun w g q => ?_, h6, fun w g q q2 => absurd q2 (by show ¬ 0 < 0; omega)⟩
            cases q
            exact ⟨by omega, m1, by show m = nfn (upN L k b k); unfold upN; rw [if_pos rfl]; exact m2, fun q => absurd q (by show ¬ 0 < 0; omega)⟩
section REA
variable {sc : Nat × (Nat → Int32)} {h : mm_H}
theorem q_numbersOf {b : Nat} (hb : b < 1000) : mm_cal sc i_Re_numbersOf [.int (nI b)] h = some ((match nof b with | some m => nI m | none => -1, 0, 0), h) := by
  rw [e_Re_numbersOf, show (99 : Int32) = nI 99 from rfl, show (102 : Int32) = nI 102 from rfl, show (104 : Int32) = nI 104 from rfl, show (108 : Int32) = nI 108 from rfl, show (116 : Int32) = nI 116 from rfl, nI_eq_d (by omega) (by omega), nI_eq_d (by omega) (by omega), nI_eq_d (by omega) (by omega), nI_eq_d (by omega) (by omega), nI_eq_d (by omega) (by omega)]
  unfold nof
  by_cases h1 : b = 99
  · rw [decide_eq_true h1, if_pos h1]; rfl
  · rw [decide_eq_false h1, if_neg h1]
    by_cases h2 : b = 102
    · rw [decide_eq_true h2, if_pos h2]; rfl
    · rw [decide_eq_false h2, if_neg h2]
      by_cases h3 : b = 104
      · rw [decide_eq_true h3, if_pos h3]; rfl
      · rw [decide_eq_false h3, if_neg h3]
        by_cases h4 : b = 108
        · rw [decide_eq_true h4, if_pos h4]; rfl
        · rw [decide_eq_false h4, if_neg h4]
          by_cases h5 : b = 116
          · rw [decide_eq_true h5, if_pos h5]; rfl
          · rw [decide_eq_false h5, if_neg h5]; rfl
theorem nI_m1 {n : Nat} (hn : n < 2147483648) : decide (nI n = -1) = false := by
  rw [decide_eq_false_iff_not, i_eq, i_nI hn]
  have : (-1 : Int32).toInt = -1 := by decide +kernel
  omega
theorem q_takesFigure {A : Ar} {p d : Nat} (hR : RA h A) (hA : WA p A) (hp : p < 120) (hd : d < 10) : ∃ g, mm_cal sc i_Re_takesFigure [.ref 4, .int (nI d)] h = some ((b2i (stp A (d + 48)).isSome, 0, 0), g) ∧ frR h g ∧ ∀ A', stp A (d + 48) = some A' → RA g A' := by
  obtain ⟨k, o, f, L, N⟩ := A
  obtain ⟨r1, r2, r3, r4, r5, r6⟩ := hR
  obtain ⟨h1, h2, h3, h4, h5, h6, h7⟩ := hA
  dsimp only at r1 r2 r3 r4 r5 r6 h1 h2 h3 h4 h5 h6 h7
  have e := e_Re_takesFigure sc (nI d) h
  unfold stp
  dsimp only
  rw [if_pos (show 48 ≤ d + 48 ∧ d + 48 ≤ 57 by omega)]
  cases o with
  | none =>
    have hf := h4 rfl
    subst hf
    rw [r2, r3 rfl] at e
    exact ⟨h, e, frR.rf, fun A' q => by cases q⟩
  | some q =>
    obtain ⟨w, g⟩ := q
    obtain ⟨s1, s2, s3, s4⟩ := r4 w g rfl
    obtain ⟨a1, a2, a3, a4⟩ := h5 w g rfl
    have h2' := h2 (by simp)
    dsimp only
    rw [r2, nI_ne_0 (by omega)] at e
    by_cases q0 : f = 0
    · subst q0
      rw [if_pos rfl]
      simp only [decide_true, cond_true] at e
      rw [s1, s2, nI_m1 (by omega), nI_lt_d (by omega) (by omega)] at e
      by_cases q1 : g < w
      · rw [if_pos q1]
        simp only [q1, decide_true, cond_true, cond_false] at e
        have ek : nI k * 3 + nI g = nI (k * 3 + g) := by
          rw [ltt3, pk_mul, nI_add]
        simp only [si1, upd1, show ¬ (4 : Nat) = 13 by omega, show ¬ (13 : Nat) = 4 by omega, show ¬ (5 : Nat) = 4 by omega, show ¬ (2 : Nat) = 4 by omega, show ¬ (2 : Nat) = 5 by omega, show ¬ (4 : Nat) = 5 by omega, if_true, if_false, r1, r2, s1, s2, ek, nI_1, i_cl (show k * 3 + g < 2147483648 by omega), inb_t (show k * 3 + g < 180 by omega) (show 180 ≤ 2147483648 by omega), cond_true, show decide ((nI 0 : Int32) < 4) = true by decide +kernel] at e
        have ek2 : nI k * 3 + nI (g + 1) - 1 = nI (k * 3 + g) := by
          rw [ltt3, pk_mul, nI_add, ← Nat.add_assoc, nI_sub1]
        simp only [ek2, i_cl (show k * 3 + g < 2147483648 by omega), inb_t (show k * 3 + g < 180 by omega) (show 180 ≤ 2147483648 by omega), cond_true, if_true] at e
        refine ⟨_, e, ⟨fun a x y z => by simp only [si1, x, z, if_false], rfl⟩, fun A' q => ?_⟩
        cases q
        refine ⟨?_, ?_, fun q => (by cases q), fun w' g' q => ?_, fun i hi => ?_, fun i j hi hj => ?_⟩
        · simp [si1, upd1, r1]
        · simp [si1, upd1]
        · cases q
          refine ⟨by simp [si1, upd1, s1], by simp [si1, upd1], by simp [si1, s3], fun j hj => ?_⟩
          dsimp only
          by_cases q3 : j = g
          · subst q3
            simp only [si1, upd1, upN, if_true]
            rw [Nat.add_sub_cancel, show (0 : Int32) * 10 + nI d = nI d by rw [show (0 : Int32) * 10 = nI 0 from rfl, nI_add, Nat.zero_add]]
          · simp only [si1, upd1, upN, if_true, show ¬ (13 : Nat) = 4 by omega, if_false, show ¬ k * 3 + j = k * 3 + g by omega]
            exact s4 j (by omega)
        · simp only [si1, show ¬ (12 : Nat) = 4 by omega, show ¬ (12 : Nat) = 13 by omega, if_false]
          exact r5 i hi
        · have hi : i < k := hi
          have hj : j < nfn (L i) := hj
          have := nfn_le (L i)
          simp only [si1, upd1, upN, if_true, show ¬ (13 : Nat) = 4 by omega, if_false, show ¬ i * 3 + j = k * 3 + g by omega]
          exact r6 i j hi hj
      · rw [if_neg q1]
        simp only [q1, decide_false, cond_false] at e
        exact ⟨h, e, frR.rf, fun A' q => by cases q⟩
    · rw [if_neg q0]
      simp only [q0, decide_false, cond_false] at e
      have hg := a4 (by omega)
      rw [ltt4, nI_lt_d (by omega) (by omega)] at e
      by_cases q1 : f < 4
      · rw [if_pos q1]
        have ek2 : nI k * 3 + nI g - 1 = nI (k * 3 + g - 1) := by
          obtain ⟨g', rfl⟩ : ∃ g', g = g' + 1 := ⟨g - 1, by omega⟩
          rw [ltt3, pk_mul, nI_add, ← Nat.add_assoc, nI_sub1, Nat.add_sub_cancel]
        have hs4 := s4 (g - 1) (by omega)
        rw [show k * 3 + (g - 1) = k * 3 + g - 1 by omega] at hs4
        simp only [q1, decide_true, cond_true, si1, upd1, show ¬ (4 : Nat) = 13 by omega, show ¬ (13 : Nat) = 4 by omega, show ¬ (5 : Nat) = 4 by omega, show ¬ (2 : Nat) = 4 by omega, show ¬ (2 : Nat) = 5 by omega, show ¬ (4 : Nat) = 5 by omega, if_true, if_false, r1, r2, s1, s2, ek2, nI_1, i_cl (show k * 3 + g - 1 < 2147483648 by omega), inb_t (show k * 3 + g - 1 < 180 by omega) (show 180 ≤ 2147483648 by omega), hs4] at e
        refine ⟨_, e, ⟨fun a x y z => by simp only [si1, x, z, if_false], rfl⟩, fun A' q => ?_⟩
        cases q
        refine ⟨?_, ?_, fun q => (by cases q), fun w' g' q => ?_, fun i hi => ?_, fun i j hi hj => ?_⟩
        · simp [si1, upd1, r1]
        · simp [si1, upd1]
        · cases q
          refine ⟨by simp [si1, upd1, s1], by simp [si1, upd1, s2], by simp [si1, s3], fun j hj => ?_⟩
          dsimp only
          by_cases q3 : j + 1 = g
          · subst q3
            simp only [si1, upd1, upN, if_true, show k * 3 + (j + 1) - 1 = k * 3 + j by omega]
            rw [Nat.add_sub_cancel, show (10 : Int32) = nI 10 from rfl, pk_mul, nI_add]
          · simp only [si1, upd1, upN, if_true, show ¬ (13 : Nat) = 4 by omega, if_false, show ¬ k * 3 + j = k * 3 + g - 1 by omega]
            exact s4 j (by omega)
        · simp only [si1, show ¬ (12 : Nat) = 4 by omega, show ¬ (12 : Nat) = 13 by omega, if_false]
          exact r5 i hi
        · have hi : i < k := hi
          have hj : j < nfn (L i) := hj
          have := nfn_le (L i)
          simp only [si1, upd1, upN, if_true, show ¬ (13 : Nat) = 4 by omega, if_false, show ¬ i * 3 + j = k * 3 + g - 1 by omega]
          exact r6 i j hi hj
      · rw [if_neg q1]
        simp only [q1, decide_false, cond_false] at e
        exact ⟨h, e, frR.rf, fun A' q => by cases q⟩
theorem q_takes {A : Ar} {p b : Nat} (hR : RA h A) (hA : WA p A) (hp : p < 120) (hb : b < 128) : ∃ g, mm_cal sc i_Re_takes [.ref 4, .int (nI b)] h = some ((b2i (stp A b).isSome, 0, 0), g) ∧ frR h g ∧ ∀ A', stp A b = some A' → RA g A' := by
  have e := e_Re_takes sc (nI b) h
  rw [show (48 : Int32) = nI 48 from rfl, show (57 : Int32) = nI 57 from rfl, nI_lt_d (by omega) (by omega), nI_lt_d (by omega) (by omega)] at e
  by_cases hd : 48 ≤ b ∧ b ≤ 57
  · rw [decide_eq_false (show ¬ b < 48 by omega), decide_eq_false (show ¬ 57 < b by omega), pk_sub hd.1] at e
    simp only [cond_false] at e
    obtain ⟨g, e1, f1, r1⟩ := q_takesFigure (sc := sc) (d := b - 48) hR hA hp (by omega)
    rw [show b - 48 + 48 = b by omega] at e1 r1
    rw [e1] at e
    simp only [bd_s, b2i_01, cond_true] at e
    exact ⟨g, e, f1, r1⟩
  · have e2 : mm_cal sc i_Re_takes [.ref 4, .int (nI b)] h = (bif decide (nI b = 32) then some ((1, 0, 0), (mm_si h 4 5 0)) else (bif decide (nI b = 59) then (mm_bd (mm_cal sc i_Re_takesEnd [.ref 4] (mm_si h 4 5 0)) (fun r1 => (bif (decide (r1.1.1 = 0) || decide (r1.1.1 = 1)) then some ((r1.1.1, 0, 0), r1.2) else none))) else (mm_bd (mm_cal sc i_Re_takesLetter [.ref 4, .int (nI b)] (mm_si h 4 5 0)) (fun r2 => (bif (decide (r2.1.1 = 0) || decide (r2.1.1 = 1)) then some ((r2.1.1, 0, 0), r2.2) else none))))) := by
      rw [e]
      by_cases q : b < 48
      · rw [decide_eq_true q, cond_true]
      · rw [decide_eq_false q, decide_eq_true (show 57 < b by omega), cond_false, cond_true]
    clear e
    obtain ⟨k, o, f, L, N⟩ := A
    obtain ⟨r1, r2, r3, r4, r5, r6⟩ := hR
    obtain ⟨h1, h2, h3, h4, h5, h6, h7⟩ := hA
    dsimp only at r1 r2 r3 r4 r5 r6 h1 h2 h3 h4 h5 h6 h7
    unfold stp
    dsimp only
    rw [if_neg hd]
    rw [show (32 : Int32) = nI 32 from rfl, show (59 : Int32) = nI 59 from rfl, nI_eq_d (by omega) (by omega), nI_eq_d (by omega) (by omega)] at e2
    have fr0 : frR h (mm_si h 4 5 0) := ⟨fun a x y z => by simp only [si1, x, if_false], rfl⟩
    by_cases hb2 : b = 32
    · rw [if_pos hb2]
      rw [decide_eq_true hb2] at e2
      refine ⟨_, e2, fr0, fun A' q => ?_⟩
      cases q
      refine ⟨by simp [si1, upd1, r1], by simp [si1, upd1]; rfl, fun q => by simp [si1, upd1, r3 q], fun w g q => ?_, fun i hi => by simp [si1, r5 i hi], fun i j hi hj => by simp only [si1, show ¬ (13 : Nat) = 4 by omega, if_false]; exact r6 i j hi hj⟩
      obtain ⟨s1, s2, s3, s4⟩ := r4 w g q
      exact ⟨by simp [si1, upd1, s1], by simp [si1, upd1, s2], by simp [si1, s3], fun j hj => by simp only [si1, show ¬ (13 : Nat) = 4 by omega, if_false]; exact s4 j hj⟩
    · rw [if_neg hb2]
      rw [decide_eq_false hb2] at e2
      by_cases he : b = 59
      · rw [if_pos he]
        rw [decide_eq_true he, e_Re_takesEnd] at e2
        simp only [cond_false, cond_true, si1, upd1, if_true, show ¬ (3 : Nat) = 5 by omega, show ¬ (4 : Nat) = 5 by omega, show ¬ (2 : Nat) = 5 by omega, if_false, r1] at e2
        cases o with
        | none =>
          rw [r3 rfl] at e2
          exact ⟨_, e2, fr0, fun A' q => by cases q⟩
        | some q =>
          obtain ⟨w, g⟩ := q
          obtain ⟨s1, s2, s3, s4⟩ := r4 w g rfl
          obtain ⟨a1, a2, a3, a4⟩ := h5 w g rfl
          rw [s1, s2, nI_m1 (by omega), nI_le_d (by omega) (by omega), nI_1] at e2
          dsimp only
          by_cases q1 : w ≤ g
          · rw [if_pos q1]
            rw [decide_eq_true q1] at e2
            have hwg : g = w := by omega
            subst hwg
            refine ⟨_, e2, ⟨fun a x y z => by simp only [si1, x, if_false], rfl⟩, fun A' q => ?_⟩
            cases q
            refine ⟨by simp [si1, upd1], by simp [si1, upd1]; rfl, fun q => by simp [si1, upd1], fun w g q => (by cases q), fun i hi => ?_, fun i j hi hj => ?_⟩
            · have hi : i < k + 1 := hi
              simp only [si1, show ¬ (12 : Nat) = 4 by omega, if_false]
              by_cases q2 : i = k
              · rw [q2]; exact s3
              · exact r5 i (by omega)
            · have hi : i < k + 1 := hi
              simp only [si1, show ¬ (13 : Nat) = 4 by omega, if_false]
              by_cases q2 : i = k
              · subst q2
                have hj : j < nfn (L i) := hj
                exact s4 j (by omega)
              · exact r6 i j (by omega) hj
          · rw [if_neg q1]
            rw [decide_eq_false q1] at e2
            exact ⟨_, e2, fr0, fun A' q => by cases q⟩
      · rw [if_neg he]
        rw [decide_eq_false he, e_Re_takesLetter, q_numbersOf (by omega)] at e2
        simp only [bd_s, cond_false, si1, upd1, if_true, show ¬ (3 : Nat) = 5 by omega, show ¬ (4 : Nat) = 5 by omega, show ¬ (2 : Nat) = 5 by omega, if_false, r1] at e2
        cases o with
        | some q =>
          obtain ⟨w, g⟩ := q
          obtain ⟨s1, s2, s3, s4⟩ := r4 w g rfl
          obtain ⟨a1, a2, a3, a4⟩ := h5 w g rfl
          rw [s1, nI_m1 (by omega)] at e2
          exact ⟨_, e2, fr0, fun A' q => by cases q⟩
        | none =>
          rw [r3 rfl] at e2
          dsimp only
          cases hm : nof b with
          | none =>
            rw [hm] at e2
            exact ⟨_, e2, fr0, fun A' q => by cases q⟩
          | some m =>
            rw [hm] at e2
            obtain ⟨m1, m2⟩ := nof_le hm
            dsimp only at e2
            rw [nI_m1 (by omega), show (60 : Int32) = nI 60 from rfl, nI_lt_d (by omega) (by omega), inb_t (show k < 60 by omega) (by omega), i_cl (by omega), decide_eq_true (show k < 60 by omega)] at e2
            simp only [decide_true, cond_true, cond_false, bd_s] at e2
            refine ⟨_, e2, ⟨fun a x y z => by simp only [si1, x, y, if_false], rfl⟩, fun A' q => ?_⟩
            cases q
            refine ⟨by simp [si1, upd1, r1], by simp [si1, upd1]; rfl, fun q => (by cases q), fun w g q => ?_, fun i hi => ?_, fun i j hi hj => ?_⟩
            · cases q
              refine ⟨by simp [si1, upd1], by simp [si1, upd1]; rfl, ?_, fun j hj => absurd hj (by omega)⟩
              show _ = nI (upN L k b k)
              simp [si1, upd1, upN]
            · have hi : i < k := hi
              show _ = nI (upN L k b i)
              simp only [si1, upd1, upN, show ¬ (12 : Nat) = 4 by omega, if_true, if_false, show ¬ i = k by omega]
              exact r5 i hi
            · have hi : i < k := hi
              have hj : j < nfn (upN L k b i) := hj
              unfold upN at hj
              rw [if_neg (by omega)] at hj
              simp only [si1, show ¬ (13 : Nat) = 4 by omega, show ¬ (13 : Nat) = 12 by omega, if_false]
              exact r6 i j hi hj
end REA
