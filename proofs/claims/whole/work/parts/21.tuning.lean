/-! the class's tuning follows its score -/
def frT (h g : mm_H) : Prop := (∀ a, a ≠ 3 → (a < 6 ∨ 11 < a) → g.1 a = h.1 a) ∧ g.2 = h.2
theorem frT.rf {h : mm_H} : frT h h := ⟨fun _ _ _ => rfl, rfl⟩
theorem frT.tr {h g k : mm_H} (h1 : frT h g) (h2 : frT g k) : frT h k := ⟨fun a a1 a2 => (h2.1 a a1 a2).trans (h1.1 a a1 a2), h2.2.trans h1.2⟩
theorem CC_of {h g : mm_H} {σ : Sg} (hC : CC h σ) (e : ∀ a, a = 14 ∨ a = 21 ∨ a = 22 ∨ a = 23 ∨ a = 24 → g.1 a = h.1 a) : CC g σ := by
  unfold CC CSb
  rw [e 14 (by omega), e 21 (by omega), e 22 (by omega), e 23 (by omega), e 24 (by omega)]
  exact hC
theorem CC_frT {h g : mm_H} {σ : Sg} (hC : CC h σ) (f : frT h g) : CC g σ := CC_of hC (fun a ha => f.1 a (by omega) (by omega))
/-- roots, numbers of parts, firsts and lasts of the first c chords -/
def T1 (g : mm_H) (σ : Sg) (c : Nat) : Prop := g.1 3 6 = nI (np σ c) ∧ (∀ x k, x < c → k < 4 → g.1 6 (x * 4 + k) = rt σ x k) ∧ (∀ x, x < c → g.1 7 x = nI (np σ (x + 1) - 1)) ∧ ∀ p, p < np σ c → g.1 8 p = nI (fi σ c p) ∧ g.1 9 p = nI (la σ c p)
section TUN
variable {sc : Nat × (Nat → Int32)}
theorem q_begin14 {c k : Nat} (g : mm_H) (hc : c < 12) (hk : k < 4) : mm_ev sc i_Tu_beginPart 14 [.ref 3, .int (nI c), .int (nI k)] [] g = mm_ev sc i_Tu_beginPart 14 [.ref 3, .int (nI c), .int (nI (k + 1))] [] (mm_si g 6 (c * 4 + k) 0) := by
  rw [l_Tu_beginPart_14, show (4 : Int32) = nI 4 from rfl, nI_le_d (by omega) (by omega), pk_mul, nI_add, inb_t (show c * 4 + k < 48 by omega) (by omega), i_cl (by omega), nI_1]
  simp only [show ¬ 4 ≤ k by omega, decide_false, cond_false, cond_true]
theorem q_beginPart {c p : Nat} (g : mm_H) (hc : c < 12) (hp : p < 12) (h6 : g.1 3 6 = nI p) : ∃ g', mm_cal sc i_Tu_beginPart [.ref 3, .int (nI c)] g = some ((0, 0, 0), g') ∧ g'.1 3 = upd (g.1 3) 6 (nI (p + 1)) ∧ g'.1 8 = upd (g.1 8) p (nI c) ∧ (∀ k, k < 4 → g'.1 6 (c * 4 + k) = 0) ∧ (∀ x, x < c * 4 → g'.1 6 x = g.1 6 x) ∧ (∀ a, a ≠ 3 → a ≠ 6 → a ≠ 8 → g'.1 a = g.1 a) ∧ g'.2 = g.2 := by
  have e := e_Tu_beginPart sc (nI c) g
  simp only [si1, show ¬ (3 : Nat) = 8 by omega, if_false] at e
  rw [h6, inb_t hp (by omega), i_cl (by omega), nI_1] at e
  simp only [cond_true] at e
  rw [show (0 : Int32) = nI 0 from rfl, q_begin14 _ hc (by omega), q_begin14 _ hc (by omega), q_begin14 _ hc (by omega), q_begin14 _ hc (by omega), l_Tu_beginPart_14, show (4 : Int32) = nI 4 from rfl, nI_le_d (by omega) (by omega)] at e
  simp only [Nat.le_refl, decide_true, cond_true] at e
  refine ⟨_, e, ?_, ?_, fun k hk => ?_, fun x hx => ?_, fun a h1 h2 h3 => ?_, rfl⟩
  · simp [si1]
  · simp [si1]
  · rcases (show k = 0 ∨ k = 1 ∨ k = 2 ∨ k = 3 by omega) with rfl | rfl | rfl | rfl <;> simp [si1, upd1]
  · simp [si1, upd1, show ¬ x = c * 4 by omega, show ¬ x = c * 4 + 1 by omega, show ¬ x = c * 4 + 2 by omega, show ¬ x = c * 4 + 3 by omega]
  · simp [si1, h1, h2, h3]
theorem q_rootPower {c k : Nat} (g : mm_H) (hc : c < 12) (hk : k < 4) : mm_cal sc i_Tu_rootPower [.ref 3, .int (nI c), .int (nI k)] g = some ((g.1 6 (c * 4 + k), 0, 0), g) := by
  rw [e_Tu_rootPower, show (4 : Int32) = nI 4 from rfl, pk_mul, nI_add, inb_t (show c * 4 + k < 48 by omega) (by omega), i_cl (by omega)]
  rfl
theorem q_move2 {σ : Sg} {c i j k : Nat} (g : mm_H) (hC : CC g σ) (hW : WF σ) (ht : σ.2.2.2.2 c = some (i, j)) (hk : k < 4) : mm_ev sc i_Tu_moveRoot 2 [.ref 3, .ref 14, .int (nI (c + 1)), .int (nI k)] [] g = mm_ev sc i_Tu_moveRoot 2 [.ref 3, .ref 14, .int (nI (c + 1)), .int (nI (k + 1))] [] (mm_si g 6 ((c + 1) * 4 + k) (g.1 6 (c * 4 + k) + (σ.2.2.2.1 ((c * 5 + i) * 4 + k) - σ.2.2.2.1 (((c + 1) * 5 + j) * 4 + k)))) := by
  have hn := hW.1
  have hc := (hW.2.2.2.2 c i j ht).1
  rw [l_Tu_moveRoot_2, show (4 : Int32) = nI 4 from rfl, nI_le_d (by omega) (by omega), nI_sub1, q_rootPower g (by omega) hk]
  simp only [show ¬ 4 ≤ k by omega, decide_false, cond_false, bd_s]
  rw [q_tiePower hC hW ht hk]
  simp only [bd_s]
  rw [pk_mul, nI_add, inb_t (show (c + 1) * 4 + k < 48 by omega) (by omega), i_cl (by omega), nI_1]
  rfl
theorem q_moveRoot {σ : Sg} {c i j : Nat} (g : mm_H) (hC : CC g σ) (hW : WF σ) (ht : σ.2.2.2.2 c = some (i, j)) : ∃ g', mm_cal sc i_Tu_moveRoot [.ref 3, .ref 14, .int (nI (c + 1))] g = some ((0, 0, 0), g') ∧ (∀ k, k < 4 → g'.1 6 ((c + 1) * 4 + k) = g.1 6 (c * 4 + k) + (σ.2.2.2.1 ((c * 5 + i) * 4 + k) - σ.2.2.2.1 (((c + 1) * 5 + j) * 4 + k))) ∧ (∀ x, x < (c + 1) * 4 → g'.1 6 x = g.1 6 x) ∧ (∀ a, a ≠ 6 → g'.1 a = g.1 a) ∧ g'.2 = g.2 := by
  have e := e_Tu_moveRoot sc (nI (c + 1)) g
  have hs : ∀ (g : mm_H) (x : Nat) (v : Int32), CC g σ → CC (mm_si g 6 x v) σ := fun g x v q => CC_of q (fun a ha => by rw [si1, if_neg (by omega)])
  have c0 := hC
  rw [show (0 : Int32) = nI 0 from rfl, q_move2 _ c0 hW ht (by omega)] at e
  have c1 := hs _ ((c + 1) * 4 + 0) (g.1 6 (c * 4 + 0) + (σ.2.2.2.1 ((c * 5 + i) * 4 + 0) - σ.2.2.2.1 (((c + 1) * 5 + j) * 4 + 0))) c0
  rw [q_move2 _ c1 hW ht (by omega), q_move2 _ (hs _ _ _ c1) hW ht (by omega), q_move2 _ (hs _ _ _ (hs _ _ _ c1)) hW ht (by omega), l_Tu_moveRoot_2, show (4 : Int32) = nI 4 from rfl, nI_le_d (by omega) (by omega)] at e
  simp only [Nat.le_refl, decide_true, cond_true] at e
  refine ⟨_, e, fun k hk => ?_, fun x hx => ?_, fun a h1 => ?_, rfl⟩
  · rcases (show k = 0 ∨ k = 1 ∨ k = 2 ∨ k = 3 by omega) with rfl | rfl | rfl | rfl
    · simp [si1, upd1]
    · simp [si1, upd1, show ¬ c * 4 + 1 = (c + 1) * 4 by omega]
    · simp [si1, upd1, show ¬ c * 4 + 2 = (c + 1) * 4 by omega, show ¬ c * 4 + 2 = (c + 1) * 4 + 1 by omega]
    · simp [si1, upd1, show ¬ c * 4 + 3 = (c + 1) * 4 by omega, show ¬ c * 4 + 3 = (c + 1) * 4 + 1 by omega, show ¬ c * 4 + 3 = (c + 1) * 4 + 2 by omega]
  · simp [si1, upd1, show ¬ x = (c + 1) * 4 by omega, show ¬ x = (c + 1) * 4 + 1 by omega, show ¬ x = (c + 1) * 4 + 2 by omega, show ¬ x = (c + 1) * 4 + 3 by omega]
  · simp [si1, h1]
/-- one chord more -/
theorem T1_step {g g1 : mm_H} {σ : Sg} {c : Nat} (hT : T1 g σ c) (hc : c < 12) (h6 : g1.1 3 6 = nI (np σ (c + 1))) (hr : ∀ k, k < 4 → g1.1 6 (c * 4 + k) = rt σ c k) (ho : ∀ x, x < c * 4 → g1.1 6 x = g.1 6 x) (h7 : g1.1 7 = upd (g.1 7) c (nI (np σ (c + 1) - 1))) (h8 : ∀ p, p < np σ (c + 1) → g1.1 8 p = nI (fi σ (c + 1) p)) (h9 : g1.1 9 = upd (g.1 9) (np σ (c + 1) - 1) (nI c)) : T1 g1 σ (c + 1) := by
  obtain ⟨t1, t2, t3, t4⟩ := hT
  refine ⟨h6, fun x k hx hk => ?_, fun x hx => ?_, fun p hp => ⟨h8 p hp, ?_⟩⟩
  · by_cases e : x = c
    · subst e
      exact hr k hk
    · rw [ho _ (by omega)]
      exact t2 x k (by omega) hk
  · rw [h7]
    by_cases e : x = c
    · subst e
      simp [upd1]
    · rw [pk_un e]
      exact t3 x (by omega)
  · rw [h9]
    have ela : la σ (c + 1) p = if p + 1 = np σ (c + 1) then c else la σ c p := rfl
    rw [ela]
    have hpos := np_pos σ c
    by_cases e : p + 1 = np σ (c + 1)
    · rw [if_pos e, show p = np σ (c + 1) - 1 by omega]
      simp [upd1]
    · rw [if_neg e, pk_un (by omega)]
      have enp : np σ (c + 1) = if tdp σ c = true then np σ c else np σ c + 1 := rfl
      have : p < np σ c := by
        split at enp <;> omega
      exact (t4 p this).2
theorem q_follow8 {h : mm_H} {σ : Sg} (hC : CC h σ) (hW : WF σ) : ∀ d c g, c + d = σ.1 → T1 g σ c → g.1 3 7 = 0 → frT h g → ∃ g', mm_ev sc i_Tu_follow 8 [.ref 3, .ref 14, .int (nI c)] [] g = mm_ev sc i_Tu_follow 46 [.ref 3, .ref 14, .int (nI 0)] [] g' ∧ T1 g' σ σ.1 ∧ g'.1 3 7 = 0 ∧ frT h g' := by
  have hn := hW.1
  intro d
  induction d with
  | zero =>
    intro c g hc hT h7 hf
    have : c = σ.1 := by omega
    subst this
    refine ⟨g, ?_, hT, h7, hf⟩
    rw [l_Tu_follow_8, q_chordCount (CC_frT hC hf)]
    simp only [bd_s]
    rw [nI_le_d (by omega) (by omega)]
    simp only [Nat.le_refl, decide_true, cond_true]
    rfl
  | succ d ih =>
    intro c g hc hT h7 hf
    have hCg := CC_frT hC hf
    have e := l_Tu_follow_8 sc (nI c) g
    rw [q_chordCount hCg] at e
    simp only [bd_s] at e
    rw [nI_le_d (by omega) (by omega), q_isTied hCg hW] at e
    simp only [bd_s, show ¬ σ.1 ≤ c by omega, decide_false, cond_false, b2i_0] at e
    have htd : tdI σ (nI c - 1) = tdp σ c := by
      cases c with
      | zero =>
        unfold tdI tdp
        have : mm_inb (nI 0 - 1) (σ.1 - 1) = false := by
          unfold mm_inb
          rw [show (nI 0 - 1).toInt = -1 by decide +kernel]
          rfl
        rw [this]
        rfl
      | succ c =>
        rw [nI_sub1, tdI_at hn (by omega)]
        rfl
    rw [htd] at e
    have enp : np σ (c + 1) = if tdp σ c = true then np σ c else np σ c + 1 := rfl
    have efi : ∀ p, fi σ (c + 1) p = if tdp σ c = true then fi σ c p else (if p = np σ c then c else fi σ c p) := fun _ => rfl
    have hle := np_le σ c
    have hle1 := np_le σ (c + 1)
    have hpos := np_pos σ c
    obtain ⟨t1, t2, t3, t4⟩ := id hT
    have hsub : ∀ p : Nat, 0 < p → p < 100 → nI p - 1 = nI (p - 1) := by
      intro p hp _
      obtain ⟨q, rfl⟩ : ∃ q, p = q + 1 := ⟨p - 1, by omega⟩
      rw [nI_sub1]
      rfl
    cases ht : tdp σ c with
    | false =>
      rw [ht] at e enp
      simp only [Bool.false_eq_true, if_false] at enp
      obtain ⟨g1, b1, b2, b3, b4, b5, b6, b7⟩ := q_beginPart (sc := sc) g (show c < 12 by omega) (show np σ c < 12 by omega) t1
      rw [b1] at e
      simp only [bd_s, Bool.not_false, cond_true] at e
      have e36 : g1.1 3 6 = nI (np σ (c + 1)) := by
        rw [b2, enp]
        simp [upd1]
      simp only [si1, show ¬ (3 : Nat) = 7 by omega, if_false] at e
      rw [e36, hsub _ hpos (by omega), inb_t (show c < 12 by omega) (by omega), i_cl (show c < 2147483648 by omega), inb_t (show np σ (c + 1) - 1 < 12 by omega) (by omega), i_cl (show np σ (c + 1) - 1 < 2147483648 by omega), nI_1] at e
      simp only [cond_true] at e
      rw [e]
      refine ih (c + 1) _ (by omega) (T1_step hT (by omega) ?_ (fun k hk => ?_) (fun x hx => ?_) ?_ (fun p hp => ?_) ?_) ?_ (frT.tr hf ⟨fun a a1 a2 => ?_, b7⟩)
      · simpa [si1] using e36
      · have : rt σ c k = 0 := by
          cases c with
          | zero => rfl
          | succ c =>
            have : td σ c = false := ht
            unfold td at this
            unfold rt
            cases hq : σ.2.2.2.2 c with
            | none => rfl
            | some q => rw [hq] at this; cases this
        simp [si1, b4 k hk, this]
      · simp [si1, b5 x hx]
      · have := b6 7 (by omega) (by omega) (by omega)
        simp [si1, this]
      · have h8 : g1.1 8 p = nI (fi σ (c + 1) p) := by
          rw [b3, efi, ht]
          simp only [Bool.false_eq_true, if_false]
          by_cases q : p = np σ c
          · simp [upd1, q]
          · rw [pk_un q, if_neg q]
            exact (t4 p (by omega)).1
        simpa [si1] using h8
      · have := b6 9 (by omega) (by omega) (by omega)
        simp [si1, this]
      · have : g1.1 3 7 = 0 := by
          rw [b2]
          simp [upd1, h7]
        simpa [si1] using this
      · have := b6 a a1 (by omega) (by omega)
        rw [si1, if_neg (by omega), si1, if_neg (by omega)]
        exact this
    | true =>
      rw [ht] at e enp
      simp only [if_true] at enp
      obtain ⟨c', rfl⟩ : ∃ c', c = c' + 1 := by
        cases c with
        | zero => simp [tdp] at ht
        | succ c' => exact ⟨c', rfl⟩
      have htd' : td σ c' = true := ht
      obtain ⟨i, j, hij⟩ : ∃ i j, σ.2.2.2.2 c' = some (i, j) := by
        unfold td at htd'
        cases hq : σ.2.2.2.2 c' with
        | none => rw [hq] at htd'; cases htd'
        | some q => exact ⟨q.1, q.2, rfl⟩
      obtain ⟨g1, b1, b4, b5, b6, b7⟩ := q_moveRoot (sc := sc) g hCg hW hij
      rw [b1] at e
      simp only [bd_s, Bool.not_true, cond_false] at e
      have e36 : g1.1 3 6 = nI (np σ (c' + 1 + 1)) := by
        rw [b6 3 (by omega), enp]
        exact t1
      simp only [si1, show ¬ (3 : Nat) = 7 by omega, if_false] at e
      rw [e36, hsub _ hpos (by omega), inb_t (show c' + 1 < 12 by omega) (by omega), i_cl (show c' + 1 < 2147483648 by omega), inb_t (show np σ (c' + 1 + 1) - 1 < 12 by omega) (by omega), i_cl (show np σ (c' + 1 + 1) - 1 < 2147483648 by omega), nI_1] at e
      simp only [cond_true] at e
      rw [e]
      refine ih (c' + 1 + 1) _ (by omega) (T1_step hT (by omega) ?_ (fun k hk => ?_) (fun x hx => ?_) ?_ (fun p hp => ?_) ?_) ?_ (frT.tr hf ⟨fun a a1 a2 => ?_, b7⟩)
      · simpa [si1] using e36
      · have h1 : rt σ (c' + 1) k = rt σ c' k + (σ.2.2.2.1 ((c' * 5 + i) * 4 + k) - σ.2.2.2.1 (((c' + 1) * 5 + j) * 4 + k)) := by
          show (match σ.2.2.2.2 c' with | some (i, j) => rt σ c' k + (σ.2.2.2.1 ((c' * 5 + i) * 4 + k) - σ.2.2.2.1 (((c' + 1) * 5 + j) * 4 + k)) | none => 0) = _
          rw [hij]
        have h2 := b4 k hk
        rw [t2 c' k (by omega) hk, ← h1] at h2
        simpa [si1] using h2
      · simp [si1, b5 x hx]
      · have := b6 7 (by omega)
        simp [si1, this]
      · have h8 : g1.1 8 p = nI (fi σ (c' + 1 + 1) p) := by
          rw [b6 8 (by omega), efi, ht]
          simp only [if_true]
          exact (t4 p (by omega)).1
        simpa [si1] using h8
      · have := b6 9 (by omega)
        simp [si1, this]
      · have : g1.1 3 7 = 0 := by
          rw [b6 3 (by omega)]
          exact h7
        simpa [si1] using this
      · have := b6 a (by omega)
        rw [si1, if_neg (by omega), si1, if_neg (by omega)]
        exact this
/-! sizes of roots, drifts -/
theorem q_rootSize {g : mm_H} {σ : Sg} {c : Nat} (hr : ∀ k, k < 4 → g.1 6 (c * 4 + k) = rt σ c k) (hc : c < 12) : mm_cal sc i_Tu_rootSize [.ref 3, .int (nI c)] g = some ((szr σ c, 0, 0), g) := by
  have hl : mm_len sc 6 = 48 := rfl
  rw [e_Tu_rootSize, show (4 : Int32) = nI 4 from rfl, pk_mul, q_sizeOf sc (x := 6) (s := c * 4) g rfl (by omega) (by rw [hl]; omega) (by rw [hl]; omega)]
  simp only [bd_s]
  have e : szf (g.1 6) (c * 4) = szr σ c := by
    unfold szf szr
    rw [← hr 0 (by omega), ← hr 1 (by omega), ← hr 2 (by omega), ← hr 3 (by omega)]
    rfl
  rw [e]
theorem q_driftAt {g : mm_H} {σ : Sg} {c : Nat} (hW : WF σ) (hr : ∀ k, k < 4 → g.1 6 (c * 4 + k) = rt σ c k) (hc : c < 12) : mm_cal sc i_Tu_driftAt [.ref 3, .int (nI c)] g = some ((dr σ c, 0, 0), g) := by
  have hb := szr_in hW hc
  rw [e_Tu_driftAt, q_rootSize hr hc]
  simp only [bd_s]
  rw [show (120000 : Int32) = nI (2 * 60000) from rfl, q_off (by omega) (by omega) sc _ (by omega) (by omega)]
  rfl
theorem q_abs {x : Int32} (h1 : -200000 < x.toInt) (h2 : x.toInt < 200000) (g : mm_H) : mm_cal sc i_Ma_abs [.int x] g = some ((nI x.toInt.natAbs, 0, 0), g) := by
  rw [e_Ma_abs]
  by_cases h : 0 ≤ x
  · have h' := i_le.mp h
    rw [Int32.toInt_zero] at h'
    simp only [h, decide_true, cond_true]
    congr 3
    rw [i_eq, i_nI (by omega)]
    omega
  · have h' := mt i_le.mpr h
    rw [Int32.toInt_zero] at h'
    simp only [h, decide_false, cond_false]
    congr 3
    rw [i_eq, i_neg (by omega), i_nI (by omega)]
    omega
theorem q_min {a b : Nat} (ha : a < 1000000) (hb : b < 1000000) (g : mm_H) : mm_cal sc i_Ma_min [.int (nI a), .int (nI b)] g = some ((nI (min a b), 0, 0), g) := by
  rw [e_Ma_min, nI_lt_d (by omega) (by omega)]
  by_cases h : b < a
  · simp only [h, decide_true, cond_true]
    rw [show min a b = b by omega]
  · simp only [h, decide_false, cond_false]
    rw [show min a b = a by omega]
theorem q_max {a b : Nat} (ha : a < 1000000) (hb : b < 1000000) (g : mm_H) : mm_cal sc i_Ma_max [.int (nI a), .int (nI b)] g = some ((nI (max a b), 0, 0), g) := by
  rw [e_Ma_max, nI_lt_d (by omega) (by omega)]
  by_cases h : a < b
  · simp only [h, decide_true, cond_true]
    rw [show max a b = b by omega]
  · simp only [h, decide_false, cond_false]
    rw [show max a b = a by omega]
/-- shares and sets of the chords ahead of x -/
def T2 (g : mm_H) (σ : Sg) (x : Nat) : Prop := g.1 3 7 = nI (gsm σ x) ∧ (∀ c, c < x → g.1 11 c = st σ c) ∧ ∀ c, c < x → td σ c = true → g.1 10 c = sh σ c
theorem shz_le (σ : Sg) (c : Nat) : shz σ c ≤ σ.2.1 := by
  unfold shz
  exact Nat.min_le_right _ _
theorem gsm_le (σ : Sg) : ∀ c, gsm σ c ≤ σ.2.1 := by
  intro c
  induction c with
  | zero => exact Nat.zero_le _
  | succ c ih =>
    have := shz_le σ c
    unfold gsm
    split <;> omega
theorem T1_of {g k : mm_H} {σ : Sg} {c : Nat} (hT : T1 g σ c) (h6 : k.1 3 6 = g.1 3 6) (h : ∀ a, 6 ≤ a → a ≤ 9 → k.1 a = g.1 a) : T1 k σ c := by
  unfold T1
  rw [h6, h 6 (by omega) (by omega), h 7 (by omega) (by omega), h 8 (by omega) (by omega), h 9 (by omega) (by omega)]
  exact hT
theorem q_spread39 {h : mm_H} {σ : Sg} {p : Nat} (hW : WF σ) (hp : p < np σ σ.1) (x1 : Int32) : ∀ d c g, c + d = pL σ p → pF σ p ≤ c → T1 g σ σ.1 → T2 g σ c → g.1 11 c = st σ c → frT h g → ∀ w10 : Value, ∃ g', mm_ev sc i_Tu_spread 39 [.ref 3, .int x1, .int (nI σ.2.1), .int (nI (pF σ p)), .int (nI (pL σ p)), .int (nI (pL σ p - pF σ p)), .int (dr σ (pL σ p)), .int (nI (pE σ p / (pL σ p - pF σ p))), .int (nI (pE σ p % (pL σ p - pF σ p))), .int (nI c), w10] [] g = some ((0, 0, 0), g') ∧ T1 g' σ σ.1 ∧ T2 g' σ (pL σ p + 1) ∧ frT h g' := by
  have hn := hW.1
  have hL := hW.2.1
  obtain ⟨hFL, hLn⟩ := pF_le hp
  obtain ⟨dr1, dr2⟩ := dr_in σ (pL σ p)
  have hE : pE σ p < 120000 := by
    unfold pE
    omega
  intro d
  induction d with
  | zero =>
    intro c g hc hF hT1 hT2 h11 hf w10
    have : c = pL σ p := by omega
    subst this
    refine ⟨g, ?_, hT1, ⟨?_, fun x hx => ?_, fun x hx ht => ?_⟩, hf⟩
    · rw [l_Tu_spread_39, nI_le_d (by omega) (by omega)]
      simp only [Nat.le_refl, decide_true, cond_true]
    · have e : gsm σ (pL σ p + 1) = gsm σ (pL σ p) := by
        have := td_last hW hp
        show (if td σ (pL σ p) = true then max (gsm σ (pL σ p)) (shz σ (pL σ p)) else gsm σ (pL σ p)) = _
        rw [this]
        rfl
      rw [e]
      exact hT2.1
    · by_cases e : x = pL σ p
      · subst e
        exact h11
      · exact hT2.2.1 x (by omega)
    · by_cases e : x = pL σ p
      · subst e
        rw [td_last hW hp] at ht
        cases ht
      · exact hT2.2.2 x (by omega) ht
  | succ d ih =>
    intro c g hc hF hT1 hT2 h11 hf w10
    have hlt : c < pL σ p := by omega
    have hnp := p_np hp hF (by omega : c ≤ pL σ p)
    have htd := p_td hp hF hlt
    have hm : 0 < pL σ p - pF σ p := by omega
    have hdiv : pE σ p / (pL σ p - pF σ p) ≤ pE σ p := Nat.div_le_self _ _
    have hmod := Nat.mod_lt (pE σ p) hm
    have eshz : shz σ c = min (pE σ p / (pL σ p - pF σ p) + (if c - pF σ p < pE σ p % (pL σ p - pF σ p) then 1 else 0)) σ.2.1 := by
      unfold shz
      rw [hnp, show p + 1 - 1 = p by omega]
    have esh : sh σ c = if 0 < (dr σ (pL σ p)).toInt then -nI (shz σ c) else nI (shz σ c) := by
      unfold sh
      rw [hnp, show p + 1 - 1 = p by omega]
    have est : st σ (c + 1) = st σ c + sh σ c := by
      show (if td σ c = true then st σ c + sh σ c else 0) = _
      rw [if_pos htd]
    have egs : gsm σ (c + 1) = max (gsm σ c) (shz σ c) := by
      show (if td σ c = true then max (gsm σ c) (shz σ c) else gsm σ c) = _
      rw [if_pos htd]
    have hsz := shz_le σ c
    have hgs := gsm_le σ c
    -- the state behind one turn
    have fin : ∀ v : Int32, v = sh σ c → ∀ w : Value, ∃ g', mm_ev sc i_Tu_spread 39 [.ref 3, .int x1, .int (nI σ.2.1), .int (nI (pF σ p)), .int (nI (pL σ p)), .int (nI (pL σ p - pF σ p)), .int (dr σ (pL σ p)), .int (nI (pE σ p / (pL σ p - pF σ p))), .int (nI (pE σ p % (pL σ p - pF σ p))), .int (nI (c + 1)), w] [] (mm_si (mm_si (mm_si g 10 c v) 11 (c + 1) (g.1 11 c + v)) 3 7 (nI (max (gsm σ c) (shz σ c)))) = some ((0, 0, 0), g') ∧ T1 g' σ σ.1 ∧ T2 g' σ (pL σ p + 1) ∧ frT h g' := by
      intro v hv w
      refine ih (c + 1) (mm_si (mm_si (mm_si g 10 c v) 11 (c + 1) (g.1 11 c + v)) 3 7 (nI (max (gsm σ c) (shz σ c)))) (by omega) (by omega) (T1_of hT1 (by simp [si1, upd1]) (fun a a1 a2 => by simp [si1, show ¬ a = 3 by omega, show ¬ a = 11 by omega, show ¬ a = 10 by omega])) ⟨?_, fun x hx => ?_, fun x hx ht => ?_⟩ ?_ (frT.tr hf ⟨fun a a1 a2 => by simp [si1, show ¬ a = 3 by omega, show ¬ a = 11 by omega, show ¬ a = 10 by omega], rfl⟩) w
      · rw [egs]
        simp [si1, upd1]
      · have : g.1 11 x = st σ x := by
          by_cases e : x = c
          · subst e
            exact h11
          · exact hT2.2.1 x (by omega)
        simp [si1, upd1, show ¬ x = c + 1 by omega, this]
      · by_cases e : x = c
        · subst e
          simp [si1, upd1, hv]
        · simp [si1, upd1, e, hT2.2.2 x (by omega) ht]
      · rw [est, ← hv, ← h11]
        simp [si1, upd1]
    have e := l_Tu_spread_39 sc x1 (nI σ.2.1) (nI (pF σ p)) (nI (pL σ p)) (nI (pL σ p - pF σ p)) (dr σ (pL σ p)) (nI (pE σ p / (pL σ p - pF σ p))) (nI (pE σ p % (pL σ p - pF σ p))) (nI c) w10 g
    rw [nI_le_d (by omega) (by omega), pk_sub (by omega), nI_le_d (by omega) (by omega), q_min (by omega) (by omega), nI_1 (pE σ p / (pL σ p - pF σ p)), q_min (by omega) (by omega)] at e
    simp only [bd_s, show ¬ pL σ p ≤ c by omega, decide_false, cond_false] at e
    rw [inb_t (show c < 12 by omega) (by omega), i_cl (show c < 2147483648 by omega), nI_1 c, inb_t (show c + 1 < 12 by omega) (by omega), i_cl (show c + 1 < 2147483648 by omega)] at e
    simp only [cond_true, si1, show ¬ (11 : Nat) = 10 by omega, show ¬ (3 : Nat) = 11 by omega, show ¬ (3 : Nat) = 10 by omega, if_false, if_true, upd1] at e
    rw [hT2.1] at e
    have hdec : decide (dr σ (pL σ p) ≤ 0) = !decide (0 < (dr σ (pL σ p)).toInt) := by
      have := i_le (a := dr σ (pL σ p)) (b := 0)
      rw [Int32.toInt_zero] at this
      by_cases q : 0 < (dr σ (pL σ p)).toInt
      · simp only [q, decide_true, Bool.not_true, decide_eq_false_iff_not]
        rw [this]
        omega
      · simp only [q, decide_false, Bool.not_false, decide_eq_true_eq]
        rw [this]
        omega
    rw [hdec] at e
    by_cases q1 : pE σ p % (pL σ p - pF σ p) ≤ c - pF σ p
    · rw [if_neg (by omega), Nat.add_zero] at eshz
      rw [← eshz, q_max (by omega) (by omega), q_max (by omega) (by omega)] at e
      simp only [q1, decide_true, cond_true, bd_s] at e
      rw [e]
      by_cases q2 : 0 < (dr σ (pL σ p)).toInt
      · rw [if_pos q2] at esh
        simp only [q2, decide_true, Bool.not_true, cond_false]
        exact fin _ esh.symm _
      · rw [if_neg q2] at esh
        simp only [q2, decide_false, Bool.not_false, cond_true]
        exact fin _ esh.symm _
    · rw [if_pos (by omega)] at eshz
      rw [← eshz] at e
      simp only [q1, decide_false, cond_false] at e
      rw [q_max (by omega) (by omega), q_max (by omega) (by omega)] at e
      simp only [bd_s] at e
      rw [e]
      by_cases q2 : 0 < (dr σ (pL σ p)).toInt
      · rw [if_pos q2] at esh
        simp only [q2, decide_true, Bool.not_true, cond_false]
        exact fin _ esh.symm _
      · rw [if_neg q2] at esh
        simp only [q2, decide_false, Bool.not_false, cond_true]
        exact fin _ esh.symm _
theorem q_spread {h g : mm_H} {σ : Sg} {p : Nat} (hW : WF σ) (hp : p < np σ σ.1) (hT1 : T1 g σ σ.1) (hT2 : T2 g σ (pF σ p)) (hf : frT h g) : ∃ g', mm_cal sc i_Tu_spread [.ref 3, .int (nI p), .int (nI σ.2.1)] g = some ((0, 0, 0), g') ∧ T1 g' σ σ.1 ∧ T2 g' σ (pL σ p + 1) ∧ frT h g' := by
  have hn := hW.1
  have hle := np_le σ σ.1
  obtain ⟨hFL, hLn⟩ := pF_le hp
  obtain ⟨dr1, dr2⟩ := dr_in σ (pL σ p)
  have e := e_Tu_spread sc (nI p) (nI σ.2.1) g
  rw [inb_t (show p < 12 by omega) (by omega), i_cl (by omega), (hT1.2.2.2 p hp).1, (hT1.2.2.2 p hp).2] at e
  have eF : fi σ σ.1 p = pF σ p := rfl
  have eL : la σ σ.1 p = pL σ p := rfl
  rw [eF, eL, inb_t (show pF σ p < 12 by omega) (by omega), i_cl (by omega)] at e
  simp only [cond_true] at e
  have hT1' : T1 (mm_si g 11 (pF σ p) 0) σ σ.1 := T1_of hT1 (by simp [si1]) (fun a a1 a2 => by simp [si1, show ¬ a = 11 by omega])
  have hT2' : T2 (mm_si g 11 (pF σ p) 0) σ (pF σ p) := ⟨by simpa [si1] using hT2.1, fun c hc => by simp [si1, upd1, show ¬ c = pF σ p by omega, hT2.2.1 c hc], fun c hc ht => by simp [si1, hT2.2.2 c hc ht]⟩
  have h11 : (mm_si g 11 (pF σ p) 0).1 11 (pF σ p) = st σ (pF σ p) := by
    rw [st_first hp]
    simp [si1, upd1]
  have hf' : frT h (mm_si g 11 (pF σ p) 0) := frT.tr hf ⟨fun a a1 a2 => by simp [si1, show ¬ a = 11 by omega], rfl⟩
  generalize mm_si g 11 (pF σ p) 0 = k at e hT1' hT2' h11 hf'
  have e2 := l_Tu_spread_15 sc (nI p) (nI σ.2.1) (nI (pF σ p)) (nI (pL σ p)) .null .null .null .null .null .null k
  rw [pk_sub hFL, show (1 : Int32) = nI 1 from rfl, nI_le_d (by omega) (by omega), nI_ne_0 (by omega), q_driftAt hW (fun x hx => hT1'.2.1 _ x hLn hx) (by omega)] at e2
  simp only [bd_s] at e2
  rw [q_abs (by omega) (by omega)] at e2
  simp only [bd_s] at e2
  rw [q_abs (by omega) (by omega)] at e2
  simp only [bd_s] at e2
  by_cases q : 1 ≤ pL σ p - pF σ p
  · simp only [q, show ¬ pL σ p - pF σ p = 0 by omega, decide_true, decide_false, Bool.not_false, cond_true] at e2
    have eE : (dr σ (pL σ p)).toInt.natAbs = pE σ p := rfl
    have hE : pE σ p < 120000 := by
      unfold pE
      omega
    rw [eE, pk_rem (by omega) (by omega) (by omega), pk_div (by omega) (by omega) (by omega)] at e2
    obtain ⟨g', r1, r2, r3, r4⟩ := q_spread39 (h := h) hW hp (nI p) (pL σ p - pF σ p) (pF σ p) k (by omega) (Nat.le_refl _) hT1' hT2' h11 hf' .null
    exact ⟨g', e.trans (e2.trans r1), r2, r3, r4⟩
  · simp only [q, decide_false, cond_false] at e2
    have eFL : pF σ p = pL σ p := by omega
    refine ⟨k, e.trans e2, hT1', ⟨?_, fun x hx => ?_, fun x hx ht => ?_⟩, hf'⟩
    · have e3 : gsm σ (pL σ p + 1) = gsm σ (pL σ p) := by
        have := td_last hW hp
        show (if td σ (pL σ p) = true then max (gsm σ (pL σ p)) (shz σ (pL σ p)) else gsm σ (pL σ p)) = _
        rw [this]
        rfl
      rw [e3, ← eFL]
      exact hT2'.1
    · by_cases e3 : x = pF σ p
      · subst e3
        exact h11
      · exact hT2'.2.1 x (by omega)
    · by_cases e3 : x = pF σ p
      · subst e3
        rw [eFL, td_last hW hp] at ht
        cases ht
      · exact hT2'.2.2 x (by omega) ht
theorem q_follow46 {h : mm_H} {σ : Sg} (hC : CC h σ) (hW : WF σ) : ∀ d p g, p + d = np σ σ.1 → T1 g σ σ.1 → T2 g σ (bnd σ p) → frT h g → ∃ g', mm_ev sc i_Tu_follow 46 [.ref 3, .ref 14, .int (nI p)] [] g = some ((0, 0, 0), g') ∧ T1 g' σ σ.1 ∧ T2 g' σ σ.1 ∧ frT h g' := by
  have hn := hW.1
  have hle := np_le σ σ.1
  intro d
  induction d with
  | zero =>
    intro p g hp hT1 hT2 hf
    have hb : bnd σ p = σ.1 := by
      unfold bnd
      rw [if_neg (by omega)]
    rw [hb] at hT2
    refine ⟨g, ?_, hT1, hT2, hf⟩
    rw [l_Tu_follow_46, hT1.1, nI_le_d (by omega) (by omega)]
    simp only [show np σ σ.1 ≤ p by omega, decide_true, cond_true]
  | succ d ih =>
    intro p g hp hT1 hT2 hf
    have hb : bnd σ p = pF σ p := by
      unfold bnd
      rw [if_pos (by omega)]
    rw [hb] at hT2
    obtain ⟨g1, r1, r2, r3, r4⟩ := q_spread (sc := sc) hW (by omega) hT1 hT2 hf
    rw [← bnd_s (by omega)] at r3
    obtain ⟨g', k1, k2, k3, k4⟩ := ih (p + 1) g1 (by omega) r2 r3 r4
    refine ⟨g', ?_, k2, k3, k4⟩
    rw [l_Tu_follow_46, hT1.1, nI_le_d (by omega) (by omega), q_greatestAllowed (CC_frT hC hf)]
    simp only [bd_s, show ¬ np σ σ.1 ≤ p by omega, decide_false, cond_false]
    rw [r1]
    simp only [bd_s]
    rw [nI_1]
    exact k1
/-- the tuning that a score has -/
def TU (g : mm_H) (σ : Sg) : Prop := T1 g σ σ.1 ∧ T2 g σ σ.1
theorem q_follow {h : mm_H} {σ : Sg} (hC : CC h σ) (hW : WF σ) : ∃ g, mm_cal sc i_Tu_follow [.ref 3, .ref 14] h = some ((0, 0, 0), g) ∧ TU g σ ∧ frT h g := by
  have e := e_Tu_follow sc h
  have hf : frT h (mm_si (mm_si h 3 6 0) 3 7 0) := ⟨fun a a1 a2 => by simp [si1, a1], rfl⟩
  obtain ⟨g1, r1, r2, r3, r4⟩ := q_follow8 (sc := sc) hC hW σ.1 0 _ (by omega) ⟨by simp [si1, upd1, np, nI_z], fun x k hx => absurd hx (Nat.not_lt_zero x), fun x hx => absurd hx (Nat.not_lt_zero x), fun p hp => absurd hp (Nat.not_lt_zero p)⟩ (by simp [si1, upd1]) hf
  obtain ⟨g', k1, k2, k3, k4⟩ := q_follow46 (sc := sc) hC hW (np σ σ.1) 0 g1 (by omega) r2 (by rw [bnd_0]; exact ⟨by rw [r3]; rfl, fun c hc => absurd hc (Nat.not_lt_zero c), fun c hc => absurd hc (Nat.not_lt_zero c)⟩) r4
  exact ⟨g', e.trans (r1.trans k1), ⟨k2, k3⟩, k4⟩
end TUN
