set_option maxRecDepth 10000 in
theorem xe_Sc_copyFrom (sc : Nat × (Nat → Int32)) (t0 : Nat) (a1 : Nat) (h : mm_H) : mm_cal sc i_Sc_copyFrom [.ref t0, .ref a1] h = (bif Nat.beq (mm_kd a1) 12 then (bif Nat.beq (mm_kd t0) 12 then (bif Nat.beq (mm_kd t0) 12 then (bif (Nat.beq (mm_kd (mm_rf t0 0)) 0 || Nat.beq (mm_kd (mm_rf t0 0)) 2) then (bif ((Nat.beq (mm_kd (mm_rf a1 0)) 0 && Nat.beq (mm_kd (mm_rf t0 0)) 0) && (Nat.ble (mm_cat []) 8 && ((decide (0 ≤ Int32.toInt 0) && (decide (0 ≤ Int32.toInt 0) && decide (0 ≤ Int32.toInt (nI (mm_len sc (mm_rf t0 0)))))) && (Nat.ble (Int32.toNatClampNeg 0 + Int32.toNatClampNeg (nI (mm_len sc (mm_rf t0 0)))) (mm_len sc (mm_rf a1 0)) && Nat.ble (Int32.toNatClampNeg 0 + Int32.toNatClampNeg (nI (mm_len sc (mm_rf t0 0)))) (mm_len sc (mm_rf t0 0)))))) then mm_ev sc i_Sc_copyFrom 10 [.ref t0, .ref a1] [] (mm_sa h (mm_rf t0 0) (va_cpy (h.1 (mm_rf a1 0)) (h.1 (mm_rf t0 0)) (Int32.toNatClampNeg 0) (Int32.toNatClampNeg 0) (Int32.toNatClampNeg (nI (mm_len sc (mm_rf t0 0)))))) else none) else none) else none) else none) else none) := (mm_ev_runL sc i_Sc_copyFrom mc_Sc_copyFrom 0 rfl rfl [10, 20, 30, 40] 50 _ _ _ _).trans rfl
set_option maxRecDepth 10000 in
theorem xl_Sc_copyFrom_10 (sc : Nat × (Nat → Int32)) (t0 : Nat) (a1 : Nat) (h : mm_H) : mm_ev sc i_Sc_copyFrom 10 [.ref t0, .ref a1] [] h = (bif Nat.beq (mm_kd a1) 12 then (bif Nat.beq (mm_kd t0) 12 then (bif Nat.beq (mm_kd t0) 12 then (bif (Nat.beq (mm_kd (mm_rf t0 1)) 0 || Nat.beq (mm_kd (mm_rf t0 1)) 2) then (bif ((Nat.beq (mm_kd (mm_rf a1 1)) 0 && Nat.beq (mm_kd (mm_rf t0 1)) 0) && (Nat.ble (mm_cat []) 8 && ((decide (0 ≤ Int32.toInt 0) && (decide (0 ≤ Int32.toInt 0) && decide (0 ≤ Int32.toInt (nI (mm_len sc (mm_rf t0 1)))))) && (Nat.ble (Int32.toNatClampNeg 0 + Int32.toNatClampNeg (nI (mm_len sc (mm_rf t0 1)))) (mm_len sc (mm_rf a1 1)) && Nat.ble (Int32.toNatClampNeg 0 + Int32.toNatClampNeg (nI (mm_len sc (mm_rf t0 1)))) (mm_len sc (mm_rf t0 1)))))) then mm_ev sc i_Sc_copyFrom 20 [.ref t0, .ref a1] [] (mm_sa h (mm_rf t0 1) (va_cpy (h.1 (mm_rf a1 1)) (h.1 (mm_rf t0 1)) (Int32.toNatClampNeg 0) (Int32.toNatClampNeg 0) (Int32.toNatClampNeg (nI (mm_len sc (mm_rf t0 1)))))) else none) else none) else none) else none) else none) := (mm_ev_runL sc i_Sc_copyFrom mc_Sc_copyFrom 0 rfl rfl [10, 20, 30, 40] 50 _ _ _ _).trans rfl
set_option maxRecDepth 10000 in
theorem xl_Sc_copyFrom_20 (sc : Nat × (Nat → Int32)) (t0 : Nat) (a1 : Nat) (h : mm_H) : mm_ev sc i_Sc_copyFrom 20 [.ref t0, .ref a1] [] h = (bif Nat.beq (mm_kd a1) 12 then (bif Nat.beq (mm_kd t0) 12 then (bif Nat.beq (mm_kd t0) 12 then (bif (Nat.beq (mm_kd (mm_rf t0 2)) 0 || Nat.beq (mm_kd (mm_rf t0 2)) 2) then (bif ((Nat.beq (mm_kd (mm_rf a1 2)) 0 && Nat.beq (mm_kd (mm_rf t0 2)) 0) && (Nat.ble (mm_cat []) 8 && ((decide (0 ≤ Int32.toInt 0) && (decide (0 ≤ Int32.toInt 0) && decide (0 ≤ Int32.toInt (nI (mm_len sc (mm_rf t0 2)))))) && (Nat.ble (Int32.toNatClampNeg 0 + Int32.toNatClampNeg (nI (mm_len sc (mm_rf t0 2)))) (mm_len sc (mm_rf a1 2)) && Nat.ble (Int32.toNatClampNeg 0 + Int32.toNatClampNeg (nI (mm_len sc (mm_rf t0 2)))) (mm_len sc (mm_rf t0 2)))))) then mm_ev sc i_Sc_copyFrom 30 [.ref t0, .ref a1] [] (mm_sa h (mm_rf t0 2) (va_cpy (h.1 (mm_rf a1 2)) (h.1 (mm_rf t0 2)) (Int32.toNatClampNeg 0) (Int32.toNatClampNeg 0) (Int32.toNatClampNeg (nI (mm_len sc (mm_rf t0 2)))))) else none) else none) else none) else none) else none) := (mm_ev_runL sc i_Sc_copyFrom mc_Sc_copyFrom 0 rfl rfl [10, 20, 30, 40] 50 _ _ _ _).trans rfl
set_option maxRecDepth 10000 in
theorem xl_Sc_copyFrom_30 (sc : Nat × (Nat → Int32)) (t0 : Nat) (a1 : Nat) (h : mm_H) : mm_ev sc i_Sc_copyFrom 30 [.ref t0, .ref a1] [] h = (bif Nat.beq (mm_kd a1) 12 then (bif Nat.beq (mm_kd t0) 12 then (bif Nat.beq (mm_kd t0) 12 then (bif (Nat.beq (mm_kd (mm_rf t0 3)) 0 || Nat.beq (mm_kd (mm_rf t0 3)) 2) then (bif ((Nat.beq (mm_kd (mm_rf a1 3)) 0 && Nat.beq (mm_kd (mm_rf t0 3)) 0) && (Nat.ble (mm_cat []) 8 && ((decide (0 ≤ Int32.toInt 0) && (decide (0 ≤ Int32.toInt 0) && decide (0 ≤ Int32.toInt (nI (mm_len sc (mm_rf t0 3)))))) && (Nat.ble (Int32.toNatClampNeg 0 + Int32.toNatClampNeg (nI (mm_len sc (mm_rf t0 3)))) (mm_len sc (mm_rf a1 3)) && Nat.ble (Int32.toNatClampNeg 0 + Int32.toNatClampNeg (nI (mm_len sc (mm_rf t0 3)))) (mm_len sc (mm_rf t0 3)))))) then mm_ev sc i_Sc_copyFrom 40 [.ref t0, .ref a1] [] (mm_sa h (mm_rf t0 3) (va_cpy (h.1 (mm_rf a1 3)) (h.1 (mm_rf t0 3)) (Int32.toNatClampNeg 0) (Int32.toNatClampNeg 0) (Int32.toNatClampNeg (nI (mm_len sc (mm_rf t0 3)))))) else none) else none) else none) else none) else none) := (mm_ev_runL sc i_Sc_copyFrom mc_Sc_copyFrom 0 rfl rfl [10, 20, 30, 40] 50 _ _ _ _).trans rfl
set_option maxRecDepth 10000 in
theorem xl_Sc_copyFrom_40 (sc : Nat × (Nat → Int32)) (t0 : Nat) (a1 : Nat) (h : mm_H) : mm_ev sc i_Sc_copyFrom 40 [.ref t0, .ref a1] [] h = (bif Nat.beq (mm_kd a1) 12 then (bif Nat.beq (mm_kd t0) 12 then (bif Nat.beq (mm_kd a1) 12 then (bif Nat.beq (mm_kd t0) 12 then some ((0, 0, 0), (mm_si (mm_si h t0 4 (h.1 a1 4)) t0 5 ((mm_si h t0 4 (h.1 a1 4)).1 a1 5))) else none) else none) else none) else none) := (mm_ev_runL sc i_Sc_copyFrom mc_Sc_copyFrom 0 rfl rfl [10, 20, 30, 40] 50 _ _ _ _).trans rfl
/-! what a score is: chords, limit, tones of each, powers, ties -/
abbrev Sg : Type := Nat × Nat × (Nat → Nat) × (Nat → Int32) × (Nat → Option (Nat × Nat))
def CSb (h : mm_H) (s a b c d : Nat) (σ : Sg) : Prop := h.1 s 4 = nI σ.1 ∧ h.1 s 5 = nI σ.2.1 ∧ (∀ x, x < 12 → h.1 a x = nI (σ.2.2.1 x)) ∧ (∀ x, x < 240 → h.1 b x = σ.2.2.2.1 x) ∧ (∀ x, x < σ.1 → (σ.2.2.2.2 x = none → h.1 c x = -100000001) ∧ ∀ i j, σ.2.2.2.2 x = some (i, j) → h.1 c x = nI i ∧ h.1 d x = nI j)
abbrev CC (h : mm_H) (σ : Sg) : Prop := CSb h 14 21 22 23 24 σ
def WF (σ : Sg) : Prop := σ.1 ≤ 12 ∧ σ.2.1 ≤ 9999 ∧ (∀ c, c < 12 → σ.2.2.1 c ≤ 5) ∧ (∀ j, j < 240 → -6 ≤ (σ.2.2.2.1 j).toInt ∧ (σ.2.2.2.1 j).toInt ≤ 6) ∧ ∀ c i j, σ.2.2.2.2 c = some (i, j) → c + 1 < σ.1 ∧ i < 5 ∧ j < 5
theorem si1 {h : mm_H} {k j a : Nat} {v : Int32} : (mm_si h k j v).1 a = if a = k then upd (h.1 k) j v else h.1 a := rfl
theorem si2 {h : mm_H} {k j : Nat} {v : Int32} : (mm_si h k j v).2 = h.2 := rfl
theorem upd1 {f : Nat → Int32} {i j : Nat} {x : Int32} : upd f i x j = if j = i then x else f j := rfl
theorem nI_z : nI 0 = 0 := rfl
/-- which tone of a chord is where among the powers -/
theorem q_startOf (sc : Nat × (Nat → Int32)) (c t : Nat) (h : mm_H) : mm_cal sc i_Sc_startOf [.int (nI c), .int (nI t)] h = some ((nI ((c * 5 + t) * 4), 0, 0), h) := by
  rw [e_Sc_startOf, show (5 : Int32) = nI 5 from rfl, show (4 : Int32) = nI 4 from rfl, pk_mul, nI_add, pk_mul]
section SCORE
variable {sc : Nat × (Nat → Int32)} {h : mm_H} {σ : Sg}
theorem q_hasChord (hC : CC h σ) (hW : WF σ) (a : Int32) : mm_cal sc i_Sc_hasChord [.ref 14, .int a] h = some ((b2i (mm_inb a σ.1), 0, 0), h) := by
  have := hW.1
  rw [e_Sc_hasChord, hC.1, q_inN (by omega)]
  simp only [bd_s, b2i_01, cond_true]
theorem q_hasNext (hC : CC h σ) (hW : WF σ) (a : Int32) : mm_cal sc i_Sc_hasNext [.ref 14, .int a] h = some ((b2i (mm_inb a (σ.1 - 1)), 0, 0), h) := by
  have := hW.1
  rw [e_Sc_hasNext, hC.1, q_inN2 (by omega)]
  simp only [bd_s, b2i_01, cond_true]
/-- is it a tone of a chord -/
def isTn (σ : Sg) (a t : Int32) : Bool := mm_inb a σ.1 && mm_inb t (σ.2.2.1 a.toNatClampNeg)
theorem inb_up {a : Int32} {n m : Nat} (h : mm_inb a n = true) (hm : n ≤ m) : mm_inb a m = true := by
  rw [inb_iff] at h ⊢
  omega
theorem q_hasTone (hC : CC h σ) (hW : WF σ) (a t : Int32) : mm_cal sc i_Sc_hasTone [.ref 14, .int a, .int t] h = some ((b2i (isTn σ a t), 0, 0), h) := by
  have hn := hW.1
  rw [e_Sc_hasTone, q_hasChord hC hW]
  unfold isTn
  cases hq : mm_inb a σ.1 with
  | false => simp only [bd_s, b2i_0, Bool.not_false, cond_true, Bool.false_and]; rfl
  | true =>
    obtain ⟨c, hc, hc2, rfl⟩ := inb_ex hq
    have h5 := hW.2.2.1 c (by omega)
    simp only [bd_s, b2i_0, Bool.not_true, cond_false, inb_up hq hn, cond_true, Bool.true_and]
    rw [i_cl hc2, hC.2.2.1 c (by omega), q_inN (by omega)]
    simp only [bd_s, b2i_0]
    cases mm_inb t (σ.2.2.1 c) <;> rfl
def tdI (σ : Sg) (a : Int32) : Bool := mm_inb a (σ.1 - 1) && (σ.2.2.2.2 a.toNatClampNeg).isSome
theorem nI_none : ∀ i, i < 5 → ¬ nI i = -100000001 := by decide +kernel
theorem q_isTied (hC : CC h σ) (hW : WF σ) (a : Int32) : mm_cal sc i_Sc_isTied [.ref 14, .int a] h = some ((b2i (tdI σ a), 0, 0), h) := by
  have hn := hW.1
  rw [e_Sc_isTied, q_hasNext hC hW]
  unfold tdI
  cases hq : mm_inb a (σ.1 - 1) with
  | false => simp only [bd_s, b2i_0, Bool.not_false, cond_true, Bool.false_and]; rfl
  | true =>
    obtain ⟨c, hc, hc2, rfl⟩ := inb_ex hq
    simp only [bd_s, b2i_0, Bool.not_true, cond_false, inb_up hq (show σ.1 - 1 ≤ 12 by omega), cond_true, Bool.true_and]
    rw [i_cl hc2]
    obtain ⟨t1, t2⟩ := hC.2.2.2.2 c (by omega)
    cases ht : σ.2.2.2.2 c with
    | none => rw [t1 ht]; rfl
    | some q =>
      obtain ⟨i, j⟩ := q
      obtain ⟨t3, t4⟩ := t2 i j ht
      have hi := (hW.2.2.2.2 c i j ht).2.1
      rw [t3]
      simp only [nI_none i hi, decide_false, cond_false]
      rfl
theorem q_heldTone {c i j : Nat} (hC : CC h σ) (hW : WF σ) (ht : σ.2.2.2.2 c = some (i, j)) : mm_cal sc i_Sc_heldTone [.ref 14, .int (nI c)] h = some ((nI i, 0, 0), h) := by
  have hn := hW.1
  have hc := (hW.2.2.2.2 c i j ht).1
  rw [e_Sc_heldTone, inb_t (show c < 12 by omega) (by omega), i_cl (by omega), ((hC.2.2.2.2 c (by omega)).2 i j ht).1]
  rfl
theorem q_heldAs {c i j : Nat} (hC : CC h σ) (hW : WF σ) (ht : σ.2.2.2.2 c = some (i, j)) : mm_cal sc i_Sc_heldAs [.ref 14, .int (nI c)] h = some ((nI j, 0, 0), h) := by
  have hn := hW.1
  have hc := (hW.2.2.2.2 c i j ht).1
  rw [e_Sc_heldAs, inb_t (show c < 12 by omega) (by omega), i_cl (by omega), ((hC.2.2.2.2 c (by omega)).2 i j ht).2]
  rfl
theorem q_chordCount (hC : CC h σ) : mm_cal sc i_Sc_chordCount [.ref 14] h = some ((nI σ.1, 0, 0), h) := by
  rw [e_Sc_chordCount, hC.1]
theorem q_greatestAllowed (hC : CC h σ) : mm_cal sc i_Sc_greatestAllowed [.ref 14] h = some ((nI σ.2.1, 0, 0), h) := by
  rw [e_Sc_greatestAllowed, hC.2.1]
theorem q_toneCount {c : Nat} (hC : CC h σ) (hc : c < 12) : mm_cal sc i_Sc_toneCount [.ref 14, .int (nI c)] h = some ((nI (σ.2.2.1 c), 0, 0), h) := by
  rw [e_Sc_toneCount, inb_t hc (by omega), i_cl (by omega), hC.2.2.1 c hc]
  rfl
def smn (f : Nat → Nat) : Nat → Nat
  | 0 => 0
  | n + 1 => smn f n + f n
theorem q_allTones4 (hC : CC h σ) (hW : WF σ) : ∀ d c, c + d = σ.1 → mm_ev sc i_Sc_allTones 4 [.ref 14, .int (nI (smn σ.2.2.1 c)), .int (nI c)] [] h = some ((nI (smn σ.2.2.1 σ.1), 0, 0), h) := by
  have hn := hW.1
  intro d
  induction d with
  | zero =>
    intro c hc
    have : c = σ.1 := by omega
    subst this
    rw [l_Sc_allTones_4, hC.1, nI_le_d (by omega) (by omega)]
    simp only [Nat.le_refl, decide_true, cond_true]
  | succ d ih =>
    intro c hc
    rw [l_Sc_allTones_4, hC.1, nI_le_d (by omega) (by omega), inb_t (show c < 12 by omega) (by omega), i_cl (by omega), hC.2.2.1 c (by omega), nI_add, nI_1]
    simp only [show ¬ σ.1 ≤ c by omega, decide_false, cond_false, cond_true]
    exact ih (c + 1) (by omega)
theorem q_allTones (hC : CC h σ) (hW : WF σ) : mm_cal sc i_Sc_allTones [.ref 14] h = some ((nI (smn σ.2.2.1 σ.1), 0, 0), h) := by
  rw [e_Sc_allTones]
  exact q_allTones4 hC hW σ.1 0 (by omega)
theorem q_powerAt {c t k : Nat} (hC : CC h σ) (hc : c < 12) (ht : t < 5) (hk : k < 4) : mm_cal sc i_Sc_powerAt [.ref 14, .int (nI c), .int (nI t), .int (nI k)] h = some ((σ.2.2.2.1 ((c * 5 + t) * 4 + k), 0, 0), h) := by
  rw [e_Sc_powerAt, q_startOf]
  simp only [bd_s]
  rw [nI_add, inb_t (show (c * 5 + t) * 4 + k < 240 by omega) (by omega), i_cl (by omega), hC.2.2.2.1 _ (by omega)]
  rfl
theorem szf_congr {f g : Nat → Int32} {s : Nat} (h : ∀ j, s ≤ j → j < s + 4 → f j = g j) : szf f s = szf g s := by
  unfold szf
  rw [h s (by omega) (by omega), h (s + 1) (by omega) (by omega), h (s + 2) (by omega) (by omega), h (s + 3) (by omega) (by omega)]
theorem q_sizeAt {c t : Nat} (hC : CC h σ) (hc : c < 12) (ht : t < 5) : mm_cal sc i_Sc_sizeAt [.ref 14, .int (nI c), .int (nI t)] h = some ((szf σ.2.2.2.1 ((c * 5 + t) * 4), 0, 0), h) := by
  rw [e_Sc_sizeAt, q_startOf]
  simp only [bd_s]
  have hl : mm_len sc 22 = 240 := rfl
  rw [q_sizeOf sc (x := 22) (s := (c * 5 + t) * 4) h rfl (by omega) (by rw [hl]; omega) (by rw [hl]; omega)]
  simp only [bd_s]
  rw [szf_congr (g := σ.2.2.2.1) (fun j h1 h2 => hC.2.2.2.1 j (by omega))]
theorem q_tiePower {c i j k : Nat} (hC : CC h σ) (hW : WF σ) (ht : σ.2.2.2.2 c = some (i, j)) (hk : k < 4) : mm_cal sc i_Sc_tiePower [.ref 14, .int (nI c), .int (nI k)] h = some ((σ.2.2.2.1 ((c * 5 + i) * 4 + k) - σ.2.2.2.1 (((c + 1) * 5 + j) * 4 + k), 0, 0), h) := by
  have hn := hW.1
  obtain ⟨hc, hi, hj⟩ := hW.2.2.2.2 c i j ht
  obtain ⟨t3, t4⟩ := (hC.2.2.2.2 c (by omega)).2 i j ht
  rw [e_Sc_tiePower, inb_t (show c < 12 by omega) (by omega), i_cl (by omega), t3, q_powerAt hC (by omega) hi hk]
  simp only [bd_s, cond_true]
  rw [t4, nI_1, q_powerAt hC (by omega) hj hk]
  rfl
/-- what stands above the line -/
def itm (pw : Nat → Int32) (s r : Nat) : Nat → Int32
  | 0 => 1
  | k + 1 => itm pw s r k * ipw (nI (pr k)) (pw (r + k) - pw (s + k)).toInt.toNat
theorem q_term4 {c i j : Nat} (hC : CC h σ) (hc : c < 12) (hi : i < 5) (hj : j < 5) : ∀ d k, k + d = 4 → mm_ev sc i_Sc_intervalTerm 4 [.ref 14, .int (nI c), .int (nI i), .int (nI j), .int (itm σ.2.2.2.1 ((c * 5 + i) * 4) ((c * 5 + j) * 4) k), .int (nI k)] [] h = some ((itm σ.2.2.2.1 ((c * 5 + i) * 4) ((c * 5 + j) * 4) 4, 0, 0), h) := by
  intro d
  induction d with
  | zero =>
    intro k hk
    have : k = 4 := by omega
    subst this
    rw [l_Sc_intervalTerm_4, show (4 : Int32) = nI 4 from rfl, nI_le_d (by omega) (by omega)]
    rfl
  | succ d ih =>
    intro k hk
    rw [l_Sc_intervalTerm_4, show (4 : Int32) = nI 4 from rfl, nI_le_d (by omega) (by omega), q_powerAt hC hc hj (by omega)]
    simp only [show ¬ 4 ≤ k by omega, decide_false, cond_false, bd_s]
    rw [q_powerAt hC hc hi (by omega)]
    simp only [bd_s]
    rw [q_ptp sc (by omega)]
    simp only [bd_s]
    rw [nI_1]
    exact ih (k + 1) (by omega)
theorem q_intervalTerm {c i j : Nat} (hC : CC h σ) (hc : c < 12) (hi : i < 5) (hj : j < 5) : mm_cal sc i_Sc_intervalTerm [.ref 14, .int (nI c), .int (nI i), .int (nI j)] h = some ((itm σ.2.2.2.1 ((c * 5 + i) * 4) ((c * 5 + j) * 4) 4, 0, 0), h) := by
  rw [e_Sc_intervalTerm]
  exact q_term4 hC hc hi hj 4 0 (by omega)
/-- how many tones stand ahead -/
def rkc (sz : Nat → Int32) (t : Nat) : Nat → Nat
  | 0 => 0
  | u + 1 => rkc sz t u + (if sz u < sz t ∨ (sz u = sz t ∧ u < t) then 1 else 0)
def szc (σ : Sg) (c t : Nat) : Int32 := szf σ.2.2.2.1 ((c * 5 + t) * 4)
theorem rkc_le (sz : Nat → Int32) (t : Nat) : ∀ u, rkc sz t u ≤ u := by
  intro u
  induction u with
  | zero => exact Nat.le_refl _
  | succ u ih =>
    unfold rkc
    split <;> omega
theorem q_rank9 {c t : Nat} (hC : CC h σ) (hW : WF σ) (hc : c < 12) (ht : t < 5) : ∀ d u, u + d = σ.2.2.1 c → ∀ w6 : Value, mm_ev sc i_Sc_rankOf 9 [.ref 14, .int (nI c), .int (nI t), .int (szc σ c t), .int (nI (rkc (szc σ c) t u)), .int (nI u), w6] [] h = some ((nI (rkc (szc σ c) t (σ.2.2.1 c)), 0, 0), h) := by
  have h5 := hW.2.2.1 c hc
  intro d
  induction d with
  | zero =>
    intro u hu w6
    have : u = σ.2.2.1 c := by omega
    subst this
    rw [l_Sc_rankOf_9, inb_t (show c < 12 by omega) (by omega), i_cl (by omega), hC.2.2.1 c hc, nI_le_d (by omega) (by omega)]
    simp only [Nat.le_refl, decide_true, cond_true]
  | succ d ih =>
    intro u hu w6
    rw [l_Sc_rankOf_9, inb_t (show c < 12 by omega) (by omega), i_cl (by omega), hC.2.2.1 c hc, nI_le_d (by omega) (by omega), q_sizeAt hC hc (show u < 5 by omega)]
    simp only [show ¬ σ.2.2.1 c ≤ u by omega, decide_false, cond_false, cond_true, bd_s]
    rw [nI_1, nI_le_d (by omega) (by omega), nI_1]
    have e0 : szf σ.2.2.2.1 ((c * 5 + u) * 4) = szc σ c u := rfl
    rw [e0]
    have step : rkc (szc σ c) t (u + 1) = rkc (szc σ c) t u + (if szc σ c u < szc σ c t ∨ (szc σ c u = szc σ c t ∧ u < t) then 1 else 0) := rfl
    by_cases h1 : szc σ c u < szc σ c t
    · rw [if_pos (Or.inl h1)] at step
      simp only [h1, decide_true, cond_true]
      rw [← step]
      exact ih (u + 1) (by omega) _
    · by_cases h2 : szc σ c u = szc σ c t
      · by_cases h3 : t ≤ u
        · rw [if_neg (fun q => q.elim h1 (fun z => by omega))] at step
          simp only [h1, decide_false, cond_false]
          rw [decide_eq_true h2, decide_eq_true h3]
          simp only [cond_true]
          have s0 : rkc (szc σ c) t u = rkc (szc σ c) t (u + 1) := by omega
          rw [s0]
          exact ih (u + 1) (by omega) _
        · rw [if_pos (Or.inr ⟨h2, by omega⟩)] at step
          simp only [h1, decide_false, cond_false]
          rw [decide_eq_true h2, decide_eq_false h3]
          simp only [cond_true, cond_false]
          rw [← step]
          exact ih (u + 1) (by omega) _
      · rw [if_neg (fun q => q.elim h1 (fun z => h2 z.1))] at step
        simp only [h1, h2, decide_false, cond_false]
        have s0 : rkc (szc σ c) t u = rkc (szc σ c) t (u + 1) := by omega
        rw [s0]
        exact ih (u + 1) (by omega) _
theorem q_rankOf {c t : Nat} (hC : CC h σ) (hW : WF σ) (hc : c < 12) (ht : t < 5) : mm_cal sc i_Sc_rankOf [.ref 14, .int (nI c), .int (nI t)] h = some ((nI (rkc (szc σ c) t (σ.2.2.1 c)), 0, 0), h) := by
  rw [e_Sc_rankOf, q_sizeAt hC hc ht]
  simp only [bd_s]
  exact q_rank9 hC hW hc ht (σ.2.2.1 c) 0 (by omega) .null
/-- the tone that has so many ahead -/
def tbr (sz : Nat → Int32) (m : Nat) (rank : Int32) : Nat → Nat → Int32
  | 0, _ => -100000001
  | d + 1, t => if nI (rkc sz t m) = rank then nI t else tbr sz m rank d (t + 1)
theorem q_byRank2 {c : Nat} (hC : CC h σ) (hW : WF σ) (hc : c < 12) (rank : Int32) : ∀ d t, t + d = σ.2.2.1 c → mm_ev sc i_Sc_toneByRank 2 [.ref 14, .int (nI c), .int rank, .int (nI t)] [] h = some ((tbr (szc σ c) (σ.2.2.1 c) rank d t, 0, 0), h) := by
  have h5 := hW.2.2.1 c hc
  intro d
  induction d with
  | zero =>
    intro t ht
    have : t = σ.2.2.1 c := by omega
    subst this
    rw [l_Sc_toneByRank_2, inb_t (show c < 12 by omega) (by omega), i_cl (by omega), hC.2.2.1 c hc, nI_le_d (by omega) (by omega)]
    simp only [Nat.le_refl, decide_true, cond_true]
    rfl
  | succ d ih =>
    intro t ht
    rw [l_Sc_toneByRank_2, inb_t (show c < 12 by omega) (by omega), i_cl (by omega), hC.2.2.1 c hc, nI_le_d (by omega) (by omega), q_rankOf hC hW hc (show t < 5 by omega)]
    simp only [show ¬ σ.2.2.1 c ≤ t by omega, decide_false, cond_false, cond_true, bd_s]
    unfold tbr
    by_cases q : nI (rkc (szc σ c) t (σ.2.2.1 c)) = rank
    · simp only [q, decide_true, cond_true, if_true]
    · simp only [q, decide_false, cond_false, if_false]
      rw [nI_1]
      exact ih (t + 1) (by omega)
theorem q_byRank {c : Nat} (hC : CC h σ) (hW : WF σ) (hc : c < 12) (rank : Int32) : mm_cal sc i_Sc_toneByRank [.ref 14, .int (nI c), .int rank] h = some ((tbr (szc σ c) (σ.2.2.1 c) rank (σ.2.2.1 c) 0, 0, 0), h) := by
  rw [e_Sc_toneByRank]
  exact q_byRank2 hC hW hc rank (σ.2.2.1 c) 0 (by omega)
/-- a voice's tone: v is 0 to 4 -/
def voi (σ : Sg) (v c : Nat) : Int32 := tbr (szc σ c) (σ.2.2.1 c) (nI (min v (σ.2.2.1 c - 1))) (σ.2.2.1 c) 0
theorem q_voice {v c : Nat} (hC : CC h σ) (hW : WF σ) (hc : c < 12) (hv : v < 5) : mm_cal sc i_Sc_toneOfVoice [.ref 14, .int (nI v), .int (nI c)] h = some ((voi σ v c, 0, 0), h) := by
  have h5 := hW.2.2.1 c hc
  rw [e_Sc_toneOfVoice, inb_t (show c < 12 by omega) (by omega), i_cl (by omega), hC.2.2.1 c hc, e_Ma_min]
  simp only [cond_true]
  cases hm : σ.2.2.1 c with
  | zero =>
    have key : ∀ z : Int32, mm_bd (mm_cal sc i_Sc_toneByRank [.ref 14, .int (nI c), .int z] h) (fun r2 => some ((r2.1.1, 0, 0), r2.2)) = some ((voi σ v c, 0, 0), h) := by
      intro z
      rw [q_byRank hC hW hc]
      unfold voi
      rw [hm]
      rfl
    cases decide (nI 0 - 1 < nI v)
    · simp only [cond_false, bd_s]
      exact key _
    · simp only [cond_true, bd_s]
      exact key _
  | succ m =>
    rw [nI_pred, nI_lt_d (by omega) (by omega)]
    by_cases q : m < v
    · simp only [q, decide_true, cond_true, bd_s]
      rw [q_byRank hC hW hc]
      unfold voi
      rw [hm, show min v (m + 1 - 1) = m by omega]
      rfl
    · simp only [q, decide_false, cond_false, bd_s]
      rw [q_byRank hC hW hc]
      unfold voi
      rw [hm, show min v (m + 1 - 1) = v by omega]
      rfl
end SCORE
