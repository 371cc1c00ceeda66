section LAY2
variable {sc : Nat × (Nat → Int32)} {h : mm_H} {σ : Sg}
theorem U1_of {g k : mm_H} {c : Nat} (hT : U1 g σ c) (h6 : k.1 49 13 = g.1 49 13) (h : ∀ a, 55 ≤ a → a ≤ 58 → k.1 a = g.1 a) : U1 k σ c := by
  unfold U1
  rw [h6, h 55 (by omega) (by omega), h 56 (by omega) (by omega), h 57 (by omega) (by omega), h 58 (by omega) (by omega)]
  exact hT
theorem m_shares56 {g : mm_H} {p c i m z : Nat} {d s : Int32} (hz : z < 1000000) (hL : σ.2.1 ≤ 9999) (h1 : g.1 50 1 = nI σ.2.1) (hc : c < 12) (hi : i < 100) : ∃ w w' : Value, mm_ev sc i_Mo_laysShares 56 [.ref 49, .int (nI p), .int (nI m), .int d, .int s, .int (nI i), .int (nI c), .int (nI z)] [] g = mm_ev sc i_Mo_laysShares 21 [.ref 49, .int (nI p), .int (nI m), .int d, .int (s + (if 0 < d.toInt then -nI (min z σ.2.1) else nI (min z σ.2.1))), .int (nI (i + 1)), w, w'] [] (mm_si g 59 c (if 0 < d.toInt then -nI (min z σ.2.1) else nI (min z σ.2.1))) := by
  have e : mm_ev sc i_Mo_laysShares 56 [.ref 49, .int (nI p), .int (nI m), .int d, .int s, .int (nI i), .int (nI c), .int (nI z)] [] g = mm_ev sc i_Mo_laysShares 69 [.ref 49, .int (nI p), .int (nI m), .int d, .int s, .int (nI i), .int (nI c), .int (nI (min z σ.2.1))] [] g := by
    rw [l_Mo_laysShares_56, cl1, h1, nI_le_d (by omega) (by omega)]
    by_cases q : z ≤ σ.2.1
    · rw [decide_eq_true q, Nat.min_eq_left q]
      rfl
    · rw [decide_eq_false q, Nat.min_eq_right (by omega)]
      rfl
  have hdec : decide (d ≤ 0) = !decide (0 < d.toInt) := by
    have := i_le (a := d) (b := 0)
    rw [Int32.toInt_zero] at this
    by_cases q : 0 < d.toInt
    · simp only [q, decide_true, Bool.not_true, decide_eq_false_iff_not]
      rw [this]
      omega
    · simp only [q, decide_false, Bool.not_false, decide_eq_true_eq]
      rw [this]
      omega
  rw [e, l_Mo_laysShares_69, hdec, inb_t hc (by omega), i_cl (by omega), nI_1 i]
  by_cases q : 0 < d.toInt
  · rw [if_pos q]
    simp only [q, decide_true, Bool.not_true, cond_false, cond_true, si1, upd1, if_true]
    exact ⟨_, _, rfl⟩
  · rw [if_neg q]
    simp only [q, decide_false, Bool.not_false, cond_true, si1, upd1, if_true]
    exact ⟨_, _, rfl⟩
theorem m_shares21 {h : mm_H} {p : Nat} (hM : Mr (h.1 50) σ) (hW : WF σ) (hp : p < np σ σ.1) : ∀ d i g, i + d = pL σ p - pF σ p → U1 g σ σ.1 → U2 g σ (pF σ p + i) → frL h g → ∀ w6 w7 : Value, ∃ g', mm_ev sc i_Mo_laysShares 21 [.ref 49, .int (nI p), .int (nI (pL σ p - pF σ p)), .int (dr σ (pL σ p)), .int (st σ (pF σ p + i)), .int (nI i), w6, w7] [] g = some ((0, 0, 0), g') ∧ U1 g' σ σ.1 ∧ U2 g' σ (pL σ p + 1) ∧ frL h g' := by
  have hn := hW.1
  have hL := hW.2.1
  have hnp := np_le σ σ.1
  obtain ⟨hFL, hLn⟩ := pF_le hp
  obtain ⟨dr1, dr2⟩ := dr_in σ (pL σ p)
  have hE : pE σ p < 120000 := by
    unfold pE
    omega
  intro d
  induction d with
  | zero =>
    intro i g hd hT1 hT2 hf w6 w7
    have hM1 := Mr_frL hM hf
    have e := l_Mo_laysShares_21 sc (nI p) (nI (pL σ p - pF σ p)) (dr σ (pL σ p)) (st σ (pF σ p + i)) (nI i) w6 w7 g
    rw [nI_lt_d (by omega) (by omega), decide_eq_false (by omega), cond_false, inb_t (show p < 12 by omega) (by omega), i_cl (show p < 2147483648 by omega), (hT1.2.2.2 p hp).1, show fi σ σ.1 p = pF σ p from rfl, nI_add, cond_true, show pF σ p + i = pL σ p by omega] at e
    rw [l_Mo_laysShares_31, inb_t (show pL σ p < 12 by omega) (by omega), i_cl (by omega), nI_eq_d (by omega) (by omega), decide_eq_true (show i = pL σ p - pF σ p by omega), cond_true, cond_true] at e
    obtain ⟨w, w', e2⟩ := m_shares56 (sc := sc) (σ := σ) (g := mm_si g 60 (pL σ p) (st σ (pL σ p))) (p := p) (c := pL σ p) (i := i) (m := pL σ p - pF σ p) (z := 0) (d := dr σ (pL σ p)) (s := st σ (pL σ p)) (by omega) hL (by rw [si1, if_neg (by omega)]; exact hM1.2.1) (by omega) (by omega)
    have hz : (if 0 < (dr σ (pL σ p)).toInt then -nI (min 0 σ.2.1) else nI (min 0 σ.2.1)) = 0 := by
      rw [Nat.zero_min]
      split <;> rfl
    rw [hz] at e2
    rw [l_Mo_laysShares_21, nI_lt_d (by omega) (by omega), decide_eq_true (show pL σ p - pF σ p < i + 1 by omega), cond_true] at e2
    have e3 := e.trans e2
    rw [show pF σ p + i = pL σ p by omega] at hT2 ⊢
    refine ⟨_, e3, U1_of hT1 (by simp [si1]) (fun a a1 a2 => by simp only [si1, show ¬ a = 59 by omega, show ¬ a = 60 by omega, if_false]), ⟨fun x hx => ?_, fun x hx => ?_⟩, hf.tr ⟨fun a a1 a2 => by simp only [si1, show ¬ a = 59 by omega, show ¬ a = 60 by omega, if_false], fun j hj => by simp only [si1, show ¬ (49 : Nat) = 59 by omega, show ¬ (49 : Nat) = 60 by omega, if_false], rfl⟩⟩
    · simp only [si1, upd1, show ¬ (60 : Nat) = 59 by omega, if_true, if_false]
      by_cases q : x = pL σ p
      · rw [if_pos q, q]
      · rw [if_neg q]
        exact hT2.1 x (by omega)
    · simp only [si1, upd1, show ¬ (59 : Nat) = 60 by omega, if_true, if_false]
      by_cases q : x = pL σ p
      · rw [if_pos q, q, td_last hW hp]
        rfl
      · rw [if_neg q]
        exact hT2.2 x (by omega)
  | succ d ih =>
    intro i g hd hT1 hT2 hf w6 w7
    have hM1 := Mr_frL hM hf
    have hlt : pF σ p + i < pL σ p := by omega
    have hnpc := p_np hp (show pF σ p ≤ pF σ p + i by omega) (by omega : pF σ p + i ≤ pL σ p)
    have htd := p_td hp (show pF σ p ≤ pF σ p + i by omega) hlt
    have hm : 0 < pL σ p - pF σ p := by omega
    have hdiv : pE σ p / (pL σ p - pF σ p) ≤ pE σ p := Nat.div_le_self _ _
    have eshz : shz σ (pF σ p + i) = min (pE σ p / (pL σ p - pF σ p) + (if i < pE σ p % (pL σ p - pF σ p) then 1 else 0)) σ.2.1 := by
      unfold shz
      rw [hnpc, show p + 1 - 1 = p by omega, show pF σ p + i - pF σ p = i by omega]
    have esh : sh σ (pF σ p + i) = if 0 < (dr σ (pL σ p)).toInt then -nI (shz σ (pF σ p + i)) else nI (shz σ (pF σ p + i)) := by
      unfold sh
      rw [hnpc, show p + 1 - 1 = p by omega]
    have est : st σ (pF σ p + i + 1) = st σ (pF σ p + i) + sh σ (pF σ p + i) := by
      show (if td σ (pF σ p + i) = true then st σ (pF σ p + i) + sh σ (pF σ p + i) else 0) = _
      rw [if_pos htd]
    have e := l_Mo_laysShares_21 sc (nI p) (nI (pL σ p - pF σ p)) (dr σ (pL σ p)) (st σ (pF σ p + i)) (nI i) w6 w7 g
    rw [nI_lt_d (by omega) (by omega), decide_eq_false (by omega), cond_false, inb_t (show p < 12 by omega) (by omega), i_cl (show p < 2147483648 by omega), (hT1.2.2.2 p hp).1, show fi σ σ.1 p = pF σ p from rfl, nI_add, cond_true] at e
    rw [l_Mo_laysShares_31, inb_t (show pF σ p + i < 12 by omega) (by omega), i_cl (by omega), nI_eq_d (by omega) (by omega), decide_eq_false (show ¬ i = pL σ p - pF σ p by omega), cond_true, cond_false, nI_ne_0 (by omega), decide_eq_false (show ¬ pL σ p - pF σ p = 0 by omega), m_size (by omega) (by omega)] at e
    simp only [bd_s, Bool.not_false, cond_true] at e
    rw [m_size (by omega) (by omega)] at e
    simp only [bd_s] at e
    have eE : (dr σ (pL σ p)).toInt.natAbs = pE σ p := rfl
    rw [eE, pk_rem (by omega) (by omega) (by omega), pk_div (by omega) (by omega) (by omega), nI_le_d (by have := Nat.mod_lt (pE σ p) hm; omega) (by omega)] at e
    have e2 : mm_ev sc i_Mo_laysShares 21 [.ref 49, .int (nI p), .int (nI (pL σ p - pF σ p)), .int (dr σ (pL σ p)), .int (st σ (pF σ p + i)), .int (nI i), w6, w7] [] g = mm_ev sc i_Mo_laysShares 56 [.ref 49, .int (nI p), .int (nI (pL σ p - pF σ p)), .int (dr σ (pL σ p)), .int (st σ (pF σ p + i)), .int (nI i), .int (nI (pF σ p + i)), .int (nI (pE σ p / (pL σ p - pF σ p) + (if i < pE σ p % (pL σ p - pF σ p) then 1 else 0)))] [] (mm_si g 60 (pF σ p + i) (st σ (pF σ p + i))) := by
      rw [e]
      by_cases q : i < pE σ p % (pL σ p - pF σ p)
      · rw [if_pos q, decide_eq_false (show ¬ pE σ p % (pL σ p - pF σ p) ≤ i by omega), nI_1]
        rfl
      · rw [if_neg q, decide_eq_true (show pE σ p % (pL σ p - pF σ p) ≤ i by omega), show (0 : Int32) = nI 0 from rfl, nI_add]
        rfl
    have hz : pE σ p / (pL σ p - pF σ p) + (if i < pE σ p % (pL σ p - pF σ p) then 1 else 0) < 1000000 := by split <;> omega
    obtain ⟨w, w', e3⟩ := m_shares56 (sc := sc) (σ := σ) (g := mm_si g 60 (pF σ p + i) (st σ (pF σ p + i))) (p := p) (c := pF σ p + i) (i := i) (m := pL σ p - pF σ p) (z := pE σ p / (pL σ p - pF σ p) + (if i < pE σ p % (pL σ p - pF σ p) then 1 else 0)) (d := dr σ (pL σ p)) (s := st σ (pF σ p + i)) hz hL (by rw [si1, if_neg (by omega)]; exact hM1.2.1) (by omega) (by omega)
    rw [← eshz, ← esh, ← est] at e3
    obtain ⟨g', r1, r2, r3, r4⟩ := ih (i + 1) (mm_si (mm_si g 60 (pF σ p + i) (st σ (pF σ p + i))) 59 (pF σ p + i) (sh σ (pF σ p + i))) (by omega) (U1_of hT1 (by simp [si1]) (fun a a1 a2 => by simp only [si1, show ¬ a = 59 by omega, show ¬ a = 60 by omega, if_false])) ⟨fun x hx => by
      simp only [si1, upd1, show ¬ (60 : Nat) = 59 by omega, if_true, if_false]
      by_cases q : x = pF σ p + i
      · rw [if_pos q, q]
      · rw [if_neg q]
        exact hT2.1 x (by omega), fun x hx => by
      simp only [si1, upd1, show ¬ (59 : Nat) = 60 by omega, if_true, if_false]
      by_cases q : x = pF σ p + i
      · rw [if_pos q, q, if_pos htd]
      · rw [if_neg q]
        exact hT2.2 x (by omega)⟩ (hf.tr ⟨fun a a1 a2 => by simp only [si1, show ¬ a = 59 by omega, show ¬ a = 60 by omega, if_false], fun j hj => by simp only [si1, show ¬ (49 : Nat) = 59 by omega, show ¬ (49 : Nat) = 60 by omega, if_false], rfl⟩) w w'
    exact ⟨g', e2.trans (e3.trans r1), r2, r3, r4⟩
theorem m_laysShares {g : mm_H} {p : Nat} (hM : Mr (h.1 50) σ) (hW : WF σ) (hp : p < np σ σ.1) (hT1 : U1 g σ σ.1) (hT2 : U2 g σ (pF σ p)) (hf : frL h g) : ∃ g', mm_cal sc i_Mo_laysShares [.ref 49, .int (nI p)] g = some ((0, 0, 0), g') ∧ U1 g' σ σ.1 ∧ U2 g' σ (pL σ p + 1) ∧ frL h g' := by
  have hn := hW.1
  have hnp := np_le σ σ.1
  obtain ⟨hFL, hLn⟩ := pF_le hp
  have e := e_Mo_laysShares sc (nI p) g
  rw [inb_t (show p < 12 by omega) (by omega), i_cl (by omega), (hT1.2.2.2 p hp).1, (hT1.2.2.2 p hp).2, show fi σ σ.1 p = pF σ p from rfl, show la σ σ.1 p = pL σ p from rfl, m_driftOf (by omega) (fun k hk => hT1.2.1 _ k hLn hk)] at e
  simp only [bd_s, cond_true] at e
  rw [pk_sub hFL] at e
  obtain ⟨g', r1, r2⟩ := m_shares21 (sc := sc) hM hW hp (pL σ p - pF σ p) 0 g (by omega) hT1 hT2 hf .null .null
  rw [Nat.add_zero, st_first hp] at r1
  exact ⟨g', e.trans r1, r2⟩
def UA (g : mm_H) (σ : Sg) : Prop := U1 g σ σ.1 ∧ U2 g σ σ.1
theorem m_laysAll (hM : Mr (h.1 50) σ) (hW : WF σ) : ∃ g, mm_cal sc i_Mo_laysAll [.ref 49] h = some ((0, 0, 0), g) ∧ UA g σ ∧ frL h g := by
  have hn := hW.1
  have hnp := np_le σ σ.1
  have e := e_Mo_laysAll sc h
  obtain ⟨g1, e1, p1, p2⟩ := fldS (fun x (s : mm_H) => mm_ev sc i_Mo_laysAll 5 [.ref 49, .int (nI x)] [] s) (fun x s => U1 s σ x ∧ frL h s) σ.1 (fun x s hx hs => by
    obtain ⟨q1, q2⟩ := hs
    obtain ⟨g', r1, r2, r3⟩ := m_laysRoot (sc := sc) (Mr_frL hM q2) hW hx q1
    have e := l_Mo_laysAll_5 sc (nI x) s
    rw [cl0, (Mr_frL hM q2).1, nI_le_d (by omega) (by omega), decide_eq_false (show ¬ σ.1 ≤ x by omega), r1, nI_1 x] at e
    exact ⟨g', e, r2, q2.tr r3⟩) (mm_si h 49 13 0) ⟨⟨by simp [si1, upd1]; rfl, fun x k hx => absurd hx (by omega), fun x hx => absurd hx (by omega), fun p hp => absurd hp (by show ¬ p < 0; omega)⟩, fun a a1 a2 => by simp only [si1, a1, if_false], fun j hj => by simp only [si1, upd1, if_true, hj, if_false], rfl⟩
  have e2 := l_Mo_laysAll_5 sc (nI σ.1) g1
  rw [cl0, (Mr_frL hM p2).1, nI_le_d (by omega) (by omega), decide_eq_true (show σ.1 ≤ σ.1 by omega), cond_true] at e2
  obtain ⟨g2, e3, p3, p4, p5⟩ := fldS (fun x (s : mm_H) => mm_ev sc i_Mo_laysAll 18 [.ref 49, .int (nI x)] [] s) (fun x s => U1 s σ σ.1 ∧ U2 s σ (bnd σ x) ∧ frL h s) (np σ σ.1) (fun x s hx hs => by
    obtain ⟨q1, q2, q3⟩ := hs
    have hb : bnd σ x = pF σ x := by
      unfold bnd
      rw [if_pos hx]
    rw [hb] at q2
    obtain ⟨g', r1, r2, r3, r4⟩ := m_laysShares (sc := sc) hM hW hx q1 q2 q3
    rw [← bnd_s hx] at r3
    have e := l_Mo_laysAll_18 sc (nI x) s
    rw [q1.1, nI_le_d (by omega) (by omega), decide_eq_false (show ¬ np σ σ.1 ≤ x by omega), r1, nI_1 x] at e
    exact ⟨g', e, r2, r3, r4⟩) g1 ⟨p1, ⟨fun c hc => absurd hc (by rw [bnd_0]; omega), fun c hc => absurd hc (by rw [bnd_0]; omega)⟩, p2⟩
  have e4 := l_Mo_laysAll_18 sc (nI (np σ σ.1)) g2
  rw [p3.1, nI_le_d (by omega) (by omega), decide_eq_true (show np σ σ.1 ≤ np σ σ.1 by omega), cond_true] at e4
  have hb : bnd σ (np σ σ.1) = σ.1 := by
    unfold bnd
    rw [if_neg (by omega)]
  rw [hb] at p4
  exact ⟨g2, e.trans (e1.trans (e2.trans (e3.trans e4))), ⟨p3, p4⟩, p5⟩
end LAY2
