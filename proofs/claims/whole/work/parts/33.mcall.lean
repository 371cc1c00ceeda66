/-! the model's calls that only answer -/
section MCALL
variable {sc : Nat × (Nat → Int32)} {h : mm_H} {γ : Gs}
theorem a_bad (hI : IM h γ) {s : Ra} {r : Option mm_R} {e : Int32} (hs : s = .inl e) (he : e = -100000002 ∨ e = -100000003 ∨ e = -100000004) {g : mm_H} (hr : r = mm_bd (mm_cal sc i_Mo_counts [.ref 49, .int e] g) (fun r1 => some ((r1.1.1, 0, 0), r1.2))) (hf : frL h g) : ∃ g, r = some ((aG s, 0, 0), g) ∧ IM g (nG γ s) ∧ frM h g := by
  subst hs
  rw [m_counts he] at hr
  exact ⟨_, hr, (IM_rf (IM_frL hI hf) e).1, hf.m.tr (IM_rf (IM_frL hI hf) e).2⟩
theorem a_good (hI : IM h γ) {s : Ra} {r : Option mm_R} {v : Int32} (hs : s = .inr v) {g : mm_H} (hr : r = some ((v, 0, 0), g)) (hf : frL h g) : ∃ g, r = some ((aG s, 0, 0), g) ∧ IM g (nG γ s) ∧ frM h g := by
  subst hs
  exact ⟨g, hr, IM_frL hI hf, hf.m⟩
theorem a_of (hI : IM h γ) (c t w : Int32) : ∃ g, mm_cal sc i_Mo_of [.ref 49, .int c, .int t, .int w] h = some ((aG (sOf γ.1 c t w), 0, 0), g) ∧ IM g (nG γ (sOf γ.1 c t w)) ∧ frM h g := by
  obtain ⟨hM, hW, hH, hN⟩ := id hI
  have hn := hW.1
  have e := e_Mo_of sc c t w h
  rw [m_isTone hM hW] at e
  simp only [bd_s, b2i_0] at e
  rw [m_inL (K := 4) (by decide +kernel)] at e
  simp only [bd_s, b2i_0] at e
  cases h1 : isTn γ.1 c t with
  | false =>
    rw [h1] at e
    exact a_bad (sc := sc) hI (e := -100000002) (if_neg (by simp [h1])) (Or.inl rfl) e frL.rf
  | true =>
    rw [h1] at e
    cases h2 : mm_inb w 5 with
    | false =>
      rw [h2] at e
      exact a_bad (sc := sc) hI (e := -100000002) (if_neg (by simp [h2])) (Or.inl rfl) e frL.rf
    | true =>
      rw [h2] at e
      obtain ⟨c, u, hc, hu, hc12, hu5, rfl, rfl⟩ := isTn_ex hW h1
      obtain ⟨k, hk, hk2, rfl⟩ := inb_ex h2
      rw [m_ratioSize hM hc12 hu5, m_place] at e
      simp only [bd_s, Bool.not_true, cond_false] at e
      rw [ltt4, nI_eq_d (by omega) (by omega), nI_add, inb_t (show 14 + (c * 5 + u) * 4 + k < 266 by omega) (by omega), i_cl (show 14 + (c * 5 + u) * 4 + k < 2147483648 by omega), cond_true] at e
      refine a_good hI (v := if k < 4 then γ.1.2.2.2.1 ((c * 5 + u) * 4 + k) else szc γ.1 c u) ?_ (g := h) ?_ frL.rf
      · unfold sOf
        rw [if_pos ⟨h1, h2⟩, i_cl (show c < 2147483648 by omega), i_cl (show u < 2147483648 by omega), i_cl hk2]
      · rw [e]
        by_cases q : k < 4
        · rw [if_pos q, decide_eq_false (show ¬ k = 4 by omega), Nat.add_assoc 14, hM.2.2.2.1 _ (by omega)]
          rfl
        · rw [if_neg q, decide_eq_true (show k = 4 by omega)]
          rfl
theorem a_root (hI : IM h γ) (c w : Int32) : ∃ g, mm_cal sc i_Mo_root [.ref 49, .int c, .int w] h = some ((aG (sRoot γ.1 c w), 0, 0), g) ∧ IM g (nG γ (sRoot γ.1 c w)) ∧ frM h g := by
  obtain ⟨hM, hW, hH, hN⟩ := id hI
  have hn := hW.1
  have e := e_Mo_root sc c w h
  rw [m_isChord hM hW] at e
  simp only [bd_s, b2i_0] at e
  rw [m_inL (K := 6) (by decide +kernel)] at e
  simp only [bd_s, b2i_0] at e
  cases h1 : mm_inb c γ.1.1 with
  | false =>
    rw [h1] at e
    exact a_bad (sc := sc) hI (e := -100000002) (if_neg (by simp [h1])) (Or.inl rfl) e frL.rf
  | true =>
    rw [h1] at e
    cases h2 : mm_inb w 7 with
    | false =>
      rw [h2] at e
      exact a_bad (sc := sc) hI (e := -100000002) (if_neg (by simp [h2])) (Or.inl rfl) e frL.rf
    | true =>
      rw [h2] at e
      obtain ⟨c, hc, hc2, rfl⟩ := inb_ex h1
      obtain ⟨k, hk, hk2, rfl⟩ := inb_ex h2
      obtain ⟨g, l1, l2, l3⟩ := m_laysAll (sc := sc) hM hW
      rw [l1] at e
      simp only [bd_s, Bool.not_true, cond_false] at e
      rw [m_rootIs l2 hW hc hk] at e
      refine a_good hI (v := vRoot γ.1 c k) ?_ (g := g) e l3
      unfold sRoot
      rw [if_pos ⟨h1, h2⟩, i_cl hc2, i_cl hk2]
theorem a_pitch (hI : IM h γ) (c t w : Int32) : ∃ g, mm_cal sc i_Mo_pitch [.ref 49, .int c, .int t, .int w] h = some ((aG (sPitch γ.1 c t w), 0, 0), g) ∧ IM g (nG γ (sPitch γ.1 c t w)) ∧ frM h g := by
  obtain ⟨hM, hW, hH, hN⟩ := id hI
  have hn := hW.1
  have e := e_Mo_pitch sc c t w h
  rw [m_isTone hM hW] at e
  simp only [bd_s, b2i_0] at e
  rw [m_inL (K := 5) (by decide +kernel)] at e
  simp only [bd_s, b2i_0] at e
  cases h1 : isTn γ.1 c t with
  | false =>
    rw [h1] at e
    exact a_bad (sc := sc) hI (e := -100000002) (if_neg (by simp [h1])) (Or.inl rfl) e frL.rf
  | true =>
    rw [h1] at e
    cases h2 : mm_inb w 6 with
    | false =>
      rw [h2] at e
      exact a_bad (sc := sc) hI (e := -100000002) (if_neg (by simp [h2])) (Or.inl rfl) e frL.rf
    | true =>
      rw [h2] at e
      obtain ⟨c, u, hc, hu, hc12, hu5, rfl, rfl⟩ := isTn_ex hW h1
      obtain ⟨k, hk, hk2, rfl⟩ := inb_ex h2
      obtain ⟨g, l1, l2, l3⟩ := m_laysAll (sc := sc) hM hW
      rw [l1] at e
      simp only [bd_s, Bool.not_true, cond_false] at e
      rw [m_pitchIs (Mr_frL hM l3) l2 hW hc hu5 hk] at e
      refine a_good hI (v := vPitch γ.1 c u k) ?_ (g := g) e l3
      unfold sPitch
      rw [if_pos ⟨h1, h2⟩, i_cl (show c < 2147483648 by omega), i_cl (show u < 2147483648 by omega), i_cl hk2]
theorem a_tie (hI : IM h γ) (c w : Int32) : ∃ g, mm_cal sc i_Mo_tie [.ref 49, .int c, .int w] h = some ((aG (sTieq γ.1 c w), 0, 0), g) ∧ IM g (nG γ (sTieq γ.1 c w)) ∧ frM h g := by
  obtain ⟨hM, hW, hH, hN⟩ := id hI
  have hn := hW.1
  have e := e_Mo_tie sc c w h
  rw [m_isChord hM hW] at e
  simp only [bd_s, b2i_0] at e
  rw [m_inL (K := 1) (by decide +kernel)] at e
  simp only [bd_s, b2i_0] at e
  cases h1 : mm_inb c γ.1.1 with
  | false =>
    rw [h1] at e
    exact a_bad (sc := sc) hI (e := -100000002) (if_neg (by simp [h1])) (Or.inl rfl) e frL.rf
  | true =>
    rw [h1] at e
    cases h2 : mm_inb w 2 with
    | false =>
      rw [h2] at e
      exact a_bad (sc := sc) hI (e := -100000002) (if_neg (by simp [h2])) (Or.inl rfl) e frL.rf
    | true =>
      rw [h2] at e
      obtain ⟨c, hc, hc2, rfl⟩ := inb_ex h1
      obtain ⟨k, hk, hk2, rfl⟩ := inb_ex h2
      obtain ⟨m, hm⟩ : ∃ m, γ.1.1 = m + 1 := ⟨γ.1.1 - 1, by omega⟩
      rw [cl0, hM.1, hm, nI_sub1, nI_eq_d (by omega) (by omega)] at e
      by_cases q : c < m
      · rw [decide_eq_false (show ¬ c = m by omega), m_tieIs hM hW hc hk] at e
        refine a_good hI (v := vTie γ.1 c k) ?_ (g := h) e frL.rf
        unfold sTieq
        rw [if_pos ⟨h1, h2⟩, inb_t (show c < γ.1.1 - 1 by omega) (by omega), if_pos rfl, i_cl hc2, i_cl hk2]
      · rw [decide_eq_true (show c = m by omega)] at e
        refine a_bad (sc := sc) hI (e := -100000003) ?_ (Or.inr (Or.inl rfl)) e frL.rf
        unfold sTieq
        rw [if_pos ⟨h1, h2⟩, inb_nI hc2, decide_eq_false (show ¬ c < γ.1.1 - 1 by omega), if_neg (by simp)]
theorem a_loop (hI : IM h γ) (a b w : Int32) : ∃ g, mm_cal sc i_Mo_loop [.ref 49, .int a, .int b, .int w] h = some ((aG (sLoop γ.1 a b w), 0, 0), g) ∧ IM g (nG γ (sLoop γ.1 a b w)) ∧ frM h g := by
  obtain ⟨hM, hW, hH, hN⟩ := id hI
  have hn := hW.1
  have e := e_Mo_loop sc a b w h
  rw [m_isChord hM hW] at e
  simp only [bd_s, b2i_0] at e
  rw [m_isChord hM hW] at e
  simp only [bd_s, b2i_0] at e
  rw [m_inL (K := 4) (by decide +kernel)] at e
  simp only [bd_s, b2i_0] at e
  cases h1 : mm_inb a γ.1.1 with
  | false =>
    rw [h1] at e
    exact a_bad (sc := sc) hI (e := -100000002) (if_neg (by simp [h1])) (Or.inl rfl) e frL.rf
  | true =>
    rw [h1] at e
    cases h2 : mm_inb b γ.1.1 with
    | false =>
      rw [h2] at e
      exact a_bad (sc := sc) hI (e := -100000002) (if_neg (by simp [h2])) (Or.inl rfl) e frL.rf
    | true =>
      rw [h2] at e
      cases h3 : mm_inb w 5 with
      | false =>
        rw [h3] at e
        exact a_bad (sc := sc) hI (e := -100000002) (if_neg (by simp [h3])) (Or.inl rfl) e frL.rf
      | true =>
        rw [h3] at e
        obtain ⟨a, ha, ha2, rfl⟩ := inb_ex h1
        obtain ⟨b, hb, hb2, rfl⟩ := inb_ex h2
        obtain ⟨k, hk, hk2, rfl⟩ := inb_ex h3
        obtain ⟨g, l1, l2, l3⟩ := m_laysAll (sc := sc) hM hW
        have na := np_le γ.1 (a + 1)
        have nb := np_le γ.1 (b + 1)
        have pa := np_pos γ.1 a
        have pb := np_pos γ.1 b
        rw [l1] at e
        simp only [bd_s, Bool.not_true, cond_false] at e
        rw [inb_t (show a < 12 by omega) (by omega), inb_t (show b < 12 by omega) (by omega), i_cl ha2, i_cl hb2, l2.1.2.2.1 a ha, l2.1.2.2.1 b hb, nI_eq_d (by omega) (by omega), ltt4, nI_le_d (by omega) (by omega), m_rootSize (by omega) (fun k hk => l2.1.2.1 b k hb hk)] at e
        simp only [bd_s, cond_true] at e
        rw [m_rootSize (by omega) (fun k hk => l2.1.2.1 a k ha hk)] at e
        simp only [bd_s] at e
        rw [show (120000 : Int32) = nI 120000 from rfl, m_apart (by omega) (by omega), pk_mul, pk_mul, nI_add, nI_add] at e
        simp only [bd_s] at e
        by_cases q : np γ.1 (a + 1) = np γ.1 (b + 1)
        · rw [decide_eq_true (show np γ.1 (a + 1) - 1 = np γ.1 (b + 1) - 1 by omega), cond_true] at e
          refine a_good hI (v := vLoop γ.1 a b k) ?_ (g := g) ?_ l3
          · unfold sLoop
            rw [if_pos ⟨h1, h2, h3⟩, i_cl ha2, i_cl hb2, i_cl hk2, if_pos q]
          · rw [e]
            unfold vLoop
            by_cases q2 : k < 4
            · rw [if_pos q2, decide_eq_false (show ¬ 4 ≤ k by omega), inb_t (show 4 * b + k < 48 by omega) (by omega), inb_t (show 4 * a + k < 48 by omega) (by omega), i_cl (show 4 * b + k < 2147483648 by omega), i_cl (show 4 * a + k < 2147483648 by omega), l2.1.2.1 a k ha q2, l2.1.2.1 b k hb q2]
              rfl
            · rw [if_neg q2, decide_eq_true (show 4 ≤ k by omega)]
              rfl
        · rw [decide_eq_false (show ¬ np γ.1 (a + 1) - 1 = np γ.1 (b + 1) - 1 by omega), cond_false] at e
          refine a_bad (sc := sc) hI (e := -100000003) ?_ (Or.inr (Or.inl rfl)) e l3
          unfold sLoop
          rw [if_pos ⟨h1, h2, h3⟩, i_cl ha2, i_cl hb2, if_neg q]
theorem a_part (hI : IM h γ) (p w : Int32) : ∃ g, mm_cal sc i_Mo_part [.ref 49, .int p, .int w] h = some ((aG (sPart γ.1 p w), 0, 0), g) ∧ IM g (nG γ (sPart γ.1 p w)) ∧ frM h g := by
  obtain ⟨hM, hW, hH, hN⟩ := id hI
  have hn := hW.1
  have hnp := np_le γ.1 γ.1.1
  obtain ⟨g, l1, l2, l3⟩ := m_laysAll (sc := sc) hM hW
  have e := e_Mo_part sc p w h
  rw [l1] at e
  simp only [bd_s] at e
  rw [l2.1.1, m_inN (by omega)] at e
  simp only [bd_s, b2i_0] at e
  rw [m_inL (K := 3) (by decide +kernel)] at e
  simp only [bd_s, b2i_0] at e
  cases h1 : mm_inb p (np γ.1 γ.1.1) with
  | false =>
    rw [h1] at e
    exact a_bad (sc := sc) hI (e := -100000002) (if_neg (by simp [h1])) (Or.inl rfl) e l3
  | true =>
    rw [h1] at e
    cases h2 : mm_inb w 4 with
    | false =>
      rw [h2] at e
      exact a_bad (sc := sc) hI (e := -100000002) (if_neg (by simp [h2])) (Or.inl rfl) e l3
    | true =>
      rw [h2] at e
      obtain ⟨c, hc, hc2, rfl⟩ := inb_ex h1
      obtain ⟨k, hk, hk2, rfl⟩ := inb_ex h2
      rw [m_partIs l2 hW hc hk] at e
      refine a_good hI (v := vPart γ.1 c k) ?_ (g := g) e l3
      unfold sPart
      rw [if_pos ⟨h1, h2⟩, i_cl hc2, i_cl hk2]
theorem a_share (hI : IM h γ) (c : Int32) : ∃ g, mm_cal sc i_Mo_share [.ref 49, .int c] h = some ((aG (sShare γ.1 c), 0, 0), g) ∧ IM g (nG γ (sShare γ.1 c)) ∧ frM h g := by
  obtain ⟨hM, hW, hH, hN⟩ := id hI
  have hn := hW.1
  have e := e_Mo_share sc c h
  rw [m_isChord hM hW] at e
  simp only [bd_s, b2i_0] at e
  rw [m_isTied hM hW] at e
  simp only [bd_s, b2i_0] at e
  cases h1 : mm_inb c γ.1.1 with
  | false =>
    rw [h1] at e
    exact a_bad (sc := sc) hI (e := -100000002) (if_neg (by simp [h1])) (Or.inl rfl) e frL.rf
  | true =>
    rw [h1] at e
    cases h2 : tdI γ.1 c with
    | false =>
      rw [h2] at e
      refine a_bad (sc := sc) hI (e := -100000003) ?_ (Or.inr (Or.inl rfl)) e frL.rf
      unfold sShare
      rw [if_pos h1, if_neg (by simp [h2])]
    | true =>
      rw [h2] at e
      obtain ⟨c, hc, hc2, rfl⟩ := inb_ex h1
      obtain ⟨g, l1, l2, l3⟩ := m_laysAll (sc := sc) hM hW
      have htd : td γ.1 c = true := by
        have h2' := h2
        unfold tdI at h2'
        rw [Bool.and_eq_true, i_cl hc2] at h2'
        exact h2'.2
      rw [l1] at e
      simp only [bd_s, Bool.not_true, cond_false] at e
      rw [inb_t (show c < 12 by omega) (by omega), i_cl hc2, l2.2.2 c hc, if_pos htd] at e
      refine a_good hI (v := sh γ.1 c) ?_ (g := g) e l3
      unfold sShare
      rw [if_pos h1, if_pos h2, i_cl hc2]
theorem a_set (hI : IM h γ) (c : Int32) : ∃ g, mm_cal sc i_Mo_set [.ref 49, .int c] h = some ((aG (sSet γ.1 c), 0, 0), g) ∧ IM g (nG γ (sSet γ.1 c)) ∧ frM h g := by
  obtain ⟨hM, hW, hH, hN⟩ := id hI
  have hn := hW.1
  have e := e_Mo_set sc c h
  rw [m_isChord hM hW] at e
  simp only [bd_s, b2i_0] at e
  cases h1 : mm_inb c γ.1.1 with
  | false =>
    rw [h1] at e
    exact a_bad (sc := sc) hI (e := -100000002) (if_neg (by simp [h1])) (Or.inl rfl) e frL.rf
  | true =>
    rw [h1] at e
    obtain ⟨c, hc, hc2, rfl⟩ := inb_ex h1
    obtain ⟨g, l1, l2, l3⟩ := m_laysAll (sc := sc) hM hW
    rw [l1] at e
    simp only [bd_s, Bool.not_true, cond_false] at e
    rw [inb_t (show c < 12 by omega) (by omega), i_cl hc2, l2.2.1 c hc] at e
    refine a_good hI (v := st γ.1 c) ?_ (g := g) e l3
    unfold sSet
    rw [if_pos h1, i_cl hc2]
theorem a_count (hI : IM h γ) (w : Int32) : ∃ g, mm_cal sc i_Mo_count [.ref 49, .int w] h = some ((aG (sCount γ.1 w), 0, 0), g) ∧ IM g (nG γ (sCount γ.1 w)) ∧ frM h g := by
  obtain ⟨hM, hW, hH, hN⟩ := id hI
  have e := e_Mo_count sc w h
  rw [m_inL (K := 5) (by decide +kernel)] at e
  simp only [bd_s, b2i_0] at e
  cases h1 : mm_inb w 6 with
  | false =>
    rw [h1] at e
    exact a_bad (sc := sc) hI (e := -100000002) (if_neg (by simp [h1])) (Or.inl rfl) e frL.rf
  | true =>
    rw [h1] at e
    obtain ⟨k, hk, hk2, rfl⟩ := inb_ex h1
    obtain ⟨g, l1, l2, l3⟩ := m_countIs (sc := sc) hM hW hk
    rw [l1] at e
    refine a_good hI (v := vCount γ.1 k) ?_ (g := g) e l3
    unfold sCount
    rw [if_pos h1, i_cl hk2]
theorem a_interval (hI : IM h γ) (c i j w : Int32) : ∃ g, mm_cal sc i_Mo_interval [.ref 49, .int c, .int i, .int j, .int w] h = some ((aG (sIval γ.1 c i j w), 0, 0), g) ∧ IM g (nG γ (sIval γ.1 c i j w)) ∧ frM h g := by
  obtain ⟨hM, hW, hH, hN⟩ := id hI
  have hn := hW.1
  have e := e_Mo_interval sc c i j w h
  rw [m_isTone hM hW] at e
  simp only [bd_s, b2i_0] at e
  rw [m_isTone hM hW] at e
  simp only [bd_s, b2i_0] at e
  rw [m_inL (K := 4) (by decide +kernel)] at e
  simp only [bd_s, b2i_0] at e
  cases h1 : isTn γ.1 c i with
  | false =>
    rw [h1] at e
    exact a_bad (sc := sc) hI (e := -100000002) (if_neg (by simp [h1])) (Or.inl rfl) e frL.rf
  | true =>
    rw [h1] at e
    cases h2 : isTn γ.1 c j with
    | false =>
      rw [h2] at e
      exact a_bad (sc := sc) hI (e := -100000002) (if_neg (by simp [h2])) (Or.inl rfl) e frL.rf
    | true =>
      rw [h2] at e
      by_cases hij : i = j
      · rw [decide_eq_true hij] at e
        exact a_bad (sc := sc) hI (e := -100000002) (if_neg (fun q => q.2.2.1 hij)) (Or.inl rfl) e frL.rf
      · rw [decide_eq_false hij] at e
        cases h3 : mm_inb w 5 with
        | false =>
          rw [h3] at e
          exact a_bad (sc := sc) hI (e := -100000002) (if_neg (by simp [h3])) (Or.inl rfl) e frL.rf
        | true =>
          rw [h3] at e
          obtain ⟨c, u, hc, hu, hc12, hu5, rfl, rfl⟩ := isTn_ex hW h1
          obtain ⟨c2, v, hc', hv, hc12', hv5, e1, rfl⟩ := isTn_ex hW h2
          obtain ⟨k, hk, hk2, rfl⟩ := inb_ex h3
          rw [m_intervalIs hM hc12 hu5 hv5 hk] at e
          refine a_good hI (v := vIval γ.1 c u v k) ?_ (g := h) e frL.rf
          unfold sIval
          rw [if_pos ⟨h1, h2, hij, h3⟩, i_cl (show c < 2147483648 by omega), i_cl (show u < 2147483648 by omega), i_cl (show v < 2147483648 by omega), i_cl hk2]
theorem a_order (hI : IM h γ) (c k : Int32) : ∃ g, mm_cal sc i_Mo_order [.ref 49, .int c, .int k] h = some ((aG (sOrder γ.1 c k), 0, 0), g) ∧ IM g (nG γ (sOrder γ.1 c k)) ∧ frM h g := by
  obtain ⟨hM, hW, hH, hN⟩ := id hI
  have hn := hW.1
  have e := e_Mo_order sc c k h
  rw [m_isTone hM hW] at e
  simp only [bd_s, b2i_0] at e
  cases h1 : isTn γ.1 c k with
  | false =>
    rw [h1] at e
    exact a_bad (sc := sc) hI (e := -100000002) (if_neg (by simp [h1])) (Or.inl rfl) e frL.rf
  | true =>
    rw [h1] at e
    obtain ⟨c, u, hc, hu, hc12, hu5, rfl, rfl⟩ := isTn_ex hW h1
    rw [m_orderIs hM hW hc12] at e
    refine a_good hI (v := vOrder γ.1 c (nI u)) ?_ (g := h) e frL.rf
    unfold sOrder
    rw [if_pos h1, i_cl (show c < 2147483648 by omega)]
theorem a_voice (hI : IM h γ) (v c : Int32) : ∃ g, mm_cal sc i_Mo_voice [.ref 49, .int v, .int c] h = some ((aG (sVoice γ.1 v c), 0, 0), g) ∧ IM g (nG γ (sVoice γ.1 v c)) ∧ frM h g := by
  obtain ⟨hM, hW, hH, hN⟩ := id hI
  have hn := hW.1
  have e := e_Mo_voice sc v c h
  rw [m_inL (K := 4) (by decide +kernel)] at e
  simp only [bd_s, b2i_0] at e
  rw [m_isChord hM hW] at e
  simp only [bd_s, b2i_0] at e
  cases h1 : mm_inb v 5 with
  | false =>
    rw [h1] at e
    exact a_bad (sc := sc) hI (e := -100000002) (if_neg (by simp [h1])) (Or.inl rfl) e frL.rf
  | true =>
    rw [h1] at e
    cases h2 : mm_inb c γ.1.1 with
    | false =>
      rw [h2] at e
      exact a_bad (sc := sc) hI (e := -100000002) (if_neg (by simp [h2])) (Or.inl rfl) e frL.rf
    | true =>
      rw [h2] at e
      obtain ⟨v, hv, hv2, rfl⟩ := inb_ex h1
      obtain ⟨c, hc, hc2, rfl⟩ := inb_ex h2
      rw [m_voiceIs hM hW (by omega) hv] at e
      refine a_good hI (v := voi γ.1 v c) ?_ (g := h) e frL.rf
      unfold sVoice
      rw [if_pos ⟨h1, h2⟩, i_cl hc2, i_cl hv2]
theorem a_leap (hI : IM h γ) (v c : Int32) : ∃ g, mm_cal sc i_Mo_leap [.ref 49, .int v, .int c] h = some ((aG (sLeap γ.1 v c), 0, 0), g) ∧ IM g (nG γ (sLeap γ.1 v c)) ∧ frM h g := by
  obtain ⟨hM, hW, hH, hN⟩ := id hI
  have hn := hW.1
  have e := e_Mo_leap sc v c h
  rw [m_inL (K := 4) (by decide +kernel)] at e
  simp only [bd_s, b2i_0] at e
  rw [m_isChord hM hW] at e
  simp only [bd_s, b2i_0] at e
  cases h1 : mm_inb v 5 with
  | false =>
    rw [h1] at e
    exact a_bad (sc := sc) hI (e := -100000002) (if_neg (by simp [h1])) (Or.inl rfl) e frL.rf
  | true =>
    rw [h1] at e
    cases h2 : mm_inb c γ.1.1 with
    | false =>
      rw [h2] at e
      exact a_bad (sc := sc) hI (e := -100000002) (if_neg (by simp [h2])) (Or.inl rfl) e frL.rf
    | true =>
      rw [h2] at e
      by_cases h3 : c = 0
      · rw [decide_eq_true h3] at e
        exact a_bad (sc := sc) hI (e := -100000002) (if_neg (fun q => q.2.2 h3)) (Or.inl rfl) e frL.rf
      · rw [decide_eq_false h3] at e
        obtain ⟨v, hv, hv2, rfl⟩ := inb_ex h1
        obtain ⟨c, hc, hc2, rfl⟩ := inb_ex h2
        obtain ⟨m, rfl⟩ : ∃ m, c = m + 1 := by
          cases c with
          | zero => exact absurd rfl h3
          | succ m => exact ⟨m, rfl⟩
        obtain ⟨g, l1, l2, l3⟩ := m_laysAll (sc := sc) hM hW
        have hMg := Mr_frL hM l3
        rw [nI_sub1, m_voiceIs hM hW (by omega) hv] at e
        simp only [bd_s, Bool.not_true, cond_false] at e
        rw [m_voiceIs hM hW (by omega) hv] at e
        simp only [bd_s] at e
        rw [l1] at e
        simp only [bd_s] at e
        rw [m_isTied hMg hW] at e
        simp only [bd_s, b2i_0] at e
        rw [tdI_at hn (by omega)] at e
        refine a_good hI (v := vLeap γ.1 v (m + 1)) ?_ (g := g) ?_ l3
        · unfold sLeap
          rw [if_pos ⟨h1, h2, h3⟩, i_cl hc2, i_cl hv2]
        · rw [e]
          unfold vLeap
          rw [Nat.add_sub_cancel]
          by_cases q1 : voi γ.1 v (m + 1) = -100000001
          · rw [decide_eq_true q1, if_neg (fun q => q.2.2 q1)]
            rfl
          · rw [decide_eq_false q1]
            by_cases q2 : voi γ.1 v m = -100000001
            · rw [decide_eq_true q2, if_neg (fun q => q.2.1 q2)]
              rfl
            · rw [decide_eq_false q2]
              cases q3 : td γ.1 m with
              | false =>
                rw [show (γ.1.2.2.2.2 m).isSome = false from q3, if_neg (by simp)]
                rfl
              | true =>
                rw [show (γ.1.2.2.2.2 m).isSome = true from q3, if_pos ⟨rfl, q2, q1⟩]
                obtain ⟨u, hu, eu⟩ := (voi_in hW (show m + 1 < 12 by omega)).resolve_left q1
                obtain ⟨t, ht, et⟩ := (voi_in hW (show m < 12 by omega)).resolve_left q2
                rw [eu, et, ltt5, m_pitchIs hMg l2 hW hc hu (by omega)]
                simp only [bd_s, Bool.not_true, cond_false]
                rw [m_pitchIs hMg l2 hW (by omega) ht (by omega), i_cl (show u < 2147483648 by omega), i_cl (show t < 2147483648 by omega)]
                rfl
/-! the digest -/
theorem m_mix (g : mm_H) (x : Int32) : mm_cal sc i_Mo_mix [.ref 49, .int x] g = some ((0, 0, 0), mm_sl g (mx g.2.2 x)) := e_Mo_mix sc x g
end MCALL
