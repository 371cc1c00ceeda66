/-! the model's answers -/
section MGET
variable {sc : Nat × (Nat → Int32)} {h : mm_H} {σ : Sg}
theorem m_rootIs {c k : Nat} (hT : UA h σ) (hW : WF σ) (hc : c < σ.1) (hk : k < 7) : mm_cal sc i_Mo_rootIs [.ref 49, .int (nI c), .int (nI k)] h = some ((vRoot σ c k, 0, 0), h) := by
  have hn := hW.1
  have hr := fun k hk => hT.1.2.1 c k hc hk
  rw [e_Mo_rootIs, m_rootSize (by omega) hr, m_driftOf (by omega) hr]
  simp only [bd_s]
  rw [inb_t (show c < 12 by omega) (by omega), i_cl (show c < 2147483648 by omega), hT.1.2.2.1 c hc, ltt4, ltt5, nI_le_d (by omega) (by omega), nI_eq_d (by omega) (by omega), nI_eq_d (by omega) (by omega), pk_mul, nI_add]
  unfold vRoot
  by_cases q : k < 4
  · rw [decide_eq_false (show ¬ 4 ≤ k by omega), cond_false, inb_t (show 4 * c + k < 48 by omega) (by omega), i_cl (by omega), hr k q, if_neg (by omega), if_neg (by omega), if_neg (by omega)]
    rfl
  · rcases (show k = 4 ∨ k = 5 ∨ k = 6 by omega) with rfl | rfl | rfl <;> rfl
theorem m_pitchIs {c t k : Nat} (hM : Mr (h.1 50) σ) (hT : UA h σ) (hW : WF σ) (hc : c < σ.1) (ht : t < 5) (hk : k < 6) : mm_cal sc i_Mo_pitchIs [.ref 49, .int (nI c), .int (nI t), .int (nI k)] h = some ((vPitch σ c t k, 0, 0), h) := by
  have hn := hW.1
  have hr := fun k hk => hT.1.2.1 c k hc hk
  rw [e_Mo_pitchIs, m_rootSize (by omega) hr]
  simp only [bd_s]
  rw [m_ratioSize hM (by omega) ht, m_place]
  simp only [bd_s]
  rw [inb_t (show c < 12 by omega) (by omega), i_cl (show c < 2147483648 by omega), hT.2.1 c hc, ltt4, ltt5, nI_le_d (by omega) (by omega), nI_eq_d (by omega) (by omega), pk_mul, nI_add, nI_add]
  unfold vPitch
  by_cases q : k < 4
  · rw [decide_eq_false (show ¬ 4 ≤ k by omega), cond_false, inb_t (show 4 * c + k < 48 by omega) (by omega), i_cl (show 4 * c + k < 2147483648 by omega), hr k q, inb_t (show 14 + (c * 5 + t) * 4 + k < 266 by omega) (by omega), i_cl (show 14 + (c * 5 + t) * 4 + k < 2147483648 by omega), Nat.add_assoc 14, hM.2.2.2.1 _ (by omega), if_neg (by omega), if_neg (by omega)]
    rfl
  · rcases (show k = 4 ∨ k = 5 by omega) with rfl | rfl
    · rw [Int32.add_zero]
      rfl
    · rfl
theorem m_tieIs {c k : Nat} (hM : Mr (h.1 50) σ) (hW : WF σ) (hc : c < σ.1) (hk : k < 2) : mm_cal sc i_Mo_tieIs [.ref 49, .int (nI c), .int (nI k)] h = some ((vTie σ c k, 0, 0), h) := by
  have hn := hW.1
  rw [e_Mo_tieIs, show (254 : Int32) = nI 254 from rfl, nI_add, inb_t (show 254 + c < 266 by omega) (by omega), i_cl (show 254 + c < 2147483648 by omega), (m_tied hM hW hc).1, nI_ne_0 (by omega)]
  unfold vTie
  cases ht : σ.2.2.2.2 c with
  | none => rfl
  | some q =>
    obtain ⟨i, j⟩ := q
    obtain ⟨k1, k2, k3⟩ := hW.2.2.2.2 c i j ht
    rw [(hM.2.2.2.2 c hc).2 i j ht, ltt5, pk_rem (by omega) (by omega) (by omega), pk_div (by omega) (by omega) (by omega), show (5 * i + j) / 5 = i by omega, show (5 * i + j) % 5 = j by omega]
    rcases (show k = 0 ∨ k = 1 by omega) with rfl | rfl <;> rfl
theorem m_partIs {p k : Nat} (hT : UA h σ) (hW : WF σ) (hp : p < np σ σ.1) (hk : k < 4) : mm_cal sc i_Mo_partIs [.ref 49, .int (nI p), .int (nI k)] h = some ((vPart σ p k, 0, 0), h) := by
  have hn := hW.1
  have hnp := np_le σ σ.1
  obtain ⟨hFL, hLn⟩ := pF_le hp
  rw [e_Mo_partIs, inb_t (show p < 12 by omega) (by omega), i_cl (show p < 2147483648 by omega), (hT.1.2.2.2 p hp).1, (hT.1.2.2.2 p hp).2, show fi σ σ.1 p = pF σ p from rfl, show la σ σ.1 p = pL σ p from rfl, m_driftOf (by omega) (fun k hk => hT.1.2.1 _ k hLn hk)]
  simp only [bd_s]
  rw [inb_t (show pL σ p < 12 by omega) (by omega), i_cl (show pL σ p < 2147483648 by omega), hT.2.1 _ hLn, pk_sub hFL, nI_1]
  rcases (show k = 0 ∨ k = 1 ∨ k = 2 ∨ k = 3 by omega) with rfl | rfl | rfl | rfl <;> rfl
theorem m_tones4 (hM : Mr (h.1 50) σ) (hW : WF σ) : ∀ d c, c + d = σ.1 → mm_ev sc i_Mo_tonesOfAll 4 [.ref 49, .int (nI (smn σ.2.2.1 c)), .int (nI c)] [] h = some ((nI (smn σ.2.2.1 σ.1), 0, 0), h) := by
  have hn := hW.1
  intro d
  induction d with
  | zero =>
    intro c hc
    have : c = σ.1 := by omega
    subst this
    rw [l_Mo_tonesOfAll_4, cl0, hM.1, nI_le_d (by omega) (by omega)]
    simp only [Nat.le_refl, decide_true, cond_true]
  | succ d ih =>
    intro c hc
    rw [l_Mo_tonesOfAll_4, cl0, hM.1, nI_le_d (by omega) (by omega), ltt2, nI_add, inb_t (show 2 + c < 266 by omega) (by omega), i_cl (by omega), hM.2.2.1 c (by omega), nI_add, nI_1]
    simp only [show ¬ σ.1 ≤ c by omega, decide_false, cond_false, cond_true]
    exact ih (c + 1) (by omega)
theorem m_tonesOfAll (hM : Mr (h.1 50) σ) (hW : WF σ) : mm_cal sc i_Mo_tonesOfAll [.ref 49] h = some ((nI (smn σ.2.2.1 σ.1), 0, 0), h) := by
  rw [e_Mo_tonesOfAll]
  exact m_tones4 hM hW σ.1 0 (by omega)
theorem sh_abs (hW : WF σ) (c : Nat) : -9999 ≤ (sh σ c).toInt ∧ (sh σ c).toInt ≤ 9999 ∧ (sh σ c).toInt.natAbs = shz σ c := by
  have h1 := shz_le σ c
  have h2 := hW.2.1
  unfold sh
  split
  · rw [i_neg (by rw [i_nI (by omega)]; omega), i_nI (by omega)]
    omega
  · rw [i_nI (by omega)]
    omega
theorem m_greatest4 (hM : Mr (h.1 50) σ) (hT : UA h σ) (hW : WF σ) : ∀ d c, c + d = σ.1 → mm_ev sc i_Mo_greatestShare 4 [.ref 49, .int (nI (gsm σ c)), .int (nI c)] [] h = some ((nI (gsm σ σ.1), 0, 0), h) := by
  have hn := hW.1
  have hL := hW.2.1
  intro d
  induction d with
  | zero =>
    intro c hc
    have : c = σ.1 := by omega
    subst this
    rw [l_Mo_greatestShare_4, cl0, hM.1, nI_le_d (by omega) (by omega)]
    simp only [Nat.le_refl, decide_true, cond_true]
  | succ d ih =>
    intro c hc
    have hg := gsm_le σ c
    have hz := shz_le σ c
    have egs : gsm σ (c + 1) = if td σ c = true then max (gsm σ c) (shz σ c) else gsm σ c := rfl
    rw [l_Mo_greatestShare_4, cl0, hM.1, nI_le_d (by omega) (by omega), decide_eq_false (show ¬ σ.1 ≤ c by omega), inb_t (show c < 12 by omega) (by omega), i_cl (by omega), hT.2.2 c (by omega)]
    by_cases q : td σ c = true
    · obtain ⟨s1, s2, s3⟩ := sh_abs hW c
      rw [if_pos q] at egs
      rw [if_pos q, m_size (by omega) (by omega)]
      simp only [bd_s, cond_true, cond_false]
      rw [hT.2.2 c (by omega), if_pos q, m_size (by omega) (by omega)]
      simp only [bd_s]
      rw [s3, nI_le_d (by omega) (by omega), nI_1]
      by_cases q2 : shz σ c ≤ gsm σ c
      · rw [decide_eq_true q2, cond_true]
        rw [Nat.max_eq_left q2] at egs
        rw [← egs]
        exact ih (c + 1) (by omega)
      · rw [decide_eq_false q2, cond_false]
        rw [Nat.max_eq_right (by omega)] at egs
        rw [← egs]
        exact ih (c + 1) (by omega)
    · rw [if_neg q] at egs
      rw [if_neg q, m_size (by decide +kernel) (by decide +kernel)]
      simp only [bd_s, cond_true, cond_false]
      rw [show nI (0 : Int32).toInt.natAbs = nI 0 from rfl, nI_le_d (by omega) (by omega), decide_eq_true (show 0 ≤ gsm σ c by omega), cond_true, nI_1, ← egs]
      exact ih (c + 1) (by omega)
theorem m_greatest (hM : Mr (h.1 50) σ) (hT : UA h σ) (hW : WF σ) : mm_cal sc i_Mo_greatestShare [.ref 49] h = some ((nI (gsm σ σ.1), 0, 0), h) := by
  rw [e_Mo_greatestShare]
  exact m_greatest4 hM hT hW σ.1 0 (by omega)
theorem m_countIs {k : Nat} (hM : Mr (h.1 50) σ) (hW : WF σ) (hk : k < 6) : ∃ g, mm_cal sc i_Mo_countIs [.ref 49, .int (nI k)] h = some ((vCount σ k, 0, 0), g) ∧ UA g σ ∧ frL h g := by
  have hn := hW.1
  have hnp := np_le σ σ.1
  obtain ⟨g, l1, l2, l3⟩ := m_laysAll (sc := sc) hM hW
  have hMg := Mr_frL hM l3
  refine ⟨g, ?_, l2, l3⟩
  rw [e_Mo_countIs, l1]
  simp only [bd_s]
  rw [m_tonesOfAll hMg hW, m_greatest hMg l2 hW, cl0, cl1, hMg.1, hMg.2.1, l2.1.1, pk_sub hnp]
  rcases (show k = 0 ∨ k = 1 ∨ k = 2 ∨ k = 3 ∨ k = 4 ∨ k = 5 by omega) with rfl | rfl | rfl | rfl | rfl | rfl <;> rfl
theorem m_order14 {c t : Nat} (hM : Mr (h.1 50) σ) (hW : WF σ) (hc : c < 12) (ht : t < 5) (rank : Int32) : ∀ d u, u + d = σ.2.2.1 c → ∀ w : Value, ∃ w', mm_ev sc i_Mo_orderIs 14 [.ref 49, .int (nI c), .int rank, .int (nI t), .int (nI (rkc (szc σ c) t u)), .int (nI u), w] [] h = (bif decide (nI (rkc (szc σ c) t (σ.2.2.1 c)) = rank) then some ((nI t, 0, 0), h) else mm_ev sc i_Mo_orderIs 2 [.ref 49, .int (nI c), .int rank, .int (nI (t + 1)), .int (nI (rkc (szc σ c) t (σ.2.2.1 c))), .int (nI (σ.2.2.1 c)), w'] [] h) := by
  have h5 := hW.2.2.1 c hc
  intro d
  induction d with
  | zero =>
    intro u hu w
    have : u = σ.2.2.1 c := by omega
    subst this
    refine ⟨w, ?_⟩
    rw [l_Mo_orderIs_14, ltt2, nI_add, inb_t (show 2 + c < 266 by omega) (by omega), i_cl (by omega), hM.2.2.1 c hc, nI_le_d (by omega) (by omega), decide_eq_true (Nat.le_refl _), nI_1 t]
    rfl
  | succ d ih =>
    intro u hu w
    have b1 := szf_in hW.2.2.2.1 (s := (c * 5 + t) * 4) (by omega)
    have b2 := szf_in hW.2.2.2.1 (s := (c * 5 + u) * 4) (by omega)
    have es : (szc σ c t - szc σ c u).toInt = (szc σ c t).toInt - (szc σ c u).toInt := i_sub (by unfold szc; omega) (by unfold szc; omega)
    have z0 : (0 : Int32).toInt = 0 := rfl
    have d1 : decide (0 < szc σ c t - szc σ c u) = decide (szc σ c u < szc σ c t) := by
      apply decide_eq_decide.mpr
      rw [i_lt, i_lt, es, z0]
      omega
    have d2 : decide (szc σ c t - szc σ c u = 0) = decide (szc σ c u = szc σ c t) := by
      apply decide_eq_decide.mpr
      rw [i_eq, i_eq, es, z0]
      omega
    rw [l_Mo_orderIs_14, ltt2, nI_add, inb_t (show 2 + c < 266 by omega) (by omega), i_cl (by omega), hM.2.2.1 c hc, nI_le_d (by omega) (by omega), decide_eq_false (show ¬ σ.2.2.1 c ≤ u by omega), m_ratioSize hM hc ht]
    simp only [bd_s, cond_true, cond_false]
    rw [m_ratioSize hM hc (show u < 5 by omega)]
    simp only [bd_s]
    have hz : nI (rkc (szc σ c) t u) + 0 = nI (rkc (szc σ c) t u) := by rw [show (0 : Int32) = nI 0 from rfl, nI_add, Nat.add_zero]
    rw [d1, d2, nI_le_d (by omega) (by omega), nI_1, nI_1, hz]
    have step : rkc (szc σ c) t (u + 1) = rkc (szc σ c) t u + (if szc σ c u < szc σ c t ∨ (szc σ c u = szc σ c t ∧ u < t) then 1 else 0) := rfl
    by_cases h1 : szc σ c u < szc σ c t
    · rw [if_pos (Or.inl h1)] at step
      rw [decide_eq_true h1, cond_true, ← step]
      exact ih (u + 1) (by omega) _
    · by_cases h2 : szc σ c u = szc σ c t
      · by_cases h3 : t ≤ u
        · rw [if_neg (fun q => q.elim h1 (fun z => by omega))] at step
          have s0 : rkc (szc σ c) t u = rkc (szc σ c) t (u + 1) := by omega
          rw [decide_eq_false h1, decide_eq_true h2, decide_eq_true h3, cond_false, cond_true, cond_true, s0]
          exact ih (u + 1) (by omega) _
        · rw [if_pos (Or.inr ⟨h2, by omega⟩)] at step
          rw [decide_eq_false h1, decide_eq_true h2, decide_eq_false h3, cond_false, cond_true, cond_false, ← step]
          exact ih (u + 1) (by omega) _
      · rw [if_neg (fun q => q.elim h1 (fun z => h2 z.1))] at step
        have s0 : rkc (szc σ c) t u = rkc (szc σ c) t (u + 1) := by omega
        rw [decide_eq_false h1, decide_eq_false h2, cond_false, cond_false, s0]
        exact ih (u + 1) (by omega) _
theorem m_order2 {c : Nat} (hM : Mr (h.1 50) σ) (hW : WF σ) (hc : c < 12) (rank : Int32) : ∀ d t, t + d = σ.2.2.1 c → ∀ w4 w5 w6 : Value, mm_ev sc i_Mo_orderIs 2 [.ref 49, .int (nI c), .int rank, .int (nI t), w4, w5, w6] [] h = some ((tbr (szc σ c) (σ.2.2.1 c) rank d t, 0, 0), h) := by
  have h5 := hW.2.2.1 c hc
  intro d
  induction d with
  | zero =>
    intro t ht w4 w5 w6
    have : t = σ.2.2.1 c := by omega
    subst this
    rw [l_Mo_orderIs_2, ltt2, nI_add, inb_t (show 2 + c < 266 by omega) (by omega), i_cl (by omega), hM.2.2.1 c hc, nI_le_d (by omega) (by omega), decide_eq_true (Nat.le_refl _)]
    rfl
  | succ d ih =>
    intro t ht w4 w5 w6
    obtain ⟨w', e⟩ := m_order14 (sc := sc) hM hW hc (show t < 5 by omega) rank (σ.2.2.1 c) 0 (by omega) w6
    rw [l_Mo_orderIs_2, ltt2, nI_add, inb_t (show 2 + c < 266 by omega) (by omega), i_cl (by omega), hM.2.2.1 c hc, nI_le_d (by omega) (by omega), decide_eq_false (show ¬ σ.2.2.1 c ≤ t by omega), cond_true, cond_false]
    refine Eq.trans e ?_
    unfold tbr
    by_cases q : nI (rkc (szc σ c) t (σ.2.2.1 c)) = rank
    · rw [decide_eq_true q, if_pos q]
      rfl
    · rw [decide_eq_false q, if_neg q, cond_false]
      exact ih (t + 1) (by omega) _ _ _
theorem m_orderIs {c : Nat} (hM : Mr (h.1 50) σ) (hW : WF σ) (hc : c < 12) (rank : Int32) : mm_cal sc i_Mo_orderIs [.ref 49, .int (nI c), .int rank] h = some ((vOrder σ c rank, 0, 0), h) := by
  rw [e_Mo_orderIs]
  exact m_order2 hM hW hc rank (σ.2.2.1 c) 0 (by omega) _ _ _
theorem m_voiceIs {v c : Nat} (hM : Mr (h.1 50) σ) (hW : WF σ) (hc : c < 12) (hv : v < 5) : mm_cal sc i_Mo_voiceIs [.ref 49, .int (nI v), .int (nI c)] h = some ((voi σ v c, 0, 0), h) := by
  have h5 := hW.2.2.1 c hc
  rw [e_Mo_voiceIs, ltt2, nI_add, inb_t (show 2 + c < 266 by omega) (by omega), i_cl (by omega), hM.2.2.1 c hc, nI_ne_0 (by omega), nI_le_d (by omega) (by omega), m_orderIs hM hW hc, m_orderIs hM hW hc]
  simp only [bd_s, cond_true]
  unfold voi vOrder
  cases hm : σ.2.2.1 c with
  | zero => rfl
  | succ m =>
    rw [nI_sub1, decide_eq_false (show ¬ m + 1 = 0 by omega), cond_false]
    by_cases q : m + 1 ≤ v
    · rw [decide_eq_true q, show min v (m + 1 - 1) = m by omega]
      rfl
    · rw [decide_eq_false q, show min v (m + 1 - 1) = v by omega]
      rfl
theorem m_ival6 {c i j : Nat} (hM : Mr (h.1 50) σ) (hc : c < 12) (hi : i < 5) (hj : j < 5) (x4 : Int32) {k : Nat} (hk : k < 4) (w8 w9 : Value) : ∃ w w' : Value, mm_ev sc i_Mo_intervalIs 6 [.ref 49, .int (nI c), .int (nI i), .int (nI j), .int x4, .int (itm σ.2.2.2.1 ((c * 5 + i) * 4) ((c * 5 + j) * 4) k), .int (itm σ.2.2.2.1 ((c * 5 + j) * 4) ((c * 5 + i) * 4) k), .int (nI k), w8, w9] [] h = mm_ev sc i_Mo_intervalIs 6 [.ref 49, .int (nI c), .int (nI i), .int (nI j), .int x4, .int (itm σ.2.2.2.1 ((c * 5 + i) * 4) ((c * 5 + j) * 4) (k + 1)), .int (itm σ.2.2.2.1 ((c * 5 + j) * 4) ((c * 5 + i) * 4) (k + 1)), .int (nI (k + 1)), w, w'] [] h := by
  rw [l_Mo_intervalIs_6, ltt4, nI_le_d (by omega) (by omega), decide_eq_false (show ¬ 4 ≤ k by omega), m_place]
  simp only [bd_s, cond_false]
  rw [m_place]
  simp only [bd_s]
  rw [nI_add, nI_add, inb_t (show 14 + (c * 5 + i) * 4 + k < 266 by omega) (by omega), inb_t (show 14 + (c * 5 + j) * 4 + k < 266 by omega) (by omega), i_cl (show 14 + (c * 5 + i) * 4 + k < 2147483648 by omega), i_cl (show 14 + (c * 5 + j) * 4 + k < 2147483648 by omega), Nat.add_assoc 14, Nat.add_assoc 14, hM.2.2.2.1 _ (by omega), hM.2.2.2.1 _ (by omega), nI_ne_0 (by omega), nI_1 k, Int32.neg_sub]
  simp only [cond_true]
  rcases (show k = 0 ∨ k = 1 ∨ k = 2 ∨ k = 3 by omega) with rfl | rfl | rfl | rfl
  · simp only [decide_true, cond_true]
    rw [m_times]
    simp only [bd_s]
    rw [m_times]
    exact ⟨_, _, rfl⟩
  · simp only [show ¬ (1 : Nat) = 0 by omega, decide_false, cond_false]
    rw [m_times]
    simp only [bd_s]
    rw [m_times]
    exact ⟨_, _, rfl⟩
  · simp only [show ¬ (2 : Nat) = 0 by omega, decide_false, cond_false]
    rw [m_times]
    simp only [bd_s]
    rw [m_times]
    exact ⟨_, _, rfl⟩
  · simp only [show ¬ (3 : Nat) = 0 by omega, decide_false, cond_false]
    rw [m_times]
    simp only [bd_s]
    rw [m_times]
    exact ⟨_, _, rfl⟩
theorem m_intervalIs {c i j k : Nat} (hM : Mr (h.1 50) σ) (hc : c < 12) (hi : i < 5) (hj : j < 5) (hk : k < 5) : mm_cal sc i_Mo_intervalIs [.ref 49, .int (nI c), .int (nI i), .int (nI j), .int (nI k)] h = some ((vIval σ c i j k, 0, 0), h) := by
  have e := e_Mo_intervalIs sc (nI c) (nI i) (nI j) (nI k) h
  obtain ⟨s1, e1, _⟩ := fldS (fun x (s : Value × Value) => mm_ev sc i_Mo_intervalIs 6 [.ref 49, .int (nI c), .int (nI i), .int (nI j), .int (nI k), .int (itm σ.2.2.2.1 ((c * 5 + i) * 4) ((c * 5 + j) * 4) x), .int (itm σ.2.2.2.1 ((c * 5 + j) * 4) ((c * 5 + i) * 4) x), .int (nI x), s.1, s.2] [] h) (fun _ _ => True) 4 (fun x s hx _ => by
    obtain ⟨w, w', e⟩ := m_ival6 (sc := sc) hM hc hi hj (nI k) hx s.1 s.2
    exact ⟨(w, w'), e, trivial⟩) (.null, .null) trivial
  have e2 := l_Mo_intervalIs_6 sc (nI c) (nI i) (nI j) (nI k) (itm σ.2.2.2.1 ((c * 5 + i) * 4) ((c * 5 + j) * 4) 4) (itm σ.2.2.2.1 ((c * 5 + j) * 4) ((c * 5 + i) * 4) 4) (nI 4) s1.1 s1.2 h
  rw [ltt4, nI_le_d (by omega) (by omega), decide_eq_true (show 4 ≤ 4 by omega), cond_true, m_ratioSize hM hc hj] at e2
  simp only [bd_s] at e2
  rw [m_ratioSize hM hc hi] at e2
  simp only [bd_s] at e2
  rw [show (10000 : Int32) = nI 10000 from rfl, m_apart (by omega) (by omega)] at e2
  simp only [bd_s] at e2
  refine e.trans (e1.trans (e2.trans ?_))
  have key : ∀ z : Int32, decide (16 < z) = !decide (z ≤ 16) := fun z => by
    have h1 := i_lt (a := 16) (b := z)
    have h2 := i_le (a := z) (b := 16)
    by_cases q : z ≤ 16
    · have := h2.mp q
      rw [decide_eq_true q]
      simp only [Bool.not_true, decide_eq_false_iff_not]
      rw [h1]
      omega
    · have := mt h2.mpr q
      rw [decide_eq_false q]
      simp only [Bool.not_false, decide_eq_true_eq]
      rw [h1]
      omega
  unfold vIval
  rcases (show k = 0 ∨ k = 1 ∨ k = 2 ∨ k = 3 ∨ k = 4 by omega) with rfl | rfl | rfl | rfl | rfl
  · rfl
  · rfl
  · rfl
  · rfl
  · rw [nI_ne_0 (by omega), decide_eq_false (show ¬ 4 = 0 by omega), ltt1, nI_eq_d (by omega) (by omega), decide_eq_false (show ¬ 4 = 1 by omega), ltt2, nI_eq_d (by omega) (by omega), decide_eq_false (show ¬ 4 = 2 by omega), ltt3, nI_eq_d (by omega) (by omega), decide_eq_false (show ¬ 4 = 3 by omega), cond_false, cond_false, cond_false, cond_false, key, key, if_neg (by omega), if_neg (by omega), if_neg (by omega), if_neg (by omega)]
    generalize itm σ.2.2.2.1 ((c * 5 + i) * 4) ((c * 5 + j) * 4) 4 = a
    generalize itm σ.2.2.2.1 ((c * 5 + j) * 4) ((c * 5 + i) * 4) 4 = b
    by_cases qa : a ≤ 16
    · by_cases qb : b ≤ 16
      · rw [decide_eq_true qa, decide_eq_true qb, if_pos ⟨qa, qb⟩]
        rfl
      · rw [decide_eq_true qa, decide_eq_false qb, if_neg (fun z => qb z.2)]
        rfl
    · rw [decide_eq_false qa, if_neg (fun z => qa z.1)]
      rfl
end MGET
