/-! the model: tunes, back, type, clear, told -/
section MOD2
variable {sc : Nat × (Nat → Int32)} {h : mm_H} {σ : Sg}
theorem m_chg2 {γ : Gs} (hI : IM h γ) (o : Ro) (hok : Ok o) (r : Option mm_R) (h1 : ∀ e, o = .inl e → r = mm_bd (mm_cal sc i_Mo_counts [.ref 49, .int e] h) (fun r1 => some ((r1.1.1, 0, 0), r1.2))) (h2 : ∀ v σ', o = .inr (v, σ') → ∀ g, mm_cal sc i_Mo_leaves [.ref 49] h = some ((0, 0, 0), g) → Mr (g.1 50) γ.1 → ∃ g', r = some ((v, 0, 0), g') ∧ Mr (g'.1 50) σ' ∧ fr50 g g') : ∃ g, r = some ((aO o, 0, 0), g) ∧ IM g (nO γ o) ∧ frM h g := by
  cases o with
  | inl e =>
    have q := h1 e rfl
    rw [m_counts hok] at q
    exact ⟨_, q, (IM_rf hI e).1, (IM_rf hI e).2⟩
  | inr p =>
    obtain ⟨v, σ'⟩ := p
    obtain ⟨i1, i2, i3, i4⟩ := hI
    obtain ⟨g1, l1, l2, l3, l4, l5⟩ := m_leaves (sc := sc) i1 i2 i3
    obtain ⟨g2, e2, m2, f2⟩ := h2 v σ' rfl g1 l1 (by rw [l3 50 (by omega) (by omega)]; exact i1)
    refine ⟨g2, e2, ⟨m2, hok.2.2, MH_of l2 (by rw [f2.1 49 (by omega)]) (f2.1 52 (by omega)), ?_⟩, fun a ha => by rw [f2.1 a (by omega), l3 a (by omega) (by omega)], by rw [f2.2, l5]⟩
    obtain ⟨n1, n2, n3, n4, n5, n6, n7⟩ := i4
    refine ⟨?_, ?_, ?_, ?_, n5, ?_, n7⟩
    · rw [f2.1 53 (by omega), l3 53 (by omega) (by omega)]; exact n1
    · rw [f2.1 53 (by omega), l3 53 (by omega) (by omega)]; exact n2
    · rw [f2.1 53 (by omega), l3 53 (by omega) (by omega)]; exact n3
    · rw [f2.1 49 (by omega), l4 6 (by omega)]; exact n4
    · rw [f2.1 54 (by omega), l3 54 (by omega) (by omega)]; exact n6
theorem a_tunes {γ : Gs} (hI : IM h γ) (c t a b : Int32) : ∃ g, mm_cal sc i_Mo_tunes [.ref 49, .int c, .int t, .int a, .int b] h = some ((aO (oTunes γ.1 c t a b), 0, 0), g) ∧ IM g (nO γ (oTunes γ.1 c t a b)) ∧ frM h g := by
  have hW := hI.2.1
  have hn := hW.1
  have g := e_Mo_tunes sc c t a b h
  rw [m_isTone hI.1 hW] at g
  simp only [bd_s, b2i_0] at g
  rw [m_isMade] at g
  simp only [bd_s, b2i_0] at g
  rw [m_isMade] at g
  simp only [bd_s, b2i_0] at g
  refine m_chg2 (sc := sc) hI _ (ok_tunes hW c t a b) _ (fun x q => ?_) (fun v σ' q g1 l1 hM => ?_)
  · unfold oTunes at q
    split at q
    · cases q
    · rename_i x1
      cases q
      cases hq : isTn γ.1 c t with
      | false => rw [hq] at g; exact g
      | true =>
        rw [hq] at g
        cases ha : isT a with
        | false => rw [ha] at g; exact g
        | true =>
          rw [ha] at g
          cases hb : isT b with
          | false => rw [hb] at g; exact g
          | true => exact absurd ⟨hq, ha, hb⟩ x1
  · unfold oTunes at q
    split at q
    · rename_i x1
      cases q
      obtain ⟨hq, ha, hb⟩ := x1
      rw [hq, ha, hb, l1] at g
      obtain ⟨c, u, hc, hu, hc12, hu5, rfl, rfl⟩ := isTn_ex hW hq
      obtain ⟨g', e1, hM', f1⟩ := m_lays (sc := sc) hc12 hu5 ha hb hM hW
      simp only [bd_s, Bool.not_true, cond_false] at g
      rw [e1] at g
      simp only [bd_s] at g
      rw [i_cl (show c < 2147483648 by omega), i_cl (show u < 2147483648 by omega)]
      refine ⟨g', ?_, hM', f1⟩
      have hW' : WF (sChT γ.1 c u a b) := ⟨hW.1, hW.2.1, hW.2.2.1, wf_wrp hW.2.2.2.1 _ a b, hW.2.2.2.2⟩
      have tz : ∀ x, (sChT γ.1 c u a b).2.2.2.2 x = γ.1.2.2.2.2 x := fun x => rfl
      rw [show (254 : Int32) = nI 254 from rfl, nI_add, inb_t (show 254 + c < 266 by omega) (by omega), i_cl (show 254 + c < 2147483648 by omega), (m_tied hM' hW' hc).2, tz c, show (0 : Int32) = nI 0 from rfl, nI_le_d (by omega) (by omega)] at g
      have key : ∀ (w : Nat), (bif decide (c ≤ 0) then some ((nI w + nI 0, 0, 0), g') else bif mm_inb (nI (254 + c) - 1) 266 then bif decide (g'.1 50 (nI (254 + c) - 1).toNatClampNeg < nI 0) then some ((nI w + nI 0, 0, 0), g') else bif mm_inb (nI (254 + c) - 1) 266 then bif decide (g'.1 50 (nI (254 + c) - 1).toNatClampNeg - g'.1 50 (nI (254 + c) - 1).toNatClampNeg / 5 * 5 = nI u) then some ((nI w + 1, 0, 0), g') else some ((nI w + nI 0, 0, 0), g') else none else none) = (some ((nI (tfr γ.1 c u + w), 0, 0), g') : Option mm_R) := by
        intro w
        rw [nI_add, nI_1, Nat.add_zero]
        cases c with
        | zero =>
          rw [decide_eq_true (show 0 ≤ 0 by omega)]
          show some ((nI w, 0, 0), g') = some ((nI (0 + w), 0, 0), g')
          rw [Nat.zero_add]
        | succ c =>
          rw [decide_eq_false (show ¬ c + 1 ≤ 0 by omega), ← Nat.add_assoc, nI_sub1, inb_t (show 254 + c < 266 by omega) (by omega), i_cl (show 254 + c < 2147483648 by omega), show nI 0 = (0 : Int32) from rfl, (m_tied hM' hW' (show c < γ.1.1 by omega)).2, tz c]
          simp only [cond_true, cond_false]
          unfold tfr
          cases ht : γ.1.2.2.2.2 c with
          | none =>
            simp only [Option.isSome_none, Bool.not_false, cond_true, ht, Nat.zero_add]
          | some q =>
            obtain ⟨i, j⟩ := q
            obtain ⟨k1, k2, k3⟩ := hW.2.2.2.2 c i j ht
            simp only [Option.isSome_some, Bool.not_true, cond_false]
            rw [(hM'.2.2.2.2 c (show c < γ.1.1 by omega)).2 i j ht, ltt5, pk_rem (by omega) (by omega) (by omega), show (5 * i + j) % 5 = j by omega, nI_eq_d (by omega) (by omega)]
            simp only [ht]
            by_cases e : j = u
            · rw [decide_eq_true e, if_pos e, Nat.add_comm]
              rfl
            · rw [decide_eq_false e, if_neg e, Nat.zero_add]
              rfl
      unfold tto
      cases ht : γ.1.2.2.2.2 c with
      | none =>
        rw [ht] at g
        exact g.trans (key 0)
      | some q =>
        obtain ⟨i, j⟩ := q
        obtain ⟨k1, k2, k3⟩ := hW.2.2.2.2 c i j ht
        rw [ht, (hM'.2.2.2.2 c hc).2 i j ht, ltt5, pk_div (by omega) (by omega) (by omega), show (5 * i + j) / 5 = i by omega, nI_eq_d (by omega) (by omega)] at g
        simp only [Option.isSome_some, Bool.not_true, cond_false, cond_true] at g
        dsimp only
        by_cases e : i = u
        · rw [decide_eq_true e] at g
          rw [if_pos e]
          exact g.trans (key 1)
        · rw [decide_eq_false e] at g
          rw [if_neg e]
          exact g.trans (key 0)
    · cases q
theorem a_back {γ : Gs} (hI : IM h γ) : ∃ g, mm_cal sc i_Mo_back [.ref 49] h = some (((xBack γ).1, 0, 0), g) ∧ IM g (xBack γ).2 ∧ frM h g := by
  obtain ⟨i1, i2, ⟨k1, k2, k3⟩, n1, n2, n3, n4, n5, n6, n7⟩ := id hI
  have e := e_Mo_back sc h
  rw [k1, nI_ne_0 (by omega)] at e
  unfold xBack
  by_cases q : γ.2.1 = 0
  · rw [if_pos q]
    rw [decide_eq_true q, m_counts (by simp)] at e
    exact ⟨_, e, (IM_rf hI (-100000003)).1, (IM_rf hI (-100000003)).2⟩
  · rw [if_neg q]
    obtain ⟨m, hm⟩ : ∃ m, γ.2.1 = m + 1 := ⟨γ.2.1 - 1, by omega⟩
    rw [decide_eq_false q, cond_false, hm, nI_sub1] at e
    obtain ⟨g1, e1, p1, p2, p3⟩ := fldS (fun x (s : mm_H) => mm_ev sc i_Mo_back 15 [.ref 49, .int (nI x)] [] s) (fun x s => (∀ a, a ≠ 50 → s.1 a = (mm_si h 49 3 (nI m)).1 a) ∧ s.2 = h.2 ∧ ∀ j, j < x → s.1 50 j = h.1 52 (266 * m + j)) 266 (fun x s hx hs => by
      obtain ⟨p1, p2, p3⟩ := hs
      have e := l_Mo_back_15 sc (nI x) s
      have x49 : s.1 49 3 = nI m := by rw [p1 49 (by omega)]; simp [si1, upd1]
      have x52 : s.1 52 = h.1 52 := by rw [p1 52 (by omega)]; simp [si1]
      rw [x49, x52, show (266 : Int32) = nI 266 from rfl, nI_le_d (by omega) (by omega), decide_eq_false (show ¬ 266 ≤ x by omega), pk_mul, nI_add, inb_t (show 266 * m + x < 1330 by omega) (by omega), inb_t hx (by omega), i_cl (show 266 * m + x < 2147483648 by omega), i_cl (show x < 2147483648 by omega), nI_1 x] at e
      refine ⟨_, e, fun a ha => by rw [si1, if_neg ha]; exact p1 a ha, p2, fun j hj => ?_⟩
      rw [si1, if_pos rfl, upd1]
      by_cases q : j = x
      · rw [if_pos q, q]
      · rw [if_neg q]
        exact p3 j (by omega)) (mm_si h 49 3 (nI m)) ⟨fun _ _ => rfl, rfl, fun j hj => absurd hj (by omega)⟩
    have x49 : g1.1 49 3 = nI m := by rw [p1 49 (by omega)]; simp [si1, upd1]
    have x52 : g1.1 52 = h.1 52 := by rw [p1 52 (by omega)]; simp [si1]
    have e2 := l_Mo_back_15 sc (nI 266) g1
    rw [x49, show (266 : Int32) = nI 266 from rfl, nI_le_d (by omega) (by omega), decide_eq_true (show 266 ≤ 266 by omega)] at e2
    obtain ⟨c1, c2⟩ := k3 m (by omega)
    rw [hm, Nat.add_sub_cancel]
    refine ⟨g1, e.trans (e1.trans e2), ⟨Mr_of c1 c2 (fun j hj => p3 j hj), c2, ⟨x49, by show m ≤ 5; omega, fun a ha => ?_⟩, ?_, ?_, ?_, ?_, n5, fun j hj => ?_, n7⟩, fun a ha => by rw [p1 a (by omega), si1, if_neg (by omega)], by rw [p2]⟩
    · rw [x52]
      exact k3 a (by have : a < m := ha; omega)
    · rw [p1 53 (by omega)]
      simp only [si1, show ¬ (53 : Nat) = 49 by omega, if_false]
      exact n1
    · rw [p1 53 (by omega)]
      simp only [si1, show ¬ (53 : Nat) = 49 by omega, if_false]
      exact n2
    · rw [p1 53 (by omega)]
      simp only [si1, show ¬ (53 : Nat) = 49 by omega, if_false]
      exact n3
    · rw [p1 49 (by omega)]
      simp only [si1, upd1, show ¬ (6 : Nat) = 3 by omega, if_true, if_false]
      exact n4
    · rw [p1 54 (by omega)]
      simp only [si1, show ¬ (54 : Nat) = 49 by omega, if_false]
      exact n6 j hj
theorem a_type {γ : Gs} (hI : IM h γ) (c : Int32) : ∃ g, mm_cal sc i_Mo_type [.ref 49, .int c] h = some (((xType γ c).1, 0, 0), g) ∧ IM g (xType γ c).2 ∧ frM h g := by
  obtain ⟨i1, i2, i3, n1, n2, n3, n4, n5, n6, n7⟩ := id hI
  have e := e_Mo_type sc c h
  rw [m_inL (K := 127) (b := 127) (by decide +kernel)] at e
  simp only [bd_s, b2i_0] at e
  unfold xType
  cases h1 : mm_inb c 128 with
  | false =>
    rw [if_neg (by simp)]
    rw [h1, m_counts (by simp)] at e
    exact ⟨_, e, (IM_rf hI (-100000002)).1, (IM_rf hI (-100000002)).2⟩
  | true =>
    rw [if_pos rfl]
    rw [h1, n4, show (120 : Int32) = nI 120 from rfl, nI_eq_d (by omega) (by omega)] at e
    by_cases q : γ.2.2.2.2.2.2.1 < 120
    · rw [if_pos q]
      rw [decide_eq_false (show ¬ γ.2.2.2.2.2.2.1 = 120 by omega), inb_t q (by omega), i_cl (show γ.2.2.2.2.2.2.1 < 2147483648 by omega)] at e
      simp only [Bool.not_true, cond_true, cond_false, si1, upd1, show ¬ (49 : Nat) = 54 by omega, if_true, if_false, n4, nI_1] at e
      refine ⟨_, e, ⟨?_, i2, MH_of i3 (by simp [si1, upd1]) (by simp [si1]), by simp [si1, n1], by simp [si1, n2], by simp [si1, n3], by simp [si1, upd1], by show γ.2.2.2.2.2.2.1 + 1 ≤ 120; omega, fun j hj => ?_, fun j hj => ?_⟩, fun a ha => by simp only [si1, show ¬ a = 49 by omega, show ¬ a = 54 by omega, if_false], rfl⟩
      · simp only [si1, show ¬ (50 : Nat) = 49 by omega, show ¬ (50 : Nat) = 54 by omega, if_false]
        exact i1
      · have hj : j < γ.2.2.2.2.2.2.1 + 1 := hj
        simp only [si1, upd1, show ¬ (54 : Nat) = 49 by omega, if_true, if_false]
        by_cases q2 : j = γ.2.2.2.2.2.2.1
        · rw [if_pos q2, if_pos q2]
        · rw [if_neg q2, if_neg q2]
          exact n6 j (by omega)
      · have hj : j < γ.2.2.2.2.2.2.1 + 1 := hj
        simp only [upd1]
        by_cases q2 : j = γ.2.2.2.2.2.2.1
        · rw [if_pos q2]
          exact h1
        · rw [if_neg q2]
          exact n7 j (by omega)
    · rw [if_neg q]
      rw [decide_eq_true (show γ.2.2.2.2.2.2.1 = 120 by omega), m_counts (e := -100000004) (by simp)] at e
      exact ⟨_, e, (IM_rf hI (-100000004)).1, (IM_rf hI (-100000004)).2⟩
theorem a_clear {γ : Gs} (hI : IM h γ) : ∃ g, mm_cal sc i_Mo_clear [.ref 49] h = some (((xClear γ).1, 0, 0), g) ∧ IM g (xClear γ).2 ∧ frM h g := by
  obtain ⟨i1, i2, i3, n1, n2, n3, n4, n5, n6, n7⟩ := id hI
  have e := e_Mo_clear sc h
  rw [n4] at e
  unfold xClear
  refine ⟨_, e, ⟨?_, i2, MH_of i3 (by simp [si1, upd1]) (by simp [si1]), by simp [si1, n1], by simp [si1, n2], by simp [si1, n3], by simp [si1, upd1]; rfl, by show 0 ≤ 120; omega, fun j hj => absurd hj (by show ¬ j < 0; omega), fun j hj => absurd hj (by show ¬ j < 0; omega)⟩, fun a ha => by simp only [si1, show ¬ a = 49 by omega, if_false], rfl⟩
  simp only [si1, show ¬ (50 : Nat) = 49 by omega, if_false]
  exact i1
/-- an answer of the model's: a refusal is counted; what it has worked out may stand elsewhere -/
theorem a_get {γ : Gs} (hI : IM h γ) {s : Ra} {r : Option mm_R} (h1 : ∀ e, s = .inl e → (e = -100000002 ∨ e = -100000003 ∨ e = -100000004) ∧ ∃ g, r = mm_bd (mm_cal sc i_Mo_counts [.ref 49, .int e] g) (fun r1 => some ((r1.1.1, 0, 0), r1.2)) ∧ IM g γ ∧ frM h g) (h2 : ∀ v, s = .inr v → ∃ g, r = some ((v, 0, 0), g) ∧ IM g γ ∧ frM h g) : ∃ g, r = some ((aG s, 0, 0), g) ∧ IM g (nG γ s) ∧ frM h g := by
  cases s with
  | inl e =>
    obtain ⟨he, g, q, Ig, fg⟩ := h1 e rfl
    rw [m_counts he] at q
    exact ⟨_, q, (IM_rf Ig e).1, fg.tr (IM_rf Ig e).2⟩
  | inr v => exact h2 v rfl
theorem m_toldIs {γ : Gs} (hN : MN h γ) (hH : MH h γ.2.1 γ.2.2.1) {k : Nat} (hk : k < 5) : mm_cal sc i_Mo_toldIs [.ref 49, .int (nI k)] h = some ((vTold γ k, 0, 0), h) := by
  obtain ⟨n1, n2, n3, n4, n5, n6, n7⟩ := hN
  rw [e_Mo_toldIs, n4, hH.1]
  rcases (show k = 0 ∨ k = 1 ∨ k = 2 ∨ k = 3 ∨ k = 4 by omega) with rfl | rfl | rfl | rfl | rfl
  · show some ((h.1 53 0, 0, 0), h) = some ((γ.2.2.2.1, 0, 0), h)
    rw [n1]
  · show some ((h.1 53 1, 0, 0), h) = some ((γ.2.2.2.2.1, 0, 0), h)
    rw [n2]
  · show some ((h.1 53 2, 0, 0), h) = some ((γ.2.2.2.2.2.1, 0, 0), h)
    rw [n3]
  · rfl
  · rfl
theorem a_told {γ : Gs} (hI : IM h γ) (w : Int32) : ∃ g, mm_cal sc i_Mo_told [.ref 49, .int w] h = some ((aG (sTold γ w), 0, 0), g) ∧ IM g (nG γ (sTold γ w)) ∧ frM h g := by
  have e := e_Mo_told sc w h
  rw [m_inL (K := 4) (b := 4) (by decide +kernel)] at e
  simp only [bd_s, b2i_0] at e
  refine a_get (sc := sc) hI (fun x q => ?_) (fun v q => ?_)
  · unfold sTold at q
    split at q
    · cases q
    · rename_i x1
      cases q
      rw [Bool.eq_false_iff.mpr x1] at e
      exact ⟨by simp, h, e, hI, frM.rf⟩
  · unfold sTold at q
    split at q
    · rename_i x1
      cases q
      obtain ⟨k, hk, hk2, rfl⟩ := inb_ex x1
      rw [x1, m_toldIs hI.2.2.2 hI.2.2.1 hk] at e
      rw [i_cl hk2]
      exact ⟨h, e, hI, frM.rf⟩
    · cases q
end MOD2
