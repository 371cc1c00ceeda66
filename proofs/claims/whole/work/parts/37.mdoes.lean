/-! the model does a text -/
section MDOES
variable {sc : Nat × (Nat → Int32)} {h : mm_H} {σ : Sg}
theorem m_isDone {A : Ar} {i : Nat} (hM : Mr (h.1 50) σ) (hW : WF σ) (hD : RD h A.1 A.2.2.2.1 A.2.2.2.2) (hL : LA A) (hN : ∀ i, A.2.2.2.2 i < 10000) (hi : i < A.1) (hk : A.1 ≤ 60) : (∀ e, oAt A i σ = .inl e → mm_cal sc i_Mo_isDone [.ref 49, .int (nI i)] h = some ((0, 0, 0), h)) ∧ ∀ v σ', oAt A i σ = .inr (v, σ') → ∃ g, mm_cal sc i_Mo_isDone [.ref 49, .int (nI i)] h = some ((1, 0, 0), g) ∧ Mr (g.1 50) σ' ∧ fr50 h g := by
  have hn := hW.1
  have hl : A.2.2.2.1 i < 128 := hL i
  obtain ⟨d1, d2⟩ := hD i hi
  obtain ⟨v1, v2, v3, v4⟩ := @nfn_of (A.2.2.2.1 i)
  have e := e_Mo_isDone sc (nI i) h
  rw [ltt3, pk_mul, ltt1, ltt2, nI_add, nI_add, show 3 * i = i * 3 by omega, inb_t (show i * 3 < 180 by omega) (by omega), inb_t (show i * 3 + 1 < 180 by omega) (by omega), inb_t (show i * 3 + 2 < 180 by omega) (by omega), inb_t (show i < 60 by omega) (by omega), i_cl (show i * 3 < 2147483648 by omega), i_cl (show i * 3 + 1 < 2147483648 by omega), i_cl (show i * 3 + 2 < 2147483648 by omega), i_cl (show i < 2147483648 by omega), d1, show (99 : Int32) = nI 99 from rfl, show (102 : Int32) = nI 102 from rfl, show (104 : Int32) = nI 104 from rfl, show (116 : Int32) = nI 116 from rfl, nI_eq_d (by omega) (by omega), nI_eq_d (by omega) (by omega), nI_eq_d (by omega) (by omega), nI_eq_d (by omega) (by omega)] at e
  simp only [cond_true] at e
  unfold oAt
  by_cases c1 : A.2.2.2.1 i = 99
  · rw [decide_eq_true c1, cl0, hM.1, show (12 : Int32) = nI 12 from rfl, nI_le_d (by omega) (by omega)] at e
    rw [if_pos c1]
    unfold oChord
    by_cases q : σ.1 < 12
    · rw [if_pos q]
      rw [decide_eq_false (show ¬ 12 ≤ σ.1 by omega)] at e
      refine ⟨fun e q => (by cases q), fun v σ' q2 => ?_⟩
      cases q2
      obtain ⟨g, a1, a2, a3⟩ := m_adds (sc := sc) hM hW q
      rw [a1] at e
      exact ⟨g, e, a2, a3⟩
    · rw [if_neg q]
      rw [decide_eq_true (show 12 ≤ σ.1 by omega)] at e
      exact ⟨fun _ _ => e, fun v σ' q2 => (by cases q2)⟩
  · rw [decide_eq_false c1] at e
    rw [if_neg c1]
    have g0 := d2 0 (by have := v4 c1; omega)
    rw [Nat.add_zero] at g0
    rw [g0] at e
    by_cases c2 : A.2.2.2.1 i = 102
    · rw [decide_eq_true c2] at e
      rw [if_pos c2]
      have hok := ok_frees hW (nI (A.2.2.2.2 (i * 3)))
      simp only [cond_true, cond_false] at e
      rw [m_mayFree hM hW] at e
      simp only [bd_s] at e
      rw [mE_0 hok] at e
      refine ⟨fun x q => by rw [q] at e; exact e, fun v σ' q => ?_⟩
      rw [q] at e
      unfold oFrees at q
      split at q
      · rename_i x1
        split at q
        · cases q
          obtain ⟨c, hc, hc2, ec⟩ := inb_ex x1
          rw [ec] at e ⊢
          rw [i_cl hc2]
          obtain ⟨g', e1, m1, f1⟩ := m_ties (sc := sc) (v := -1) (o := none) hM hW hc ⟨fun _ => rfl, fun i j q => (by cases q)⟩
          rw [show -nI 1 = (-1 : Int32) from rfl, e1] at e
          exact ⟨g', e, m1, f1⟩
        · cases q
      · cases q
    · rw [decide_eq_false c2] at e
      rw [if_neg c2]
      by_cases c3 : A.2.2.2.1 i = 104
      · rw [decide_eq_true c3, d2 1 (by have := v2 c3; omega), d2 2 (by have := v2 c3; omega)] at e
        rw [if_pos c3]
        have hok := ok_holds hW (nI (A.2.2.2.2 (i * 3))) (nI (A.2.2.2.2 (i * 3 + 1))) (nI (A.2.2.2.2 (i * 3 + 2)))
        simp only [cond_true, cond_false] at e
        rw [m_mayHold hM hW] at e
        simp only [bd_s] at e
        rw [mE_0 hok] at e
        refine ⟨fun x q => by rw [q] at e; exact e, fun v σ' q => ?_⟩
        rw [q] at e
        unfold oHolds at q
        split at q
        · rename_i x1
          split at q
          · split at q
            · rename_i x3
              cases q
              obtain ⟨c, u, hc, hu, hc12, hu5, ec, eu⟩ := isTn_ex hW x1
              obtain ⟨c2, w, hc', hw, hc12', hw5, eq1, ew⟩ := isTn_ex hW x3
              rw [ec, eu, ew] at e ⊢
              rw [i_cl (show c < 2147483648 by omega), i_cl (show u < 2147483648 by omega), i_cl (show w < 2147483648 by omega)]
              rw [ltt5, pk_mul, nI_add] at e
              obtain ⟨g', e1, m1, f1⟩ := m_ties (sc := sc) (v := nI (5 * u + w)) (o := some (u, w)) hM hW hc ⟨fun q => (by cases q), fun i j q => by cases q; rfl⟩
              rw [e1] at e
              exact ⟨g', e, m1, f1⟩
            · cases q
          · cases q
        · cases q
      · rw [decide_eq_false c3] at e
        rw [if_neg c3]
        by_cases c4 : A.2.2.2.1 i = 116
        · rw [decide_eq_true c4, d2 1 (by have := v3 c4; omega), d2 2 (by have := v3 c4; omega)] at e
          rw [if_pos c4]
          have hok := ok_tone hW (nI (A.2.2.2.2 (i * 3))) (nI (A.2.2.2.2 (i * 3 + 1))) (nI (A.2.2.2.2 (i * 3 + 2)))
          simp only [cond_true, cond_false] at e
          rw [m_mayTone hM hW] at e
          simp only [bd_s] at e
          rw [mE_0 hok] at e
          refine ⟨fun x q => by rw [q] at e; exact e, fun v σ' q => ?_⟩
          rw [q] at e
          unfold oTone at q
          split at q
          · rename_i h3
            obtain ⟨x1, x2, x3⟩ := h3
            split at q
            · rename_i hlt
              cases q
              obtain ⟨c, hc, hc2, ec⟩ := inb_ex x1
              rw [ec] at e hlt ⊢
              rw [i_cl hc2] at hlt ⊢
              obtain ⟨g', e1, m1, f1⟩ := m_addsTone (sc := sc) hM hW hc hlt x2 x3
              rw [e1] at e
              exact ⟨g', e, m1, f1⟩
            · cases q
          · cases q
        · rw [decide_eq_false c4, e_Mo_limits] at e
          rw [if_neg c4]
          have hv := hN (i * 3)
          unfold oLimit
          rw [inb_t hv (by omega), if_pos rfl, i_cl (by omega)]
          refine ⟨fun e q => (by cases q), fun v σ' q => ?_⟩
          cases q
          refine ⟨mm_si h 50 1 (nI (A.2.2.2.2 (i * 3))), e, ?_, fun a ha => by rw [si1, if_neg ha], rfl⟩
          obtain ⟨m1, m2, m3, m4, m5⟩ := hM
          unfold sLim
          refine ⟨?_, by simp [si1, upd1], fun x hx => ?_, fun x hx => ?_, fun x hx => ?_⟩
          · simp only [si1, upd1, if_true]
            rw [if_neg (by omega)]
            exact m1
          · simp only [si1, upd1, if_true]
            rw [if_neg (by omega)]
            exact m3 x hx
          · simp only [si1, upd1, if_true]
            rw [if_neg (by omega)]
            exact m4 x hx
          · simp only [si1, upd1, if_true]
            rw [if_neg (by omega)]
            exact m5 x hx
theorem m_does25 {A : Ar} (hL : LA A) (hN : ∀ i, A.2.2.2.2 i < 10000) (hk : A.1 ≤ 60) (w2 w3 : Value) : ∀ d i g σ, i + d = A.1 → Mr (g.1 50) σ → WF σ → RD g A.1 A.2.2.2.1 A.2.2.2.2 → g.1 49 15 = nI A.1 → ∃ g' i', mm_ev sc i_Mo_does 25 [.ref 49, .int (nI i), w2, w3] [] g = mm_ev sc i_Mo_does 37 [.ref 49, .int (nI i'), .int 0, w3] [] g' ∧ fr50 g g' ∧ i' ≤ A.1 ∧ (match exo A d i σ with
    | .inl x => i' = x ∧ x < A.1
    | .inr σ' => i' = A.1 ∧ Mr (g'.1 50) σ' ∧ WF σ') := by
  intro d
  induction d with
  | zero =>
    intro i g σ hd hM hW hD h15
    have : i = A.1 := by omega
    subst this
    refine ⟨g, A.1, ?_, ⟨fun _ _ => rfl, rfl⟩, Nat.le_refl _, rfl, hM, hW⟩
    rw [l_Mo_does_25, h15, nI_le_d (by omega) (by omega), decide_eq_true (Nat.le_refl _)]
    rfl
  | succ d ih =>
    intro i g σ hd hM hW hD h15
    have e := l_Mo_does_25 sc (nI i) w2 w3 g
    rw [h15, nI_le_d (by omega) (by omega), decide_eq_false (show ¬ A.1 ≤ i by omega)] at e
    obtain ⟨r1, r2⟩ := m_isDone (sc := sc) (i := i) hM hW hD hL hN (by omega) hk
    unfold exo
    cases ho : oAt A i σ with
    | inl x =>
      rw [r1 x ho] at e
      exact ⟨g, i, e, ⟨fun _ _ => rfl, rfl⟩, by omega, rfl, by omega⟩
    | inr q =>
      obtain ⟨v, σ'⟩ := q
      obtain ⟨g1, s1, s2, s3⟩ := r2 v σ' ho
      have hok := ok_oAt (A := A) (i := i) hW
      rw [ho] at hok
      rw [s1] at e
      simp only [bd_s, show decide ((1 : Int32) = 0) = false from rfl, cond_false] at e
      rw [nI_1] at e
      obtain ⟨g', i', t1, t2, t3, t4⟩ := ih (i + 1) g1 σ' (by omega) s2 hok.2.2 (fun j hj => by rw [s3.1 61 (by omega), s3.1 62 (by omega)]; exact hD j hj) (by rw [s3.1 49 (by omega)]; exact h15)
      exact ⟨g', i', e.trans t1, ⟨fun a ha => (t2.1 a ha).trans (s3.1 a ha), t2.2.trans s3.2⟩, t3, t4⟩
theorem m_does37 {i : Nat} (w3 : Value) (g : mm_H) : ∃ g' w', mm_ev sc i_Mo_does 37 [.ref 49, .int (nI i), .int 0, w3] [] g = mm_ev sc i_Mo_does 37 [.ref 49, .int (nI i), .int (nI 266), w'] [] g' ∧ (∀ a, a ≠ 50 → a ≠ 51 → g'.1 a = g.1 a) ∧ g'.2 = g.2 ∧ ∀ j, j < 266 → g'.1 50 j = g.1 51 j ∧ g'.1 51 j = g.1 50 j := by
  obtain ⟨s1, e1, p1, p2, p3, p4⟩ := fldS (fun x (s : mm_H × Value) => mm_ev sc i_Mo_does 37 [.ref 49, .int (nI i), .int (nI x), s.2] [] s.1) (fun x s => (∀ a, a ≠ 50 → a ≠ 51 → s.1.1 a = g.1 a) ∧ s.1.2 = g.2 ∧ (∀ j, j < x → s.1.1 50 j = g.1 51 j ∧ s.1.1 51 j = g.1 50 j) ∧ ∀ j, x ≤ j → s.1.1 50 j = g.1 50 j ∧ s.1.1 51 j = g.1 51 j) 266 (fun x s hx hs => by
    obtain ⟨p1, p2, p3, p4⟩ := hs
    have e := l_Mo_does_37 sc (nI i) (nI x) s.2 s.1
    rw [show (266 : Int32) = nI 266 from rfl, nI_le_d (by omega) (by omega), decide_eq_false (show ¬ 266 ≤ x by omega), inb_t hx (by omega), i_cl (by omega), nI_1 x, (p4 x (by omega)).1, (p4 x (by omega)).2] at e
    refine ⟨(mm_si (mm_si s.1 50 x (g.1 51 x)) 51 x (g.1 50 x), .int (g.1 50 x)), e, fun a a1 a2 => ?_, p2, fun j hj => ?_, fun j hj => ?_⟩
    · rw [si1, if_neg a2, si1, if_neg a1]
      exact p1 a a1 a2
    · simp only [si1, upd1, show ¬ (50 : Nat) = 51 by omega, show ¬ (51 : Nat) = 50 by omega, if_true, if_false]
      by_cases q : j = x
      · rw [if_pos q, if_pos q, q]
        exact ⟨rfl, rfl⟩
      · rw [if_neg q, if_neg q]
        exact p3 j (by omega)
    · simp only [si1, upd1, show ¬ (50 : Nat) = 51 by omega, show ¬ (51 : Nat) = 50 by omega, if_true, if_false]
      rw [if_neg (by omega), if_neg (by omega)]
      exact p4 j (by omega)) (g, w3) ⟨fun _ _ _ => rfl, rfl, fun j hj => absurd hj (by omega), fun _ _ => ⟨rfl, rfl⟩⟩
  exact ⟨s1.1, s1.2, e1, p1, p2, p3⟩
theorem a_does {γ : Gs} (hI : IM h γ) : ∃ g, mm_cal sc i_Mo_does [.ref 49] h = some (((xDoes γ).1, 0, 0), g) ∧ IM g (xDoes γ).2 ∧ frM h g := by
  obtain ⟨hM, hW, hH, hN⟩ := id hI
  obtain ⟨n1, n2, n3, n4, n5, n6, n7⟩ := id hN
  have hx : TX h γ.2.2.2.2.2.2.1 γ.2.2.2.2.2.2.2 := ⟨n4, n5, n6, n7⟩
  have e := e_Mo_does sc h
  have IR : ∀ g, RB h g → IM g γ := fun g f => ⟨by rw [f.1 50 (by omega) (by omega) (by omega)]; exact hM, hW, MH_of hH (f.2.1 3 (by omega) (by omega)) (f.1 52 (by omega) (by omega) (by omega)), MN_of hN (f.2.1 6 (by omega) (by omega)) (f.1 53 (by omega) (by omega) (by omega)) (f.1 54 (by omega) (by omega) (by omega))⟩
  have FR : ∀ g, RB h g → frM h g := fun g f => ⟨fun a ha => f.1 a (by omega) (by omega) (by omega), by rw [f.2.2]⟩
  unfold xDoes
  rcases m_reads (sc := sc) hx with ⟨g1, p, r1, r2, r3, r4, r5⟩ | ⟨g1, A, r1, r2, r3, r4, r5, r6⟩
  · rw [Nat.sub_zero] at r5
    rw [r5]
    rw [r1] at e
    simp only [bd_s] at e
    rw [r3] at e
    exact ⟨g1, e, IR g1 r2, FR g1 r2⟩
  · rw [Nat.sub_zero] at r2
    rw [r2]
    rw [r1] at e
    have hLA : LA A := la_rdg n7 _ _ _ _ (by omega) (fun i => by show 0 < 128; omega) r2
    have hk : A.1 ≤ 60 := by have := r5.1; omega
    have hNA := r5.2.2.2.2.2.1
    simp only [bd_s, show decide ((1 : Int32) = 0) = false from rfl, cond_false] at e
    have I1 := IR g1 r6
    -- what stands is set aside
    obtain ⟨g2, e2, p1, p2, p3⟩ := fldS (fun x (s : mm_H) => mm_ev sc i_Mo_does 10 [.ref 49, .int (nI x), .null, .null] [] s) (fun x s => (∀ a, a ≠ 51 → s.1 a = g1.1 a) ∧ s.2 = g1.2 ∧ ∀ j, j < x → s.1 51 j = g1.1 50 j) 266 (fun x s hx hs => by
      obtain ⟨p1, p2, p3⟩ := hs
      have e := l_Mo_does_10 sc (nI x) .null .null s
      rw [show (266 : Int32) = nI 266 from rfl, nI_le_d (by omega) (by omega), decide_eq_false (show ¬ 266 ≤ x by omega), inb_t hx (by omega), i_cl (by omega), nI_1 x, p1 50 (by omega)] at e
      refine ⟨_, e, fun a ha => by rw [si1, if_neg ha]; exact p1 a ha, p2, fun j hj => ?_⟩
      rw [si1, if_pos rfl, upd1]
      by_cases q : j = x
      · rw [if_pos q, q]
      · rw [if_neg q]
        exact p3 j (by omega)) g1 ⟨fun _ _ => rfl, rfl, fun j hj => absurd hj (by omega)⟩
    have e3 : mm_ev sc i_Mo_does 10 [.ref 49, .int (nI 266), .null, .null] [] g2 = mm_ev sc i_Mo_does 25 [.ref 49, .int (nI 0), .null, .null] [] g2 := by
      rw [l_Mo_does_10, show (266 : Int32) = nI 266 from rfl, nI_le_d (by omega) (by omega), decide_eq_true (Nat.le_refl _)]
      rfl
    -- the orders
    obtain ⟨g3, i', e4, f3, hi', R⟩ := m_does25 (sc := sc) hLA hNA hk .null .null A.1 0 g2 γ.1 (by omega) (by rw [p1 50 (by omega)]; exact I1.1) hW (fun i hi => by rw [p1 61 (by omega), p1 62 (by omega)]; exact r3 i hi) (by rw [p1 49 (by omega)]; exact r4)
    obtain ⟨g4, w', e5, q1, q2, q3⟩ := m_does37 (sc := sc) (i := i') .null g3
    have all := e.trans (e2.trans (e3.trans (e4.trans e5)))
    have g43 : ∀ a, a ≠ 50 → a ≠ 51 → g4.1 a = g1.1 a := fun a a1 a2 => (q1 a a1 a2).trans ((f3.1 a a1).trans (p1 a a2))
    have g42 : g4.2 = h.2 := q2.trans (f3.2.trans (p2.trans r6.2.2))
    have M4 : Mr (g4.1 50) γ.1 := Mr_of I1.1 hW (fun j hj => by rw [(q3 j hj).1, f3.1 51 (by omega), p3 j hj])
    have H4 : MH g4 γ.2.1 γ.2.2.1 := MH_of I1.2.2.1 (by rw [g43 49 (by omega) (by omega)]) (g43 52 (by omega) (by omega))
    have N4 : MN g4 γ := MN_of I1.2.2.2 (by rw [g43 49 (by omega) (by omega)]) (g43 53 (by omega) (by omega)) (g43 54 (by omega) (by omega))
    have F4 : frM h g4 := ⟨fun a ha => (g43 a (by omega) (by omega)).trans (r6.1 a (by omega) (by omega) (by omega)), by rw [g42]⟩
    have e6 := l_Mo_does_37 sc (nI i') (nI 266) w' g4
    rw [show (266 : Int32) = nI 266 from rfl, nI_le_d (by omega) (by omega), decide_eq_true (Nat.le_refl _), g43 49 (by omega) (by omega), r4, nI_le_d (by omega) (by omega), cond_true] at e6
    dsimp only
    cases hx2 : exo A A.1 0 γ.1 with
    | inl x =>
      rw [hx2] at R
      obtain ⟨z1, z2⟩ := R
      rw [decide_eq_false (show ¬ A.1 ≤ i' by omega), z1] at e6
      rw [z1] at all
      exact ⟨g4, all.trans e6, ⟨M4, hW, H4, N4⟩, F4⟩
    | inr σ' =>
      rw [hx2] at R
      obtain ⟨z1, z2, z3⟩ := R
      rw [decide_eq_true (show A.1 ≤ i' by omega)] at e6
      obtain ⟨g5, l1, l2, l3, l4, l5⟩ := m_leaves (sc := sc) M4 hW H4
      rw [l1] at e6
      simp only [bd_s, cond_true] at e6
      obtain ⟨g6, e7, y1, y2, y3⟩ := fldS (fun x (s : mm_H) => mm_ev sc i_Mo_does 72 [.ref 49, .int (nI i'), .int (nI x), w'] [] s) (fun x s => (∀ a, a ≠ 50 → s.1 a = g5.1 a) ∧ s.2 = g5.2 ∧ ∀ j, j < x → s.1 50 j = g5.1 51 j) 266 (fun x s hx hs => by
        obtain ⟨y1, y2, y3⟩ := hs
        have e := l_Mo_does_72 sc (nI i') (nI x) w' s
        rw [show (266 : Int32) = nI 266 from rfl, nI_le_d (by omega) (by omega), decide_eq_false (show ¬ 266 ≤ x by omega), inb_t hx (by omega), i_cl (by omega), nI_1 x, y1 51 (by omega)] at e
        refine ⟨_, e, fun a ha => by rw [si1, if_neg ha]; exact y1 a ha, y2, fun j hj => ?_⟩
        rw [si1, if_pos rfl, upd1]
        by_cases q : j = x
        · rw [if_pos q, q]
        · rw [if_neg q]
          exact y3 j (by omega)) g5 ⟨fun _ _ => rfl, rfl, fun j hj => absurd hj (by omega)⟩
      have e8 := l_Mo_does_72 sc (nI i') (nI 266) w' g6
      rw [show (266 : Int32) = nI 266 from rfl, nI_le_d (by omega) (by omega), decide_eq_true (Nat.le_refl _), y1 49 (by omega), l4 15 (by omega), g43 49 (by omega) (by omega), r4] at e8
      refine ⟨g6, all.trans (e6.trans (e7.trans e8)), ⟨Mr_of z2 z3 (fun j hj => ?_), z3, MH_of l2 (by rw [y1 49 (by omega)]) (y1 52 (by omega)), ?_⟩, F4.tr ⟨fun a ha => (y1 a (by omega)).trans (l3 a (by omega) (by omega)), by rw [y2, l5]⟩⟩
      · rw [y3 j hj, l3 51 (by omega) (by omega), (q3 j hj).2]
      · obtain ⟨k1, k2, k3, k4, k5, k6, k7⟩ := N4
        refine ⟨?_, ?_, ?_, ?_, k5, ?_, k7⟩
        · rw [y1 53 (by omega), l3 53 (by omega) (by omega)]; exact k1
        · rw [y1 53 (by omega), l3 53 (by omega) (by omega)]; exact k2
        · rw [y1 53 (by omega), l3 53 (by omega) (by omega)]; exact k3
        · rw [y1 49 (by omega), l4 6 (by omega)]; exact k4
        · rw [y1 54 (by omega), l3 54 (by omega) (by omega)]; exact k6
end MDOES
