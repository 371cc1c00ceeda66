/-! the model's digest -/
def frD (h g : mm_H) : Prop := (∀ a, a ≠ 49 → (a < 55 ∨ 60 < a) → g.1 a = h.1 a) ∧ (∀ j, j ≠ 13 → g.1 49 j = h.1 49 j) ∧ g.2.1 = h.2.1
theorem frD.m {h g : mm_H} (h1 : frD h g) : frM h g := ⟨fun a ha => h1.1 a (by omega) (by omega), h1.2.2⟩
theorem Mr_frD {h g : mm_H} {σ : Sg} (hM : Mr (h.1 50) σ) (f : frD h g) : Mr (g.1 50) σ := by
  rw [f.1 50 (by omega) (by omega)]
  exact hM
theorem IM_frD {h g : mm_H} {γ : Gs} (hI : IM h γ) (f : frD h g) : IM g γ := ⟨Mr_frD hI.1 f, hI.2.1, MH_of hI.2.2.1 (f.2.1 3 (by omega)) (f.1 52 (by omega) (by omega)), MN_of hI.2.2.2 (f.2.1 6 (by omega)) (f.1 53 (by omega) (by omega)) (f.1 54 (by omega) (by omega))⟩
section MDIG
variable {sc : Nat × (Nat → Int32)} {g : mm_H} {σ : Sg}
theorem m_mixS (g : mm_H) (v : Int64) (x : Int32) : mm_cal sc i_Mo_mix [.ref 49, .int x] (mm_sl g v) = some ((0, 0, 0), mm_sl g (mx v x)) := e_Mo_mix sc x (mm_sl g v)
theorem m_mixChord {c : Nat} (hM : Mr (g.1 50) σ) (hT : UA g σ) (hW : WF σ) (hc : c < σ.1) (v : Int64) : mm_cal sc i_Mo_mixChord [.ref 49, .int (nI c)] (mm_sl g v) = some ((0, 0, 0), mm_sl g (dTones σ c (dRoot σ c v))) := by
  have hn := hW.1
  have hm := hW.2.2.1 c (by omega)
  have hM' : ∀ v, Mr ((mm_sl g v).1 50) σ := fun _ => hM
  have hT' : ∀ v, UA (mm_sl g v) σ := fun _ => hT
  have cnt : ∀ v, (mm_sl g v).1 50 (2 + c) = nI (σ.2.2.1 c) := fun _ => hM.2.2.1 c (by omega)
  rw [e_Mo_mixChord]
  have e1 := fldL (fun x w => mm_ev sc i_Mo_mixChord 2 [.ref 49, .int (nI c), .int (nI x), .null] [] (mm_sl g w)) (fun k v => mx v (vRoot σ c k)) 7 (fun x w hx => by
    show mm_ev sc i_Mo_mixChord 2 [.ref 49, .int (nI c), .int (nI x), .null] [] (mm_sl g w) = mm_ev sc i_Mo_mixChord 2 [.ref 49, .int (nI c), .int (nI (x + 1)), .null] [] (mm_sl g (mx w (vRoot σ c x)))
    rw [l_Mo_mixChord_2, show (7 : Int32) = nI 7 from rfl, nI_le_d (by omega) (by omega), decide_eq_false (show ¬ 7 ≤ x by omega), m_rootIs (hT' w) hW hc hx]
    simp only [bd_s, cond_false]
    rw [m_mixS, nI_1]
    rfl) v
  refine Eq.trans e1 ?_
  show mm_ev sc i_Mo_mixChord 2 [.ref 49, .int (nI c), .int (nI 7), .null] [] (mm_sl g (fld (fun k v => mx v (vRoot σ c k)) 7 v)) = _
  rw [l_Mo_mixChord_2, show (7 : Int32) = nI 7 from rfl, nI_le_d (by omega) (by omega), decide_eq_true (show 7 ≤ 7 by omega), inb_t (show c < 12 by omega) (by omega), i_cl (show c < 2147483648 by omega), (hT' _).2.1 c hc, m_mixS]
  simp only [bd_s, cond_true]
  obtain ⟨s1, e2, p1⟩ := fldS (fun (x : Nat) (s : Int64 × Value) => mm_ev sc i_Mo_mixChord 21 [.ref 49, .int (nI c), .int (nI x), s.2] [] (mm_sl g s.1)) (fun x s => s.1 = fld (fun t v => dTone σ c t v) x (dRoot σ c v)) (σ.2.2.1 c) (fun x s hx hs => by
    refine ⟨(dTone σ c x s.1, .int (nI 4)), ?_, by rw [hs]; rfl⟩
    show mm_ev sc i_Mo_mixChord 21 [.ref 49, .int (nI c), .int (nI x), s.2] [] (mm_sl g s.1) = mm_ev sc i_Mo_mixChord 21 [.ref 49, .int (nI c), .int (nI (x + 1)), .int (nI 4)] [] (mm_sl g (dTone σ c x s.1))
    rw [l_Mo_mixChord_21, ltt2, nI_add, inb_t (show 2 + c < 266 by omega) (by omega), i_cl (show 2 + c < 2147483648 by omega), cnt, nI_le_d (by omega) (by omega), decide_eq_false (show ¬ σ.2.2.1 c ≤ x by omega), cond_true, cond_false]
    have e := fldL (fun y w => mm_ev sc i_Mo_mixChord 31 [.ref 49, .int (nI c), .int (nI x), .int (nI y)] [] (mm_sl g w)) (fun k v => mx v (σ.2.2.2.1 ((c * 5 + x) * 4 + k))) 4 (fun y w hy => by
      show mm_ev sc i_Mo_mixChord 31 [.ref 49, .int (nI c), .int (nI x), .int (nI y)] [] (mm_sl g w) = mm_ev sc i_Mo_mixChord 31 [.ref 49, .int (nI c), .int (nI x), .int (nI (y + 1))] [] (mm_sl g (mx w (σ.2.2.2.1 ((c * 5 + x) * 4 + y))))
      rw [l_Mo_mixChord_31, ltt4, nI_le_d (by omega) (by omega), decide_eq_false (show ¬ 4 ≤ y by omega), m_place]
      simp only [bd_s, cond_false]
      rw [nI_add, inb_t (show 14 + (c * 5 + x) * 4 + y < 266 by omega) (by omega), i_cl (by omega), Nat.add_assoc 14, (hM' w).2.2.2.1 _ (by omega), m_mixS, nI_1]
      rfl) s.1
    refine Eq.trans e ?_
    show mm_ev sc i_Mo_mixChord 31 [.ref 49, .int (nI c), .int (nI x), .int (nI 4)] [] (mm_sl g (fld (fun k v => mx v (σ.2.2.2.1 ((c * 5 + x) * 4 + k))) 4 s.1)) = _
    rw [l_Mo_mixChord_31, ltt4, nI_le_d (by omega) (by omega), decide_eq_true (show 4 ≤ 4 by omega), ltt5, m_pitchIs (hM' _) (hT' _) hW hc (by omega) (by omega)]
    simp only [bd_s, cond_true]
    rw [m_mixS, nI_1]
    rfl) (dRoot σ c v, .null) rfl
  refine Eq.trans e2 ?_
  show mm_ev sc i_Mo_mixChord 21 [.ref 49, .int (nI c), .int (nI (σ.2.2.1 c)), s1.2] [] (mm_sl g s1.1) = _
  rw [l_Mo_mixChord_21, ltt2, nI_add, inb_t (show 2 + c < 266 by omega) (by omega), i_cl (show 2 + c < 2147483648 by omega), cnt, nI_le_d (by omega) (by omega), decide_eq_true (Nat.le_refl _), cond_true, cond_true]
  have e3 := fldL (fun y w => mm_ev sc i_Mo_mixChord 58 [.ref 49, .int (nI c), .int (nI y), s1.2] [] (mm_sl g w)) (fun t v => mx v (vOrder σ c (nI t))) (σ.2.2.1 c) (fun y w hy => by
    show mm_ev sc i_Mo_mixChord 58 [.ref 49, .int (nI c), .int (nI y), s1.2] [] (mm_sl g w) = mm_ev sc i_Mo_mixChord 58 [.ref 49, .int (nI c), .int (nI (y + 1)), s1.2] [] (mm_sl g (mx w (vOrder σ c (nI y))))
    rw [l_Mo_mixChord_58, ltt2, nI_add, inb_t (show 2 + c < 266 by omega) (by omega), i_cl (show 2 + c < 2147483648 by omega), cnt, nI_le_d (by omega) (by omega), decide_eq_false (show ¬ σ.2.2.1 c ≤ y by omega), m_orderIs (hM' _) hW (by omega)]
    simp only [bd_s, cond_true, cond_false]
    rw [m_mixS, nI_1]
    rfl) s1.1
  refine Eq.trans e3 ?_
  show mm_ev sc i_Mo_mixChord 58 [.ref 49, .int (nI c), .int (nI (σ.2.2.1 c)), s1.2] [] (mm_sl g (fld (fun t v => mx v (vOrder σ c (nI t))) (σ.2.2.1 c) s1.1)) = _
  rw [l_Mo_mixChord_58, ltt2, nI_add, inb_t (show 2 + c < 266 by omega) (by omega), i_cl (show 2 + c < 2147483648 by omega), cnt, nI_le_d (by omega) (by omega), decide_eq_true (Nat.le_refl _), p1]
  rfl
theorem fld_s (f : Nat → Int64 → Int64) (n : Nat) (v : Int64) : fld f (n + 1) v = f n (fld f n v) := rfl
theorem a_digest {h : mm_H} {γ : Gs} (hI : IM h γ) : ∃ g, mm_cal sc i_Mo_digest [.ref 49] h = some ((0, dg γ, 0), g) ∧ IM g γ ∧ frM h g := by
  obtain ⟨hM, hW, hH, hN⟩ := id hI
  have hn := hW.1
  have hnp := np_le γ.1 γ.1.1
  have e0 := e_Mo_digest sc h
  have e1 := fldL (fun x w => mm_ev sc i_Mo_digest 5 [.ref 49, .int (nI x), .null] [] (mm_sl h w)) (fun k v => mx v (vTold γ k)) 5 (fun x w hx => by
    show mm_ev sc i_Mo_digest 5 [.ref 49, .int (nI x), .null] [] (mm_sl h w) = mm_ev sc i_Mo_digest 5 [.ref 49, .int (nI (x + 1)), .null] [] (mm_sl h (mx w (vTold γ x)))
    rw [l_Mo_digest_5, ltt5, nI_le_d (by omega) (by omega), decide_eq_false (show ¬ 5 ≤ x by omega), m_toldIs (h := mm_sl h w) hN hH hx]
    simp only [bd_s, cond_false]
    rw [m_mixS, nI_1]
    rfl) (Int32.toInt64 1775)
  have e2 : mm_ev sc i_Mo_digest 5 [.ref 49, .int (nI 5), .null] [] (mm_sl h (dTold γ (Int32.toInt64 1775))) = mm_ev sc i_Mo_digest 17 [.ref 49, .int 0, .null] [] (mm_sl h (dTold γ (Int32.toInt64 1775))) := by
    rw [l_Mo_digest_5, ltt5, nI_le_d (by omega) (by omega), decide_eq_true (show 5 ≤ 5 by omega)]
    rfl
  obtain ⟨g, e3, p1, p2, p3⟩ := fldS (fun x (s : mm_H) => mm_ev sc i_Mo_digest 17 [.ref 49, .int (nI x), .null] [] s) (fun x s => frD h s ∧ s.2.2 = fld (fun k v => mx v (vCount γ.1 k)) x (dTold γ (Int32.toInt64 1775)) ∧ (0 < x → UA s γ.1)) 6 (fun x s hx hs => by
    obtain ⟨q1, q2, q3⟩ := hs
    obtain ⟨g1, c1, c2, c3⟩ := m_countIs (sc := sc) (Mr_frD hM q1) hW hx
    have e := l_Mo_digest_17 sc (nI x) .null s
    rw [ltt6, nI_le_d (by omega) (by omega), decide_eq_false (show ¬ 6 ≤ x by omega), c1] at e
    simp only [bd_s, cond_false] at e
    rw [m_mix, nI_1] at e
    refine ⟨_, e, ⟨fun a a1 a2 => (c3.1 a a1 a2).trans (q1.1 a a1 a2), fun j hj => (c3.2.1 j hj).trans (q1.2.1 j hj), ?_⟩, ?_, fun _ => c2⟩
    · show g1.2.1 = h.2.1
      rw [c3.2.2]
      exact q1.2.2
    · show mx g1.2.2 (vCount γ.1 x) = _
      rw [c3.2.2, q2]
      rfl) (mm_sl h (dTold γ (Int32.toInt64 1775))) ⟨⟨fun _ _ _ => rfl, fun _ _ => rfl, rfl⟩, rfl, fun q => absurd q (by omega)⟩
  have hT := p3 (by omega)
  have hMg := Mr_frD hM p1
  have e4 : mm_ev sc i_Mo_digest 17 [.ref 49, .int (nI 6), .null] [] g = mm_ev sc i_Mo_digest 29 [.ref 49, .int 0, .null] [] (mm_sl g (dCount γ.1 (dTold γ (Int32.toInt64 1775)))) := by
    rw [l_Mo_digest_17, ltt6, nI_le_d (by omega) (by omega), decide_eq_true (show 6 ≤ 6 by omega), cond_true]
    have : g = mm_sl g (dCount γ.1 (dTold γ (Int32.toInt64 1775))) := by
      show g = (g.1, g.2.1, fld (fun k v => mx v (vCount γ.1 k)) 6 (dTold γ (Int32.toInt64 1775)))
      rw [← p2]
    rw [← this]
  generalize hv : dCount γ.1 (dTold γ (Int32.toInt64 1775)) = v1 at e4
  have n0 : ∀ w, (mm_sl g w).1 50 0 = nI γ.1.1 := fun _ => hMg.1
  have e5 := fldL (fun x w => mm_ev sc i_Mo_digest 29 [.ref 49, .int (nI x), .null] [] (mm_sl g w)) (fun c v => dTones γ.1 c (dRoot γ.1 c v)) γ.1.1 (fun x w hx => by
    show mm_ev sc i_Mo_digest 29 [.ref 49, .int (nI x), .null] [] (mm_sl g w) = mm_ev sc i_Mo_digest 29 [.ref 49, .int (nI (x + 1)), .null] [] (mm_sl g (dTones γ.1 x (dRoot γ.1 x w)))
    rw [l_Mo_digest_29, cl0, n0, nI_le_d (by omega) (by omega), decide_eq_false (show ¬ γ.1.1 ≤ x by omega), m_mixChord hMg hT hW hx, nI_1]
    rfl) v1
  have e6 : mm_ev sc i_Mo_digest 29 [.ref 49, .int (nI γ.1.1), .null] [] (mm_sl g (dChords γ.1 v1)) = mm_ev sc i_Mo_digest 42 [.ref 49, .int (nI 0), .null] [] (mm_sl g (dChords γ.1 v1)) := by
    rw [l_Mo_digest_29, cl0, n0, nI_le_d (by omega) (by omega), decide_eq_true (Nat.le_refl _)]
    rfl
  have e7 : ∀ v, mm_ev sc i_Mo_digest 42 [.ref 49, .int (nI 0), .null] [] (mm_sl g v) = mm_ev sc i_Mo_digest 76 [.ref 49, .int (nI 0), .null] [] (mm_sl g (dTies γ.1 v)) := by
    intro v
    cases hm : γ.1.1 with
    | zero =>
      rw [l_Mo_digest_42, cl0, n0, hm, show decide (nI 0 - 1 ≤ nI 0) = true by decide +kernel]
      unfold dTies
      rw [hm]
      rfl
    | succ m =>
      have e := fldL (fun x w => mm_ev sc i_Mo_digest 42 [.ref 49, .int (nI x), .null] [] (mm_sl g w)) (fun c v => if td γ.1 c = true then mx (mx (mx v (vTie γ.1 c 0)) (vTie γ.1 c 1)) (sh γ.1 c) else v) m (fun x w hx => by
        show mm_ev sc i_Mo_digest 42 [.ref 49, .int (nI x), .null] [] (mm_sl g w) = mm_ev sc i_Mo_digest 42 [.ref 49, .int (nI (x + 1)), .null] [] (mm_sl g (if td γ.1 x = true then mx (mx (mx w (vTie γ.1 x 0)) (vTie γ.1 x 1)) (sh γ.1 x) else w))
        rw [l_Mo_digest_42, cl0, n0, hm, nI_sub1, nI_le_d (by omega) (by omega), decide_eq_false (show ¬ m ≤ x by omega), m_isTied (h := mm_sl g w) hMg hW, tdI_at hn (by omega)]
        simp only [bd_s, b2i_0, cond_false]
        by_cases q : td γ.1 x = true
        · rw [show (γ.1.2.2.2.2 x).isSome = true from q, if_pos q, show (0 : Int32) = nI 0 from rfl, m_tieIs (h := mm_sl g w) hMg hW (by omega) (by omega)]
          simp only [bd_s, Bool.not_true, cond_false]
          rw [m_mixS]
          simp only [bd_s]
          rw [ltt1, m_tieIs (h := mm_sl g (mx w (vTie γ.1 x 0))) hMg hW (by omega) (by omega)]
          simp only [bd_s]
          rw [m_mixS]
          simp only [bd_s]
          rw [inb_t (show x < 12 by omega) (by omega), i_cl (by omega), show ∀ w, (mm_sl g w).1 59 x = sh γ.1 x from fun w => (hT.2.2 x (by omega)).trans (if_pos q), m_mixS, nI_add]
          rfl
        · rw [show (γ.1.2.2.2.2 x).isSome = false from Bool.eq_false_iff.mpr q, if_neg q, nI_1]
          rfl) v
      refine e.trans ?_
      have htd : ¬ td γ.1 m = true := by
        intro q
        obtain ⟨⟨i, j⟩, hij⟩ := Option.isSome_iff_exists.mp q
        have := (hW.2.2.2.2 m i j hij).1
        omega
      have ed : dTies γ.1 v = fld (fun c v => if td γ.1 c = true then mx (mx (mx v (vTie γ.1 c 0)) (vTie γ.1 c 1)) (sh γ.1 c) else v) m v := by
        unfold dTies
        rw [hm, fld_s, if_neg htd]
      rw [ed]
      rw [l_Mo_digest_42, cl0, n0, hm, nI_sub1, nI_le_d (by omega) (by omega), decide_eq_true (Nat.le_refl _)]
      rfl
  have c13 : ∀ w, (mm_sl g w).1 49 13 = nI (np γ.1 γ.1.1) := fun _ => hT.1.1
  have e8 : ∀ v, mm_ev sc i_Mo_digest 76 [.ref 49, .int (nI 0), .null] [] (mm_sl g v) = some ((0, dParts γ.1 v, 0), mm_sl g (dParts γ.1 v)) := by
    intro v
    obtain ⟨s1, e1, q1⟩ := fldS (fun (x : Nat) (s : Int64 × Value) => mm_ev sc i_Mo_digest 76 [.ref 49, .int (nI x), s.2] [] (mm_sl g s.1)) (fun x s => s.1 = fld (fun p v => fld (fun k v => mx v (vPart γ.1 p k)) 4 v) x v) (np γ.1 γ.1.1) (fun x s hx hs => by
      refine ⟨(fld (fun k v => mx v (vPart γ.1 x k)) 4 s.1, .int (nI 4)), ?_, by rw [hs]; rfl⟩
      show mm_ev sc i_Mo_digest 76 [.ref 49, .int (nI x), s.2] [] (mm_sl g s.1) = mm_ev sc i_Mo_digest 76 [.ref 49, .int (nI (x + 1)), .int (nI 4)] [] (mm_sl g (fld (fun k v => mx v (vPart γ.1 x k)) 4 s.1))
      rw [l_Mo_digest_76, c13, nI_le_d (by omega) (by omega), decide_eq_false (show ¬ np γ.1 γ.1.1 ≤ x by omega), cond_false]
      have e := fldL (fun y w => mm_ev sc i_Mo_digest 82 [.ref 49, .int (nI x), .int (nI y)] [] (mm_sl g w)) (fun k v => mx v (vPart γ.1 x k)) 4 (fun y w hy => by
        show mm_ev sc i_Mo_digest 82 [.ref 49, .int (nI x), .int (nI y)] [] (mm_sl g w) = mm_ev sc i_Mo_digest 82 [.ref 49, .int (nI x), .int (nI (y + 1))] [] (mm_sl g (mx w (vPart γ.1 x y)))
        rw [l_Mo_digest_82, ltt4, nI_le_d (by omega) (by omega), decide_eq_false (show ¬ 4 ≤ y by omega), m_partIs (h := mm_sl g w) hT hW hx hy]
        simp only [bd_s, cond_false]
        rw [m_mixS, nI_1 y]
        rfl) s.1
      refine Eq.trans e ?_
      rw [l_Mo_digest_82, ltt4, nI_le_d (by omega) (by omega), decide_eq_true (show 4 ≤ 4 by omega), nI_1]
      rfl) (v, .null) rfl
    refine e1.trans ?_
    rw [l_Mo_digest_76, c13, nI_le_d (by omega) (by omega), decide_eq_true (Nat.le_refl _), q1]
    rfl
  have ed : dg γ = dParts γ.1 (dTies γ.1 (dChords γ.1 (dCount γ.1 (dTold γ (Int32.toInt64 1775))))) := rfl
  rw [hv] at ed
  rw [ed]
  exact ⟨_, e0.trans (e1.trans (e2.trans (e3.trans (e4.trans (e5.trans (e6.trans ((e7 _).trans (e8 _)))))))), IM_frD hI (g := mm_sl g _) p1, frD.m (g := mm_sl g _) p1⟩
end MDIG
