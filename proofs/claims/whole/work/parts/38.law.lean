/-! the law: the class and the model answer alike, call after call -/
theorem IM_frC {h g : mm_H} {γ : Gs} (hI : IM h γ) (f : frC h g) : IM g γ := ⟨by rw [f.1 50 (by omega)]; exact hI.1, hI.2.1, MH_of hI.2.2.1 (by rw [f.1 49 (by omega)]) (f.1 52 (by omega)), MN_of hI.2.2.2 (by rw [f.1 49 (by omega)]) (f.1 53 (by omega)) (f.1 54 (by omega))⟩
theorem IC_frM {h g : mm_H} {γ : Gs} (hI : IC h γ) (f : frM h g) : IC g γ := ⟨CC_of hI.1 (fun a ha => f.1 a (by omega)), hI.2.1, TU_of hI.2.2.1 (fun a ha => f.1 a (by omega)), HI_of hI.2.2.2.1 (by rw [f.1 1 (by omega)]) f.2 (fun b hb a ha => by
  have := hI.2.2.2.1.2.2.1 b (by have := hI.2.2.2.1.2.1; omega)
  exact f.1 a (by omega)), CN_of hI.2.2.2.2 (f.1 0 (by omega)) (f.1 5 (by omega))⟩
theorem law_op {γ γ' : Gs} {a : Int32} {Fc Fm : mm_H → Option mm_R} {K : mm_H → Option mm_R} {h : mm_H} (iC : IC h γ) (iM : IM h γ) (hc : ∀ h, IC h γ → ∃ g, Fc h = some ((a, 0, 0), g) ∧ IC g γ' ∧ frC h g) (hm : ∀ h, IM h γ → ∃ g, Fm h = some ((a, 0, 0), g) ∧ IM g γ' ∧ frM h g) : ∃ g, IC g γ' ∧ IM g γ' ∧ mm_bd (Fc h) (fun r1 => mm_bd (Fm r1.2) (fun r2 => bif decide (r1.1.1 = r2.1.1) then K r2.2 else some ((0, 0, 0), r2.2))) = K g := by
  obtain ⟨g1, e1, c1, f1⟩ := hc h iC
  obtain ⟨g2, e2, c2, f2⟩ := hm g1 (IM_frC iM f1)
  refine ⟨g2, IC_frM c1 f2, c2, ?_⟩
  rw [e1]
  simp only [bd_s]
  rw [e2]
  simp only [bd_s, decide_true, cond_true]
theorem lg_cmp_s (v : Int64) : lg_cmp v v = 0 := by
  unfold lg_cmp
  simp
theorem law_dg {γ : Gs} {sc : Nat × (Nat → Int32)} {K : mm_H → Option mm_R} {h : mm_H} (iC : IC h γ) (iM : IM h γ) : ∃ g, IC g γ ∧ IM g γ ∧ mm_bd (mm_cal sc i_Co_digest [.ref 0] h) (fun r1 => mm_bd (mm_cal sc i_Mo_digest [.ref 49] r1.2) (fun r2 => bif decide (lg_cmp r1.1.2.1 r2.1.2.1 = 0) then K r2.2 else some ((0, 0, 0), r2.2))) = K g := by
  obtain ⟨g2, e2, c2, f2⟩ := a_digest (sc := sc) iM
  refine ⟨g2, IC_frM iC f2, c2, ?_⟩
  rw [g_digest iC]
  simp only [bd_s]
  rw [e2]
  simp only [bd_s, lg_cmp_s, decide_true, cond_true]
theorem law_run (sc : Nat × (Nat → Int32)) (hn : sc.1 < 2147483648) : ∀ d i h γ, sc.1 - i < d → i ≤ sc.1 → IC h γ → IM h γ → ∃ g, mm_ev sc i_La_law 10 [.ref 65, .ref 0, .ref 49, .int (nI i)] [] h = some ((1, 0, 0), g) := by
  intro d
  induction d with
  | zero => intro i h γ hd; omega
  | succ d ih =>
    intro i h γ hd hi iC iM
    have e := l_La_law_10 sc (nI i) h
    have es : (nI sc.1 - 5).toInt = (sc.1 : Int) - 5 := by
      have z5 : (5 : Int32).toInt = 5 := rfl
      rw [i_sub (by rw [i_nI hn, z5]; omega) (by rw [i_nI hn, z5]; omega), i_nI hn, z5]
    by_cases q : sc.1 < i + 5
    · rw [decide_eq_true (by rw [i_lt, es, i_nI (by omega)]; omega), cond_true] at e
      exact ⟨h, e⟩
    · rw [decide_eq_false (by rw [i_lt, es, i_nI (by omega)]; omega), cond_false] at e
      have a1 : nI i + 1 = nI (i + 1) := nI_1 i
      have a2 : nI i + 2 = nI (i + 2) := nI_add i 2
      have a3 : nI i + 3 = nI (i + 3) := nI_add i 3
      have a4 : nI i + 4 = nI (i + 4) := nI_add i 4
      have a5 : nI i + 5 = nI (i + 5) := nI_add i 5
      rw [a1, a2, a3, a4, a5, inb_t (show i < sc.1 by omega) (by omega), inb_t (show i + 1 < sc.1 by omega) (by omega), inb_t (show i + 2 < sc.1 by omega) (by omega), inb_t (show i + 3 < sc.1 by omega) (by omega), inb_t (show i + 4 < sc.1 by omega) (by omega)] at e
      simp only [cond_true] at e
      have nx : ∀ g γ', IC g γ' → IM g γ' → ∃ k, mm_ev sc i_La_law 10 [.ref 65, .ref 0, .ref 49, .int (nI (i + 5))] [] g = some ((1, 0, 0), k) := fun g γ' h1 h2 => ih (i + 5) g γ' (by omega) (by omega) h1 h2
      generalize mm_ro sc 65 (nI i).toNatClampNeg &&& 31 = o at e
      generalize mm_ro sc 65 (nI (i + 1)).toNatClampNeg = x1 at e
      generalize mm_ro sc 65 (nI (i + 2)).toNatClampNeg = x2 at e
      generalize mm_ro sc 65 (nI (i + 3)).toNatClampNeg = x3 at e
      generalize mm_ro sc 65 (nI (i + 4)).toNatClampNeg = x4 at e
      by_cases o0 : o = 0
      · rw [decide_eq_true o0, cond_true] at e
        obtain ⟨g, h1, h2, h3⟩ := law_op (Fc := fun h => mm_cal sc i_Co_chord [.ref 0] h) (Fm := fun h => mm_cal sc i_Mo_chord [.ref 49] h) (K := fun g => mm_ev sc i_La_law 10 [.ref 65, .ref 0, .ref 49, .int (nI (i + 5))] [] g) iC iM (fun h hI => c_chord hI ) (fun h hI => a_chord hI )
        obtain ⟨k, hk⟩ := nx g _ h1 h2
        exact ⟨k, e.trans (h3.trans hk)⟩
      rw [decide_eq_false o0, cond_false] at e
      by_cases o1 : o = 1
      · rw [decide_eq_true o1, cond_true] at e
        obtain ⟨g, h1, h2, h3⟩ := law_op (Fc := fun h => mm_cal sc i_Co_tone [.ref 0, .int x1, .int x2, .int x3] h) (Fm := fun h => mm_cal sc i_Mo_tone [.ref 49, .int x1, .int x2, .int x3] h) (K := fun g => mm_ev sc i_La_law 10 [.ref 65, .ref 0, .ref 49, .int (nI (i + 5))] [] g) iC iM (fun h hI => c_tone hI x1 x2 x3) (fun h hI => a_tone hI x1 x2 x3)
        obtain ⟨k, hk⟩ := nx g _ h1 h2
        exact ⟨k, e.trans (h3.trans hk)⟩
      rw [decide_eq_false o1, cond_false] at e
      by_cases o2 : o = 2
      · rw [decide_eq_true o2, cond_true] at e
        obtain ⟨g, h1, h2, h3⟩ := law_op (Fc := fun h => mm_cal sc i_Co_tunes [.ref 0, .int x1, .int x2, .int x3, .int x4] h) (Fm := fun h => mm_cal sc i_Mo_tunes [.ref 49, .int x1, .int x2, .int x3, .int x4] h) (K := fun g => mm_ev sc i_La_law 10 [.ref 65, .ref 0, .ref 49, .int (nI (i + 5))] [] g) iC iM (fun h hI => c_tunes hI x1 x2 x3 x4) (fun h hI => a_tunes hI x1 x2 x3 x4)
        obtain ⟨k, hk⟩ := nx g _ h1 h2
        exact ⟨k, e.trans (h3.trans hk)⟩
      rw [decide_eq_false o2, cond_false] at e
      by_cases o3 : o = 3
      · rw [decide_eq_true o3, cond_true] at e
        obtain ⟨g, h1, h2, h3⟩ := law_op (Fc := fun h => mm_cal sc i_Co_holds [.ref 0, .int x1, .int x2, .int x3] h) (Fm := fun h => mm_cal sc i_Mo_holds [.ref 49, .int x1, .int x2, .int x3] h) (K := fun g => mm_ev sc i_La_law 10 [.ref 65, .ref 0, .ref 49, .int (nI (i + 5))] [] g) iC iM (fun h hI => c_holds hI x1 x2 x3) (fun h hI => a_holds hI x1 x2 x3)
        obtain ⟨k, hk⟩ := nx g _ h1 h2
        exact ⟨k, e.trans (h3.trans hk)⟩
      rw [decide_eq_false o3, cond_false] at e
      by_cases o4 : o = 4
      · rw [decide_eq_true o4, cond_true] at e
        obtain ⟨g, h1, h2, h3⟩ := law_op (Fc := fun h => mm_cal sc i_Co_frees [.ref 0, .int x1] h) (Fm := fun h => mm_cal sc i_Mo_frees [.ref 49, .int x1] h) (K := fun g => mm_ev sc i_La_law 10 [.ref 65, .ref 0, .ref 49, .int (nI (i + 5))] [] g) iC iM (fun h hI => c_frees hI x1) (fun h hI => a_frees hI x1)
        obtain ⟨k, hk⟩ := nx g _ h1 h2
        exact ⟨k, e.trans (h3.trans hk)⟩
      rw [decide_eq_false o4, cond_false] at e
      by_cases o5 : o = 5
      · rw [decide_eq_true o5, cond_true] at e
        obtain ⟨g, h1, h2, h3⟩ := law_op (Fc := fun h => mm_cal sc i_Co_drops [.ref 0] h) (Fm := fun h => mm_cal sc i_Mo_drops [.ref 49] h) (K := fun g => mm_ev sc i_La_law 10 [.ref 65, .ref 0, .ref 49, .int (nI (i + 5))] [] g) iC iM (fun h hI => c_drops hI ) (fun h hI => a_drops hI )
        obtain ⟨k, hk⟩ := nx g _ h1 h2
        exact ⟨k, e.trans (h3.trans hk)⟩
      rw [decide_eq_false o5, cond_false] at e
      by_cases o6 : o = 6
      · rw [decide_eq_true o6, cond_true] at e
        obtain ⟨g, h1, h2, h3⟩ := law_op (Fc := fun h => mm_cal sc i_Co_limit [.ref 0, .int x1] h) (Fm := fun h => mm_cal sc i_Mo_limit [.ref 49, .int x1] h) (K := fun g => mm_ev sc i_La_law 10 [.ref 65, .ref 0, .ref 49, .int (nI (i + 5))] [] g) iC iM (fun h hI => c_limit hI x1) (fun h hI => a_limit hI x1)
        obtain ⟨k, hk⟩ := nx g _ h1 h2
        exact ⟨k, e.trans (h3.trans hk)⟩
      rw [decide_eq_false o6, cond_false] at e
      by_cases o7 : o = 7
      · rw [decide_eq_true o7, cond_true] at e
        obtain ⟨g, h1, h2, h3⟩ := law_op (Fc := fun h => mm_cal sc i_Co_of [.ref 0, .int x1, .int x2, .int x3] h) (Fm := fun h => mm_cal sc i_Mo_of [.ref 49, .int x1, .int x2, .int x3] h) (K := fun g => mm_ev sc i_La_law 10 [.ref 65, .ref 0, .ref 49, .int (nI (i + 5))] [] g) iC iM (fun h hI => c_get hI (g_of hI.1 hI.2.1 x1 x2 x3)) (fun h hI => a_of hI x1 x2 x3)
        obtain ⟨k, hk⟩ := nx g _ h1 h2
        exact ⟨k, e.trans (h3.trans hk)⟩
      rw [decide_eq_false o7, cond_false] at e
      by_cases o8 : o = 8
      · rw [decide_eq_true o8, cond_true] at e
        obtain ⟨g, h1, h2, h3⟩ := law_op (Fc := fun h => mm_cal sc i_Co_root [.ref 0, .int x1, .int x2] h) (Fm := fun h => mm_cal sc i_Mo_root [.ref 49, .int x1, .int x2] h) (K := fun g => mm_ev sc i_La_law 10 [.ref 65, .ref 0, .ref 49, .int (nI (i + 5))] [] g) iC iM (fun h hI => c_get hI (g_root hI.1 hI.2.2.1 hI.2.1 x1 x2)) (fun h hI => a_root hI x1 x2)
        obtain ⟨k, hk⟩ := nx g _ h1 h2
        exact ⟨k, e.trans (h3.trans hk)⟩
      rw [decide_eq_false o8, cond_false] at e
      by_cases o9 : o = 9
      · rw [decide_eq_true o9, cond_true] at e
        obtain ⟨g, h1, h2, h3⟩ := law_op (Fc := fun h => mm_cal sc i_Co_pitch [.ref 0, .int x1, .int x2, .int x3] h) (Fm := fun h => mm_cal sc i_Mo_pitch [.ref 49, .int x1, .int x2, .int x3] h) (K := fun g => mm_ev sc i_La_law 10 [.ref 65, .ref 0, .ref 49, .int (nI (i + 5))] [] g) iC iM (fun h hI => c_get hI (g_pitch hI.1 hI.2.2.1 hI.2.1 x1 x2 x3)) (fun h hI => a_pitch hI x1 x2 x3)
        obtain ⟨k, hk⟩ := nx g _ h1 h2
        exact ⟨k, e.trans (h3.trans hk)⟩
      rw [decide_eq_false o9, cond_false] at e
      by_cases o10 : o = 10
      · rw [decide_eq_true o10, cond_true] at e
        obtain ⟨g, h1, h2, h3⟩ := law_op (Fc := fun h => mm_cal sc i_Co_tie [.ref 0, .int x1, .int x2] h) (Fm := fun h => mm_cal sc i_Mo_tie [.ref 49, .int x1, .int x2] h) (K := fun g => mm_ev sc i_La_law 10 [.ref 65, .ref 0, .ref 49, .int (nI (i + 5))] [] g) iC iM (fun h hI => c_get hI (g_tie hI.1 hI.2.1 x1 x2)) (fun h hI => a_tie hI x1 x2)
        obtain ⟨k, hk⟩ := nx g _ h1 h2
        exact ⟨k, e.trans (h3.trans hk)⟩
      rw [decide_eq_false o10, cond_false] at e
      by_cases o11 : o = 11
      · rw [decide_eq_true o11, cond_true] at e
        obtain ⟨g, h1, h2, h3⟩ := law_op (Fc := fun h => mm_cal sc i_Co_loop [.ref 0, .int x1, .int x2, .int x3] h) (Fm := fun h => mm_cal sc i_Mo_loop [.ref 49, .int x1, .int x2, .int x3] h) (K := fun g => mm_ev sc i_La_law 10 [.ref 65, .ref 0, .ref 49, .int (nI (i + 5))] [] g) iC iM (fun h hI => c_get hI (g_loop hI.1 hI.2.2.1 hI.2.1 x1 x2 x3)) (fun h hI => a_loop hI x1 x2 x3)
        obtain ⟨k, hk⟩ := nx g _ h1 h2
        exact ⟨k, e.trans (h3.trans hk)⟩
      rw [decide_eq_false o11, cond_false] at e
      by_cases o12 : o = 12
      · rw [decide_eq_true o12, cond_true] at e
        obtain ⟨g, h1, h2, h3⟩ := law_op (Fc := fun h => mm_cal sc i_Co_part [.ref 0, .int x1, .int x2] h) (Fm := fun h => mm_cal sc i_Mo_part [.ref 49, .int x1, .int x2] h) (K := fun g => mm_ev sc i_La_law 10 [.ref 65, .ref 0, .ref 49, .int (nI (i + 5))] [] g) iC iM (fun h hI => c_get hI (g_part hI.2.2.1 hI.2.1 x1 x2)) (fun h hI => a_part hI x1 x2)
        obtain ⟨k, hk⟩ := nx g _ h1 h2
        exact ⟨k, e.trans (h3.trans hk)⟩
      rw [decide_eq_false o12, cond_false] at e
      by_cases o13 : o = 13
      · rw [decide_eq_true o13, cond_true] at e
        obtain ⟨g, h1, h2, h3⟩ := law_op (Fc := fun h => mm_cal sc i_Co_share [.ref 0, .int x1] h) (Fm := fun h => mm_cal sc i_Mo_share [.ref 49, .int x1] h) (K := fun g => mm_ev sc i_La_law 10 [.ref 65, .ref 0, .ref 49, .int (nI (i + 5))] [] g) iC iM (fun h hI => c_get hI (g_share hI.1 hI.2.2.1 hI.2.1 x1)) (fun h hI => a_share hI x1)
        obtain ⟨k, hk⟩ := nx g _ h1 h2
        exact ⟨k, e.trans (h3.trans hk)⟩
      rw [decide_eq_false o13, cond_false] at e
      by_cases o14 : o = 14
      · rw [decide_eq_true o14, cond_true] at e
        obtain ⟨g, h1, h2, h3⟩ := law_op (Fc := fun h => mm_cal sc i_Co_set [.ref 0, .int x1] h) (Fm := fun h => mm_cal sc i_Mo_set [.ref 49, .int x1] h) (K := fun g => mm_ev sc i_La_law 10 [.ref 65, .ref 0, .ref 49, .int (nI (i + 5))] [] g) iC iM (fun h hI => c_get hI (g_set hI.1 hI.2.2.1 hI.2.1 x1)) (fun h hI => a_set hI x1)
        obtain ⟨k, hk⟩ := nx g _ h1 h2
        exact ⟨k, e.trans (h3.trans hk)⟩
      rw [decide_eq_false o14, cond_false] at e
      by_cases o15 : o = 15
      · rw [decide_eq_true o15, cond_true] at e
        obtain ⟨g, h1, h2, h3⟩ := law_op (Fc := fun h => mm_cal sc i_Co_count [.ref 0, .int x1] h) (Fm := fun h => mm_cal sc i_Mo_count [.ref 49, .int x1] h) (K := fun g => mm_ev sc i_La_law 10 [.ref 65, .ref 0, .ref 49, .int (nI (i + 5))] [] g) iC iM (fun h hI => c_get hI (g_count hI.1 hI.2.2.1 hI.2.1 x1)) (fun h hI => a_count hI x1)
        obtain ⟨k, hk⟩ := nx g _ h1 h2
        exact ⟨k, e.trans (h3.trans hk)⟩
      rw [decide_eq_false o15, cond_false] at e
      by_cases o16 : o = 16
      · rw [decide_eq_true o16, cond_true] at e
        obtain ⟨g, h1, h2, h3⟩ := law_op (Fc := fun h => mm_cal sc i_Co_interval [.ref 0, .int x1, .int x2, .int x3, .int x4] h) (Fm := fun h => mm_cal sc i_Mo_interval [.ref 49, .int x1, .int x2, .int x3, .int x4] h) (K := fun g => mm_ev sc i_La_law 10 [.ref 65, .ref 0, .ref 49, .int (nI (i + 5))] [] g) iC iM (fun h hI => c_get hI (g_interval hI.1 hI.2.1 x1 x2 x3 x4)) (fun h hI => a_interval hI x1 x2 x3 x4)
        obtain ⟨k, hk⟩ := nx g _ h1 h2
        exact ⟨k, e.trans (h3.trans hk)⟩
      rw [decide_eq_false o16, cond_false] at e
      by_cases o17 : o = 17
      · rw [decide_eq_true o17, cond_true] at e
        obtain ⟨g, h1, h2, h3⟩ := law_op (Fc := fun h => mm_cal sc i_Co_order [.ref 0, .int x1, .int x2] h) (Fm := fun h => mm_cal sc i_Mo_order [.ref 49, .int x1, .int x2] h) (K := fun g => mm_ev sc i_La_law 10 [.ref 65, .ref 0, .ref 49, .int (nI (i + 5))] [] g) iC iM (fun h hI => c_get hI (g_order hI.1 hI.2.1 x1 x2)) (fun h hI => a_order hI x1 x2)
        obtain ⟨k, hk⟩ := nx g _ h1 h2
        exact ⟨k, e.trans (h3.trans hk)⟩
      rw [decide_eq_false o17, cond_false] at e
      by_cases o18 : o = 18
      · rw [decide_eq_true o18, cond_true] at e
        obtain ⟨g, h1, h2, h3⟩ := law_op (Fc := fun h => mm_cal sc i_Co_voice [.ref 0, .int x1, .int x2] h) (Fm := fun h => mm_cal sc i_Mo_voice [.ref 49, .int x1, .int x2] h) (K := fun g => mm_ev sc i_La_law 10 [.ref 65, .ref 0, .ref 49, .int (nI (i + 5))] [] g) iC iM (fun h hI => c_get hI (g_voice hI.1 hI.2.1 x1 x2)) (fun h hI => a_voice hI x1 x2)
        obtain ⟨k, hk⟩ := nx g _ h1 h2
        exact ⟨k, e.trans (h3.trans hk)⟩
      rw [decide_eq_false o18, cond_false] at e
      by_cases o19 : o = 19
      · rw [decide_eq_true o19, cond_true] at e
        obtain ⟨g, h1, h2, h3⟩ := law_op (Fc := fun h => mm_cal sc i_Co_leap [.ref 0, .int x1, .int x2] h) (Fm := fun h => mm_cal sc i_Mo_leap [.ref 49, .int x1, .int x2] h) (K := fun g => mm_ev sc i_La_law 10 [.ref 65, .ref 0, .ref 49, .int (nI (i + 5))] [] g) iC iM (fun h hI => c_get hI (g_leap hI.1 hI.2.2.1 hI.2.1 x1 x2)) (fun h hI => a_leap hI x1 x2)
        obtain ⟨k, hk⟩ := nx g _ h1 h2
        exact ⟨k, e.trans (h3.trans hk)⟩
      rw [decide_eq_false o19, cond_false] at e
      by_cases o20 : o = 20
      · rw [decide_eq_true o20, cond_true] at e
        obtain ⟨g, h1, h2, h3⟩ := law_op (Fc := fun h => mm_cal sc i_Co_type [.ref 0, .int x1] h) (Fm := fun h => mm_cal sc i_Mo_type [.ref 49, .int x1] h) (K := fun g => mm_ev sc i_La_law 10 [.ref 65, .ref 0, .ref 49, .int (nI (i + 5))] [] g) iC iM (fun h hI => c_type hI x1) (fun h hI => a_type hI x1)
        obtain ⟨k, hk⟩ := nx g _ h1 h2
        exact ⟨k, e.trans (h3.trans hk)⟩
      rw [decide_eq_false o20, cond_false] at e
      by_cases o21 : o = 21
      · rw [decide_eq_true o21, cond_true] at e
        obtain ⟨g, h1, h2, h3⟩ := law_op (Fc := fun h => mm_cal sc i_Co_clear [.ref 0] h) (Fm := fun h => mm_cal sc i_Mo_clear [.ref 49] h) (K := fun g => mm_ev sc i_La_law 10 [.ref 65, .ref 0, .ref 49, .int (nI (i + 5))] [] g) iC iM (fun h hI => c_clear hI ) (fun h hI => a_clear hI )
        obtain ⟨k, hk⟩ := nx g _ h1 h2
        exact ⟨k, e.trans (h3.trans hk)⟩
      rw [decide_eq_false o21, cond_false] at e
      by_cases o22 : o = 22
      · rw [decide_eq_true o22, cond_true] at e
        obtain ⟨g, h1, h2, h3⟩ := law_op (Fc := fun h => mm_cal sc i_Co_does [.ref 0] h) (Fm := fun h => mm_cal sc i_Mo_does [.ref 49] h) (K := fun g => mm_ev sc i_La_law 10 [.ref 65, .ref 0, .ref 49, .int (nI (i + 5))] [] g) iC iM (fun h hI => c_does hI ) (fun h hI => a_does hI )
        obtain ⟨k, hk⟩ := nx g _ h1 h2
        exact ⟨k, e.trans (h3.trans hk)⟩
      rw [decide_eq_false o22, cond_false] at e
      by_cases o23 : o = 23
      · rw [decide_eq_true o23, cond_true] at e
        obtain ⟨g, h1, h2, h3⟩ := law_op (Fc := fun h => mm_cal sc i_Co_back [.ref 0] h) (Fm := fun h => mm_cal sc i_Mo_back [.ref 49] h) (K := fun g => mm_ev sc i_La_law 10 [.ref 65, .ref 0, .ref 49, .int (nI (i + 5))] [] g) iC iM (fun h hI => c_back hI ) (fun h hI => a_back hI )
        obtain ⟨k, hk⟩ := nx g _ h1 h2
        exact ⟨k, e.trans (h3.trans hk)⟩
      rw [decide_eq_false o23, cond_false] at e
      by_cases o24 : o = 24
      · rw [decide_eq_true o24, cond_true] at e
        obtain ⟨g, h1, h2, h3⟩ := law_op (Fc := fun h => mm_cal sc i_Co_told [.ref 0, .int x1] h) (Fm := fun h => mm_cal sc i_Mo_told [.ref 49, .int x1] h) (K := fun g => mm_ev sc i_La_law 10 [.ref 65, .ref 0, .ref 49, .int (nI (i + 5))] [] g) iC iM (fun h hI => c_get hI (g_told hI x1)) (fun h hI => a_told hI x1)
        obtain ⟨k, hk⟩ := nx g _ h1 h2
        exact ⟨k, e.trans (h3.trans hk)⟩
      rw [decide_eq_false o24, cond_false] at e
      by_cases o25 : o = 25
      · rw [decide_eq_true o25, cond_true] at e
        obtain ⟨g, h1, h2, h3⟩ := law_dg (sc := sc) (K := fun g => mm_ev sc i_La_law 10 [.ref 65, .ref 0, .ref 49, .int (nI (i + 5))] [] g) iC iM
        obtain ⟨k, hk⟩ := nx g _ h1 h2
        exact ⟨k, e.trans (h3.trans hk)⟩
      rw [decide_eq_false o25, cond_false] at e
      obtain ⟨k, hk⟩ := nx h γ iC iM
      exact ⟨k, e.trans hk⟩
