/-! the model: what holds between its calls; its changing calls -/
def Mr (f : Nat → Int32) (σ : Sg) : Prop := f 0 = nI σ.1 ∧ f 1 = nI σ.2.1 ∧ (∀ x, x < 12 → f (2 + x) = nI (σ.2.2.1 x)) ∧ (∀ x, x < 240 → f (14 + x) = σ.2.2.2.1 x) ∧ ∀ x, x < σ.1 → (σ.2.2.2.2 x = none → f (254 + x) = -1) ∧ ∀ i j, σ.2.2.2.2 x = some (i, j) → f (254 + x) = nI (5 * i + j)
theorem Mr_of {f g : Nat → Int32} {σ : Sg} (hM : Mr f σ) (hW : WF σ) (e : ∀ j, j < 266 → g j = f j) : Mr g σ := by
  have hn := hW.1
  refine ⟨?_, ?_, fun x hx => ?_, fun x hx => ?_, fun x hx => ⟨fun q => ?_, fun i j q => ?_⟩⟩
  · rw [e 0 (by omega)]; exact hM.1
  · rw [e 1 (by omega)]; exact hM.2.1
  · rw [e _ (by omega)]; exact hM.2.2.1 x hx
  · rw [e _ (by omega)]; exact hM.2.2.2.1 x hx
  · rw [e _ (by omega)]; exact (hM.2.2.2.2 x hx).1 q
  · rw [e _ (by omega)]; exact (hM.2.2.2.2 x hx).2 i j q
def MH (h : mm_H) (k : Nat) (hs : Nat → Sg) : Prop := h.1 49 3 = nI k ∧ k ≤ 5 ∧ ∀ a, a < k → Mr (fun j => h.1 52 (266 * a + j)) (hs a) ∧ WF (hs a)
def MN (h : mm_H) (γ : Gs) : Prop := h.1 53 0 = γ.2.2.2.1 ∧ h.1 53 1 = γ.2.2.2.2.1 ∧ h.1 53 2 = γ.2.2.2.2.2.1 ∧ h.1 49 6 = nI γ.2.2.2.2.2.2.1 ∧ γ.2.2.2.2.2.2.1 ≤ 120 ∧ (∀ j, j < γ.2.2.2.2.2.2.1 → h.1 54 j = γ.2.2.2.2.2.2.2 j) ∧ ∀ j, j < γ.2.2.2.2.2.2.1 → mm_inb (γ.2.2.2.2.2.2.2 j) 128 = true
def IM (h : mm_H) (γ : Gs) : Prop := Mr (h.1 50) γ.1 ∧ WF γ.1 ∧ MH h γ.2.1 γ.2.2.1 ∧ MN h γ
def frM (h g : mm_H) : Prop := (∀ a, a < 49 → g.1 a = h.1 a) ∧ g.2.1 = h.2.1
theorem frM.rf {h : mm_H} : frM h h := ⟨fun _ _ => rfl, rfl⟩
theorem frM.tr {h g k : mm_H} (h1 : frM h g) (h2 : frM g k) : frM h k := ⟨fun a x => (h2.1 a x).trans (h1.1 a x), h2.2.trans h1.2⟩
def fr50 (h g : mm_H) : Prop := (∀ a, a ≠ 50 → g.1 a = h.1 a) ∧ g.2 = h.2
def rfM (h : mm_H) (e : Int32) : mm_H := if e = -100000002 then mm_si h 53 0 (h.1 53 0 + 1) else if e = -100000003 then mm_si h 53 1 (h.1 53 1 + 1) else mm_si h 53 2 (h.1 53 2 + 1)
def mE (o : Ro) : Int32 := match o with
  | .inl e => e
  | .inr _ => 0
theorem cl0 : Int32.toNatClampNeg 0 = 0 := rfl
theorem cl1 : Int32.toNatClampNeg 1 = 1 := rfl
theorem MH_of {h g : mm_H} {k : Nat} {hs : Nat → Sg} (hH : MH h k hs) (e1 : g.1 49 3 = h.1 49 3) (e2 : g.1 52 = h.1 52) : MH g k hs := by
  unfold MH
  rw [e1, e2]
  exact hH
theorem MN_of {h g : mm_H} {γ : Gs} (hN : MN h γ) (e1 : g.1 49 6 = h.1 49 6) (e2 : g.1 53 = h.1 53) (e3 : g.1 54 = h.1 54) : MN g γ := by
  unfold MN
  rw [e1, e2, e3]
  exact hN
theorem IM_rf {h : mm_H} {γ : Gs} (hI : IM h γ) (e : Int32) : IM (rfM h e) (rfu γ e) ∧ frM h (rfM h e) := by
  obtain ⟨i1, i2, i3, n1, n2, n3, n4, n5, n6, n7⟩ := hI
  unfold rfM rfu
  by_cases h1 : e = -100000002
  · rw [if_pos h1, if_pos h1]
    exact ⟨⟨by simp only [si1, show ¬ (50 : Nat) = 53 by omega, if_false]; exact i1, i2, MH_of i3 (by simp only [si1, show ¬ (49 : Nat) = 53 by omega, if_false]) (by simp only [si1, show ¬ (52 : Nat) = 53 by omega, if_false]), by simp [si1, upd1, n1], by simp [si1, upd1, n2], by simp [si1, upd1, n3], by simp [si1, n4], n5, fun j hj => by simp [si1, n6 j hj], n7⟩, fun a ha => by simp only [si1, show ¬ a = 53 by omega, if_false], rfl⟩
  · rw [if_neg h1, if_neg h1]
    by_cases h2 : e = -100000003
    · rw [if_pos h2, if_pos h2]
      exact ⟨⟨by simp only [si1, show ¬ (50 : Nat) = 53 by omega, if_false]; exact i1, i2, MH_of i3 (by simp only [si1, show ¬ (49 : Nat) = 53 by omega, if_false]) (by simp only [si1, show ¬ (52 : Nat) = 53 by omega, if_false]), by simp [si1, upd1, n1], by simp [si1, upd1, n2], by simp [si1, upd1, n3], by simp [si1, n4], n5, fun j hj => by simp [si1, n6 j hj], n7⟩, fun a ha => by simp only [si1, show ¬ a = 53 by omega, if_false], rfl⟩
    · rw [if_neg h2, if_neg h2]
      exact ⟨⟨by simp only [si1, show ¬ (50 : Nat) = 53 by omega, if_false]; exact i1, i2, MH_of i3 (by simp only [si1, show ¬ (49 : Nat) = 53 by omega, if_false]) (by simp only [si1, show ¬ (52 : Nat) = 53 by omega, if_false]), by simp [si1, upd1, n1], by simp [si1, upd1, n2], by simp [si1, upd1, n3], by simp [si1, n4], n5, fun j hj => by simp [si1, n6 j hj], n7⟩, fun a ha => by simp only [si1, show ¬ a = 53 by omega, if_false], rfl⟩
section MOD
variable {sc : Nat × (Nat → Int32)} {h : mm_H} {σ : Sg}
theorem m_counts {e : Int32} (he : e = -100000002 ∨ e = -100000003 ∨ e = -100000004) (h : mm_H) : mm_cal sc i_Mo_counts [.ref 49, .int e] h = some ((e, 0, 0), rfM h e) := by
  rw [e_Mo_counts, l_Mo_counts_5]
  rcases he with rfl | rfl | rfl <;> rfl
theorem m_isChord (hM : Mr (h.1 50) σ) (hW : WF σ) (a : Int32) : mm_cal sc i_Mo_isChord [.ref 49, .int a] h = some ((b2i (mm_inb a σ.1), 0, 0), h) := by
  have hn := hW.1
  rw [e_Mo_isChord, cl0, hM.1, m_inN (by omega)]
  simp only [bd_s, b2i_01, cond_true]
theorem m_isTone (hM : Mr (h.1 50) σ) (hW : WF σ) (a t : Int32) : mm_cal sc i_Mo_isTone [.ref 49, .int a, .int t] h = some ((b2i (isTn σ a t), 0, 0), h) := by
  have hn := hW.1
  rw [e_Mo_isTone, m_isChord hM hW]
  simp only [bd_s, b2i_0]
  unfold isTn
  cases h1 : mm_inb a σ.1 with
  | false => rfl
  | true =>
    obtain ⟨c, hc, hc2, rfl⟩ := inb_ex h1
    have := hW.2.2.1 c (by omega)
    rw [ltt2, nI_add, inb_t (show 2 + c < 266 by omega) (by omega), i_cl (show 2 + c < 2147483648 by omega), i_cl hc2, hM.2.2.1 c (by omega), m_inN (by omega)]
    simp only [bd_s, b2i_0, Bool.not_true, cond_false, cond_true, Bool.true_and]
    cases mm_inb t (σ.2.2.1 c) <;> rfl
theorem m_place {c t : Nat} (h : mm_H) : mm_cal sc i_Mo_placeOf [.ref 49, .int (nI c), .int (nI t)] h = some ((nI (14 + (c * 5 + t) * 4), 0, 0), h) := by
  rw [e_Mo_placeOf, ltt5, ltt4, show (14 : Int32) = nI 14 from rfl, pk_mul, nI_add, pk_mul, nI_add, show 14 + 4 * (5 * c + t) = 14 + (c * 5 + t) * 4 by omega]
theorem m_lays2 {c t a b : Nat} (hc : c < 12) (ht : t < 5) (ha1 : 1 ≤ a) (ha : a < 65) (hb1 : 1 ≤ b) (hb : b < 65) (g : mm_H) {k : Nat} (hk : k < 4) : mm_ev sc i_Mo_lays 2 [.ref 49, .int (nI c), .int (nI t), .int (nI a), .int (nI b), .int (nI k)] [] g = mm_ev sc i_Mo_lays 2 [.ref 49, .int (nI c), .int (nI t), .int (nI a), .int (nI b), .int (nI (k + 1))] [] (mm_si g 50 (14 + (c * 5 + t) * 4 + k) (rat (nI a) (nI b) k)) := by
  rw [l_Mo_lays_2, ltt4, nI_le_d (by omega) (by omega), decide_eq_false (show ¬ 4 ≤ k by omega), m_place]
  simp only [bd_s, cond_false]
  rw [m_often sc hk ha1 ha]
  simp only [bd_s]
  rw [m_often sc hk hb1 hb]
  simp only [bd_s]
  rw [nI_add, inb_t (show 14 + (c * 5 + t) * 4 + k < 266 by omega) (by omega), i_cl (by omega), nI_1]
  unfold rat
  rw [i_cl (by omega), i_cl (by omega)]
  rfl
theorem m_lays {c t : Nat} {a b : Int32} (hc : c < 12) (ht : t < 5) (ha : isT a = true) (hb : isT b = true) (hM : Mr (h.1 50) σ) (hW : WF σ) : ∃ g, mm_cal sc i_Mo_lays [.ref 49, .int (nI c), .int (nI t), .int a, .int b] h = some ((0, 0, 0), g) ∧ Mr (g.1 50) (sChT σ c t a b) ∧ fr50 h g := by
  have hn := hW.1
  obtain ⟨a, ha1, ha2, rfl⟩ := isT_ex ha
  obtain ⟨b, hb1, hb2, rfl⟩ := isT_ex hb
  have e := e_Mo_lays sc (nI c) (nI t) (nI a) (nI b) h
  rw [show (0 : Int32) = nI 0 from rfl, m_lays2 hc ht ha1 (by omega) hb1 (by omega) _ (by omega), m_lays2 hc ht ha1 (by omega) hb1 (by omega) _ (by omega), m_lays2 hc ht ha1 (by omega) hb1 (by omega) _ (by omega), m_lays2 hc ht ha1 (by omega) hb1 (by omega) _ (by omega)] at e
  rw [l_Mo_lays_2, ltt4, nI_le_d (by omega) (by omega)] at e
  simp only [Nat.le_refl, decide_true, cond_true] at e
  refine ⟨_, e, ?_, fun x hx => by simp [si1, hx], rfl⟩
  have hs : (c * 5 + t) * 4 + 4 ≤ 240 := by omega
  unfold sChT
  revert hs
  clear e
  generalize (c * 5 + t) * 4 = s
  intro hs
  obtain ⟨m1, m2, m3, m4, m5⟩ := hM
  refine ⟨?_, ?_, fun x hx => ?_, fun x hx => ?_, fun x hx => ?_⟩
  · simp only [si1, upd1, if_true]
    rw [if_neg (by omega), if_neg (by omega), if_neg (by omega), if_neg (by omega)]
    exact m1
  · simp only [si1, upd1, if_true]
    rw [if_neg (by omega), if_neg (by omega), if_neg (by omega), if_neg (by omega)]
    exact m2
  · simp only [si1, upd1, if_true]
    rw [if_neg (by omega), if_neg (by omega), if_neg (by omega), if_neg (by omega)]
    exact m3 x hx
  · simp only [si1, upd1, wrp, if_true]
    by_cases q : s ≤ x ∧ x < s + 4
    · rw [if_pos q]
      rcases (show x = s ∨ x = s + 1 ∨ x = s + 2 ∨ x = s + 3 by omega) with rfl | rfl | rfl | rfl
      · rw [if_neg (by omega), if_neg (by omega), if_neg (by omega), if_pos (by omega), Nat.sub_self]
      · rw [if_neg (by omega), if_neg (by omega), if_pos (by omega), show s + 1 - s = 1 by omega]
      · rw [if_neg (by omega), if_pos (by omega), show s + 2 - s = 2 by omega]
      · rw [if_pos (by omega), show s + 3 - s = 3 by omega]
    · rw [if_neg q, if_neg (by omega), if_neg (by omega), if_neg (by omega), if_neg (by omega)]
      exact m4 x hx
  · have hx : x < σ.1 := hx
    simp only [si1, upd1, if_true]
    rw [if_neg (by omega), if_neg (by omega), if_neg (by omega), if_neg (by omega)]
    exact m5 x hx
theorem m_adds (hM : Mr (h.1 50) σ) (hW : WF σ) (hn : σ.1 < 12) : ∃ g, mm_cal sc i_Mo_adds [.ref 49] h = some ((nI σ.1, 0, 0), g) ∧ Mr (g.1 50) (sAddC σ) ∧ fr50 h g := by
  obtain ⟨m1, m2, m3, m4, m5⟩ := hM
  have e := e_Mo_adds sc h
  have x1 : (2 : Int32) + nI σ.1 = nI (2 + σ.1) := by rw [ltt2, nI_add]
  have x2 : (254 : Int32) + nI σ.1 = nI (254 + σ.1) := by rw [show (254 : Int32) = nI 254 from rfl, nI_add]
  simp only [cl0, si1, upd1, if_true, m1, x1, i_cl (show 2 + σ.1 < 2147483648 by omega), show ¬ 0 = 2 + σ.1 by omega, if_false, x2, i_cl (show 254 + σ.1 < 2147483648 by omega), show ¬ 0 = 254 + σ.1 by omega, nI_1, nI_sub1, inb_t (show 2 + σ.1 < 266 by omega) (show 266 ≤ 2147483648 by omega), inb_t (show 254 + σ.1 < 266 by omega) (show 266 ≤ 2147483648 by omega), cond_true] at e
  refine ⟨_, e, ?_, fun x hx => by simp [si1, hx], rfl⟩
  unfold sAddC
  refine ⟨by simp [si1, upd1], ?_, fun x hx => ?_, fun x hx => ?_, fun x hx => ?_⟩
  · simp only [si1, upd1, if_true]
    rw [if_neg (by omega), if_neg (by omega), if_neg (by omega)]
    exact m2
  · simp only [si1, upd1, if_true]
    rw [if_neg (by omega), if_neg (by omega)]
    by_cases q : x = σ.1
    · rw [if_pos (by omega), if_pos q]
      rfl
    · rw [if_neg (by omega), if_neg q]
      exact m3 x hx
  · simp only [si1, upd1, if_true]
    rw [if_neg (by omega), if_neg (by omega), if_neg (by omega)]
    exact m4 x hx
  · have hx : x < σ.1 + 1 := hx
    simp only [si1, upd1, if_true]
    rw [if_neg (by omega)]
    by_cases q : x = σ.1
    · rw [if_pos (by omega)]
      refine ⟨fun _ => rfl, fun i j q2 => ?_⟩
      have := (hW.2.2.2.2 x i j q2).1
      omega
    · rw [if_neg (by omega), if_neg (by omega)]
      exact m5 x (by omega)
theorem m_addsTone {c : Nat} {a b : Int32} (hM : Mr (h.1 50) σ) (hW : WF σ) (hc : c < σ.1) (ht : σ.2.2.1 c < 5) (ha : isT a = true) (hb : isT b = true) : ∃ g, mm_cal sc i_Mo_addsTone [.ref 49, .int (nI c), .int a, .int b] h = some ((nI (σ.2.2.1 c), 0, 0), g) ∧ Mr (g.1 50) (sAddT σ c a b) ∧ fr50 h g := by
  have hn := hW.1
  have e := e_Mo_addsTone sc (nI c) a b h
  obtain ⟨g, l1, l2, l3⟩ := m_lays (sc := sc) (t := σ.2.2.1 c) (show c < 12 by omega) ht ha hb hM hW
  rw [ltt2, nI_add, inb_t (show 2 + c < 266 by omega) (by omega), i_cl (show 2 + c < 2147483648 by omega), hM.2.2.1 c (by omega), l1] at e
  have e3 : g.1 50 (2 + c) = nI (σ.2.2.1 c) := l2.2.2.1 c (by omega)
  simp only [cond_true, bd_s, si1, upd1, if_true, e3, nI_1, nI_sub1] at e
  refine ⟨_, e, ?_, fun x hx => by simp only [si1, hx, if_false]; exact l3.1 x hx, l3.2⟩
  obtain ⟨m1, m2, m3, m4, m5⟩ := l2
  unfold sAddT
  refine ⟨?_, ?_, fun x hx => ?_, fun x hx => ?_, fun x hx => ?_⟩
  · simp only [si1, upd1, if_true]
    rw [if_neg (by omega)]
    exact m1
  · simp only [si1, upd1, if_true]
    rw [if_neg (by omega)]
    exact m2
  · simp only [si1, upd1, if_true]
    by_cases q : x = c
    · rw [if_pos (by omega), if_pos q]
    · rw [if_neg (by omega), if_neg q]
      exact m3 x hx
  · simp only [si1, upd1, if_true]
    rw [if_neg (by omega)]
    exact m4 x hx
  · have hx : x < σ.1 := hx
    simp only [si1, upd1, if_true]
    rw [if_neg (by omega)]
    exact m5 x hx
theorem m_tied {c : Nat} (hM : Mr (h.1 50) σ) (hW : WF σ) (hc : c < σ.1) : decide (0 ≤ h.1 50 (254 + c)) = (σ.2.2.2.2 c).isSome ∧ decide (h.1 50 (254 + c) < 0) = !(σ.2.2.2.2 c).isSome := by
  cases ht : σ.2.2.2.2 c with
  | none =>
    rw [(hM.2.2.2.2 c hc).1 ht]
    exact ⟨rfl, rfl⟩
  | some q =>
    obtain ⟨i, j⟩ := q
    obtain ⟨k1, k2, k3⟩ := hW.2.2.2.2 c i j ht
    rw [(hM.2.2.2.2 c hc).2 i j ht, show (0 : Int32) = nI 0 from rfl, nI_le_d (by omega) (by omega), nI_lt_d (by omega) (by omega)]
    exact ⟨decide_eq_true (by omega), decide_eq_false (by omega)⟩
theorem m_ties {c : Nat} {v : Int32} {o : Option (Nat × Nat)} (hM : Mr (h.1 50) σ) (hW : WF σ) (hc : c < σ.1) (ho : (o = none → v = -1) ∧ ∀ i j, o = some (i, j) → v = nI (5 * i + j)) : ∃ g, mm_cal sc i_Mo_ties [.ref 49, .int (nI c), .int v] h = some ((b2i (σ.2.2.2.2 c).isSome, 0, 0), g) ∧ Mr (g.1 50) (sTie σ c o) ∧ fr50 h g := by
  have hn := hW.1
  have e := e_Mo_ties sc (nI c) v h
  rw [show (254 : Int32) = nI 254 from rfl, nI_add, inb_t (show 254 + c < 266 by omega) (by omega), i_cl (show 254 + c < 2147483648 by omega), (m_tied hM hW hc).1] at e
  refine ⟨mm_si h 50 (254 + c) v, ?_, ?_, fun x hx => by simp only [si1, hx, if_false], rfl⟩
  · rw [e]
    cases (σ.2.2.2.2 c).isSome <;> rfl
  · obtain ⟨m1, m2, m3, m4, m5⟩ := hM
    unfold sTie
    refine ⟨?_, ?_, fun x hx => ?_, fun x hx => ?_, fun x hx => ?_⟩
    · simp only [si1, upd1, if_true]
      rw [if_neg (by omega)]
      exact m1
    · simp only [si1, upd1, if_true]
      rw [if_neg (by omega)]
      exact m2
    · simp only [si1, upd1, if_true]
      rw [if_neg (by omega)]
      exact m3 x hx
    · simp only [si1, upd1, if_true]
      rw [if_neg (by omega)]
      exact m4 x hx
    · have hx : x < σ.1 := hx
      simp only [si1, upd1, if_true]
      by_cases q : x = c
      · rw [if_pos (show 254 + x = 254 + c by omega), if_pos q]
        exact ho
      · rw [if_neg (show ¬ 254 + x = 254 + c by omega), if_neg q]
        exact m5 x hx
theorem m_mayTone (hM : Mr (h.1 50) σ) (hW : WF σ) (c a b : Int32) : mm_cal sc i_Mo_mayTone [.ref 49, .int c, .int a, .int b] h = some ((mE (oTone σ c a b), 0, 0), h) := by
  have hn := hW.1
  rw [e_Mo_mayTone, m_isChord hM hW]
  simp only [bd_s, b2i_0]
  rw [m_isMade]
  simp only [bd_s, b2i_0]
  rw [m_isMade]
  simp only [bd_s, b2i_0]
  unfold oTone
  cases h1 : mm_inb c σ.1 with
  | false => rw [if_neg (by simp)]; rfl
  | true =>
    cases h2 : isT a with
    | false => rw [if_neg (by simp)]; rfl
    | true =>
      cases h3 : isT b with
      | false => rw [if_neg (by simp)]; rfl
      | true =>
        rw [if_pos ⟨rfl, rfl, rfl⟩]
        obtain ⟨c, hc, hc2, rfl⟩ := inb_ex h1
        have := hW.2.2.1 c (by omega)
        rw [ltt2, nI_add, inb_t (show 2 + c < 266 by omega) (by omega), i_cl (show 2 + c < 2147483648 by omega), i_cl hc2, hM.2.2.1 c (by omega), ltt5, nI_eq_d (by omega) (by omega)]
        by_cases q : σ.2.2.1 c < 5
        · rw [if_pos q, decide_eq_false (by omega)]
          rfl
        · rw [if_neg q, decide_eq_true (by omega)]
          rfl
theorem m_mayHold (hM : Mr (h.1 50) σ) (hW : WF σ) (c i j : Int32) : mm_cal sc i_Mo_mayHold [.ref 49, .int c, .int i, .int j] h = some ((mE (oHolds σ c i j), 0, 0), h) := by
  have hn := hW.1
  rw [e_Mo_mayHold, m_isTone hM hW]
  simp only [bd_s, b2i_0]
  unfold oHolds
  cases h1 : isTn σ c i with
  | false => rw [if_neg (by simp)]; rfl
  | true =>
    rw [if_pos rfl]
    obtain ⟨c, u, hc, hu, hc12, hu5, rfl, rfl⟩ := isTn_ex hW h1
    rw [m_isTone hM hW]
    simp only [bd_s, b2i_0]
    obtain ⟨m, hm⟩ : ∃ m, σ.1 = m + 1 := ⟨σ.1 - 1, by omega⟩
    rw [cl0, hM.1, hm, nI_sub1, nI_le_d (by omega) (by omega), nI_eq_d (by omega) (by omega), Nat.add_sub_cancel]
    by_cases q : c < m
    · rw [inb_t q (by omega), if_pos rfl, decide_eq_false (show ¬ m ≤ c by omega), decide_eq_false (show ¬ c = m by omega)]
      cases isTn σ (nI c + 1) j <;> rfl
    · have q2 : mm_inb (nI c) m = false := by
        rw [inb_nI (by omega)]
        exact decide_eq_false q
      rw [q2, if_neg (by simp), decide_eq_true (show m ≤ c by omega), decide_eq_true (show c = m by omega)]
      rfl
theorem m_mayFree (hM : Mr (h.1 50) σ) (hW : WF σ) (c : Int32) : mm_cal sc i_Mo_mayFree [.ref 49, .int c] h = some ((mE (oFrees σ c), 0, 0), h) := by
  have hn := hW.1
  rw [e_Mo_mayFree, m_isChord hM hW]
  simp only [bd_s, b2i_0]
  unfold oFrees
  cases h1 : mm_inb c σ.1 with
  | false => rw [if_neg (by simp)]; rfl
  | true =>
    rw [if_pos rfl]
    obtain ⟨c, hc, hc2, rfl⟩ := inb_ex h1
    obtain ⟨m, hm⟩ : ∃ m, σ.1 = m + 1 := ⟨σ.1 - 1, by omega⟩
    rw [cl0, hM.1, hm, nI_sub1, nI_eq_d (by omega) (by omega), Nat.add_sub_cancel]
    by_cases q : c < m
    · rw [inb_t q (by omega), if_pos rfl, decide_eq_false (show ¬ c = m by omega)]
      rfl
    · have q2 : mm_inb (nI c) m = false := by
        rw [inb_nI (by omega)]
        exact decide_eq_false q
      rw [q2, if_neg (by simp), decide_eq_true (show c = m by omega)]
      rfl
theorem m_leaves {k : Nat} {hs : Nat → Sg} (hM : Mr (h.1 50) σ) (hW : WF σ) (hH : MH h k hs) : ∃ g, mm_cal sc i_Mo_leaves [.ref 49] h = some ((0, 0, 0), g) ∧ MH g (kpK k) (kpH k hs σ) ∧ (∀ a, a ≠ 49 → a ≠ 52 → g.1 a = h.1 a) ∧ (∀ j, j ≠ 3 → g.1 49 j = h.1 49 j) ∧ g.2 = h.2 := by
  obtain ⟨k1, k2, k3⟩ := hH
  have tail : ∀ (g : mm_H) (m : Nat), m < 5 → g.1 49 3 = nI m → ∃ g', mm_ev sc i_Mo_leaves 29 [.ref 49, .int 0] [] g = some ((0, 0, 0), g') ∧ (∀ a, a ≠ 49 → a ≠ 52 → g'.1 a = g.1 a) ∧ (∀ j, j ≠ 3 → g'.1 49 j = g.1 49 j) ∧ g'.2 = g.2 ∧ g'.1 49 3 = nI (m + 1) ∧ (∀ j, j < 266 * m → g'.1 52 j = g.1 52 j) ∧ ∀ j, j < 266 → g'.1 52 (266 * m + j) = g.1 50 j := by
    intro g m hm hg
    obtain ⟨g1, e1, p1, p2, p3, p4⟩ := fldS (fun x (s : mm_H) => mm_ev sc i_Mo_leaves 29 [.ref 49, .int (nI x)] [] s) (fun x s => (∀ a, a ≠ 52 → s.1 a = g.1 a) ∧ s.2 = g.2 ∧ (∀ j, j < 266 * m → s.1 52 j = g.1 52 j) ∧ ∀ j, j < x → s.1 52 (266 * m + j) = g.1 50 j) 266 (fun x s hx hs => by
      obtain ⟨p1, p2, p3, p4⟩ := hs
      have e := l_Mo_leaves_29 sc (nI x) s
      rw [show (266 : Int32) = nI 266 from rfl, nI_le_d (by omega) (by omega), decide_eq_false (show ¬ 266 ≤ x by omega), inb_t hx (by omega), p1 49 (by omega), hg, pk_mul, nI_add, inb_t (show 266 * m + x < 1330 by omega) (by omega), i_cl (show 266 * m + x < 2147483648 by omega), i_cl (show x < 2147483648 by omega), nI_1 x, p1 50 (by omega)] at e
      refine ⟨_, e, fun a ha => by simp only [si1, ha, if_false]; exact p1 a ha, p2, fun j hj => ?_, fun j hj => ?_⟩
      · simp only [si1, upd1, if_true]
        rw [if_neg (by omega)]
        exact p3 j hj
      · simp only [si1, upd1, if_true]
        by_cases q : j = x
        · rw [if_pos (by omega), q]
        · rw [if_neg (by omega)]
          exact p4 j (by omega)) g ⟨fun _ _ => rfl, rfl, fun _ _ => rfl, fun j hj => absurd hj (by omega)⟩
    have e := l_Mo_leaves_29 sc (nI 266) g1
    rw [show (266 : Int32) = nI 266 from rfl, nI_le_d (by omega) (by omega), decide_eq_true (show 266 ≤ 266 by omega), p1 49 (by omega), hg, nI_1] at e
    refine ⟨_, e1.trans e, fun a a1 a2 => by simp only [si1, a1, if_false]; exact p1 a a2, fun j hj => by simp only [si1, upd1, hj, if_true, if_false]; rw [p1 49 (by omega)], p2, by simp [si1, upd1], fun j hj => by simp only [si1, show ¬ (52 : Nat) = 49 by omega, if_false]; exact p3 j hj, fun j hj => by simp only [si1, show ¬ (52 : Nat) = 49 by omega, if_false]; exact p4 j hj⟩
  have e := e_Mo_leaves sc h
  rw [k1, ltt5, nI_eq_d (by omega) (by omega)] at e
  by_cases q : k = 5
  · subst q
    rw [decide_eq_true rfl, cond_true] at e
    obtain ⟨g1, e1, p1, p2, p3⟩ := fldS (fun x (s : mm_H) => mm_ev sc i_Mo_leaves 6 [.ref 49, .int (nI x)] [] s) (fun x s => (∀ a, a ≠ 52 → s.1 a = h.1 a) ∧ s.2 = h.2 ∧ ∀ j, j < 1330 → s.1 52 j = if j < x then h.1 52 (j + 266) else h.1 52 j) 1064 (fun x s hx hs => by
      obtain ⟨p1, p2, p3⟩ := hs
      have e := l_Mo_leaves_6 sc (nI x) s
      rw [show (1064 : Int32) = nI 1064 from rfl, show (266 : Int32) = nI 266 from rfl, nI_le_d (by omega) (by omega), decide_eq_false (show ¬ 1064 ≤ x by omega), nI_add, inb_t (show x + 266 < 1330 by omega) (by omega), inb_t (show x < 1330 by omega) (by omega), i_cl (show x + 266 < 2147483648 by omega), i_cl (show x < 2147483648 by omega), nI_1, p3 (x + 266) (by omega), if_neg (by omega)] at e
      refine ⟨_, e, fun a ha => by simp only [si1, ha, if_false]; exact p1 a ha, p2, fun j hj => ?_⟩
      simp only [si1, upd1, if_true]
      by_cases q : j = x
      · rw [if_pos q, if_pos (by omega), q]
      · rw [if_neg q, p3 j hj]
        by_cases q2 : j < x
        · rw [if_pos q2, if_pos (by omega)]
        · rw [if_neg q2, if_neg (by omega)]) h ⟨fun _ _ => rfl, rfl, fun j hj => by rw [if_neg (by omega)]⟩
    have e2 := l_Mo_leaves_6 sc (nI 1064) g1
    rw [show (1064 : Int32) = nI 1064 from rfl, nI_le_d (by omega) (by omega), decide_eq_true (show 1064 ≤ 1064 by omega), p1 49 (by omega), k1, nI_sub1] at e2
    obtain ⟨g', t1, t2, t3, t4, t5, t6, t7⟩ := tail (mm_si g1 49 3 (nI 4)) 4 (by omega) (by simp [si1, upd1])
    refine ⟨g', e.trans (e1.trans (e2.trans t1)), ⟨t5, by show (if 5 = 5 then 5 else 5 + 1) ≤ 5; rw [if_pos rfl]; omega, fun a ha => ?_⟩, fun a a1 a2 => ?_, fun j hj => ?_, t4.trans p2⟩
    · have ha : a < 5 := ha
      unfold kpH
      rw [if_pos rfl]
      by_cases q : a = 4
      · rw [if_pos q, q]
        exact ⟨Mr_of hM hW (fun j hj => by rw [t7 j hj]; simp only [si1, show ¬ (50 : Nat) = 49 by omega, if_false]; rw [p1 50 (by omega)]), hW⟩
      · rw [if_neg q]
        obtain ⟨c1, c2⟩ := k3 (a + 1) (by omega)
        refine ⟨Mr_of c1 c2 (fun j hj => ?_), c2⟩
        rw [t6 _ (by omega)]
        simp only [si1, show ¬ (52 : Nat) = 49 by omega, if_false]
        rw [p3 _ (by omega), if_pos (by omega)]
        show h.1 52 (266 * a + j + 266) = h.1 52 (266 * (a + 1) + j)
        rw [show 266 * a + j + 266 = 266 * (a + 1) + j by omega]
    · rw [t2 a a1 a2]
      simp only [si1, a1, if_false]
      exact p1 a a2
    · rw [t3 j hj]
      simp only [si1, upd1, hj, if_true, if_false]
      rw [p1 49 (by omega)]
  · rw [decide_eq_false q, cond_false] at e
    obtain ⟨g', t1, t2, t3, t4, t5, t6, t7⟩ := tail h k (by omega) k1
    have hk : kpK k = k + 1 := if_neg q
    refine ⟨g', e.trans t1, ⟨by rw [hk]; exact t5, by rw [hk]; omega, fun a ha => ?_⟩, t2, t3, t4⟩
    rw [hk] at ha
    unfold kpH
    rw [if_neg q]
    by_cases q2 : a = k
    · rw [if_pos q2, q2]
      exact ⟨Mr_of hM hW (fun j hj => t7 j hj), hW⟩
    · rw [if_neg q2]
      obtain ⟨c1, c2⟩ := k3 a (by omega)
      exact ⟨Mr_of c1 c2 (fun j hj => t6 _ (by omega)), c2⟩
theorem m_chg {γ : Gs} (hI : IM h γ) (o : Ro) (hok : Ok o) (r : Option mm_R) (h1 : ∀ e, o = .inl e → r = mm_bd (mm_cal sc i_Mo_counts [.ref 49, .int e] h) (fun r1 => some ((r1.1.1, 0, 0), r1.2))) (h2 : ∀ v σ', o = .inr (v, σ') → ∃ K : mm_H → Option mm_R, r = mm_bd (mm_cal sc i_Mo_leaves [.ref 49] h) (fun r2 => K r2.2) ∧ ∀ g, Mr (g.1 50) γ.1 → ∃ g', K g = some ((v, 0, 0), g') ∧ Mr (g'.1 50) σ' ∧ fr50 g g') : ∃ g, r = some ((aO o, 0, 0), g) ∧ IM g (nO γ o) ∧ frM h g := by
  cases o with
  | inl e =>
    have q := h1 e rfl
    rw [m_counts hok] at q
    exact ⟨_, q, (IM_rf hI e).1, (IM_rf hI e).2⟩
  | inr p =>
    obtain ⟨v, σ'⟩ := p
    obtain ⟨K, q, hK⟩ := h2 v σ' rfl
    obtain ⟨i1, i2, i3, i4⟩ := hI
    obtain ⟨g1, l1, l2, l3, l4, l5⟩ := m_leaves (sc := sc) i1 i2 i3
    rw [l1] at q
    simp only [bd_s] at q
    obtain ⟨g2, e2, m2, f2⟩ := hK g1 (by rw [l3 50 (by omega) (by omega)]; exact i1)
    rw [e2] at q
    refine ⟨g2, q, ⟨m2, hok.2.2, MH_of l2 (by rw [f2.1 49 (by omega)]) (f2.1 52 (by omega)), ?_⟩, fun a ha => by rw [f2.1 a (by omega), l3 a (by omega) (by omega)], by rw [f2.2, l5]⟩
    obtain ⟨n1, n2, n3, n4, n5, n6, n7⟩ := i4
    refine ⟨?_, ?_, ?_, ?_, n5, ?_, n7⟩
    · rw [f2.1 53 (by omega), l3 53 (by omega) (by omega)]; exact n1
    · rw [f2.1 53 (by omega), l3 53 (by omega) (by omega)]; exact n2
    · rw [f2.1 53 (by omega), l3 53 (by omega) (by omega)]; exact n3
    · rw [f2.1 49 (by omega), l4 6 (by omega)]; exact n4
    · rw [f2.1 54 (by omega), l3 54 (by omega) (by omega)]; exact n6
theorem mE_0 {o : Ro} (hok : Ok o) : decide (mE o = 0) = o.isRight := by
  cases o with
  | inl e => rcases hok with rfl | rfl | rfl <;> rfl
  | inr p => rfl
theorem a_chord {γ : Gs} (hI : IM h γ) : ∃ g, mm_cal sc i_Mo_chord [.ref 49] h = some ((aO (oChord γ.1), 0, 0), g) ∧ IM g (nO γ (oChord γ.1)) ∧ frM h g := by
  have e := e_Mo_chord sc h
  have hn := hI.2.1.1
  rw [cl0, hI.1.1, show (12 : Int32) = nI 12 from rfl, nI_eq_d (by omega) (by omega)] at e
  refine m_chg (sc := sc) hI _ (ok_chord hI.2.1) _ (fun x q => ?_) (fun v σ' q => ?_)
  · unfold oChord at q
    split at q
    · cases q
    · cases q
      rw [e, decide_eq_true (by omega)]
      rfl
  · unfold oChord at q
    split at q
    · cases q
      rename_i hlt
      refine ⟨fun g => mm_bd (mm_cal sc i_Mo_adds [.ref 49] g) (fun r3 => some ((r3.1.1, 0, 0), r3.2)), ?_, fun g hM => ?_⟩
      · rw [e, decide_eq_false (by omega)]
        rfl
      · obtain ⟨g', e1, m1, f1⟩ := m_adds (sc := sc) hM hI.2.1 hlt
        exact ⟨g', by dsimp only; rw [e1]; rfl, m1, f1⟩
    · cases q
theorem a_tone {γ : Gs} (hI : IM h γ) (c a b : Int32) : ∃ g, mm_cal sc i_Mo_tone [.ref 49, .int c, .int a, .int b] h = some ((aO (oTone γ.1 c a b), 0, 0), g) ∧ IM g (nO γ (oTone γ.1 c a b)) ∧ frM h g := by
  have e := e_Mo_tone sc c a b h
  have hn := hI.2.1.1
  have hok := ok_tone hI.2.1 c a b
  rw [m_mayTone hI.1 hI.2.1] at e
  simp only [bd_s] at e
  rw [mE_0 hok] at e
  refine m_chg (sc := sc) hI _ hok _ (fun x q => ?_) (fun v σ' q => ?_)
  · rw [q] at e
    exact e
  · refine ⟨fun g => mm_bd (mm_cal sc i_Mo_addsTone [.ref 49, .int c, .int a, .int b] g) (fun r3 => some ((r3.1.1, 0, 0), r3.2)), ?_, fun g hM => ?_⟩
    · rw [q] at e
      exact e
    · unfold oTone at q
      split at q
      · rename_i h3
        obtain ⟨x1, x2, x3⟩ := h3
        split at q
        · rename_i hlt
          cases q
          obtain ⟨c, hc, hc2, rfl⟩ := inb_ex x1
          rw [i_cl hc2] at hlt ⊢
          obtain ⟨g', e1, m1, f1⟩ := m_addsTone (sc := sc) hM hI.2.1 hc hlt x2 x3
          exact ⟨g', by dsimp only; rw [e1]; rfl, m1, f1⟩
        · cases q
      · cases q
theorem a_holds {γ : Gs} (hI : IM h γ) (c i j : Int32) : ∃ g, mm_cal sc i_Mo_holds [.ref 49, .int c, .int i, .int j] h = some ((aO (oHolds γ.1 c i j), 0, 0), g) ∧ IM g (nO γ (oHolds γ.1 c i j)) ∧ frM h g := by
  have e := e_Mo_holds sc c i j h
  have hn := hI.2.1.1
  have hok := ok_holds hI.2.1 c i j
  rw [m_mayHold hI.1 hI.2.1] at e
  simp only [bd_s] at e
  rw [mE_0 hok] at e
  refine m_chg (sc := sc) hI _ hok _ (fun x q => ?_) (fun v σ' q => ?_)
  · rw [q] at e
    exact e
  · refine ⟨fun g => mm_bd (mm_cal sc i_Mo_ties [.ref 49, .int c, .int ((5 * i) + j)] g) (fun r3 => some ((r3.1.1, 0, 0), r3.2)), ?_, fun g hM => ?_⟩
    · rw [q] at e
      exact e
    · unfold oHolds at q
      split at q
      · rename_i x1
        split at q
        · split at q
          · rename_i x3
            cases q
            obtain ⟨c, u, hc, hu, hc12, hu5, rfl, rfl⟩ := isTn_ex hI.2.1 x1
            obtain ⟨c2, w, hc', hw, hc12', hw5, eq1, rfl⟩ := isTn_ex hI.2.1 x3
            rw [i_cl (show c < 2147483648 by omega), i_cl (show u < 2147483648 by omega), i_cl (show w < 2147483648 by omega), ltt5, pk_mul, nI_add]
            obtain ⟨g', e1, m1, f1⟩ := m_ties (sc := sc) (v := nI (5 * u + w)) (o := some (u, w)) hM hI.2.1 hc ⟨fun q => (by cases q), fun i j q => by cases q; rfl⟩
            exact ⟨g', by dsimp only; rw [e1]; rfl, m1, f1⟩
          · cases q
        · cases q
      · cases q
theorem a_frees {γ : Gs} (hI : IM h γ) (c : Int32) : ∃ g, mm_cal sc i_Mo_frees [.ref 49, .int c] h = some ((aO (oFrees γ.1 c), 0, 0), g) ∧ IM g (nO γ (oFrees γ.1 c)) ∧ frM h g := by
  have e := e_Mo_frees sc c h
  have hn := hI.2.1.1
  have hok := ok_frees hI.2.1 c
  rw [m_mayFree hI.1 hI.2.1] at e
  simp only [bd_s] at e
  rw [mE_0 hok] at e
  refine m_chg (sc := sc) hI _ hok _ (fun x q => ?_) (fun v σ' q => ?_)
  · rw [q] at e
    exact e
  · refine ⟨fun g => mm_bd (mm_cal sc i_Mo_ties [.ref 49, .int c, .int (-1)] g) (fun r3 => some ((r3.1.1, 0, 0), r3.2)), ?_, fun g hM => ?_⟩
    · rw [q] at e
      exact e
    · unfold oFrees at q
      split at q
      · rename_i x1
        split at q
        · cases q
          obtain ⟨c, hc, hc2, rfl⟩ := inb_ex x1
          rw [i_cl hc2]
          obtain ⟨g', e1, m1, f1⟩ := m_ties (sc := sc) (v := -1) (o := none) hM hI.2.1 hc ⟨fun _ => rfl, fun i j q => (by cases q)⟩
          exact ⟨g', by dsimp only; rw [e1]; rfl, m1, f1⟩
        · cases q
      · cases q
theorem a_limit {γ : Gs} (hI : IM h γ) (v : Int32) : ∃ g, mm_cal sc i_Mo_limit [.ref 49, .int v] h = some ((aO (oLimit γ.1 v), 0, 0), g) ∧ IM g (nO γ (oLimit γ.1 v)) ∧ frM h g := by
  have e := e_Mo_limit sc v h
  rw [m_inL (K := 9999) (b := 9999) (by decide +kernel)] at e
  simp only [bd_s, b2i_0] at e
  refine m_chg (sc := sc) hI _ (ok_limit hI.2.1 v) _ (fun x q => ?_) (fun v' σ' q => ?_)
  · unfold oLimit at q
    split at q
    · cases q
    · rename_i x1
      cases q
      rw [Bool.eq_false_iff.mpr x1] at e
      exact e
  · unfold oLimit at q
    split at q
    · rename_i x1
      cases q
      rw [x1] at e
      refine ⟨fun g => mm_bd (mm_cal sc i_Mo_limits [.ref 49, .int v] g) (fun r2 => some ((r2.1.1, 0, 0), r2.2)), e, fun g hM => ?_⟩
      obtain ⟨c, hc, hc2, rfl⟩ := inb_ex x1
      dsimp only
      rw [e_Mo_limits, i_cl hc2, cl1, hM.2.1]
      refine ⟨_, rfl, ?_, fun a ha => by simp only [si1, ha, if_false], rfl⟩
      obtain ⟨m1, m2, m3, m4, m5⟩ := hM
      unfold sLim
      refine ⟨?_, by simp [si1, upd1], fun x hx => ?_, fun x hx => ?_, fun x hx => ?_⟩
      · simp only [si1, upd1, if_true]
        rw [if_neg (by omega)]
        exact m1
      · simp only [si1, upd1, if_true]
        rw [if_neg (by omega)]
        exact m3 x hx
      · simp only [si1, upd1, if_true]
        rw [if_neg (by omega)]
        exact m4 x hx
      · simp only [si1, upd1, if_true]
        rw [if_neg (by omega)]
        exact m5 x hx
    · cases q
theorem a_drops {γ : Gs} (hI : IM h γ) : ∃ g, mm_cal sc i_Mo_drops [.ref 49] h = some ((aO (oDrops γ.1), 0, 0), g) ∧ IM g (nO γ (oDrops γ.1)) ∧ frM h g := by
  have e := e_Mo_drops sc h
  have hn := hI.2.1.1
  rw [cl0, hI.1.1, nI_ne_0 (by omega)] at e
  refine m_chg (sc := sc) hI _ (ok_drops hI.2.1) _ (fun x q => ?_) (fun v σ' q => ?_)
  · unfold oDrops at q
    split at q
    · rename_i x1
      cases q
      rw [decide_eq_true x1] at e
      exact e
    · cases q
  · unfold oDrops at q
    split at q
    · cases q
    · rename_i x1
      cases q
      rw [decide_eq_false x1] at e
      refine ⟨fun g => bif decide ((mm_si g 50 0 (g.1 50 0 - 1)).1 50 0 ≤ 0) then some (((mm_si g 50 0 (g.1 50 0 - 1)).1 50 0, 0, 0), mm_si g 50 0 (g.1 50 0 - 1)) else bif mm_inb (254 + (mm_si g 50 0 (g.1 50 0 - 1)).1 50 0 - 1) 266 then some (((mm_si (mm_si g 50 0 (g.1 50 0 - 1)) 50 (254 + (mm_si g 50 0 (g.1 50 0 - 1)).1 50 0 - 1).toNatClampNeg (-1)).1 50 0, 0, 0), mm_si (mm_si g 50 0 (g.1 50 0 - 1)) 50 (254 + (mm_si g 50 0 (g.1 50 0 - 1)).1 50 0 - 1).toNatClampNeg (-1)) else none, e, fun g hM => ?_⟩
      obtain ⟨m, hm⟩ : ∃ m, γ.1.1 = m + 1 := ⟨γ.1.1 - 1, by omega⟩
      obtain ⟨m1, m2, m3, m4, m5⟩ := hM
      have hW := hI.2.1
      have x2 : (254 : Int32) + nI m = nI (254 + m) := by rw [show (254 : Int32) = nI 254 from rfl, nI_add]
      simp only [cl0, si1, upd1, if_true, m1, hm, nI_sub1, x2]
      rw [show (0 : Int32) = nI 0 from rfl, nI_le_d (by omega) (by omega)]
      by_cases q : m ≤ 0
      · rw [decide_eq_true q]
        refine ⟨_, rfl, ?_, fun a ha => by simp only [si1, ha, if_false], rfl⟩
        unfold sDrop
        refine ⟨by simp [si1, upd1, hm], ?_, fun x hx => ?_, fun x hx => ?_, fun x hx => ?_⟩
        · simp only [si1, upd1, if_true]
          rw [if_neg (by omega)]
          exact m2
        · simp only [si1, upd1, if_true]
          rw [if_neg (by omega)]
          exact m3 x hx
        · simp only [si1, upd1, if_true]
          rw [if_neg (by omega)]
          exact m4 x hx
        · have hx : x < γ.1.1 - 1 := hx
          omega
      · rw [decide_eq_false q, cond_false]
        obtain ⟨l, rfl⟩ : ∃ l, m = l + 1 := ⟨m - 1, by omega⟩
        rw [← Nat.add_assoc, nI_sub1, inb_t (show 254 + l < 266 by omega) (by omega), i_cl (show 254 + l < 2147483648 by omega), cond_true, if_neg (by omega)]
        refine ⟨mm_si (mm_si g 50 0 (nI (l + 1))) 50 (254 + l) (-1), rfl, ?_, fun a ha => by simp only [si1, ha, if_false], rfl⟩
        unfold sDrop
        refine ⟨?_, ?_, fun x hx => ?_, fun x hx => ?_, fun x hx => ?_⟩
        · simp only [si1, upd1, if_true]
          rw [if_neg (by omega), hm]
          rfl
        · simp only [si1, upd1, if_true]
          rw [if_neg (by omega), if_neg (by omega)]
          exact m2
        · simp only [si1, upd1, if_true]
          rw [if_neg (by omega), if_neg (by omega)]
          exact m3 x hx
        · simp only [si1, upd1, if_true]
          rw [if_neg (by omega), if_neg (by omega)]
          exact m4 x hx
        · have hx : x < γ.1.1 - 1 := hx
          simp only [si1, upd1, if_true]
          by_cases q3 : x = l
          · rw [if_pos (by omega), if_pos (by omega)]
            exact ⟨fun _ => rfl, fun i j q => (by cases q)⟩
          · rw [if_neg (by omega), if_neg (by omega), if_neg (by omega)]
            exact m5 x (by omega)
end MOD
