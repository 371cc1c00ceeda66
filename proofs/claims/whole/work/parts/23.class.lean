/-! the class: what holds between its calls; its changing calls -/
abbrev Gs : Type := Sg × Nat × (Nat → Sg) × Int32 × Int32 × Int32 × Nat × (Nat → Int32)
def CN (h : mm_H) (γ : Gs) : Prop := h.1 0 5 = γ.2.2.2.1 ∧ h.1 0 6 = γ.2.2.2.2.1 ∧ h.1 0 7 = γ.2.2.2.2.2.1 ∧ h.1 0 4 = nI γ.2.2.2.2.2.2.1 ∧ γ.2.2.2.2.2.2.1 ≤ 120 ∧ (∀ j, j < γ.2.2.2.2.2.2.1 → h.1 5 j = γ.2.2.2.2.2.2.2 j) ∧ ∀ j, j < γ.2.2.2.2.2.2.1 → mm_inb (γ.2.2.2.2.2.2.2 j) 128 = true
def IC (h : mm_H) (γ : Gs) : Prop := CC h γ.1 ∧ WF γ.1 ∧ TU h γ.1 ∧ HI h γ.2.1 γ.2.2.1 ∧ CN h γ
def frC (h g : mm_H) : Prop := (∀ a, 49 ≤ a → g.1 a = h.1 a) ∧ g.2.2 = h.2.2
theorem frC.rf {h : mm_H} : frC h h := ⟨fun _ _ => rfl, rfl⟩
theorem frC.tr {h g k : mm_H} (h1 : frC h g) (h2 : frC g k) : frC h k := ⟨fun a a1 => (h2.1 a a1).trans (h1.1 a a1), h2.2.trans h1.2⟩
theorem TU_of {h g : mm_H} {σ : Sg} (hT : TU h σ) (e : ∀ a, a = 3 ∨ (6 ≤ a ∧ a ≤ 11) → g.1 a = h.1 a) : TU g σ := by
  unfold TU T1 T2
  rw [e 3 (by omega), e 6 (by omega), e 7 (by omega), e 8 (by omega), e 9 (by omega), e 10 (by omega), e 11 (by omega)]
  exact hT
theorem CN_of {h g : mm_H} {γ : Gs} (hN : CN h γ) (e0 : g.1 0 = h.1 0) (e5 : g.1 5 = h.1 5) : CN g γ := by
  unfold CN
  rw [e0, e5]
  exact hN
/-- refusals counted -/
def rfH (h : mm_H) (e : Int32) : mm_H := if e = -100000002 then mm_si h 0 5 (h.1 0 5 + 1) else if e = -100000003 then mm_si h 0 6 (h.1 0 6 + 1) else mm_si h 0 7 (h.1 0 7 + 1)
def rfu (γ : Gs) (e : Int32) : Gs := if e = -100000002 then (γ.1, γ.2.1, γ.2.2.1, γ.2.2.2.1 + 1, γ.2.2.2.2) else if e = -100000003 then (γ.1, γ.2.1, γ.2.2.1, γ.2.2.2.1, γ.2.2.2.2.1 + 1, γ.2.2.2.2.2) else (γ.1, γ.2.1, γ.2.2.1, γ.2.2.2.1, γ.2.2.2.2.1, γ.2.2.2.2.2.1 + 1, γ.2.2.2.2.2.2)
theorem rfu_1 (γ : Gs) (e : Int32) : (rfu γ e).1 = γ.1 ∧ (rfu γ e).2.1 = γ.2.1 ∧ (rfu γ e).2.2.1 = γ.2.2.1 := by
  unfold rfu
  split
  · exact ⟨rfl, rfl, rfl⟩
  · split <;> exact ⟨rfl, rfl, rfl⟩
theorem q_refused (sc : Nat × (Nat → Int32)) (h : mm_H) (e : Int32) : mm_cal sc i_Co_refused [.ref 0, .int e] h = some ((e, 0, 0), rfH h e) := by
  rw [e_Co_refused]
  unfold rfH
  by_cases h1 : e = -100000002
  · simp only [h1, decide_true, cond_true, if_true]
  · by_cases h2 : e = -100000003
    · simp only [h1, h2, decide_true, decide_false, cond_true, cond_false, if_true, if_false]
      rw [if_neg (by decide +kernel)]
      rfl
    · simp only [h1, h2, decide_false, cond_false, if_false]
theorem rfH_ne {h : mm_H} {e : Int32} {a : Nat} (ha : a ≠ 0) : (rfH h e).1 a = h.1 a := by
  unfold rfH
  split
  · rw [si1, if_neg ha]
  · split <;> rw [si1, if_neg ha]
theorem rfH_2 {h : mm_H} {e : Int32} : (rfH h e).2 = h.2 := by
  unfold rfH
  split
  · rfl
  · split <;> rfl
theorem IC_rf {h : mm_H} {γ : Gs} (hI : IC h γ) (e : Int32) : IC (rfH h e) (rfu γ e) ∧ frC h (rfH h e) := by
  obtain ⟨i1, i2, i3, i4, i5⟩ := hI
  obtain ⟨r1, r2, r3⟩ := rfu_1 γ e
  refine ⟨⟨?_, ?_, ?_, ?_, ?_⟩, fun a ha => rfH_ne (by omega), by rw [rfH_2]⟩
  · rw [r1]; exact CC_of i1 (fun a ha => rfH_ne (by omega))
  · rw [r1]; exact i2
  · rw [r1]; exact TU_of i3 (fun a ha => rfH_ne (by omega))
  · rw [r2, r3]
    exact HI_of i4 (by rw [rfH_ne (by omega)]) (by rw [rfH_2]) (fun b hb a ha => rfH_ne (by have := i4.2.2.1 b (by have := i4.2.1; omega); omega))
  · obtain ⟨n1, n2, n3, n4, n5, n6, n7⟩ := i5
    unfold rfH rfu
    split
    · exact ⟨by simp [si1, upd1, n1], by simp [si1, upd1, n2], by simp [si1, upd1, n3], by simp [si1, upd1, n4], n5, fun j hj => by simpa [si1] using n6 j hj, n7⟩
    · split
      · exact ⟨by simp [si1, upd1, n1], by simp [si1, upd1, n2], by simp [si1, upd1, n3], by simp [si1, upd1, n4], n5, fun j hj => by simpa [si1] using n6 j hj, n7⟩
      · exact ⟨by simp [si1, upd1, n1], by simp [si1, upd1, n2], by simp [si1, upd1, n3], by simp [si1, upd1, n4], n5, fun j hj => by simpa [si1] using n6 j hj, n7⟩
/-- the outcome of an order: its answer, what holds then -/
def aO (o : Ro) : Int32 := match o with
  | .inl e => e
  | .inr (v, _) => v
def nO (γ : Gs) (o : Ro) : Gs := match o with
  | .inl e => rfu γ e
  | .inr (_, σ') => (σ', kpK γ.2.1, kpH γ.2.1 γ.2.2.1 γ.1, γ.2.2.2)
section CLS
variable {sc : Nat × (Nat → Int32)}
theorem k14 : ((Nat.beq (mm_kd 14) 12 && true) && true) = true := rfl
theorem q_isRef0 {v : Int32} (h1 : 0 ≤ v.toInt) (h : mm_H) : mm_cal sc i_Co_isRefusal [.int v] h = some ((0, 0, 0), h) := by
  have ne : ∀ u : Int32, u.toInt < 0 → ¬ v = u := fun u hu e => by
    rw [e] at h1
    omega
  rw [e_Co_isRefusal]
  simp only [ne (-100000002) (by decide +kernel), ne (-100000003) (by decide +kernel), ne (-100000004) (by decide +kernel), decide_false, cond_false]
theorem q_isRef1 {v : Int32} (h1 : v = -100000002 ∨ v = -100000003 ∨ v = -100000004) (h : mm_H) : mm_cal sc i_Co_isRefusal [.int v] h = some ((1, 0, 0), h) := by
  rw [e_Co_isRefusal]
  rcases h1 with rfl | rfl | rfl <;> rfl
/-- a change that isn't refused leaves a state, and the tuning follows -/
theorem q_settled {h : mm_H} {γ : Gs} {σ' : Sg} {v : Int32} (hv : 0 ≤ v.toInt) (hC : CC h σ') (hW' : WF σ') (hH : HI h γ.2.1 γ.2.2.1) (hB : CS h (h.2.1 5) γ.1) (hW : WF γ.1) (hN : CN h γ) : ∃ g, mm_cal sc i_Co_settled [.ref 0, .int v] h = some ((v, 0, 0), g) ∧ IC g (σ', kpK γ.2.1, kpH γ.2.1 γ.2.2.1 γ.1, γ.2.2.2) ∧ frC h g := by
  obtain ⟨g1, k1, k2, k3, k4⟩ := q_keep (sc := sc) hH hB hW
  have hC1 : CC g1 σ' := CC_of hC (fun a ha => k3 a (by omega))
  obtain ⟨g, f1, f2, f3, f4⟩ := q_follow (sc := sc) hC1 hW'
  refine ⟨g, ?_, ⟨CC_of hC1 (fun a ha => f3 a (by omega) (by omega)), hW', f2, HI_of k2 (by rw [f3 1 (by omega) (by omega)]) (by rw [f4]) (fun b (hb : b < kpK γ.2.1) a ha => f3 a (by have := k2.2.2.1 b (by have := k2.2.1; omega); omega) (by have := k2.2.2.1 b (by have := k2.2.1; omega); omega)), ?_⟩, fun a ha => (f3 a (by omega) (by omega)).trans (k3 a (by omega)), by rw [f4]; exact k4⟩
  · rw [e_Co_settled, q_isRef0 hv]
    simp only [bd_s]
    rw [k1]
    simp only [bd_s, e_Hi_current]
    rw [f1]
    rfl
  · obtain ⟨n1, n2, n3, n4, n5, n6, n7⟩ := hN
    have e0 : g.1 0 = h.1 0 := (f3 0 (by omega) (by omega)).trans (k3 0 (by omega))
    have e5 : g.1 5 = h.1 5 := (f3 5 (by omega) (by omega)).trans (k3 5 (by omega))
    refine ⟨?_, ?_, ?_, ?_, n5, ?_, n7⟩
    · rw [e0]; exact n1
    · rw [e0]; exact n2
    · rw [e0]; exact n3
    · rw [e0]; exact n4
    · rw [e5]; exact n6
theorem q_chg {h : mm_H} {γ : Gs} (hI : IC h γ) (o : Ro) (hok : Ok o) (F : Nat → mm_H → Option mm_R) (hF : ∀ g, CC g γ.1 → Oc g o (F 14 g)) : ∃ g, mm_bd (mm_cal sc i_Hi_opened [.ref 1] h) (fun r1 => (bif (Nat.beq (mm_kd r1.1.2.2) 12 && true) && true then mm_bd (F r1.1.2.2 r1.2) (fun r2 => (mm_bd (mm_cal sc i_Co_settled [.ref 0, .int r2.1.1] r2.2) (fun r3 => some ((r3.1.1, 0, 0), r3.2)))) else none)) = some ((aO o, 0, 0), g) ∧ IC g (nO γ o) ∧ frC h g := by
  obtain ⟨i1, i2, i3, i4, i5⟩ := hI
  obtain ⟨g1, r1, r2, r3, r4, r5, r6⟩ := q_opened (sc := sc) i1 i2 i4
  have hN1 : CN g1 γ := CN_of i5 (r5.1 0 (by omega) (by omega)) (r5.1 5 (by omega) (by omega))
  have hf1 : frC h g1 := ⟨fun a ha => r5.1 a (by omega) (by omega), r5.2⟩
  rw [r1]
  simp only [bd_s, k14, cond_true]
  have hO := hF g1 r2
  cases o with
  | inl e =>
    have hO : F 14 g1 = some ((e, 0, 0), g1) := hO
    rw [hO]
    simp only [bd_s]
    have hI1 : IC g1 γ := ⟨r2, i2, TU_of i3 (fun a ha => r5.1 a (by omega) (by omega)), r3, hN1⟩
    obtain ⟨q1, q2⟩ := IC_rf hI1 e
    refine ⟨rfH g1 e, ?_, q1, hf1.tr q2⟩
    rw [e_Co_settled, q_isRef1 hok]
    simp only [bd_s, show decide ((1 : Int32) = 0) = false by decide +kernel, cond_false]
    rw [q_refused]
    rfl
  | inr p =>
    obtain ⟨v, σ'⟩ := p
    obtain ⟨g2, s1, s2, s3, s4⟩ := hO
    obtain ⟨v1, v2, hW'⟩ := hok
    rw [s1]
    simp only [bd_s]
    have hH2 : HI g2 γ.2.1 γ.2.2.1 := HI_of r3 (by rw [s3 1 (by omega) (by omega) (by omega) (by omega) (by omega)]) (by rw [s4]) (fun b hb a ha => by
      have := r3.2.2.1 b (by have := r3.2.1; omega)
      exact s3 a (by omega) (by omega) (by omega) (by omega) (by omega))
    have hB2 : CS g2 (g2.2.1 5) γ.1 := by
      rw [s4]
      have := r3.2.2.1 5 (by omega)
      exact CS_of r4 (fun a ha => s3 a (by omega) (by omega) (by omega) (by omega) (by omega))
    obtain ⟨g, t1, t2, t3⟩ := q_settled (sc := sc) v1 s2 hW' hH2 hB2 i2 (CN_of hN1 (s3 0 (by omega) (by omega) (by omega) (by omega) (by omega)) (s3 5 (by omega) (by omega) (by omega) (by omega) (by omega)))
    refine ⟨g, ?_, t2, hf1.tr (frC.tr ⟨fun a ha => s3 a (by omega) (by omega) (by omega) (by omega) (by omega), by rw [s4]⟩ t3)⟩
    rw [t1]
    rfl
theorem c_chord {h : mm_H} {γ : Gs} (hI : IC h γ) : ∃ g, mm_cal sc i_Co_chord [.ref 0] h = some ((aO (oChord γ.1), 0, 0), g) ∧ IC g (nO γ (oChord γ.1)) ∧ frC h g := by
  rw [e_Co_chord]
  exact q_chg hI _ (ok_chord hI.2.1) (fun s g => mm_cal sc i_Sc_addChord [.ref s] g) (fun g hC => q_addChord hC hI.2.1)
theorem c_tone {h : mm_H} {γ : Gs} (hI : IC h γ) (a b c : Int32) : ∃ g, mm_cal sc i_Co_tone [.ref 0, .int a, .int b, .int c] h = some ((aO (oTone γ.1 a b c), 0, 0), g) ∧ IC g (nO γ (oTone γ.1 a b c)) ∧ frC h g := by
  rw [e_Co_tone]
  exact q_chg hI _ (ok_tone hI.2.1 a b c) (fun s g => mm_cal sc i_Sc_addTone [.ref s, .int a, .int b, .int c] g) (fun g hC => q_addTone hC hI.2.1 a b c)
theorem c_tunes {h : mm_H} {γ : Gs} (hI : IC h γ) (a b c d : Int32) : ∃ g, mm_cal sc i_Co_tunes [.ref 0, .int a, .int b, .int c, .int d] h = some ((aO (oTunes γ.1 a b c d), 0, 0), g) ∧ IC g (nO γ (oTunes γ.1 a b c d)) ∧ frC h g := by
  rw [e_Co_tunes]
  exact q_chg hI _ (ok_tunes hI.2.1 a b c d) (fun s g => mm_cal sc i_Sc_changeTone [.ref s, .int a, .int b, .int c, .int d] g) (fun g hC => q_changeTone hC hI.2.1 a b c d)
theorem c_holds {h : mm_H} {γ : Gs} (hI : IC h γ) (a b c : Int32) : ∃ g, mm_cal sc i_Co_holds [.ref 0, .int a, .int b, .int c] h = some ((aO (oHolds γ.1 a b c), 0, 0), g) ∧ IC g (nO γ (oHolds γ.1 a b c)) ∧ frC h g := by
  rw [e_Co_holds]
  exact q_chg hI _ (ok_holds hI.2.1 a b c) (fun s g => mm_cal sc i_Sc_addTie [.ref s, .int a, .int b, .int c] g) (fun g hC => q_addTie hC hI.2.1 a b c)
theorem c_frees {h : mm_H} {γ : Gs} (hI : IC h γ) (a : Int32) : ∃ g, mm_cal sc i_Co_frees [.ref 0, .int a] h = some ((aO (oFrees γ.1 a), 0, 0), g) ∧ IC g (nO γ (oFrees γ.1 a)) ∧ frC h g := by
  rw [e_Co_frees]
  exact q_chg hI _ (ok_frees hI.2.1 a) (fun s g => mm_cal sc i_Sc_removeTie [.ref s, .int a] g) (fun g hC => q_removeTie hC hI.2.1 a)
theorem c_drops {h : mm_H} {γ : Gs} (hI : IC h γ) : ∃ g, mm_cal sc i_Co_drops [.ref 0] h = some ((aO (oDrops γ.1), 0, 0), g) ∧ IC g (nO γ (oDrops γ.1)) ∧ frC h g := by
  rw [e_Co_drops]
  exact q_chg hI _ (ok_drops hI.2.1) (fun s g => mm_cal sc i_Sc_removeLastChord [.ref s] g) (fun g hC => q_removeLast hC hI.2.1)
theorem c_limit {h : mm_H} {γ : Gs} (hI : IC h γ) (a : Int32) : ∃ g, mm_cal sc i_Co_limit [.ref 0, .int a] h = some ((aO (oLimit γ.1 a), 0, 0), g) ∧ IC g (nO γ (oLimit γ.1 a)) ∧ frC h g := by
  rw [e_Co_limit]
  exact q_chg hI _ (ok_limit hI.2.1 a) (fun s g => mm_cal sc i_Sc_changeLimit [.ref s, .int a] g) (fun g hC => q_changeLimit hC hI.2.1 a)
/-! back, type, clear, told -/
def xBack (γ : Gs) : Int32 × Gs := if γ.2.1 = 0 then (-100000003, rfu γ (-100000003)) else (nI (γ.2.1 - 1), (γ.2.2.1 (γ.2.1 - 1), γ.2.1 - 1, γ.2.2))
theorem c_back {h : mm_H} {γ : Gs} (hI : IC h γ) : ∃ g, mm_cal sc i_Co_back [.ref 0] h = some (((xBack γ).1, 0, 0), g) ∧ IC g (xBack γ).2 ∧ frC h g := by
  obtain ⟨i1, i2, i3, i4, i5⟩ := id hI
  have hk5 := i4.2.1
  have e := e_Co_back sc h
  rw [e_Hi_stateCount] at e
  simp only [bd_s] at e
  rw [i4.1, nI_ne_0 (by omega)] at e
  unfold xBack
  by_cases q : γ.2.1 = 0
  · rw [if_pos q]
    simp only [q, decide_true, cond_true] at e
    rw [q_refused] at e
    obtain ⟨q1, q2⟩ := IC_rf hI (-100000003)
    exact ⟨_, e, q1, q2⟩
  · rw [if_neg q]
    simp only [q, decide_false, cond_false] at e
    obtain ⟨m, hm⟩ : ∃ m, γ.2.1 = m + 1 := ⟨γ.2.1 - 1, by omega⟩
    obtain ⟨b1, b2⟩ := i4.2.2.1 m (by omega)
    have e2 := e_Hi_goBack sc h
    simp only [si1, si2, if_true, upd1] at e2
    rw [i4.1, hm, nI_sub1, show (0 : Int32) = nI 0 from rfl, nI_le_d (by omega) (by omega), inb_t (show m < 5 by omega) (by omega), i_cl (by omega)] at e2
    simp only [show ¬ m + 1 ≤ 0 by omega, decide_false, cond_false, cond_true] at e2
    obtain ⟨g1, r1, r2, r3, r4⟩ := q_copy (sc := sc) (d := 14) (s := h.2.1 m) (mm_si h 1 1 (nI m)) (by omega) (by omega) (by omega) (by omega) (by omega)
    rw [r1] at e2
    simp only [bd_s] at e2
    obtain ⟨c1, c2⟩ := i4.2.2.2.2 m (by omega)
    have hC1 : CC g1 (γ.2.2.1 m) := r2 _ c2 (CS_of c1 (fun a ha => by rw [si1, if_neg (by omega)]))
    obtain ⟨g, f1, f2, f3, f4⟩ := q_follow (sc := sc) hC1 c2
    have hg : ∀ a, a ≠ 1 → a ≠ 3 → (a < 6 ∨ 11 < a) → a ≠ 14 → (a < 21 ∨ 24 < a) → g.1 a = h.1 a := fun a a1 a2 a3 a4 a5 => by
      rw [f3 a a2 a3, r3 a a4 (by omega), si1, if_neg a1]
    have h1 : g.1 1 1 = nI m := by
      rw [f3 1 (by omega) (by omega), r3 1 (by omega) (by omega)]
      simp [si1, upd1]
    have h2 : g.2 = h.2 := by
      rw [f4, r4]
      rfl
    rw [e2] at e
    simp only [bd_s, e_Hi_current] at e
    rw [f1] at e
    simp only [bd_s, e_Hi_stateCount] at e
    rw [h1] at e
    rw [hm, show m + 1 - 1 = m by omega]
    refine ⟨g, e, ⟨CC_of hC1 (fun a ha => f3 a (by omega) (by omega)), c2, f2, ⟨h1, by show m ≤ 5; omega, ?_, ?_, fun a ha => ?_⟩, ?_⟩, fun a ha => hg a (by omega) (by omega) (by omega) (by omega) (by omega), by rw [h2]⟩
    · rw [h2]; exact i4.2.2.1
    · rw [h2]; exact i4.2.2.2.1
    · rw [h2]
      obtain ⟨d1, d2⟩ := i4.2.2.2.2 a (by have : a < m := ha; omega)
      have := i4.2.2.1 a (by have : a < m := ha; omega)
      exact ⟨CS_of d1 (fun x hx => hg x (by omega) (by omega) (by omega) (by omega) (by omega)), d2⟩
    · obtain ⟨n1, n2, n3, n4, n5, n6, n7⟩ := i5
      have e0 := hg 0 (by omega) (by omega) (by omega) (by omega) (by omega)
      have e5 := hg 5 (by omega) (by omega) (by omega) (by omega) (by omega)
      refine ⟨?_, ?_, ?_, ?_, n5, ?_, n7⟩
      · rw [e0]; exact n1
      · rw [e0]; exact n2
      · rw [e0]; exact n3
      · rw [e0]; exact n4
      · rw [e5]; exact n6
def xType (γ : Gs) (c : Int32) : Int32 × Gs := if mm_inb c 128 = true then (if γ.2.2.2.2.2.2.1 < 120 then (nI (γ.2.2.2.2.2.2.1 + 1), (γ.1, γ.2.1, γ.2.2.1, γ.2.2.2.1, γ.2.2.2.2.1, γ.2.2.2.2.2.1, γ.2.2.2.2.2.2.1 + 1, upd γ.2.2.2.2.2.2.2 γ.2.2.2.2.2.2.1 c)) else (-100000004, rfu γ (-100000004))) else (-100000002, rfu γ (-100000002))
theorem c_type {h : mm_H} {γ : Gs} (hI : IC h γ) (c : Int32) : ∃ g, mm_cal sc i_Co_type [.ref 0, .int c] h = some (((xType γ c).1, 0, 0), g) ∧ IC g (xType γ c).2 ∧ frC h g := by
  obtain ⟨i1, i2, i3, i4, i5⟩ := id hI
  obtain ⟨n1, n2, n3, n4, n5, n6, n7⟩ := i5
  have e := e_Co_type sc c h
  rw [q_inL (K := 127) (by decide +kernel)] at e
  simp only [bd_s, b2i_0] at e
  unfold xType
  cases hq : mm_inb c 128 with
  | false =>
    rw [hq] at e
    simp only [Bool.not_false, cond_true] at e
    rw [q_refused] at e
    rw [if_neg (by simp)]
    obtain ⟨q1, q2⟩ := IC_rf hI (-100000002)
    exact ⟨_, e, q1, q2⟩
  | true =>
    rw [hq, n4, show (120 : Int32) = nI 120 from rfl, nI_lt_d (by omega) (by omega)] at e
    simp only [Bool.not_true, cond_false] at e
    rw [if_pos rfl]
    by_cases q : γ.2.2.2.2.2.2.1 < 120
    · rw [if_pos q]
      rw [inb_t q (by omega), i_cl (by omega)] at e
      simp only [q, decide_true, cond_true, si1, show ¬ (0 : Nat) = 5 by omega, if_false, if_true, upd1, n4, nI_1] at e
      refine ⟨_, e, ⟨CC_of i1 (fun a ha => by simp [si1, show ¬ a = 0 by omega, show ¬ a = 5 by omega]), i2, TU_of i3 (fun a ha => by simp [si1, show ¬ a = 0 by omega, show ¬ a = 5 by omega]), HI_of i4 (by simp [si1]) rfl (fun b hb a ha => ?_), ?_⟩, fun a ha => ?_, rfl⟩
      · have hb : b < γ.2.1 := hb
        have := i4.2.2.1 b (by have := i4.2.1; omega)
        simp [si1, show ¬ a = 0 by omega, show ¬ a = 5 by omega]
      · refine ⟨by simp [si1, upd1, n1], by simp [si1, upd1, n2], by simp [si1, upd1, n3], by simp [si1, upd1], by show γ.2.2.2.2.2.2.1 + 1 ≤ 120; omega, fun j hj => ?_, fun j hj => ?_⟩
        · have hj : j < γ.2.2.2.2.2.2.1 + 1 := hj
          by_cases e2 : j = γ.2.2.2.2.2.2.1
          · simp [si1, upd1, e2]
          · have := n6 j (by omega)
            simp [si1, upd1, e2, this]
        · have hj : j < γ.2.2.2.2.2.2.1 + 1 := hj
          show mm_inb (upd γ.2.2.2.2.2.2.2 γ.2.2.2.2.2.2.1 c j) 128 = true
          by_cases e2 : j = γ.2.2.2.2.2.2.1
          · rw [e2, pk_us]
            exact hq
          · rw [pk_un e2]
            exact n7 j (by omega)
      · simp [si1, show ¬ a = 0 by omega, show ¬ a = 5 by omega]
    · rw [if_neg q]
      simp only [q, decide_false, cond_false] at e
      rw [q_refused] at e
      obtain ⟨q1, q2⟩ := IC_rf hI (-100000004)
      exact ⟨_, e, q1, q2⟩
def xClear (γ : Gs) : Int32 × Gs := (nI γ.2.2.2.2.2.2.1, (γ.1, γ.2.1, γ.2.2.1, γ.2.2.2.1, γ.2.2.2.2.1, γ.2.2.2.2.2.1, 0, γ.2.2.2.2.2.2.2))
theorem c_clear {h : mm_H} {γ : Gs} (hI : IC h γ) : ∃ g, mm_cal sc i_Co_clear [.ref 0] h = some (((xClear γ).1, 0, 0), g) ∧ IC g (xClear γ).2 ∧ frC h g := by
  obtain ⟨i1, i2, i3, i4, i5⟩ := id hI
  obtain ⟨n1, n2, n3, n4, n5, n6, n7⟩ := i5
  have e := e_Co_clear sc h
  rw [n4] at e
  refine ⟨_, e, ⟨CC_of i1 (fun a ha => by simp [si1, show ¬ a = 0 by omega]), i2, TU_of i3 (fun a ha => by simp [si1, show ¬ a = 0 by omega]), HI_of i4 (by simp [si1]) rfl (fun b hb a ha => ?_), ?_⟩, fun a ha => ?_, rfl⟩
  · have hb : b < γ.2.1 := hb
    have := i4.2.2.1 b (by have := i4.2.1; omega)
    simp [si1, show ¬ a = 0 by omega]
  · exact ⟨by simp [si1, upd1, n1, xClear], by simp [si1, upd1, n2, xClear], by simp [si1, upd1, n3, xClear], by simp [si1, upd1, xClear, nI_z], Nat.zero_le _, fun j hj => absurd hj (Nat.not_lt_zero j), fun j hj => absurd hj (Nat.not_lt_zero j)⟩
  · simp [si1, show ¬ a = 0 by omega]
end CLS
