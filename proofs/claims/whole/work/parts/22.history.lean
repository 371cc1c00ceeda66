/-! the history; what a change leaves behind -/
def CS (h : mm_H) (s : Nat) (σ : Sg) : Prop := CSb h s (21 + 4 * (s - 14)) (22 + 4 * (s - 14)) (23 + 4 * (s - 14)) (24 + 4 * (s - 14)) σ
theorem CS_of {h g : mm_H} {s : Nat} {σ : Sg} (hC : CS h s σ) (e : ∀ a, a = s ∨ (21 + 4 * (s - 14) ≤ a ∧ a ≤ 24 + 4 * (s - 14)) → g.1 a = h.1 a) : CS g s σ := by
  unfold CS CSb
  rw [e s (by omega), e (21 + 4 * (s - 14)) (by omega), e (22 + 4 * (s - 14)) (by omega), e (23 + 4 * (s - 14)) (by omega), e (24 + 4 * (s - 14)) (by omega)]
  exact hC
theorem kd_sc : ∀ x, x < 21 → 14 ≤ x → mm_kd x = 12 := by decide +kernel
theorem kd_ar : ∀ x, x < 49 → 21 ≤ x → mm_kd x = 0 := by decide +kernel
theorem rf_sc {d j : Nat} (h1 : 14 ≤ d) (h2 : d ≤ 20) : mm_rf d j = 21 + 4 * (d - 14) + j := by
  unfold mm_rf
  have e1 : Nat.ble d 13 = false := by
    cases q : Nat.ble d 13
    · rfl
    · have := Nat.le_of_ble_eq_true q
      omega
  have e2 : Nat.ble d 20 = true := Nat.ble_eq_true_of_le h2
  rw [e1, e2]
  rfl
theorem len_ar (sc : Nat × (Nat → Int32)) : ∀ x, x < 7 → mm_len sc (21 + 4 * x + 0) = 12 ∧ mm_len sc (21 + 4 * x + 1) = 240 ∧ mm_len sc (21 + 4 * x + 2) = 12 ∧ mm_len sc (21 + 4 * x + 3) = 12 := by
  intro x hx
  rcases (show x = 0 ∨ x = 1 ∨ x = 2 ∨ x = 3 ∨ x = 4 ∨ x = 5 ∨ x = 6 by omega) with rfl | rfl | rfl | rfl | rfl | rfl | rfl <;> exact ⟨rfl, rfl, rfl, rfl⟩
theorem sa1 {h : mm_H} {k a : Nat} {f : Nat → Int32} : (mm_sa h k f).1 a = if a = k then f else h.1 a := rfl
section HIST
variable {sc : Nat × (Nat → Int32)}
/-- one row copied: the pieces of the condition -/
theorem cp_true {x y L : Nat} (hx : mm_kd x = 0) (hy : mm_kd y = 0) (lx : mm_len sc x = L) (ly : mm_len sc y = L) (hL : L < 1000) : ((Nat.beq (mm_kd x) 0 && Nat.beq (mm_kd y) 0) && (Nat.ble (mm_cat []) 8 && ((decide (0 ≤ Int32.toInt 0) && (decide (0 ≤ Int32.toInt 0) && decide (0 ≤ Int32.toInt (nI (mm_len sc y))))) && (Nat.ble (Int32.toNatClampNeg 0 + Int32.toNatClampNeg (nI (mm_len sc y))) (mm_len sc x) && Nat.ble (Int32.toNatClampNeg 0 + Int32.toNatClampNeg (nI (mm_len sc y))) (mm_len sc y))))) = true := by
  rw [hx, hy, lx, ly, i_nI (by omega), i_cl (by omega), show (0 : Int32).toInt = 0 from rfl, show (0 : Int32).toNatClampNeg = 0 from rfl, Nat.zero_add, Nat.ble_eq_true_of_le (Nat.le_refl L), decide_eq_true (show (0 : Int) ≤ (L : Int) by omega)]
  rfl
theorem cp_at {f g : Nat → Int32} {L : Nat} (hL : L < 1000) : ∀ j, j < L → va_cpy f g (Int32.toNatClampNeg 0) (Int32.toNatClampNeg 0) (Int32.toNatClampNeg (nI L)) j = f j := by
  intro j hj
  rw [i_cl (by omega), show (0 : Int32).toNatClampNeg = 0 from rfl, pk_cpy_in (by omega) (by omega)]
  congr 1
  omega
theorem q_copy {d s : Nat} (h : mm_H) (d1 : 14 ≤ d) (d2 : d ≤ 20) (s1 : 14 ≤ s) (s2 : s ≤ 20) (hne : d ≠ s) : ∃ g, mm_cal sc i_Sc_copyFrom [.ref d, .ref s] h = some ((0, 0, 0), g) ∧ (∀ σ, WF σ → CS h s σ → CS g d σ) ∧ (∀ a, a ≠ d → ¬ (21 + 4 * (d - 14) ≤ a ∧ a ≤ 24 + 4 * (d - 14)) → g.1 a = h.1 a) ∧ g.2 = h.2 := by
  have kd := kd_sc d (by omega) d1
  have ks := kd_sc s (by omega) s1
  obtain ⟨l0, l1, l2, l3⟩ := len_ar sc (d - 14) (by omega)
  obtain ⟨m0, m1, m2, m3⟩ := len_ar sc (s - 14) (by omega)
  have ka : ∀ x j, x < 7 → j < 4 → mm_kd (21 + 4 * x + j) = 0 := fun x j hx hj => kd_ar _ (by omega) (by omega)
  have e0 := xe_Sc_copyFrom sc d s h
  rw [rf_sc d1 d2, rf_sc s1 s2, kd, ks, cp_true (ka _ 0 (by omega) (by omega)) (ka _ 0 (by omega) (by omega)) m0 l0 (by omega), ka _ 0 (by omega) (by omega), l0] at e0
  have e1 : ∀ k : mm_H, mm_ev sc i_Sc_copyFrom 10 [.ref d, .ref s] [] k = mm_ev sc i_Sc_copyFrom 20 [.ref d, .ref s] [] (mm_sa k (21 + 4 * (d - 14) + 1) (va_cpy (k.1 (21 + 4 * (s - 14) + 1)) (k.1 (21 + 4 * (d - 14) + 1)) (Int32.toNatClampNeg 0) (Int32.toNatClampNeg 0) (Int32.toNatClampNeg (nI 240)))) := by
    intro k
    rw [xl_Sc_copyFrom_10, rf_sc d1 d2, rf_sc s1 s2, kd, ks, cp_true (ka _ 1 (by omega) (by omega)) (ka _ 1 (by omega) (by omega)) m1 l1 (by omega), ka _ 1 (by omega) (by omega), l1]
    rfl
  have e2 : ∀ k : mm_H, mm_ev sc i_Sc_copyFrom 20 [.ref d, .ref s] [] k = mm_ev sc i_Sc_copyFrom 30 [.ref d, .ref s] [] (mm_sa k (21 + 4 * (d - 14) + 2) (va_cpy (k.1 (21 + 4 * (s - 14) + 2)) (k.1 (21 + 4 * (d - 14) + 2)) (Int32.toNatClampNeg 0) (Int32.toNatClampNeg 0) (Int32.toNatClampNeg (nI 12)))) := by
    intro k
    rw [xl_Sc_copyFrom_20, rf_sc d1 d2, rf_sc s1 s2, kd, ks, cp_true (ka _ 2 (by omega) (by omega)) (ka _ 2 (by omega) (by omega)) m2 l2 (by omega), ka _ 2 (by omega) (by omega), l2]
    rfl
  have e3 : ∀ k : mm_H, mm_ev sc i_Sc_copyFrom 30 [.ref d, .ref s] [] k = mm_ev sc i_Sc_copyFrom 40 [.ref d, .ref s] [] (mm_sa k (21 + 4 * (d - 14) + 3) (va_cpy (k.1 (21 + 4 * (s - 14) + 3)) (k.1 (21 + 4 * (d - 14) + 3)) (Int32.toNatClampNeg 0) (Int32.toNatClampNeg 0) (Int32.toNatClampNeg (nI 12)))) := by
    intro k
    rw [xl_Sc_copyFrom_30, rf_sc d1 d2, rf_sc s1 s2, kd, ks, cp_true (ka _ 3 (by omega) (by omega)) (ka _ 3 (by omega) (by omega)) m3 l3 (by omega), ka _ 3 (by omega) (by omega), l3]
    rfl
  have e4 : ∀ k : mm_H, mm_ev sc i_Sc_copyFrom 40 [.ref d, .ref s] [] k = some ((0, 0, 0), (mm_si (mm_si k d 4 (k.1 s 4)) d 5 ((mm_si k d 4 (k.1 s 4)).1 s 5))) := by
    intro k
    rw [xl_Sc_copyFrom_40, kd, ks]
    rfl
  have e0 : mm_cal sc i_Sc_copyFrom [.ref d, .ref s] h = mm_ev sc i_Sc_copyFrom 10 [.ref d, .ref s] [] (mm_sa h (21 + 4 * (d - 14) + 0) (va_cpy (h.1 (21 + 4 * (s - 14) + 0)) (h.1 (21 + 4 * (d - 14) + 0)) (Int32.toNatClampNeg 0) (Int32.toNatClampNeg 0) (Int32.toNatClampNeg (nI 12)))) := e0
  have e := e0.trans ((e1 _).trans ((e2 _).trans ((e3 _).trans (e4 _))))
  refine ⟨_, e, fun σ hW hC => ?_, fun a a1 a2 => ?_, rfl⟩
  · obtain ⟨c1, c2, c3, c4, c5⟩ := hC
    have hn := hW.1
    refine ⟨?_, ?_, fun x hx => ?_, fun x hx => ?_, fun x hx => ?_⟩
    · have g1 : ∀ k : mm_H, (mm_si (mm_si k d 4 (k.1 s 4)) d 5 ((mm_si k d 4 (k.1 s 4)).1 s 5)).1 d 4 = k.1 s 4 := fun k => by
        simp [si1, upd1]
      rw [g1]
      simp only [sa1]
      rw [if_neg (by omega), if_neg (by omega), if_neg (by omega), if_neg (by omega)]
      exact c1
    · have g1 : ∀ k : mm_H, (mm_si (mm_si k d 4 (k.1 s 4)) d 5 ((mm_si k d 4 (k.1 s 4)).1 s 5)).1 d 5 = k.1 s 5 := fun k => by
        simp [si1, upd1, show ¬ s = d by omega]
      rw [g1]
      simp only [sa1]
      rw [if_neg (by omega), if_neg (by omega), if_neg (by omega), if_neg (by omega)]
      exact c2
    · simp only [si1, sa1]
      rw [if_neg (by omega), if_neg (by omega), if_neg (by omega), if_neg (by omega), if_neg (by omega), if_pos (by omega), cp_at (by omega) x hx]
      exact c3 x hx
    · simp only [si1, sa1]
      rw [if_neg (by omega), if_neg (by omega), if_neg (by omega), if_neg (by omega), if_pos (by omega), cp_at (by omega) x hx]
      rw [if_neg (by omega), show 21 + 4 * (s - 14) + 1 = 22 + 4 * (s - 14) by omega]
      exact c4 x hx
    · have h5 := c5 x hx
      have g3 : ∀ k : mm_H, (mm_si (mm_si k d 4 (k.1 s 4)) d 5 ((mm_si k d 4 (k.1 s 4)).1 s 5)).1 (23 + 4 * (d - 14)) = k.1 (23 + 4 * (d - 14)) := fun k => by
        rw [si1, if_neg (by omega), si1, if_neg (by omega)]
      have g4 : ∀ k : mm_H, (mm_si (mm_si k d 4 (k.1 s 4)) d 5 ((mm_si k d 4 (k.1 s 4)).1 s 5)).1 (24 + 4 * (d - 14)) = k.1 (24 + 4 * (d - 14)) := fun k => by
        rw [si1, if_neg (by omega), si1, if_neg (by omega)]
      rw [g3, g4]
      simp only [sa1]
      rw [if_neg (show ¬ 23 + 4 * (d - 14) = 21 + 4 * (d - 14) + 3 by omega), if_pos (show 23 + 4 * (d - 14) = 21 + 4 * (d - 14) + 2 by omega), if_pos (show 24 + 4 * (d - 14) = 21 + 4 * (d - 14) + 3 by omega)]
      rw [cp_at (by omega) x (by omega), cp_at (by omega) x (by omega)]
      rw [if_neg (by omega), if_neg (by omega), if_neg (by omega), if_neg (by omega), if_neg (by omega)]
      rw [show 21 + 4 * (s - 14) + 2 = 23 + 4 * (s - 14) by omega, show 21 + 4 * (s - 14) + 3 = 24 + 4 * (s - 14) by omega]
      exact h5
  · simp only [si1, sa1]
    rw [if_neg a1, if_neg a1, if_neg (by omega), if_neg (by omega), if_neg (by omega), if_neg (by omega)]
/-- states to go back to: k of them, hs -/
def HI (h : mm_H) (k : Nat) (hs : Nat → Sg) : Prop := h.1 1 1 = nI k ∧ k ≤ 5 ∧ (∀ a, a < 6 → 15 ≤ h.2.1 a ∧ h.2.1 a ≤ 20) ∧ (∀ a b, a < 6 → b < 6 → h.2.1 a = h.2.1 b → a = b) ∧ ∀ a, a < k → CS h (h.2.1 a) (hs a) ∧ WF (hs a)
def kpK (k : Nat) : Nat := if k = 5 then 5 else k + 1
def kpH (k : Nat) (hs : Nat → Sg) (σ : Sg) : Nat → Sg := fun a => if k = 5 then (if a = 4 then σ else hs (a + 1)) else (if a = k then σ else hs a)
theorem HI_of {h g : mm_H} {k : Nat} {hs : Nat → Sg} (hH : HI h k hs) (h1 : g.1 1 1 = h.1 1 1) (h2 : g.2.1 = h.2.1) (h3 : ∀ b, b < k → ∀ a, a = h.2.1 b ∨ (21 + 4 * (h.2.1 b - 14) ≤ a ∧ a ≤ 24 + 4 * (h.2.1 b - 14)) → g.1 a = h.1 a) : HI g k hs := by
  obtain ⟨a1, a2, a3, a4, a5⟩ := hH
  refine ⟨h1.trans a1, a2, ?_, ?_, fun a ha => ?_⟩
  · rw [h2]; exact a3
  · rw [h2]; exact a4
  · rw [h2]
    exact ⟨CS_of (a5 a ha).1 (h3 a ha), (a5 a ha).2⟩
/-- what the history may touch -/
def frH (h g : mm_H) : Prop := (∀ a, a ≠ 1 → (a < 15 ∨ (20 < a ∧ a < 25) ∨ 48 < a) → g.1 a = h.1 a) ∧ g.2.2 = h.2.2
theorem q_opened {h : mm_H} {σ : Sg} {k : Nat} {hs : Nat → Sg} (hC : CC h σ) (hW : WF σ) (hH : HI h k hs) : ∃ g, mm_cal sc i_Hi_opened [.ref 1] h = some ((0, 0, 14), g) ∧ CC g σ ∧ HI g k hs ∧ CS g (g.2.1 5) σ ∧ frH h g ∧ g.1 1 = h.1 1 := by
  obtain ⟨a1, a2, a3, a4, a5⟩ := id hH
  obtain ⟨b1, b2⟩ := a3 5 (by omega)
  obtain ⟨g, r1, r2, r3, r4⟩ := q_copy (sc := sc) (d := h.2.1 5) (s := 14) h (by omega) b2 (by omega) (by omega) (by omega)
  have kd := kd_sc (h.2.1 5) (by omega) (by omega)
  refine ⟨g, ?_, CC_of hC (fun a ha => r3 a (by omega) (by omega)), HI_of hH (by rw [r3 1 (by omega) (by omega)]) (by rw [r4]) (fun b hb a ha => ?_), ?_, ⟨fun a q1 q2 => r3 a (by omega) (by omega), by rw [r4]⟩, r3 1 (by omega) (by omega)⟩
  · rw [e_Hi_opened, kd, r1]
    rfl
  · have hd : h.2.1 b ≠ h.2.1 5 := fun e => by
      have := a4 b 5 (by omega) (by omega) e
      omega
    have := a3 b (by omega)
    exact r3 a (by omega) (by omega)
  · rw [r4]
    exact r2 σ hW hC
theorem sr1 {h : mm_H} {j v a : Nat} : (mm_sr h j v).2.1 a = if a = j then v else h.2.1 a := rfl
theorem sr2 {h : mm_H} {j v : Nat} : (mm_sr h j v).1 = h.1 := rfl
theorem sr3 {h : mm_H} {j v : Nat} : (mm_sr h j v).2.2 = h.2.2 := rfl
theorem q_lose7 {h : mm_H} {x1 : Nat} {x : Nat} (hx1 : 1 ≤ x) (hx : x < 5) (hk : mm_kd (h.2.1 x) = 12) : mm_ev sc i_Hi_loseOldest 7 [.ref 1, .ref x1, .int (nI x)] [] h = mm_ev sc i_Hi_loseOldest 7 [.ref 1, .ref x1, .int (nI (x + 1))] [] (mm_sr h (x - 1) (h.2.1 x)) := by
  obtain ⟨y, rfl⟩ : ∃ y, x = y + 1 := ⟨x - 1, by omega⟩
  rw [l_Hi_loseOldest_7, show (5 : Int32) = nI 5 from rfl, nI_le_d (by omega) (by omega), inb_t hx (by omega), nI_sub1, inb_t (show y < 5 by omega) (by omega), i_cl (show y + 1 < 2147483648 by omega), hk, nI_1, i_cl (by omega)]
  simp only [show ¬ 5 ≤ y + 1 by omega, decide_false, cond_false, cond_true]
  rfl
theorem q_lose {h : mm_H} {hs : Nat → Sg} (hH : HI h 5 hs) : ∃ g, mm_cal sc i_Hi_loseOldest [.ref 1] h = some ((0, 0, 0), g) ∧ HI g 4 (fun a => hs (a + 1)) ∧ (∀ a, a ≠ 1 → g.1 a = h.1 a) ∧ g.2.1 5 = h.2.1 5 ∧ g.2.2 = h.2.2 := by
  obtain ⟨a1, a2, a3, a4, a5⟩ := hH
  have kd : ∀ a, a < 6 → mm_kd (h.2.1 a) = 12 := fun a ha => kd_sc _ (by have := a3 a ha; omega) (by have := a3 a ha; omega)
  have e := e_Hi_loseOldest sc h
  rw [show (0 : Int32).toNatClampNeg = 0 from rfl, show (1 : Int32) = nI 1 from rfl, q_lose7 (by omega) (by omega) (kd 1 (by omega))] at e
  rw [q_lose7 (by omega) (by omega) (by simp only [sr1]; exact kd 2 (by omega))] at e
  rw [q_lose7 (by omega) (by omega) (by simp only [sr1]; exact kd 3 (by omega))] at e
  rw [q_lose7 (by omega) (by omega) (by simp only [sr1]; exact kd 4 (by omega))] at e
  rw [l_Hi_loseOldest_7, show (5 : Int32) = nI 5 from rfl, nI_le_d (by omega) (by omega), kd 0 (by omega), show (4 : Int32).toNatClampNeg = 4 from rfl] at e
  simp only [Nat.le_refl, decide_true, cond_true, sr2, a1] at e
  have e5 : nI 5 - 1 = nI 4 := nI_pred 4
  rw [e5] at e
  have rr : ∀ a, a < 5 → ((mm_si (mm_sr (mm_sr (mm_sr (mm_sr (mm_sr h (1 - 1) (h.2.1 1)) (1 + 1 - 1) ((mm_sr h (1 - 1) (h.2.1 1)).2.1 (1 + 1))) (1 + 1 + 1 - 1) ((mm_sr (mm_sr h (1 - 1) (h.2.1 1)) (1 + 1 - 1) ((mm_sr h (1 - 1) (h.2.1 1)).2.1 (1 + 1))).2.1 (1 + 1 + 1))) (1 + 1 + 1 + 1 - 1) ((mm_sr (mm_sr (mm_sr h (1 - 1) (h.2.1 1)) (1 + 1 - 1) ((mm_sr h (1 - 1) (h.2.1 1)).2.1 (1 + 1))) (1 + 1 + 1 - 1) ((mm_sr (mm_sr h (1 - 1) (h.2.1 1)) (1 + 1 - 1) ((mm_sr h (1 - 1) (h.2.1 1)).2.1 (1 + 1))).2.1 (1 + 1 + 1))).2.1 (1 + 1 + 1 + 1))) 4 (h.2.1 0)) 1 1 (nI 4)).2.1 a) = if a = 4 then h.2.1 0 else h.2.1 (a + 1) := by
    intro a ha
    rcases (show a = 0 ∨ a = 1 ∨ a = 2 ∨ a = 3 ∨ a = 4 by omega) with rfl | rfl | rfl | rfl | rfl <;> simp [si2, sr1]
  refine ⟨_, e, ⟨?_, by omega, fun a ha => ?_, fun a b ha hb hab => ?_, fun a ha => ?_⟩, fun a ha => ?_, ?_, rfl⟩
  · simp [si1, upd1]
  · by_cases q : a = 5
    · subst q
      simp [si2, sr1]
      exact a3 5 (by omega)
    · rw [rr a (by omega)]
      split
      · exact a3 0 (by omega)
      · exact a3 (a + 1) (by omega)
  · have r5 : ∀ a, a < 6 → ((mm_si (mm_sr (mm_sr (mm_sr (mm_sr (mm_sr h (1 - 1) (h.2.1 1)) (1 + 1 - 1) ((mm_sr h (1 - 1) (h.2.1 1)).2.1 (1 + 1))) (1 + 1 + 1 - 1) ((mm_sr (mm_sr h (1 - 1) (h.2.1 1)) (1 + 1 - 1) ((mm_sr h (1 - 1) (h.2.1 1)).2.1 (1 + 1))).2.1 (1 + 1 + 1))) (1 + 1 + 1 + 1 - 1) ((mm_sr (mm_sr (mm_sr h (1 - 1) (h.2.1 1)) (1 + 1 - 1) ((mm_sr h (1 - 1) (h.2.1 1)).2.1 (1 + 1))) (1 + 1 + 1 - 1) ((mm_sr (mm_sr h (1 - 1) (h.2.1 1)) (1 + 1 - 1) ((mm_sr h (1 - 1) (h.2.1 1)).2.1 (1 + 1))).2.1 (1 + 1 + 1))).2.1 (1 + 1 + 1 + 1))) 4 (h.2.1 0)) 1 1 (nI 4)).2.1 a) = h.2.1 (if a = 4 then 0 else if a = 5 then 5 else a + 1) := by
      intro a ha
      rcases (show a = 0 ∨ a = 1 ∨ a = 2 ∨ a = 3 ∨ a = 4 ∨ a = 5 by omega) with rfl | rfl | rfl | rfl | rfl | rfl <;> simp [si2, sr1]
    rw [r5 a ha, r5 b hb] at hab
    have := a4 _ _ (by split <;> (try split) <;> omega) (by split <;> (try split) <;> omega) hab
    split at this <;> split at this <;> (try split at this) <;> (try split at this) <;> omega
  · rw [rr a (by omega), if_neg (by omega)]
    obtain ⟨k1, k2⟩ := a5 (a + 1) (by omega)
    have := a3 (a + 1) (by omega)
    exact ⟨CS_of k1 (fun x hx => by rw [si1, if_neg (by omega)]; rfl), k2⟩
  · rw [si1, if_neg ha]
    rfl
  · simp [si2, sr1]
/-- the state before is kept -/
theorem q_keep0 {h : mm_H} {k : Nat} {hs : Nat → Sg} {σ : Sg} (hH : HI h k hs) (hk : k < 5) (hB : CS h (h.2.1 5) σ) (hW : WF σ) : ∃ g, (bif mm_inb (h.1 1 1) 5 then (bif (mm_inb (h.1 1 1) 5 && Nat.beq (mm_kd (h.2.1 5)) 12) then some ((0, 0, 0), (mm_si (mm_sr (mm_sr h (Int32.toNatClampNeg (h.1 1 1)) (h.2.1 5)) 5 (h.2.1 (Int32.toNatClampNeg (h.1 1 1)))) 1 1 (((mm_sr (mm_sr h (Int32.toNatClampNeg (h.1 1 1)) (h.2.1 5)) 5 (h.2.1 (Int32.toNatClampNeg (h.1 1 1)))).1 1 1) + 1))) else none) else none) = (some ((0, 0, 0), g) : Option mm_R) ∧ HI g (k + 1) (fun a => if a = k then σ else hs a) ∧ (∀ a, a ≠ 1 → g.1 a = h.1 a) ∧ g.2.2 = h.2.2 := by
  obtain ⟨a1, a2, a3, a4, a5⟩ := hH
  have kd := kd_sc (h.2.1 5) (by have := a3 5 (by omega); omega) (by have := a3 5 (by omega); omega)
  rw [a1, inb_t hk (by omega), kd, i_cl (by omega)]
  simp only [sr2, a1, nI_1]
  have r5 : ∀ a, a < 6 → (mm_si (mm_sr (mm_sr h k (h.2.1 5)) 5 (h.2.1 k)) 1 1 (nI (k + 1))).2.1 a = h.2.1 (if a = k then 5 else if a = 5 then k else a) := by
    intro a ha
    rw [si2]
    simp only [sr1]
    by_cases q : a = 5
    · subst q
      rw [if_pos rfl, if_neg (by omega), if_pos rfl]
    · rw [if_neg q]
      by_cases q2 : a = k
      · rw [if_pos q2, if_pos q2]
      · rw [if_neg q2, if_neg q2, if_neg q]
  refine ⟨_, rfl, ⟨?_, by omega, fun a ha => ?_, fun a b ha hb hab => ?_, fun a ha => ?_⟩, fun a ha => ?_, rfl⟩
  · simp [si1, upd1]
  · rw [r5 a ha]
    exact a3 _ (by split <;> (try split) <;> omega)
  · rw [r5 a ha, r5 b hb] at hab
    have := a4 _ _ (by split <;> (try split) <;> omega) (by split <;> (try split) <;> omega) hab
    split at this <;> split at this <;> (try split at this) <;> (try split at this) <;> omega
  · rw [r5 a (by omega)]
    dsimp only
    by_cases q : a = k
    · rw [if_pos q, if_pos q]
      have := a3 5 (by omega)
      exact ⟨CS_of hB (fun x hx => by rw [si1, if_neg (by omega)]; rfl), hW⟩
    · rw [if_neg q, if_neg (by omega), if_neg q]
      obtain ⟨k1, k2⟩ := a5 a (by omega)
      have := a3 a (by omega)
      exact ⟨CS_of k1 (fun x hx => by rw [si1, if_neg (by omega)]; rfl), k2⟩
  · rw [si1, if_neg ha]
    rfl
theorem q_keep {h : mm_H} {k : Nat} {hs : Nat → Sg} {σ : Sg} (hH : HI h k hs) (hB : CS h (h.2.1 5) σ) (hW : WF σ) : ∃ g, mm_cal sc i_Hi_keep [.ref 1] h = some ((0, 0, 0), g) ∧ HI g (kpK k) (kpH k hs σ) ∧ (∀ a, a ≠ 1 → g.1 a = h.1 a) ∧ g.2.2 = h.2.2 := by
  have e := e_Hi_keep sc h
  have hk5 := hH.2.1
  rw [show decide (h.1 1 1 = 5) = decide (k = 5) by rw [hH.1, show (5 : Int32) = nI 5 from rfl, nI_eq_d (by omega) (by omega)]] at e
  by_cases q : k = 5
  · subst q
    obtain ⟨g1, r1, r2, r3, r4, r5⟩ := q_lose (sc := sc) hH
    rw [r1] at e
    simp only [decide_true, cond_true, bd_s] at e
    obtain ⟨g, k1, k2, k3, k4⟩ := q_keep0 r2 (by omega) (σ := σ) (by rw [r4]; exact CS_of hB (fun x hx => r3 x (by have := hH.2.2.1 5 (by omega); omega))) hW
    refine ⟨g, e.trans k1, k2, fun a ha => (k3 a ha).trans (r3 a ha), k4.trans r5⟩
  · simp only [q, decide_false, cond_false] at e
    obtain ⟨g, k1, k2, k3, k4⟩ := q_keep0 hH (by omega) hB hW
    refine ⟨g, e.trans k1, ?_, k3, k4⟩
    have e1 : kpK k = k + 1 := by
      unfold kpK
      rw [if_neg q]
    have e2 : kpH k hs σ = fun a => if a = k then σ else hs a := by
      funext a
      unfold kpH
      rw [if_neg q]
    rw [e1, e2]
    exact k2
end HIST
