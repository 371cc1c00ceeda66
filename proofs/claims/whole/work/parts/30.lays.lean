/-! the model works out roots, parts, shares, sets -/
def frL (h g : mm_H) : Prop := (∀ a, a ≠ 49 → (a < 55 ∨ 60 < a) → g.1 a = h.1 a) ∧ (∀ j, j ≠ 13 → g.1 49 j = h.1 49 j) ∧ g.2 = h.2
theorem frL.rf {h : mm_H} : frL h h := ⟨fun _ _ _ => rfl, fun _ _ => rfl, rfl⟩
theorem frL.tr {h g k : mm_H} (h1 : frL h g) (h2 : frL g k) : frL h k := ⟨fun a x y => (h2.1 a x y).trans (h1.1 a x y), fun j x => (h2.2.1 j x).trans (h1.2.1 j x), h2.2.2.trans h1.2.2⟩
theorem frL.m {h g : mm_H} (h1 : frL h g) : frM h g := ⟨fun a ha => h1.1 a (by omega) (by omega), by rw [h1.2.2]⟩
theorem Mr_frL {h g : mm_H} {σ : Sg} (hM : Mr (h.1 50) σ) (f : frL h g) : Mr (g.1 50) σ := by
  rw [f.1 50 (by omega) (by omega)]
  exact hM
theorem IM_frL {h g : mm_H} {γ : Gs} (hI : IM h γ) (f : frL h g) : IM g γ := ⟨Mr_frL hI.1 f, hI.2.1, MH_of hI.2.2.1 (f.2.1 3 (by omega)) (f.1 52 (by omega) (by omega)), MN_of hI.2.2.2 (f.2.1 6 (by omega)) (f.1 53 (by omega) (by omega)) (f.1 54 (by omega) (by omega))⟩
def U1 (g : mm_H) (σ : Sg) (c : Nat) : Prop := g.1 49 13 = nI (np σ c) ∧ (∀ x k, x < c → k < 4 → g.1 55 (4 * x + k) = rt σ x k) ∧ (∀ x, x < c → g.1 56 x = nI (np σ (x + 1) - 1)) ∧ ∀ p, p < np σ c → g.1 57 p = nI (fi σ c p) ∧ g.1 58 p = nI (la σ c p)
def U2 (g : mm_H) (σ : Sg) (x : Nat) : Prop := (∀ c, c < x → g.1 60 c = st σ c) ∧ ∀ c, c < x → g.1 59 c = if td σ c = true then sh σ c else 0
theorem U1_step {g g1 : mm_H} {σ : Sg} {c : Nat} (hT : U1 g σ c) (hc : c < 12) (h6 : g1.1 49 13 = nI (np σ (c + 1))) (hr : ∀ k, k < 4 → g1.1 55 (4 * c + k) = rt σ c k) (ho : ∀ x, x < 4 * c → g1.1 55 x = g.1 55 x) (h7 : g1.1 56 = upd (g.1 56) c (nI (np σ (c + 1) - 1))) (h8 : ∀ p, p < np σ (c + 1) → g1.1 57 p = nI (fi σ (c + 1) p)) (h9 : g1.1 58 = upd (g.1 58) (np σ (c + 1) - 1) (nI c)) : U1 g1 σ (c + 1) := by
  obtain ⟨t1, t2, t3, t4⟩ := hT
  refine ⟨h6, fun x k hx hk => ?_, fun x hx => ?_, fun p hp => ⟨h8 p hp, ?_⟩⟩
  · by_cases e : x = c
    · subst e
      exact hr k hk
    · rw [ho _ (by omega)]
      exact t2 x k (by omega) hk
  · rw [h7]
    by_cases e : x = c
    · subst e
      simp [upd1]
    · rw [pk_un e]
      exact t3 x (by omega)
  · rw [h9]
    have ela : la σ (c + 1) p = if p + 1 = np σ (c + 1) then c else la σ c p := rfl
    rw [ela]
    have hpos := np_pos σ c
    by_cases e : p + 1 = np σ (c + 1)
    · rw [if_pos e, show p = np σ (c + 1) - 1 by omega]
      simp [upd1]
    · rw [if_neg e, pk_un (by omega)]
      have enp : np σ (c + 1) = if tdp σ c = true then np σ c else np σ c + 1 := rfl
      have : p < np σ c := by
        split at enp <;> omega
      exact (t4 p this).2
section LAY
variable {sc : Nat × (Nat → Int32)} {h : mm_H} {σ : Sg}
theorem m_isTied (hM : Mr (h.1 50) σ) (hW : WF σ) (a : Int32) : mm_cal sc i_Mo_isTied [.ref 49, .int a] h = some ((b2i (tdI σ a), 0, 0), h) := by
  have hn := hW.1
  rw [e_Mo_isTied, cl0, hM.1]
  unfold tdI
  have es : (nI σ.1 - 1).toInt = (σ.1 : Int) - 1 := by
    rw [i_sub (by rw [i_nI (by omega)]; show _ ≤ (σ.1 : Int) - 1; omega) (by rw [i_nI (by omega)]; show (σ.1 : Int) - 1 < _; omega), i_nI (by omega)]
    rfl
  have z0 : (0 : Int32).toInt = 0 := rfl
  cases h1 : mm_inb a (σ.1 - 1) with
  | true =>
    obtain ⟨c, hc, hc2, rfl⟩ := inb_ex h1
    have q1 : decide (nI c < 0) = false := by
      rw [decide_eq_false_iff_not, i_lt, i_nI hc2, z0]
      omega
    have q2 : decide (nI σ.1 - 1 ≤ nI c) = false := by
      rw [decide_eq_false_iff_not, i_le, i_nI hc2, es]
      omega
    rw [q1, q2, show (254 : Int32) = nI 254 from rfl, nI_add, inb_t (show 254 + c < 266 by omega) (by omega), i_cl (show 254 + c < 2147483648 by omega), i_cl hc2, (m_tied hM hW (show c < σ.1 by omega)).2]
    simp only [cond_false, cond_true, Bool.true_and]
    cases (σ.2.2.2.2 c).isSome <;> rfl
  | false =>
    rw [Bool.false_and]
    by_cases q : a.toInt < 0
    · rw [show decide (a < 0) = true from decide_eq_true (by rw [i_lt, z0]; exact q)]
      rfl
    · have q2 : decide (nI σ.1 - 1 ≤ a) = true := by
        rw [decide_eq_true_eq, i_le, es]
        have h2 : ¬ (mm_inb a (σ.1 - 1) = true) := by rw [h1]; simp
        rw [inb_iff] at h2
        omega
      rw [q2]
      cases decide (a < 0) <;> rfl
theorem m_rootU {c k : Nat} (hc : c < 12) (hk : k < 4) (w : Value) (g : mm_H) : mm_ev sc i_Mo_laysRoot 8 [.ref 49, .int (nI c), .int 0, .int (nI k), w] [] g = mm_ev sc i_Mo_laysRoot 8 [.ref 49, .int (nI c), .int 0, .int (nI (k + 1)), .int 0] [] (mm_si g 55 (4 * c + k) 0) := by
  rw [l_Mo_laysRoot_8, ltt4, nI_le_d (by omega) (by omega), decide_eq_false (show ¬ 4 ≤ k by omega), cond_false, decide_eq_true (rfl : (0 : Int32) = 0), cond_true, cond_true, pk_mul, nI_add, inb_t (show 4 * c + k < 48 by omega) (by omega), i_cl (by omega), nI_1 k]
  rfl
theorem m_rootT {c i j k : Nat} (hM : Mr (h.1 50) σ) (hW : WF σ) (ht : σ.2.2.2.2 c = some (i, j)) (hk : k < 4) (w : Value) : mm_ev sc i_Mo_laysRoot 8 [.ref 49, .int (nI (c + 1)), .int 1, .int (nI k), w] [] h = mm_ev sc i_Mo_laysRoot 8 [.ref 49, .int (nI (c + 1)), .int 1, .int (nI (k + 1)), .int (σ.2.2.2.1 ((c * 5 + i) * 4 + k) - σ.2.2.2.1 (((c + 1) * 5 + j) * 4 + k))] [] (mm_si h 55 (4 * (c + 1) + k) (h.1 55 (4 * c + k) + (σ.2.2.2.1 ((c * 5 + i) * 4 + k) - σ.2.2.2.1 (((c + 1) * 5 + j) * 4 + k)))) := by
  have hn := hW.1
  obtain ⟨k1, k2, k3⟩ := hW.2.2.2.2 c i j ht
  have e := l_Mo_laysRoot_8 sc (nI (c + 1)) 1 (nI k) w h
  rw [ltt4, nI_le_d (by omega) (by omega), decide_eq_false (show ¬ 4 ≤ k by omega), cond_false, show decide ((1 : Int32) = 0) = false from rfl, show (254 : Int32) = nI 254 from rfl, nI_add, ← Nat.add_assoc, nI_sub1, nI_sub1, inb_t (show 254 + c < 266 by omega) (by omega), i_cl (show 254 + c < 2147483648 by omega), (hM.2.2.2.2 c (by omega)).2 i j ht, ltt5, pk_div (by omega) (by omega) (by omega), show (5 * i + j) / 5 = i by omega, m_place] at e
  simp only [bd_s, cond_true, cond_false] at e
  rw [(hM.2.2.2.2 c (by omega)).2 i j ht, pk_div (by omega) (by omega) (by omega), pk_mul, pk_sub (by omega), show 5 * i + j - (5 * i + j) / 5 * 5 = j by omega, m_place, nI_add, inb_t (show 14 + (c * 5 + i) * 4 + k < 266 by omega) (by omega), i_cl (show 14 + (c * 5 + i) * 4 + k < 2147483648 by omega)] at e
  simp only [bd_s, cond_true, cond_false] at e
  rw [nI_add, inb_t (show 14 + ((c + 1) * 5 + j) * 4 + k < 266 by omega) (by omega), i_cl (show 14 + ((c + 1) * 5 + j) * 4 + k < 2147483648 by omega), pk_mul, pk_sub (by omega), nI_add, nI_add, inb_t (show 4 * (c + 1) - 4 + k < 48 by omega) (by omega), inb_t (show 4 * (c + 1) + k < 48 by omega) (by omega), i_cl (show 4 * (c + 1) - 4 + k < 2147483648 by omega), i_cl (show 4 * (c + 1) + k < 2147483648 by omega), nI_1 k, show 4 * (c + 1) - 4 + k = 4 * c + k by omega, Nat.add_assoc 14, Nat.add_assoc 14, hM.2.2.2.1 _ (by omega), hM.2.2.2.1 _ (by omega)] at e
  exact e
theorem m_laysRoot {c : Nat} {g : mm_H} (hM : Mr (g.1 50) σ) (hW : WF σ) (hc : c < σ.1) (hT : U1 g σ c) : ∃ g', mm_cal sc i_Mo_laysRoot [.ref 49, .int (nI c)] g = some ((0, 0, 0), g') ∧ U1 g' σ (c + 1) ∧ frL g g' := by
  have hn := hW.1
  have e := e_Mo_laysRoot sc (nI c) g
  rw [m_isTied hM hW] at e
  simp only [bd_s] at e
  have htd : tdI σ (nI c - 1) = tdp σ c := by
    cases c with
    | zero =>
      unfold tdI tdp
      have : mm_inb (nI 0 - 1) (σ.1 - 1) = false := by
        unfold mm_inb
        rw [show (nI 0 - 1).toInt = -1 by decide +kernel]
        rfl
      rw [this]
      rfl
    | succ c =>
      rw [nI_sub1, tdI_at hn (by omega)]
      rfl
  rw [htd] at e
  have enp : np σ (c + 1) = if tdp σ c = true then np σ c else np σ c + 1 := rfl
  have efi : ∀ p, fi σ (c + 1) p = if tdp σ c = true then fi σ c p else (if p = np σ c then c else fi σ c p) := fun _ => rfl
  have hle := np_le σ c
  have hle1 := np_le σ (c + 1)
  have hpos := np_pos σ c
  obtain ⟨t1, t2, t3, t4⟩ := id hT
  cases ht : tdp σ c with
  | false =>
    rw [ht] at e enp
    simp only [Bool.false_eq_true, if_false] at enp
    rw [b2i_f, show (Value.int (0 : Int32)) = .int (nI 0) from rfl] at e
    have e' : mm_cal sc i_Mo_laysRoot [.ref 49, .int (nI c)] g = mm_ev sc i_Mo_laysRoot 8 [.ref 49, .int (nI c), .int 0, .int (nI 0), .null] [] g := e
    rw [m_rootU (by omega) (by omega), m_rootU (by omega) (by omega), m_rootU (by omega) (by omega), m_rootU (by omega) (by omega), l_Mo_laysRoot_8, ltt4, nI_le_d (by omega) (by omega), decide_eq_true (show 4 ≤ 0 + 1 + 1 + 1 + 1 by omega), cond_true, decide_eq_true (rfl : (0 : Int32) = 0), cond_true] at e'
    have x49 : (mm_si (mm_si (mm_si (mm_si g 55 (4 * c + 0) 0) 55 (4 * c + (0 + 1)) 0) 55 (4 * c + (0 + 1 + 1)) 0) 55 (4 * c + (0 + 1 + 1 + 1)) 0).1 49 = g.1 49 := by
      simp only [si1, show ¬ (49 : Nat) = 55 by omega, if_false]
    have x55 : (∀ k, k < 4 → (mm_si (mm_si (mm_si (mm_si g 55 (4 * c + 0) 0) 55 (4 * c + (0 + 1)) 0) 55 (4 * c + (0 + 1 + 1)) 0) 55 (4 * c + (0 + 1 + 1 + 1)) 0).1 55 (4 * c + k) = 0) ∧ ∀ x, x < 4 * c → (mm_si (mm_si (mm_si (mm_si g 55 (4 * c + 0) 0) 55 (4 * c + (0 + 1)) 0) 55 (4 * c + (0 + 1 + 1)) 0) 55 (4 * c + (0 + 1 + 1 + 1)) 0).1 55 x = g.1 55 x := by
      refine ⟨fun k hk => ?_, fun x hx => ?_⟩
      · simp only [si1, upd1, if_true]
        rcases (show k = 0 ∨ k = 1 ∨ k = 2 ∨ k = 3 by omega) with rfl | rfl | rfl | rfl <;> simp
      · simp only [si1, upd1, if_true]
        rw [if_neg (by omega), if_neg (by omega), if_neg (by omega), if_neg (by omega)]
    have xo : ∀ a, a ≠ 55 → (mm_si (mm_si (mm_si (mm_si g 55 (4 * c + 0) 0) 55 (4 * c + (0 + 1)) 0) 55 (4 * c + (0 + 1 + 1)) 0) 55 (4 * c + (0 + 1 + 1 + 1)) 0).1 a = g.1 a := fun a ha => by
      simp only [si1, ha, if_false]
    have x2 : (mm_si (mm_si (mm_si (mm_si g 55 (4 * c + 0) 0) 55 (4 * c + (0 + 1)) 0) 55 (4 * c + (0 + 1 + 1)) 0) 55 (4 * c + (0 + 1 + 1 + 1)) 0).2 = g.2 := rfl
    generalize mm_si (mm_si (mm_si (mm_si g 55 (4 * c + 0) 0) 55 (4 * c + (0 + 1)) 0) 55 (4 * c + (0 + 1 + 1)) 0) 55 (4 * c + (0 + 1 + 1 + 1)) 0 = g1 at e' x49 x55 xo x2
    have y49 : g1.1 49 13 = nI (np σ c) := by rw [x49]; exact t1
    simp only [si1, upd1, if_true, show ¬ (49 : Nat) = 57 by omega, show ¬ (49 : Nat) = 56 by omega, if_false, y49, nI_1, nI_sub1, i_cl (show c < 2147483648 by omega), i_cl (show np σ c < 2147483648 by omega), inb_t (show c < 12 by omega) (show 12 ≤ 2147483648 by omega), inb_t (show np σ c < 12 by omega) (show 12 ≤ 2147483648 by omega), cond_true] at e'
    have en1 : np σ (c + 1) - 1 = np σ c := by omega
    refine ⟨_, e', U1_step hT (by omega) ?_ (fun k hk => ?_) (fun x hx => ?_) ?_ (fun p hp => ?_) ?_, fun a a1 a2 => ?_, fun j hj => ?_, x2⟩
    · rw [enp]
      simp [si1, upd1]
    · have : rt σ c k = 0 := by
        cases c with
        | zero => rfl
        | succ c =>
          have : td σ c = false := ht
          unfold td at this
          unfold rt
          cases hq : σ.2.2.2.2 c with
          | none => rfl
          | some q => rw [hq] at this; cases this
      rw [this]
      simp only [si1, show ¬ (55 : Nat) = 58 by omega, show ¬ (55 : Nat) = 56 by omega, show ¬ (55 : Nat) = 49 by omega, show ¬ (55 : Nat) = 57 by omega, if_false]
      exact x55.1 k hk
    · simp only [si1, show ¬ (55 : Nat) = 58 by omega, show ¬ (55 : Nat) = 56 by omega, show ¬ (55 : Nat) = 49 by omega, show ¬ (55 : Nat) = 57 by omega, if_false]
      exact x55.2 x hx
    · rw [en1]
      simp [si1, xo]
    · simp only [si1, show ¬ (57 : Nat) = 58 by omega, show ¬ (57 : Nat) = 56 by omega, show ¬ (57 : Nat) = 49 by omega, if_true, if_false]
      rw [efi, ht]
      simp only [Bool.false_eq_true, if_false]
      by_cases q : p = np σ c
      · rw [if_pos q, q, upd1, if_pos rfl]
      · rw [if_neg q, pk_un q, xo 57 (by omega)]
        exact (t4 p (by omega)).1
    · rw [en1]
      simp [si1, xo]
    · rw [si1, if_neg (by omega), si1, if_neg (by omega), si1, if_neg (by omega), si1, if_neg (by omega)]
      exact xo a (by omega)
    · simp only [si1, upd1, show ¬ (49 : Nat) = 58 by omega, show ¬ (49 : Nat) = 56 by omega, if_true, if_false, hj]
      rw [if_neg (by omega), x49]
  | true =>
    rw [ht] at e enp
    simp only [if_true] at enp
    obtain ⟨c', rfl⟩ : ∃ c', c = c' + 1 := by
      cases c with
      | zero => simp [tdp] at ht
      | succ c' => exact ⟨c', rfl⟩
    have htd' : td σ c' = true := ht
    obtain ⟨i, j, hij⟩ : ∃ i j, σ.2.2.2.2 c' = some (i, j) := by
      unfold td at htd'
      cases hq : σ.2.2.2.2 c' with
      | none => rw [hq] at htd'; cases htd'
      | some q => exact ⟨q.1, q.2, rfl⟩
    rw [b2i_t] at e
    obtain ⟨s1, e1, p1, p2, p3, p4⟩ := fldS (fun x (s : mm_H × Value) => mm_ev sc i_Mo_laysRoot 8 [.ref 49, .int (nI (c' + 1)), .int 1, .int (nI x), s.2] [] s.1) (fun x s => (∀ a, a ≠ 55 → s.1.1 a = g.1 a) ∧ s.1.2 = g.2 ∧ (∀ y, y < 4 * (c' + 1) → s.1.1 55 y = g.1 55 y) ∧ ∀ k, k < x → s.1.1 55 (4 * (c' + 1) + k) = g.1 55 (4 * c' + k) + (σ.2.2.2.1 ((c' * 5 + i) * 4 + k) - σ.2.2.2.1 (((c' + 1) * 5 + j) * 4 + k))) 4 (fun x s hx hs => by
      obtain ⟨p1, p2, p3, p4⟩ := hs
      refine ⟨(_, _), m_rootT (by rw [p1 50 (by omega)]; exact hM) hW hij hx s.2, fun a ha => ?_, p2, fun y hy => ?_, fun k hk => ?_⟩
      · simp only [si1, ha, if_false]
        exact p1 a ha
      · simp only [si1, upd1, if_true]
        rw [if_neg (by omega)]
        exact p3 y hy
      · simp only [si1, upd1, if_true]
        by_cases q : k = x
        · rw [if_pos (by omega), q, p3 _ (by omega)]
        · rw [if_neg (by omega)]
          exact p4 k (by omega)) (g, .null) ⟨fun _ _ => rfl, rfl, fun _ _ => rfl, fun k hk => absurd hk (by omega)⟩
    obtain ⟨g1, w1⟩ := s1
    dsimp only at e1 p1 p2 p3 p4
    have e' : mm_cal sc i_Mo_laysRoot [.ref 49, .int (nI (c' + 1))] g = mm_ev sc i_Mo_laysRoot 8 [.ref 49, .int (nI (c' + 1)), .int 1, .int (nI 4), w1] [] g1 := e.trans e1
    have y49 : g1.1 49 13 = nI (np σ (c' + 1)) := by rw [p1 49 (by omega)]; exact t1
    obtain ⟨m, hm⟩ : ∃ m, np σ (c' + 1) = m + 1 := ⟨np σ (c' + 1) - 1, by omega⟩
    rw [l_Mo_laysRoot_8, ltt4, nI_le_d (by omega) (by omega), decide_eq_true (show 4 ≤ 4 by omega), cond_true, show decide ((1 : Int32) = 0) = false from rfl, cond_false] at e'
    simp only [si1, if_true, show ¬ (49 : Nat) = 56 by omega, if_false, y49, hm, nI_sub1, i_cl (show c' + 1 < 2147483648 by omega), i_cl (show m < 2147483648 by omega), inb_t (show c' + 1 < 12 by omega) (show 12 ≤ 2147483648 by omega), inb_t (show m < 12 by omega) (show 12 ≤ 2147483648 by omega), cond_true] at e'
    have en1 : np σ (c' + 1 + 1) - 1 = m := by omega
    refine ⟨_, e', U1_step hT (by omega) ?_ (fun k hk => ?_) (fun x hx => ?_) ?_ (fun p hp => ?_) ?_, fun a a1 a2 => ?_, fun j hj => ?_, p2⟩
    · simp only [si1, show ¬ (49 : Nat) = 58 by omega, show ¬ (49 : Nat) = 56 by omega, if_false]
      rw [enp]
      exact y49
    · have h1 : rt σ (c' + 1) k = rt σ c' k + (σ.2.2.2.1 ((c' * 5 + i) * 4 + k) - σ.2.2.2.1 (((c' + 1) * 5 + j) * 4 + k)) := by
        show (match σ.2.2.2.2 c' with | some (i, j) => rt σ c' k + (σ.2.2.2.1 ((c' * 5 + i) * 4 + k) - σ.2.2.2.1 (((c' + 1) * 5 + j) * 4 + k)) | none => 0) = _
        rw [hij]
      have h2 := p4 k hk
      rw [t2 c' k (by omega) hk, ← h1] at h2
      simp only [si1, show ¬ (55 : Nat) = 58 by omega, show ¬ (55 : Nat) = 56 by omega, if_false]
      exact h2
    · simp only [si1, show ¬ (55 : Nat) = 58 by omega, show ¬ (55 : Nat) = 56 by omega, if_false]
      exact p3 x hx
    · rw [en1]
      simp [si1, p1]
    · simp only [si1, show ¬ (57 : Nat) = 58 by omega, show ¬ (57 : Nat) = 56 by omega, if_false]
      rw [efi, ht, if_pos rfl, p1 57 (by omega)]
      exact (t4 p (by omega)).1
    · rw [en1]
      simp [si1, p1]
    · rw [si1, if_neg (by omega), si1, if_neg (by omega)]
      exact p1 a (by omega)
    · rw [si1, if_neg (by omega), si1, if_neg (by omega), p1 49 (by omega)]
theorem m_rootSize4 {g : mm_H} {c k : Nat} (hc : c < 12) (hk : k < 4) (hr : g.1 55 (4 * c + k) = rt σ c k) (v : Int32) : mm_ev sc i_Mo_rootSize 4 [.ref 49, .int (nI c), .int v, .int (nI k)] [] g = mm_ev sc i_Mo_rootSize 4 [.ref 49, .int (nI c), .int (v + wt k * rt σ c k), .int (nI (k + 1))] [] g := by
  rw [l_Mo_rootSize_4, ltt4, nI_le_d (by omega) (by omega), decide_eq_false (show ¬ 4 ≤ k by omega), m_weight sc hk]
  simp only [bd_s, cond_false]
  rw [pk_mul, nI_add, inb_t (show 4 * c + k < 48 by omega) (by omega), i_cl (by omega), hr, nI_1 k]
  rfl
theorem m_rootSize {g : mm_H} {c : Nat} (hc : c < 12) (hr : ∀ k, k < 4 → g.1 55 (4 * c + k) = rt σ c k) : mm_cal sc i_Mo_rootSize [.ref 49, .int (nI c)] g = some ((szr σ c, 0, 0), g) := by
  rw [e_Mo_rootSize, show (Value.int (0 : Int32)) = .int (nI 0) from rfl, m_rootSize4 hc (by omega) (hr 0 (by omega)), m_rootSize4 hc (by omega) (hr _ (by omega)), m_rootSize4 hc (by omega) (hr _ (by omega)), m_rootSize4 hc (by omega) (hr _ (by omega)), l_Mo_rootSize_4, ltt4, nI_le_d (by omega) (by omega), decide_eq_true (show 4 ≤ 0 + 1 + 1 + 1 + 1 by omega)]
  rfl
theorem m_driftOf {g : mm_H} {c : Nat} (hc : c < 12) (hr : ∀ k, k < 4 → g.1 55 (4 * c + k) = rt σ c k) : mm_cal sc i_Mo_driftOf [.ref 49, .int (nI c)] g = some ((dr σ c, 0, 0), g) := by
  rw [e_Mo_driftOf, m_rootSize hc hr]
  simp only [bd_s]
  rw [show (120000 : Int32) = nI 120000 from rfl, m_apart (by omega) (by omega)]
  rfl
theorem m_ratio4 {c t k : Nat} (hM : Mr (h.1 50) σ) (hc : c < 12) (ht : t < 5) (hk : k < 4) (v : Int32) : mm_ev sc i_Mo_ratioSize 4 [.ref 49, .int (nI c), .int (nI t), .int v, .int (nI k)] [] h = mm_ev sc i_Mo_ratioSize 4 [.ref 49, .int (nI c), .int (nI t), .int (v + wt k * σ.2.2.2.1 ((c * 5 + t) * 4 + k)), .int (nI (k + 1))] [] h := by
  rw [l_Mo_ratioSize_4, ltt4, nI_le_d (by omega) (by omega), decide_eq_false (show ¬ 4 ≤ k by omega), m_weight sc hk]
  simp only [bd_s, cond_false]
  rw [m_place]
  simp only [bd_s]
  rw [nI_add, inb_t (show 14 + (c * 5 + t) * 4 + k < 266 by omega) (by omega), i_cl (by omega), Nat.add_assoc 14, hM.2.2.2.1 _ (by omega), nI_1 k]
  rfl
theorem m_ratioSize {c t : Nat} (hM : Mr (h.1 50) σ) (hc : c < 12) (ht : t < 5) : mm_cal sc i_Mo_ratioSize [.ref 49, .int (nI c), .int (nI t)] h = some ((szc σ c t, 0, 0), h) := by
  rw [e_Mo_ratioSize, show (Value.int (0 : Int32)) = .int (nI 0) from rfl, m_ratio4 hM hc ht (by omega), m_ratio4 hM hc ht (by omega), m_ratio4 hM hc ht (by omega), m_ratio4 hM hc ht (by omega), l_Mo_ratioSize_4, ltt4, nI_le_d (by omega) (by omega), decide_eq_true (show 4 ≤ 0 + 1 + 1 + 1 + 1 by omega)]
  rfl
theorem m_size {x : Int32} (h1 : -200000 < x.toInt) (h2 : x.toInt < 200000) (g : mm_H) : mm_cal sc i_Mo_size [.int x] g = some ((nI x.toInt.natAbs, 0, 0), g) := by
  rw [e_Mo_size]
  have z0 : (0 : Int32).toInt = 0 := rfl
  by_cases q : 0 ≤ x.toInt
  · rw [decide_eq_true (show 0 ≤ x by rw [i_le, z0]; exact q), cond_true]
    have : x = nI x.toInt.natAbs := by
      rw [i_eq, i_nI (by omega)]
      omega
    rw [← this]
  · rw [decide_eq_false (show ¬ 0 ≤ x by rw [i_le, z0]; exact q), cond_false]
    have : -x = nI x.toInt.natAbs := by
      rw [i_eq, i_nI (by omega), i_neg (by omega)]
      omega
    rw [← this]
end LAY
