/-! the model reads a text -/
def RB (h g : mm_H) : Prop := (∀ a, a ≠ 49 → a ≠ 61 → a ≠ 62 → g.1 a = h.1 a) ∧ (∀ j, j ≠ 14 → j ≠ 15 → g.1 49 j = h.1 49 j) ∧ g.2 = h.2
def fN (g k : mm_H) : Prop := (∀ a, a ≠ 49 → a ≠ 62 → k.1 a = g.1 a) ∧ (∀ j, j ≠ 14 → k.1 49 j = g.1 49 j) ∧ k.2 = g.2
theorem fN.rf {g : mm_H} : fN g g := ⟨fun _ _ _ => rfl, fun _ _ => rfl, rfl⟩
theorem fN.tr {g k l : mm_H} (h1 : fN g k) (h2 : fN k l) : fN g l := ⟨fun a x y => (h2.1 a x y).trans (h1.1 a x y), fun j x => (h2.2.1 j x).trans (h1.2.1 j x), h2.2.2.trans h1.2.2⟩
theorem RB.fN {h g k : mm_H} (h1 : RB h g) (h2 : fN g k) : RB h k := ⟨fun a x y z => (h2.1 a x z).trans (h1.1 a x y z), fun j x y => (h2.2.1 j x).trans (h1.2.1 j x y), h2.2.2.trans h1.2.2⟩
def TX (h : mm_H) (n : Nat) (tx : Nat → Int32) : Prop := h.1 49 6 = nI n ∧ n ≤ 120 ∧ (∀ j, j < n → h.1 54 j = tx j) ∧ ∀ j, j < n → mm_inb (tx j) 128 = true
theorem TX_RB {h g : mm_H} {n : Nat} {tx : Nat → Int32} (hx : TX h n tx) (f : RB h g) : TX g n tx := by
  unfold TX
  rw [f.2.1 6 (by omega) (by omega), f.1 54 (by omega) (by omega) (by omega)]
  exact hx
def isF (tx : Nat → Int32) (n p : Nat) : Bool := decide (p < n) && (decide (48 ≤ (tx p).toNatClampNeg) && decide ((tx p).toNatClampNeg ≤ 57))
theorem rdg_s {tx : Nat → Int32} {n p : Nat} {A A' : Ar} (hp : p < n) (hs : stp A (tx p).toNatClampNeg = some A') : rdg tx (n - p) p A = rdg tx (n - (p + 1)) (p + 1) A' := by
  rw [show n - p = n - (p + 1) + 1 by omega]
  show (match stp A (tx p).toNatClampNeg with | none => Sum.inl p | some A' => rdg tx (n - (p + 1)) (p + 1) A') = _
  rw [hs]
theorem rdg_f {tx : Nat → Int32} {n p : Nat} {A : Ar} (hp : p < n) (hs : stp A (tx p).toNatClampNeg = none) : rdg tx (n - p) p A = .inl p := by
  rw [show n - p = n - (p + 1) + 1 by omega]
  show (match stp A (tx p).toNatClampNeg with | none => Sum.inl p | some A' => rdg tx (n - (p + 1)) (p + 1) A') = _
  rw [hs]
theorem rdg_e {tx : Nat → Int32} {n : Nat} {A : Ar} : rdg tx (n - n) n A = if A.2.1 = none ∧ 0 < A.1 then .inr A else .inl n := by
  rw [Nat.sub_self]
  rfl
def FA (h : mm_H) (tx : Nat → Int32) (n p : Nat) (A : Ar) (r : Option mm_R) : Prop := ∃ g' p', r = some ((0, 0, 0), g') ∧ RB h g' ∧ g'.1 49 14 = nI p' ∧ p' ≤ n ∧ rdg tx (n - p) p A = .inl p'
section MREAD
variable {sc : Nat × (Nat → Int32)} {h : mm_H} {n : Nat} {tx : Nat → Int32}
theorem tx_at (hx : TX h n tx) {p : Nat} (hp : p < n) : ∃ b, b < 128 ∧ tx p = nI b ∧ (tx p).toNatClampNeg = b := by
  obtain ⟨b, h1, h2, h3⟩ := inb_ex (hx.2.2.2 p hp)
  exact ⟨b, h1, h3, by rw [h3, i_cl h2]⟩
theorem m_blanks (hx : TX h n tx) : ∀ d p g A, p + d = n → RB h g → g.1 49 14 = nI p → WA p A → ∃ p' g' f', mm_ev sc i_Mo_blanks 0 [.ref 49] [] g = some ((0, 0, 0), g') ∧ p ≤ p' ∧ p' ≤ n ∧ (p' < n → (tx p').toNatClampNeg ≠ 32) ∧ (f' = 0 ∨ (p' = p ∧ f' = A.2.2.1)) ∧ rdg tx (n - p) p A = rdg tx (n - p') p' (A.1, A.2.1, f', A.2.2.2) ∧ WA p' (A.1, A.2.1, f', A.2.2.2) ∧ g'.1 49 14 = nI p' ∧ (∀ a, a ≠ 49 → g'.1 a = g.1 a) ∧ (∀ j, j ≠ 14 → g'.1 49 j = g.1 49 j) ∧ g'.2 = g.2 := by
  have hn := hx.2.1
  intro d
  induction d with
  | zero =>
    intro p g A hp hR h14 hA
    refine ⟨p, g, A.2.2.1, ?_, Nat.le_refl _, by omega, fun q => absurd q (by omega), Or.inr ⟨rfl, rfl⟩, rfl, hA, h14, fun _ _ => rfl, fun _ _ => rfl, rfl⟩
    rw [l_Mo_blanks_0, h14, (TX_RB hx hR).1, nI_le_d (by omega) (by omega), decide_eq_true (by omega)]
    rfl
  | succ d ih =>
    intro p g A hp hR h14 hA
    obtain ⟨b, hb1, hb2, hb3⟩ := tx_at hx (show p < n by omega)
    have e := l_Mo_blanks_0 sc g
    rw [h14, (TX_RB hx hR).1, nI_le_d (by omega) (by omega), decide_eq_false (by omega), inb_t (show p < 120 by omega) (by omega), i_cl (by omega), (TX_RB hx hR).2.2.1 p (by omega), hb2, show (32 : Int32) = nI 32 from rfl, nI_eq_d (by omega) (by omega), nI_1] at e
    by_cases q : b = 32
    · rw [decide_eq_true q] at e
      have hs : stp A (tx p).toNatClampNeg = some (A.1, A.2.1, 0, A.2.2.2) := by
        rw [hb3, q]
        rfl
      obtain ⟨p', g', f', r1, r2, r3, r4, r5, r6, r7, r8, r9, r10, r11⟩ := ih (p + 1) (mm_si g 49 14 (nI (p + 1))) (A.1, A.2.1, 0, A.2.2.2) (by omega) (hR.fN ⟨fun a a1 a2 => by rw [si1, if_neg a1], fun j hj => by rw [si1, if_pos rfl, pk_un hj], rfl⟩) (by rw [si1, if_pos rfl, upd1, if_pos rfl]) (wa_stp hA hs)
      refine ⟨p', g', f', e.trans r1, by omega, r3, r4, Or.inl ?_, (rdg_s (by omega) hs).trans r6, r7, r8, fun a ha => by rw [r9 a ha, si1, if_neg ha], fun j hj => by rw [r10 j hj, si1, if_pos rfl, pk_un hj], r11⟩
      rcases r5 with r5 | r5
      · exact r5
      · exact r5.2
    · rw [decide_eq_false q] at e
      exact ⟨p, g, A.2.2.1, e, Nat.le_refl _, by omega, fun _ => by rw [hb3]; exact q, Or.inr ⟨rfl, rfl⟩, rfl, hA, h14, fun _ _ => rfl, fun _ _ => rfl, rfl⟩
theorem m_blanksC (g : mm_H) : mm_cal sc i_Mo_blanks [.ref 49] g = mm_ev sc i_Mo_blanks 0 [.ref 49] [] g := (e_Mo_blanks sc g).trans (l_Mo_blanks_0 sc g).symm
theorem m_isFigure (hx : TX h n tx) {p : Nat} {g : mm_H} (hp : p ≤ n) (hR : RB h g) (h14 : g.1 49 14 = nI p) : mm_cal sc i_Mo_isFigure [.ref 49] g = some ((b2i (isF tx n p), 0, 0), g) := by
  have hn := hx.2.1
  have hx' := TX_RB hx hR
  rw [e_Mo_isFigure, h14, hx'.1, nI_le_d (by omega) (by omega)]
  unfold isF
  by_cases q : p < n
  · obtain ⟨b, hb1, hb2, hb3⟩ := tx_at hx q
    rw [decide_eq_false (show ¬ n ≤ p by omega), decide_eq_true q, inb_t (show p < 120 by omega) (by omega), i_cl (by omega), hx'.2.2.1 p q, hb3, hb2, m_within]
    simp only [cond_false, cond_true, bd_s, b2i_0, Bool.true_and]
    rw [i_nI (by omega), show (48 : Int32).toInt = 48 by decide +kernel, show (57 : Int32).toInt = 57 by decide +kernel, show decide ((48 : Int) ≤ (b : Int)) = decide (48 ≤ b) from decide_eq_decide.mpr (by omega), show decide ((b : Int) ≤ 57) = decide (b ≤ 57) from decide_eq_decide.mpr (by omega)]
    cases (decide (48 ≤ b) && decide (b ≤ 57)) <;> rfl
  · rw [decide_eq_true (show n ≤ p by omega), decide_eq_false q]
    rfl
theorem isF_t {p : Nat} (h : isF tx n p = true) : p < n ∧ 48 ≤ (tx p).toNatClampNeg ∧ (tx p).toNatClampNeg ≤ 57 := by
  unfold isF at h
  simp only [Bool.and_eq_true, decide_eq_true_eq] at h
  exact h
theorem isF_f {p : Nat} (h : isF tx n p = false) (hp : p < n) : ¬ (48 ≤ (tx p).toNatClampNeg ∧ (tx p).toNatClampNeg ≤ 57) := by
  intro q
  unfold isF at h
  rw [decide_eq_true hp, decide_eq_true q.1, decide_eq_true q.2] at h
  cases h
def SN (tx : Nat → Int32) (n p : Nat) (A : Ar) (w t : Nat) (g : mm_H) (r : Option mm_R) : Prop := ∃ g' p' f' N', r = some ((1, 0, 0), g') ∧ (p ≤ p' ∧ p' ≤ n) ∧ g'.1 49 14 = nI p' ∧ rdg tx (n - p) p A = rdg tx (n - p') p' (A.1, some (w, t + 1), f', A.2.2.2.1, N') ∧ isF tx n p' = false ∧ WA p' (A.1, some (w, t + 1), f', A.2.2.2.1, N') ∧ (∀ x, x ≠ A.1 * 3 + t → N' x = A.2.2.2.2 x) ∧ g'.1 62 = upd (g.1 62) (A.1 * 3 + t) (nI (N' (A.1 * 3 + t))) ∧ fN g g'
theorem m_num6 (hx : TX h n tx) {k w t : Nat} {L : Nat → Nat} (hk : k * 3 + t < 180) : ∀ d f p g N, f + d = 4 → 1 ≤ f → p ≤ n → RB h g → g.1 49 14 = nI p → WA p (k, some (w, t + 1), f, L, N) → FA h tx n p (k, some (w, t + 1), f, L, N) (mm_ev sc i_Mo_passesNumber 6 [.ref 49, .int (nI (k * 3 + t)), .int (nI f), .int (nI (N (k * 3 + t)))] [] g) ∨ SN tx n p (k, some (w, t + 1), f, L, N) w t g (mm_ev sc i_Mo_passesNumber 6 [.ref 49, .int (nI (k * 3 + t)), .int (nI f), .int (nI (N (k * 3 + t)))] [] g) := by
  have hn := hx.2.1
  have stop : ∀ f p g N, f ≤ 4 → 1 ≤ f → p ≤ n → RB h g → g.1 49 14 = nI p → WA p (k, some (w, t + 1), f, L, N) → isF tx n p = false → FA h tx n p (k, some (w, t + 1), f, L, N) (mm_ev sc i_Mo_passesNumber 6 [.ref 49, .int (nI (k * 3 + t)), .int (nI f), .int (nI (N (k * 3 + t)))] [] g) ∨ SN tx n p (k, some (w, t + 1), f, L, N) w t g (mm_ev sc i_Mo_passesNumber 6 [.ref 49, .int (nI (k * 3 + t)), .int (nI f), .int (nI (N (k * 3 + t)))] [] g) := by
    intro f p g N hf4 hf1 hp hR h14 hA hF
    have e := l_Mo_passesNumber_6 sc (nI (k * 3 + t)) (nI f) (nI (N (k * 3 + t))) g
    rw [m_isFigure hx hp hR h14, hF] at e
    simp only [bd_s, b2i_0, Bool.not_false, cond_true] at e
    have f2 : fN g (mm_si g 62 (k * 3 + t) (nI (N (k * 3 + t)))) := ⟨fun a a1 a2 => by rw [si1, if_neg a2], fun j hj => by rw [si1, if_neg (by omega)], rfl⟩
    rw [inb_t hk (by omega), i_cl (by omega), show (0 : Int32) = nI 0 from rfl, nI_le_d (by omega) (by omega), decide_eq_false (show ¬ f ≤ 0 by omega), m_isFigure hx hp (hR.fN f2) (by rw [si1, if_neg (by omega)]; exact h14), hF] at e
    simp only [bd_s, cond_true, cond_false] at e
    refine Or.inr ⟨mm_si g 62 (k * 3 + t) (nI (N (k * 3 + t))), p, f, N, ?_, ⟨Nat.le_refl _, hp⟩, by rw [si1, if_neg (by omega)]; exact h14, rfl, hF, hA, fun _ _ => rfl, by rw [si1, if_pos rfl], f2⟩
    rw [e]
    cases decide (nI f = 4) <;> rfl
  intro d
  induction d with
  | zero =>
    intro f p g N hf hf1 hp hR h14 hA
    have hf4 : f = 4 := by omega
    subst hf4
    cases hF : isF tx n p with
    | false => exact stop 4 p g N (by omega) (by omega) hp hR h14 hA hF
    | true =>
      obtain ⟨q1, q2, q3⟩ := isF_t hF
      have e := l_Mo_passesNumber_6 sc (nI (k * 3 + t)) (nI 4) (nI (N (k * 3 + t))) g
      rw [m_isFigure hx hp hR h14, hF] at e
      simp only [bd_s, b2i_0, Bool.not_true, cond_false] at e
      have f2 : fN g (mm_si g 62 (k * 3 + t) (nI (N (k * 3 + t)))) := ⟨fun a a1 a2 => by rw [si1, if_neg a2], fun j hj => by rw [si1, if_neg (by omega)], rfl⟩
      rw [inb_t hk (by omega), i_cl (show k * 3 + t < 2147483648 by omega), m_isFigure hx hp (hR.fN f2) (by rw [si1, if_neg (by omega)]; exact h14), hF] at e
      refine Or.inl ⟨mm_si g 62 (k * 3 + t) (nI (N (k * 3 + t))), p, e, hR.fN f2, by rw [si1, if_neg (by omega)]; exact h14, hp, rdg_f q1 ?_⟩
      unfold stp
      rw [if_pos ⟨q2, q3⟩]
      dsimp only
      rw [if_neg (by omega), if_neg (by omega)]
  | succ d ih =>
    intro f p g N hf hf1 hp hR h14 hA
    cases hF : isF tx n p with
    | false => exact stop f p g N (by omega) (by omega) hp hR h14 hA hF
    | true =>
      obtain ⟨q1, q2, q3⟩ := isF_t hF
      obtain ⟨b, hb1, hb2, hb3⟩ := tx_at hx q1
      rw [hb3] at q2 q3
      have hN := hA.2.2.2.2.2.1 (k * 3 + t)
      dsimp only at hN
      have hs : stp (k, some (w, t + 1), f, L, N) (tx p).toNatClampNeg = some (k, some (w, t + 1), f + 1, L, upN N (k * 3 + t) (N (k * 3 + t) * 10 + (b - 48))) := by
        rw [hb3]
        unfold stp
        rw [if_pos ⟨q2, q3⟩]
        dsimp only
        rw [if_neg (by omega), if_pos (by omega)]
        rfl
      have e := l_Mo_passesNumber_6 sc (nI (k * 3 + t)) (nI f) (nI (N (k * 3 + t))) g
      rw [m_isFigure hx hp hR h14, hF] at e
      simp only [bd_s, b2i_0, Bool.not_true, cond_false] at e
      rw [ltt4, nI_le_d (by omega) (by omega), decide_eq_false (show ¬ 4 ≤ f by omega), cond_false, h14, inb_t (show p < 120 by omega) (by omega), i_cl (show p < 2147483648 by omega), (TX_RB hx hR).2.2.1 p q1, hb2, show (10 : Int32) = nI 10 from rfl, pk_mul, nI_add, show (48 : Int32) = nI 48 from rfl, pk_sub (by omega), nI_1 f, nI_1 p, cond_true] at e
      have hv : upN N (k * 3 + t) (N (k * 3 + t) * 10 + (b - 48)) (k * 3 + t) = 10 * N (k * 3 + t) + b - 48 := by
        unfold upN
        rw [if_pos rfl]
        omega
      have f2 : fN g (mm_si g 49 14 (nI (p + 1))) := ⟨fun a a1 a2 => by rw [si1, if_neg a1], fun j hj => by rw [si1, if_pos rfl, pk_un hj], rfl⟩
      have R := ih (f + 1) (p + 1) (mm_si g 49 14 (nI (p + 1))) (upN N (k * 3 + t) (N (k * 3 + t) * 10 + (b - 48))) (by omega) (by omega) (by omega) (hR.fN f2) (by rw [si1, if_pos rfl, upd1, if_pos rfl]) (wa_stp hA hs)
      rw [hv, ← e] at R
      rcases R with ⟨g', p', r1, r2, r3, r4, r5⟩ | ⟨g', p', f', N', r1, r2, r3, r4, r5, r6, r7, r8, r9⟩
      · exact Or.inl ⟨g', p', r1, r2, r3, r4, (rdg_s q1 hs).trans r5⟩
      · refine Or.inr ⟨g', p', f', N', r1, ⟨by omega, r2.2⟩, r3, (rdg_s q1 hs).trans r4, r5, r6, fun x hx => ?_, ?_, f2.tr r9⟩
        · rw [r7 x hx]
          show upN N (k * 3 + t) _ x = N x
          unfold upN
          rw [if_neg hx]
        · rw [r8, si1, if_neg (by omega)]
theorem m_num (hx : TX h n tx) {k w t f p : Nat} {L N : Nat → Nat} {g : mm_H} (hk : k * 3 + t < 180) (hp : p ≤ n) (hR : RB h g) (h14 : g.1 49 14 = nI p) (hA : WA p (k, some (w, t), f, L, N)) (ht : t < w) (hnd : f = 0 ∨ isF tx n p = false) : FA h tx n p (k, some (w, t), f, L, N) (mm_cal sc i_Mo_passesNumber [.ref 49, .int (nI (k * 3 + t))] g) ∨ SN tx n p (k, some (w, t), f, L, N) w t g (mm_cal sc i_Mo_passesNumber [.ref 49, .int (nI (k * 3 + t))] g) := by
  have hn := hx.2.1
  have e0 := e_Mo_passesNumber sc (nI (k * 3 + t)) g
  obtain ⟨p1, g1, f1, b1, b2, b3, b4, b5, b6, b7, b8, b9, b10, b11⟩ := m_blanks (sc := sc) hx (n - p) p g _ (by omega) hR h14 hA
  rw [m_blanksC, b1] at e0
  simp only [bd_s] at e0
  dsimp only at b5 b6 b7
  have f1N : fN g g1 := ⟨fun a a1 _ => b9 a a1, b10, b11⟩
  have hR1 := hR.fN f1N
  have e := l_Mo_passesNumber_6 sc (nI (k * 3 + t)) 0 0 g1
  rw [m_isFigure hx b3 hR1 b8] at e
  simp only [bd_s, b2i_0] at e
  rw [e0]
  cases hF : isF tx n p1 with
  | false =>
    have f2 : fN g1 (mm_si g1 62 (k * 3 + t) 0) := ⟨fun a a1 a2 => by rw [si1, if_neg a2], fun j hj => by rw [si1, if_neg (by omega)], rfl⟩
    rw [hF, inb_t hk (by omega), i_cl (by omega)] at e
    refine Or.inl ⟨mm_si g1 62 (k * 3 + t) 0, p1, e, hR1.fN f2, by rw [si1, if_neg (by omega)]; exact b8, b3, b6.trans ?_⟩
    by_cases q : p1 < n
    · apply rdg_f q
      have hd := isF_f hF q
      have h32 := b4 q
      unfold stp
      rw [if_neg hd, if_neg h32]
      by_cases q2 : (tx p1).toNatClampNeg = 59
      · rw [if_pos q2]
        dsimp only
        rw [if_neg (by omega)]
      · rw [if_neg q2]
    · have : p1 = n := by omega
      subst this
      rw [rdg_e, if_neg (fun c => by cases c.1)]
  | true =>
    obtain ⟨q1, q2, q3⟩ := isF_t hF
    have hf0 : f1 = 0 := by
      rcases b5 with b5 | ⟨c1, c2⟩
      · exact b5
      · rcases hnd with hnd | hnd
        · omega
        · rw [← c1, hF] at hnd
          cases hnd
    subst hf0
    obtain ⟨b, hb1, hb2, hb3⟩ := tx_at hx q1
    rw [hb3] at q2 q3
    have hs : stp (k, some (w, t), 0, L, N) (tx p1).toNatClampNeg = some (k, some (w, t + 1), 1, L, upN N (k * 3 + t) (b - 48)) := by
      rw [hb3]
      unfold stp
      rw [if_pos ⟨q2, q3⟩]
      dsimp only
      rw [if_pos rfl, if_pos ht]
    rw [hF] at e
    simp only [Bool.not_true, cond_false] at e
    rw [show decide ((4 : Int32) ≤ 0) = false from rfl, cond_false, b8, inb_t (show p1 < 120 by omega) (by omega), i_cl (show p1 < 2147483648 by omega), (TX_RB hx hR1).2.2.1 p1 q1, hb2, show (10 : Int32) * 0 = nI 0 from rfl, nI_add, show (48 : Int32) = nI 48 from rfl, pk_sub (by omega), show (0 : Int32) + 1 = nI 1 from rfl, nI_1 p1, cond_true] at e
    have hv : upN N (k * 3 + t) (b - 48) (k * 3 + t) = 0 + b - 48 := by
      unfold upN
      rw [if_pos rfl]
      omega
    have f2 : fN g1 (mm_si g1 49 14 (nI (p1 + 1))) := ⟨fun a a1 a2 => by rw [si1, if_neg a1], fun j hj => by rw [si1, if_pos rfl, pk_un hj], rfl⟩
    have R := m_num6 (sc := sc) hx (k := k) (w := w) (t := t) (L := L) hk 3 1 (p1 + 1) (mm_si g1 49 14 (nI (p1 + 1))) (upN N (k * 3 + t) (b - 48)) (by omega) (by omega) (by omega) (hR1.fN f2) (by rw [si1, if_pos rfl, upd1, if_pos rfl]) (wa_stp b7 hs)
    rw [hv, ← e] at R
    rcases R with ⟨g', p', r1, r2, r3, r4, r5⟩ | ⟨g', p', f', N', r1, r2, r3, r4, r5, r6, r7, r8, r9⟩
    · exact Or.inl ⟨g', p', r1, r2, r3, r4, b6.trans ((rdg_s q1 hs).trans r5)⟩
    · refine Or.inr ⟨g', p', f', N', r1, ⟨by omega, r2.2⟩, r3, b6.trans ((rdg_s q1 hs).trans r4), r5, r6, fun x hx => ?_, ?_, f1N.tr (f2.tr r9)⟩
      · rw [r7 x hx]
        show upN N (k * 3 + t) _ x = N x
        unfold upN
        rw [if_neg hx]
      · rw [r8, si1, if_neg (by omega), b9 62 (by omega)]
end MREAD
