/-! the model reads orders -/
def RD (g : mm_H) (k : Nat) (L N : Nat → Nat) : Prop := ∀ i, i < k → g.1 61 i = nI (L i) ∧ ∀ j, j < nfn (L i) → g.1 62 (i * 3 + j) = nI (N (i * 3 + j))
def SO (h : mm_H) (tx : Nat → Int32) (n p : Nat) (A : Ar) (k : Nat) (L : Nat → Nat) (r : Option mm_R) : Prop := ∃ g' p' N', r = some ((1, 0, 0), g') ∧ p < p' ∧ p' ≤ n ∧ g'.1 49 14 = nI p' ∧ rdg tx (n - p) p A = rdg tx (n - p') p' (k + 1, none, 0, L, N') ∧ WA p' (k + 1, none, 0, L, N') ∧ RD g' (k + 1) L N' ∧ g'.1 49 15 = nI k ∧ RB h g'
section MORD
variable {sc : Nat × (Nat → Int32)} {h : mm_H} {n : Nat} {tx : Nat → Int32}
theorem m_ord36 (hx : TX h n tx) {k m : Nat} {L : Nat → Nat} (hk : k < 60) (hm : m = nfn (L k)) : ∀ e t p g f N, t + e = m → p ≤ n → RB h g → g.1 49 14 = nI p → g.1 49 15 = nI k → WA p (k, some (m, t), f, L, N) → (f = 0 ∨ isF tx n p = false) → RD g k L N → g.1 61 k = nI (L k) → (∀ j, j < t → g.1 62 (k * 3 + j) = nI (N (k * 3 + j))) → FA h tx n p (k, some (m, t), f, L, N) (mm_ev sc i_Mo_passesOrder 36 [.ref 49, .int (nI m), .int (nI t)] [] g) ∨ SO h tx n p (k, some (m, t), f, L, N) k L (mm_ev sc i_Mo_passesOrder 36 [.ref 49, .int (nI m), .int (nI t)] [] g) := by
  have hn := hx.2.1
  have hm3 := nfn_le (L k)
  intro e
  induction e with
  | zero =>
    intro t p g f N ht hp hR h14 h15 hA hnd hD h61 h62
    have : t = m := by omega
    subst this
    have q := l_Mo_passesOrder_36 sc (nI t) (nI t) g
    obtain ⟨p1, g1, f1, b1, b2, b3, b4, b5, b6, b7, b8, b9, b10, b11⟩ := m_blanks (sc := sc) hx (n - p) p g _ (by omega) hR h14 hA
    dsimp only at b5 b6 b7
    have f1N : fN g g1 := ⟨fun a a1 _ => b9 a a1, b10, b11⟩
    have hR1 := hR.fN f1N
    have hx1 := TX_RB hx hR1
    rw [nI_le_d (by omega) (by omega), decide_eq_true (Nat.le_refl _), m_blanksC, b1] at q
    simp only [bd_s, cond_true] at q
    rw [b8, hx1.1, nI_le_d (by omega) (by omega), show (0 : Int32) = nI 0 from rfl, nI_add, Nat.add_zero, nI_1] at q
    by_cases c1 : p1 < n
    · obtain ⟨b, hb1, hb2, hb3⟩ := tx_at hx c1
      rw [decide_eq_false (show ¬ n ≤ p1 by omega), inb_t (show p1 < 120 by omega) (by omega), i_cl (by omega), hx1.2.2.1 p1 c1, hb2, show (59 : Int32) = nI 59 from rfl, nI_eq_d (by omega) (by omega)] at q
      by_cases c2 : b = 59
      · rw [decide_eq_true c2] at q
        have hs : stp (k, some (t, t), f1, L, N) (tx p1).toNatClampNeg = some (k + 1, none, 0, L, N) := by
          rw [hb3, c2]
          unfold stp
          rw [if_neg (by omega), if_neg (by omega), if_pos rfl]
          dsimp only
          rw [if_pos (Nat.le_refl _)]
        have f2 : fN g1 (mm_si g1 49 14 (nI (p1 + 1))) := ⟨fun a a1 a2 => by rw [si1, if_neg a1], fun j hj => by rw [si1, if_pos rfl, pk_un hj], rfl⟩
        refine Or.inr ⟨mm_si g1 49 14 (nI (p1 + 1)), p1 + 1, N, q, by omega, by omega, by rw [si1, if_pos rfl, upd1, if_pos rfl], b6.trans (rdg_s c1 hs), wa_stp b7 hs, fun i hi => ?_, ?_, hR1.fN f2⟩
        · rw [si1, if_neg (by omega), si1, if_neg (by omega), b9 61 (by omega), b9 62 (by omega)]
          by_cases c3 : i = k
          · subst c3
            exact ⟨h61, fun j hj => h62 j (by omega)⟩
          · exact hD i (by omega)
        · rw [f2.2.1 15 (by omega), b10 15 (by omega)]
          exact h15
      · rw [decide_eq_false c2] at q
        have f2 : fN g1 (mm_si g1 49 14 (nI p1)) := ⟨fun a a1 a2 => by rw [si1, if_neg a1], fun j hj => by rw [si1, if_pos rfl, pk_un hj], rfl⟩
        refine Or.inl ⟨mm_si g1 49 14 (nI p1), p1, q, hR1.fN f2, by rw [si1, if_pos rfl, upd1, if_pos rfl], b3, b6.trans (rdg_f c1 ?_)⟩
        have h32 := b4 c1
        rw [hb3] at h32 ⊢
        unfold stp
        dsimp only
        by_cases hd : 48 ≤ b ∧ b ≤ 57
        · rw [if_pos hd]
          have hf0 : f1 = 0 := by
            rcases b5 with b5 | ⟨z1, z2⟩
            · exact b5
            · rcases hnd with hnd | hnd
              · omega
              · have := isF_f hnd (by omega)
                rw [← z1, hb3] at this
                exact absurd hd this
          rw [if_pos hf0, if_neg (by omega)]
        · rw [if_neg hd, if_neg h32, if_neg c2]
    · have c3 : p1 = n := by omega
      rw [decide_eq_true (show n ≤ p1 by omega)] at q
      have f2 : fN g1 (mm_si g1 49 14 (nI p1)) := ⟨fun a a1 a2 => by rw [si1, if_neg a1], fun j hj => by rw [si1, if_pos rfl, pk_un hj], rfl⟩
      refine Or.inl ⟨mm_si g1 49 14 (nI p1), p1, q, hR1.fN f2, by rw [si1, if_pos rfl, upd1, if_pos rfl], b3, b6.trans ?_⟩
      rw [c3, rdg_e, if_neg (fun c => by cases c.1)]
  | succ e ih =>
    intro t p g f N ht hp hR h14 h15 hA hnd hD h61 h62
    have q := l_Mo_passesOrder_36 sc (nI m) (nI t) g
    rw [nI_le_d (by omega) (by omega), decide_eq_false (show ¬ m ≤ t by omega), cond_false, h15, ltt3, pk_mul, nI_add, show 3 * k + t = k * 3 + t by omega] at q
    have hkt : k * 3 + t < 180 := by omega
    rcases m_num (sc := sc) hx hkt hp hR h14 hA (by omega) hnd with ⟨g', p', r1, r2, r3, r4, r5⟩ | ⟨g', p', f', N', r1, r2, r3, r4, r5, r6, r7, r8, r9⟩
    · rw [r1] at q
      exact Or.inl ⟨g', p', q, r2, r3, r4, r5⟩
    · rw [r1] at q
      simp only [bd_s, show decide ((1 : Int32) = 0) = false from rfl, cond_false] at q
      rw [nI_1] at q
      dsimp only at r4 r6 r7 r8
      have hD' : RD g' k L N' := fun i hi => by
        obtain ⟨d1, d2⟩ := hD i hi
        rw [r9.1 61 (by omega) (by omega), r8]
        refine ⟨d1, fun j hj => ?_⟩
        have := nfn_le (L i)
        rw [pk_un (by omega), r7 _ (by omega)]
        exact d2 j hj
      have R := ih (t + 1) p' g' f' N' (by omega) r2.2 (hR.fN r9) r3 (by rw [r9.2.1 15 (by omega)]; exact h15) r6 (Or.inr r5) hD' (by rw [r9.1 61 (by omega) (by omega)]; exact h61) (fun j hj => by
        rw [r8]
        by_cases c1 : j = t
        · rw [c1, upd1, if_pos rfl]
        · rw [pk_un (by omega), r7 _ (by omega)]
          exact h62 j (by omega))
      rw [← q] at R
      rcases R with ⟨g2, p2, s1, s2, s3, s4, s5⟩ | ⟨g2, p2, N2, s1, s2, s3, s4, s5, s6, s7, s8, s9⟩
      · exact Or.inl ⟨g2, p2, s1, s2, s3, s4, r4.trans s5⟩
      · have hpp := r2.1
        exact Or.inr ⟨g2, p2, N2, s1, by omega, s3, s4, r4.trans s5, s6, s7, s8, s9⟩
theorem m_numbersOf {b : Nat} (hb : b < 1000) (h : mm_H) : mm_cal sc i_Mo_numbersOf [.int (nI b)] h = some ((match nof b with | some m => nI m | none => -1, 0, 0), h) := (e_Mo_numbersOf sc (nI b) h).trans ((e_Re_numbersOf sc (nI b) h).symm.trans (q_numbersOf (sc := sc) (h := h) hb))
theorem nof_b {b m : Nat} (h : nof b = some m) : 99 ≤ b := by
  unfold nof at h
  repeat' split at h
  all_goals first
    | omega
    | cases h
theorem m_order (hx : TX h n tx) {k p : Nat} {L N : Nat → Nat} {g : mm_H} (hp : p < n) (hb : (tx p).toNatClampNeg ≠ 32) (hR : RB h g) (h14 : g.1 49 14 = nI p) (h15 : g.1 49 15 = nI k) (hA : WA p (k, none, 0, L, N)) (hD : RD g k L N) : FA h tx n p (k, none, 0, L, N) (mm_cal sc i_Mo_passesOrder [.ref 49] g) ∨ ∃ L', SO h tx n p (k, none, 0, L, N) k L' (mm_cal sc i_Mo_passesOrder [.ref 49] g) := by
  have hn := hx.2.1
  have hk2 : 2 * k ≤ p := hA.1
  have hx1 := TX_RB hx hR
  obtain ⟨b, hb1, hb2, hb3⟩ := tx_at hx hp
  have q := e_Mo_passesOrder sc g
  rw [h14, hx1.1, nI_le_d (by omega) (by omega), decide_eq_false (show ¬ n ≤ p by omega), inb_t (show p < 120 by omega) (by omega), i_cl (show p < 2147483648 by omega), hx1.2.2.1 p hp, hb2, m_numbersOf (by omega)] at q
  simp only [bd_s, cond_true, cond_false] at q
  rw [hb3] at hb
  cases hm : nof b with
  | none =>
    rw [hm] at q
    refine Or.inl ⟨g, p, q, hR, h14, by omega, rdg_f hp ?_⟩
    rw [hb3]
    unfold stp
    dsimp only
    rw [hm]
    by_cases hd : 48 ≤ b ∧ b ≤ 57
    · rw [if_pos hd]
    · rw [if_neg hd, if_neg hb]
      by_cases he : b = 59
      · rw [if_pos he]
      · rw [if_neg he]
  | some m =>
    have h99 := nof_b hm
    obtain ⟨m1, m2⟩ := nof_le hm
    rw [hm] at q
    dsimp only at q
    rw [show (0 : Int32) = nI 0 from rfl, nI_le_d (by omega) (by omega), decide_eq_true (Nat.zero_le _), h14, inb_t (show p < 120 by omega) (by omega), i_cl (show p < 2147483648 by omega), hx1.2.2.1 p hp, hb2, h15, inb_t (show k < 60 by omega) (by omega), i_cl (show k < 2147483648 by omega)] at q
    simp only [cond_true, si1, show ¬ (49 : Nat) = 61 by omega, if_false] at q
    rw [h14, nI_1] at q
    have hs : stp (k, none, 0, L, N) (tx p).toNatClampNeg = some (k, some (m, 0), 0, upN L k b, N) := by
      rw [hb3]
      unfold stp
      dsimp only
      rw [if_neg (by omega), if_neg (by omega), if_neg (by omega), hm]
    have hL : upN L k b k = b := by
      unfold upN
      rw [if_pos rfl]
    have hLi : ∀ i, i < k → upN L k b i = L i := fun i hi => by
      unfold upN
      rw [if_neg (by omega)]
    have R := m_ord36 (sc := sc) hx (k := k) (m := m) (L := upN L k b) (by omega) (by rw [hL]; exact m2) m 0 (p + 1) (mm_si (mm_si g 61 k (nI b)) 49 14 (nI (p + 1))) 0 N (by omega) (by omega) ⟨fun a a1 a2 a3 => by rw [si1, if_neg a1, si1, if_neg a2]; exact hR.1 a a1 a2 a3, fun j j1 j2 => by rw [si1, if_pos rfl, pk_un j1, si1, if_neg (by omega)]; exact hR.2.1 j j1 j2, hR.2.2⟩ (by rw [si1, if_pos rfl, upd1, if_pos rfl]) (by rw [si1, if_pos rfl, pk_un (by omega), si1, if_neg (by omega)]; exact h15) (wa_stp hA hs) (Or.inl rfl) (fun i hi => by
      obtain ⟨d1, d2⟩ := hD i hi
      rw [hLi i hi, si1, if_neg (by omega), si1, if_pos rfl, pk_un (by omega), si1, if_neg (by omega), si1, if_neg (by omega)]
      exact ⟨d1, d2⟩) (by rw [hL, si1, if_neg (by omega), si1, if_pos rfl, upd1, if_pos rfl]) (fun j hj => absurd hj (by omega))
    rw [← q] at R
    rcases R with ⟨g2, p2, s1, s2, s3, s4, s5⟩ | ⟨g2, p2, N2, s1, s2, s3, s4, s5, s6, s7, s8, s9⟩
    · exact Or.inl ⟨g2, p2, s1, s2, s3, s4, (rdg_s hp hs).trans s5⟩
    · exact Or.inr ⟨upN L k b, g2, p2, N2, s1, by omega, s3, s4, (rdg_s hp hs).trans s5, s6, s7, s8, s9⟩
def SR (h : mm_H) (tx : Nat → Int32) (n p : Nat) (A : Ar) (r : Option mm_R) : Prop := ∃ g' A', r = some ((1, 0, 0), g') ∧ rdg tx (n - p) p A = .inr A' ∧ RD g' A'.1 A'.2.2.2.1 A'.2.2.2.2 ∧ g'.1 49 15 = nI A'.1 ∧ WA n A' ∧ RB h g'
theorem m_reads8 (hx : TX h n tx) : ∀ d p g k L N, n - p < d → p ≤ n → (p < n → (tx p).toNatClampNeg ≠ 32) → RB h g → g.1 49 14 = nI p → g.1 49 15 = nI k → WA p (k, none, 0, L, N) → RD g k L N → FA h tx n p (k, none, 0, L, N) (mm_ev sc i_Mo_reads 8 [.ref 49] [] g) ∨ SR h tx n p (k, none, 0, L, N) (mm_ev sc i_Mo_reads 8 [.ref 49] [] g) := by
  have hn := hx.2.1
  intro d
  induction d with
  | zero => intro p g k L N hd; omega
  | succ d ih =>
    intro p g k L N hd hp hb hR h14 h15 hA hD
    have hk2 : 2 * k ≤ p := hA.1
    have q := l_Mo_reads_8 sc g
    rw [h14, (TX_RB hx hR).1, nI_le_d (by omega) (by omega), h15, show (0 : Int32) = nI 0 from rfl, nI_le_d (by omega) (by omega)] at q
    by_cases c1 : p < n
    · rw [decide_eq_false (show ¬ n ≤ p by omega)] at q
      rcases m_order (sc := sc) hx c1 (hb c1) hR h14 h15 hA hD with ⟨g', p', r1, r2, r3, r4, r5⟩ | ⟨L', g', p', N', r1, r2, r3, r4, r5, r6, r7, r8, r9⟩
      · rw [r1] at q
        exact Or.inl ⟨g', p', q, r2, r3, r4, r5⟩
      · rw [r1] at q
        simp only [bd_s, cond_false, show decide ((1 : Int32) = nI 0) = false from rfl] at q
        rw [r8, nI_1, m_blanksC] at q
        have hR2 : RB h (mm_si g' 49 15 (nI (k + 1))) := ⟨fun a a1 a2 a3 => by rw [si1, if_neg a1]; exact r9.1 a a1 a2 a3, fun j j1 j2 => by rw [si1, if_pos rfl, pk_un j2]; exact r9.2.1 j j1 j2, r9.2.2⟩
        obtain ⟨p1, g1, f1, b1, b2, b3, b4, b5, b6, b7, b8, b9, b10, b11⟩ := m_blanks (sc := sc) hx (n - p') p' (mm_si g' 49 15 (nI (k + 1))) (k + 1, none, 0, L', N') (by omega) hR2 (by rw [si1, if_pos rfl, pk_un (by omega)]; exact r4) r6
        dsimp only at b5 b6 b7
        have hf : f1 = 0 := by
          rcases b5 with b5 | b5
          · exact b5
          · exact b5.2
        subst hf
        rw [b1] at q
        simp only [bd_s] at q
        have f1N : fN (mm_si g' 49 15 (nI (k + 1))) g1 := ⟨fun a a1 _ => b9 a a1, b10, b11⟩
        have R := ih p1 g1 (k + 1) L' N' (by omega) b3 b4 (hR2.fN f1N) b8 (by rw [b10 15 (by omega), si1, if_pos rfl, upd1, if_pos rfl]) b7 (fun i hi => by
          rw [b9 61 (by omega), b9 62 (by omega), si1, if_neg (by omega), si1, if_neg (by omega)]
          exact r7 i hi)
        rw [← q] at R
        rcases R with ⟨g2, p2, s1, s2, s3, s4, s5⟩ | ⟨g2, A2, s1, s2, s3⟩
        · exact Or.inl ⟨g2, p2, s1, s2, s3, s4, r5.trans (b6.trans s5)⟩
        · exact Or.inr ⟨g2, A2, s1, r5.trans (b6.trans s2), s3⟩
    · have c2 : p = n := by omega
      subst c2
      rw [decide_eq_true (Nat.le_refl _)] at q
      by_cases c3 : 0 < k
      · rw [decide_eq_false (show ¬ k ≤ 0 by omega)] at q
        exact Or.inr ⟨g, (k, none, 0, L, N), q, by rw [rdg_e, if_pos ⟨rfl, c3⟩], hD, h15, hA, hR⟩
      · rw [decide_eq_true (show k ≤ 0 by omega)] at q
        exact Or.inl ⟨g, p, q, hR, h14, Nat.le_refl _, by rw [rdg_e, if_neg (fun c => c3 c.2)]⟩
theorem m_reads (hx : TX h n tx) : FA h tx n 0 A0 (mm_cal sc i_Mo_reads [.ref 49] h) ∨ SR h tx n 0 A0 (mm_cal sc i_Mo_reads [.ref 49] h) := by
  have hn := hx.2.1
  have q := e_Mo_reads sc h
  have hR : RB h (mm_si (mm_si h 49 14 0) 49 15 0) := ⟨fun a a1 a2 a3 => by rw [si1, if_neg a1, si1, if_neg a1], fun j j1 j2 => by rw [si1, if_pos rfl, pk_un j2, si1, if_pos rfl, pk_un j1], rfl⟩
  have hA : WA 0 A0 := ⟨by show 2 * 0 ≤ 0; omega, fun q => absurd rfl q, by show 0 ≤ 4; omega, fun _ => rfl, fun w g q => (by cases q), fun i => by show 0 < 10000; omega, fun w g q => (by cases q)⟩
  obtain ⟨p1, g1, f1, b1, b2, b3, b4, b5, b6, b7, b8, b9, b10, b11⟩ := m_blanks (sc := sc) hx n 0 (mm_si (mm_si h 49 14 0) 49 15 0) A0 (by omega) hR (by rw [si1, if_pos rfl, pk_un (by omega), si1, if_pos rfl, upd1, if_pos rfl]; rfl) hA
  have hf : f1 = 0 := by
    rcases b5 with b5 | b5
    · exact b5
    · exact b5.2
  subst hf
  rw [m_blanksC, b1] at q
  simp only [bd_s] at q
  have R := m_reads8 (sc := sc) hx (n + 1) p1 g1 0 (fun _ => 0) (fun _ => 0) (by omega) b3 b4 (hR.fN ⟨fun a a1 _ => b9 a a1, b10, b11⟩) b8 (by rw [b10 15 (by omega), si1, if_pos rfl, upd1, if_pos rfl]; rfl) b7 (fun i hi => absurd hi (by omega))
  rw [← q] at R
  rcases R with ⟨g2, p2, s1, s2, s3, s4, s5⟩ | ⟨g2, A2, s1, s2, s3⟩
  · exact Or.inl ⟨g2, p2, s1, s2, s3, s4, b6.trans s5⟩
  · exact Or.inr ⟨g2, A2, s1, b6.trans s2, s3⟩
end MORD
