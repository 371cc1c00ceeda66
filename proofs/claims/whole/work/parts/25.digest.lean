/-! the digest: what it mixes, in its order; the class's way -/
def mx (v : Int64) (x : Int32) : Int64 := (Int32.toInt64 31) * v + Int32.toInt64 x
def fld (f : Nat → Int64 → Int64) : Nat → Int64 → Int64
  | 0, v => v
  | n + 1, v => f n (fld f n v)
def dTold (γ : Gs) (v : Int64) : Int64 := fld (fun k v => mx v (vTold γ k)) 5 v
def dCount (σ : Sg) (v : Int64) : Int64 := fld (fun k v => mx v (vCount σ k)) 6 v
def dRoot (σ : Sg) (c : Nat) (v : Int64) : Int64 := mx (fld (fun k v => mx v (vRoot σ c k)) 7 v) (st σ c)
def dTone (σ : Sg) (c t : Nat) (v : Int64) : Int64 := mx (fld (fun k v => mx v (σ.2.2.2.1 ((c * 5 + t) * 4 + k))) 4 v) (vSung σ c t)
def dTones (σ : Sg) (c : Nat) (v : Int64) : Int64 := fld (fun t v => mx v (vOrder σ c (nI t))) (σ.2.2.1 c) (fld (fun t v => dTone σ c t v) (σ.2.2.1 c) v)
def dChords (σ : Sg) (v : Int64) : Int64 := fld (fun c v => dTones σ c (dRoot σ c v)) σ.1 v
def dTies (σ : Sg) (v : Int64) : Int64 := fld (fun c v => if td σ c = true then mx (mx (mx v (vTie σ c 0)) (vTie σ c 1)) (sh σ c) else v) σ.1 v
def dParts (σ : Sg) (v : Int64) : Int64 := fld (fun p v => fld (fun k v => mx v (vPart σ p k)) 4 v) (np σ σ.1) v
def dg (γ : Gs) : Int64 := dParts γ.1 (dTies γ.1 (dChords γ.1 (dCount γ.1 (dTold γ (Int32.toInt64 1775)))))
/-- a loop whose state is kept by a rule -/
theorem fldS {S β : Type} (L : Nat → S → β) (P : Nat → S → Prop) : ∀ n, (∀ x s, x < n → P x s → ∃ s', L x s = L (x + 1) s' ∧ P (x + 1) s') → ∀ s, P 0 s → ∃ s', L 0 s = L n s' ∧ P n s' := by
  intro n
  induction n with
  | zero => intro _ s hs; exact ⟨s, rfl, hs⟩
  | succ n ih =>
    intro hst s hs
    obtain ⟨s1, e1, p1⟩ := ih (fun x s hx => hst x s (by omega)) s hs
    obtain ⟨s2, e2, p2⟩ := hst n s1 (by omega) p1
    exact ⟨s2, e1.trans e2, p2⟩
theorem fldL {β : Type} (L : Nat → Int64 → β) (f : Nat → Int64 → Int64) (n : Nat) (hst : ∀ x v, x < n → L x v = L (x + 1) (f x v)) (v : Int64) : L 0 v = L n (fld f n v) := by
  obtain ⟨s', e, p⟩ := fldS L (fun x s => s = fld f x v) n (fun x s hx hs => ⟨f x s, hst x s hx, by subst hs; rfl⟩) v rfl
  rw [e, p]
theorem sOf_in {σ : Sg} {c t w : Nat} (hW : WF σ) (hc : c < σ.1) (ht : t < σ.2.2.1 c) (hw : w < 4) : sOf σ (nI c) (nI t) (nI w) = .inr (σ.2.2.2.1 ((c * 5 + t) * 4 + w)) := by
  have hn := hW.1
  have hm := hW.2.2.1 c (by omega)
  unfold sOf isTn
  rw [i_cl (by omega), i_cl (by omega), i_cl (by omega), inb_t hc (by omega), inb_t ht (by omega), inb_t (show w < 5 by omega) (by omega), if_pos ⟨rfl, rfl⟩, if_pos hw]
theorem sPitch_in {σ : Sg} {c t : Nat} (hW : WF σ) (hc : c < σ.1) (ht : t < σ.2.2.1 c) : sPitch σ (nI c) (nI t) 5 = .inr (vSung σ c t) := by
  have hn := hW.1
  have hm := hW.2.2.1 c (by omega)
  unfold sPitch isTn
  rw [ltt5, i_cl (by omega), i_cl (by omega), i_cl (by omega), inb_t hc (by omega), inb_t ht (by omega), inb_t (show 5 < 6 by omega) (by omega), if_pos ⟨rfl, rfl⟩]
  rfl
theorem sRoot_in {σ : Sg} {c k : Nat} (hW : WF σ) (hc : c < σ.1) (hk : k < 7) : sRoot σ (nI c) (nI k) = .inr (vRoot σ c k) := by
  have hn := hW.1
  unfold sRoot
  rw [i_cl (by omega), i_cl (by omega), inb_t hc (by omega), inb_t hk (by omega), if_pos ⟨rfl, rfl⟩]
theorem sSet_in {σ : Sg} {c : Nat} (hW : WF σ) (hc : c < σ.1) : sSet σ (nI c) = .inr (st σ c) := by
  have hn := hW.1
  unfold sSet
  rw [i_cl (by omega), inb_t hc (by omega), if_pos rfl]
theorem sOrder_in {σ : Sg} {c t : Nat} (hW : WF σ) (hc : c < σ.1) (ht : t < σ.2.2.1 c) : sOrder σ (nI c) (nI t) = .inr (vOrder σ c (nI t)) := by
  have hn := hW.1
  have hm := hW.2.2.1 c (by omega)
  unfold sOrder isTn
  rw [i_cl (by omega), inb_t hc (by omega), inb_t ht (by omega), if_pos (show (true && true) = true from rfl)]
theorem sPart_in {σ : Sg} {p k : Nat} (hW : WF σ) (hp : p < np σ σ.1) (hk : k < 4) : sPart σ (nI p) (nI k) = .inr (vPart σ p k) := by
  have hn := hW.1
  have := np_le σ σ.1
  unfold sPart
  rw [i_cl (by omega), i_cl (by omega), inb_t hp (by omega), inb_t hk (by omega), if_pos ⟨rfl, rfl⟩]
theorem sTold_in {γ : Gs} {k : Nat} (hk : k < 5) : sTold γ (nI k) = .inr (vTold γ k) := by
  unfold sTold
  rw [i_cl (by omega), inb_t hk (by omega), if_pos rfl]
theorem sCount_in {σ : Sg} {k : Nat} (hk : k < 6) : sCount σ (nI k) = .inr (vCount σ k) := by
  unfold sCount
  rw [i_cl (by omega), inb_t hk (by omega), if_pos rfl]
theorem sTie_in {σ : Sg} {c k : Nat} (hW : WF σ) (hc : c + 1 < σ.1) (hk : k < 2) : sTieq σ (nI c) (nI k) = .inr (vTie σ c k) := by
  have hn := hW.1
  unfold sTieq
  rw [i_cl (by omega), i_cl (by omega), inb_t (show c < σ.1 by omega) (by omega), inb_t hk (by omega), if_pos ⟨rfl, rfl⟩, inb_t (show c < σ.1 - 1 by omega) (by omega), if_pos rfl]
theorem sShare_in {σ : Sg} {c : Nat} (hW : WF σ) (hc : c + 1 < σ.1) (ht : td σ c = true) : sShare σ (nI c) = .inr (sh σ c) := by
  have hn := hW.1
  unfold sShare
  rw [i_cl (by omega), inb_t (show c < σ.1 by omega) (by omega), if_pos rfl, tdI_at hn (by omega)]
  exact if_pos ht
section DIG
variable {sc : Nat × (Nat → Int32)} {h : mm_H} {σ : Sg}
theorem q_dRoot (hC : CC h σ) (hT : TU h σ) (hW : WF σ) {c : Nat} (hc : c < σ.1) (v : Int64) : mm_cal sc i_Co_digestOfRoot [.ref 0, .long v, .int (nI c)] h = some ((0, dRoot σ c v, 0), h) := by
  rw [e_Co_digestOfRoot]
  have e := fldL (fun x w => mm_ev sc i_Co_digestOfRoot 4 [.ref 0, .long v, .null, .int (nI c), .long w, .null, .int (nI x)] [] h) (fun k v => mx v (vRoot σ c k)) 7 (fun x w hx => by
    show mm_ev sc i_Co_digestOfRoot 4 [.ref 0, .long v, .null, .int (nI c), .long w, .null, .int (nI x)] [] h = mm_ev sc i_Co_digestOfRoot 4 [.ref 0, .long v, .null, .int (nI c), .long (mx w (vRoot σ c x)), .null, .int (nI (x + 1))] [] h
    rw [l_Co_digestOfRoot_4, ltt6, nI_lt_d (by omega) (by omega), decide_eq_false (show ¬ 6 < x by omega), g_root hC hT hW, sRoot_in hW hc hx, nI_1]
    rfl) v
  refine Eq.trans e ?_
  show mm_ev sc i_Co_digestOfRoot 4 [.ref 0, .long v, .null, .int (nI c), .long (fld (fun k v => mx v (vRoot σ c k)) 7 v), .null, .int (nI 7)] [] h = _
  rw [l_Co_digestOfRoot_4, ltt6, nI_lt_d (by omega) (by omega), decide_eq_true (show 6 < 7 by omega), g_set hC hT hW, sSet_in hW hc]
  rfl
theorem q_dTones (hC : CC h σ) (hT : TU h σ) (hW : WF σ) {c : Nat} (hc : c < σ.1) (v : Int64) : mm_cal sc i_Co_digestOfTones [.ref 0, .long v, .int (nI c)] h = some ((0, dTones σ c v, 0), h) := by
  have hn := hW.1
  have hm := hW.2.2.1 c (by omega)
  rw [e_Co_digestOfTones]
  simp only [bd_s, e_Hi_current, k14, cond_true]
  rw [q_toneCount hC (by omega)]
  simp only [bd_s]
  obtain ⟨s1, e1, p1⟩ := fldS (fun (x : Nat) (s : Int64 × Value) => mm_ev sc i_Co_digestOfTones 10 [.ref 0, .long v, .null, .int (nI c), .long s.1, .null, .int (nI (σ.2.2.1 c)), .int (nI x), s.2] [] h) (fun x s => s.1 = fld (fun t v => dTone σ c t v) x v) (σ.2.2.1 c) (fun x s hx hs => by
    refine ⟨(dTone σ c x s.1, .int (nI 4)), ?_, by rw [hs]; rfl⟩
    show mm_ev sc i_Co_digestOfTones 10 [.ref 0, .long v, .null, .int (nI c), .long s.1, .null, .int (nI (σ.2.2.1 c)), .int (nI x), s.2] [] h = mm_ev sc i_Co_digestOfTones 10 [.ref 0, .long v, .null, .int (nI c), .long (dTone σ c x s.1), .null, .int (nI (σ.2.2.1 c)), .int (nI (x + 1)), .int (nI 4)] [] h
    rw [l_Co_digestOfTones_10, nI_le_d (by omega) (by omega), decide_eq_false (show ¬ σ.2.2.1 c ≤ x by omega), cond_false]
    have e := fldL (fun y w => mm_ev sc i_Co_digestOfTones 15 [.ref 0, .long v, .null, .int (nI c), .long w, .null, .int (nI (σ.2.2.1 c)), .int (nI x), .int (nI y)] [] h) (fun k v => mx v (σ.2.2.2.1 ((c * 5 + x) * 4 + k))) 4 (fun y w hy => by
      show mm_ev sc i_Co_digestOfTones 15 [.ref 0, .long v, .null, .int (nI c), .long w, .null, .int (nI (σ.2.2.1 c)), .int (nI x), .int (nI y)] [] h = mm_ev sc i_Co_digestOfTones 15 [.ref 0, .long v, .null, .int (nI c), .long (mx w (σ.2.2.2.1 ((c * 5 + x) * 4 + y))), .null, .int (nI (σ.2.2.1 c)), .int (nI x), .int (nI (y + 1))] [] h
      rw [l_Co_digestOfTones_15, ltt4, nI_le_d (by omega) (by omega), decide_eq_false (show ¬ 4 ≤ y by omega), g_of hC hW, sOf_in hW hc hx hy, cond_false, nI_1 y]
      rfl) s.1
    refine Eq.trans e ?_
    show mm_ev sc i_Co_digestOfTones 15 [.ref 0, .long v, .null, .int (nI c), .long (fld (fun k v => mx v (σ.2.2.2.1 ((c * 5 + x) * 4 + k))) 4 s.1), .null, .int (nI (σ.2.2.1 c)), .int (nI x), .int (nI 4)] [] h = _
    rw [l_Co_digestOfTones_15, ltt4, nI_le_d (by omega) (by omega), decide_eq_true (show 4 ≤ 4 by omega), g_pitch hC hT hW, sPitch_in hW hc hx, nI_1]
    rfl) (v, .null) rfl
  refine Eq.trans e1 ?_
  show mm_ev sc i_Co_digestOfTones 10 [.ref 0, .long v, .null, .int (nI c), .long s1.1, .null, .int (nI (σ.2.2.1 c)), .int (nI (σ.2.2.1 c)), s1.2] [] h = _
  rw [l_Co_digestOfTones_10, nI_le_d (by omega) (by omega), decide_eq_true (show σ.2.2.1 c ≤ σ.2.2.1 c by omega), cond_true]
  have e := fldL (fun y w => mm_ev sc i_Co_digestOfTones 46 [.ref 0, .long v, .null, .int (nI c), .long w, .null, .int (nI (σ.2.2.1 c)), .int (nI y), s1.2] [] h) (fun t v => mx v (vOrder σ c (nI t))) (σ.2.2.1 c) (fun y w hy => by
    show mm_ev sc i_Co_digestOfTones 46 [.ref 0, .long v, .null, .int (nI c), .long w, .null, .int (nI (σ.2.2.1 c)), .int (nI y), s1.2] [] h = mm_ev sc i_Co_digestOfTones 46 [.ref 0, .long v, .null, .int (nI c), .long (mx w (vOrder σ c (nI y))), .null, .int (nI (σ.2.2.1 c)), .int (nI (y + 1)), s1.2] [] h
    rw [l_Co_digestOfTones_46, nI_le_d (by omega) (by omega), decide_eq_false (show ¬ σ.2.2.1 c ≤ y by omega), g_order hC hW, sOrder_in hW hc hy, nI_1]
    rfl) s1.1
  refine Eq.trans e ?_
  show mm_ev sc i_Co_digestOfTones 46 [.ref 0, .long v, .null, .int (nI c), .long (fld (fun t v => mx v (vOrder σ c (nI t))) (σ.2.2.1 c) s1.1), .null, .int (nI (σ.2.2.1 c)), .int (nI (σ.2.2.1 c)), s1.2] [] h = _
  rw [l_Co_digestOfTones_46, nI_le_d (by omega) (by omega), decide_eq_true (show σ.2.2.1 c ≤ σ.2.2.1 c by omega), cond_true, p1]
  rfl
theorem q_dTies (hC : CC h σ) (hT : TU h σ) (hW : WF σ) (v : Int64) : mm_cal sc i_Co_digestOfTies [.ref 0, .long v] h = some ((0, dTies σ v, 0), h) := by
  have hn := hW.1
  rw [e_Co_digestOfTies]
  simp only [bd_s, e_Hi_current]
  have e := fldL (fun x w => mm_ev sc i_Co_digestOfTies 8 [.ref 0, .long v, .null, .long w, .null, .ref 14, .int (nI x)] [] h) (fun c v => if td σ c = true then mx (mx (mx v (vTie σ c 0)) (vTie σ c 1)) (sh σ c) else v) σ.1 (fun x w hx => by
    show mm_ev sc i_Co_digestOfTies 8 [.ref 0, .long v, .null, .long w, .null, .ref 14, .int (nI x)] [] h = mm_ev sc i_Co_digestOfTies 8 [.ref 0, .long v, .null, .long (if td σ x = true then mx (mx (mx w (vTie σ x 0)) (vTie σ x 1)) (sh σ x) else w), .null, .ref 14, .int (nI (x + 1))] [] h
    rw [l_Co_digestOfTies_8]
    simp only [k14, cond_true]
    rw [q_chordCount hC]
    simp only [bd_s]
    rw [nI_le_d (by omega) (by omega), decide_eq_false (show ¬ σ.1 ≤ x by omega), q_isTied hC hW]
    simp only [bd_s, b2i_0, cond_false]
    by_cases q : td σ x = true
    · obtain ⟨⟨i, j⟩, hij⟩ := Option.isSome_iff_exists.mp q
      have hx1 := (hW.2.2.2.2 x i j hij).1
      rw [tdI_at hn (by omega), show (σ.2.2.2.2 x).isSome = true from q, if_pos q]
      simp only [Bool.not_true, cond_false]
      rw [show (0 : Int32) = nI 0 from rfl, g_tie hC hW, sTie_in hW hx1 (by omega)]
      simp only [Gt, bd_s]
      rw [ltt1, g_tie hC hW, sTie_in hW hx1 (by omega)]
      simp only [Gt, bd_s]
      rw [g_share hC hT hW, sShare_in hW hx1 q, nI_add]
      rfl
    · have q2 : tdI σ (nI x) = false := by
        unfold tdI
        rw [i_cl (by omega), show (σ.2.2.2.2 x).isSome = false from Bool.eq_false_iff.mpr q, Bool.and_false]
      rw [q2, if_neg q, nI_1]
      rfl) v
  refine Eq.trans e ?_
  show mm_ev sc i_Co_digestOfTies 8 [.ref 0, .long v, .null, .long (dTies σ v), .null, .ref 14, .int (nI σ.1)] [] h = _
  rw [l_Co_digestOfTies_8]
  simp only [k14, cond_true]
  rw [q_chordCount hC]
  simp only [bd_s]
  rw [nI_le_d (by omega) (by omega), decide_eq_true (show σ.1 ≤ σ.1 by omega)]
  rfl
theorem q_dParts (hT : TU h σ) (hW : WF σ) (v : Int64) : mm_cal sc i_Co_digestOfParts [.ref 0, .long v] h = some ((0, dParts σ v, 0), h) := by
  have hn := hW.1
  have hp := np_le σ σ.1
  rw [e_Co_digestOfParts]
  obtain ⟨s1, e1, p1⟩ := fldS (fun (x : Nat) (s : Int64 × Value) => mm_ev sc i_Co_digestOfParts 4 [.ref 0, .long v, .null, .long s.1, .null, .int (nI x), s.2] [] h) (fun x s => s.1 = fld (fun p v => fld (fun k v => mx v (vPart σ p k)) 4 v) x v) (np σ σ.1) (fun x s hx hs => by
    refine ⟨(fld (fun k v => mx v (vPart σ x k)) 4 s.1, .int (nI 4)), ?_, by rw [hs]; rfl⟩
    show mm_ev sc i_Co_digestOfParts 4 [.ref 0, .long v, .null, .long s.1, .null, .int (nI x), s.2] [] h = mm_ev sc i_Co_digestOfParts 4 [.ref 0, .long v, .null, .long (fld (fun k v => mx v (vPart σ x k)) 4 s.1), .null, .int (nI (x + 1)), .int (nI 4)] [] h
    rw [l_Co_digestOfParts_4, e_Tu_partCount]
    simp only [bd_s]
    rw [hT.1.1, nI_le_d (by omega) (by omega), decide_eq_false (show ¬ np σ σ.1 ≤ x by omega), cond_false]
    have e := fldL (fun y w => mm_ev sc i_Co_digestOfParts 11 [.ref 0, .long v, .null, .long w, .null, .int (nI x), .int (nI y)] [] h) (fun k v => mx v (vPart σ x k)) 4 (fun y w hy => by
      show mm_ev sc i_Co_digestOfParts 11 [.ref 0, .long v, .null, .long w, .null, .int (nI x), .int (nI y)] [] h = mm_ev sc i_Co_digestOfParts 11 [.ref 0, .long v, .null, .long (mx w (vPart σ x y)), .null, .int (nI x), .int (nI (y + 1))] [] h
      rw [l_Co_digestOfParts_11, ltt3, nI_lt_d (by omega) (by omega), decide_eq_false (show ¬ 3 < y by omega), g_part hT hW, sPart_in hW hx hy, cond_false, nI_1 y]
      rfl) s.1
    refine Eq.trans e ?_
    show mm_ev sc i_Co_digestOfParts 11 [.ref 0, .long v, .null, .long (fld (fun k v => mx v (vPart σ x k)) 4 s.1), .null, .int (nI x), .int (nI 4)] [] h = _
    rw [l_Co_digestOfParts_11, ltt3, nI_lt_d (by omega) (by omega), decide_eq_true (show 3 < 4 by omega), nI_1]
    rfl) (v, .null) rfl
  refine Eq.trans e1 ?_
  show mm_ev sc i_Co_digestOfParts 4 [.ref 0, .long v, .null, .long s1.1, .null, .int (nI (np σ σ.1)), s1.2] [] h = _
  rw [l_Co_digestOfParts_4, e_Tu_partCount]
  simp only [bd_s]
  rw [hT.1.1, nI_le_d (by omega) (by omega), decide_eq_true (show np σ σ.1 ≤ np σ σ.1 by omega), p1]
  rfl
theorem g_digest {γ : Gs} (hI : IC h γ) : mm_cal sc i_Co_digest [.ref 0] h = some ((0, dg γ, 0), h) := by
  obtain ⟨hC, hW, hT, hH, hN⟩ := id hI
  have hn := hW.1
  rw [e_Co_digest]
  have e1 := fldL (fun x w => mm_ev sc i_Co_digest 4 [.ref 0, .long w, .null, .int (nI x), .null] [] h) (fun k v => mx v (vTold γ k)) 5 (fun x w hx => by
    show mm_ev sc i_Co_digest 4 [.ref 0, .long w, .null, .int (nI x), .null] [] h = mm_ev sc i_Co_digest 4 [.ref 0, .long (mx w (vTold γ x)), .null, .int (nI (x + 1)), .null] [] h
    rw [l_Co_digest_4, ltt4, nI_lt_d (by omega) (by omega), decide_eq_false (show ¬ 4 < x by omega), g_told hI, sTold_in hx, nI_1]
    rfl) (Int32.toInt64 1775)
  refine Eq.trans e1 ?_
  show mm_ev sc i_Co_digest 4 [.ref 0, .long (dTold γ (Int32.toInt64 1775)), .null, .int (nI 5), .null] [] h = _
  rw [l_Co_digest_4, ltt4, nI_lt_d (by omega) (by omega), decide_eq_true (show 4 < 5 by omega), cond_true]
  have e2 := fldL (fun x w => mm_ev sc i_Co_digest 20 [.ref 0, .long w, .null, .int (nI x), .null] [] h) (fun k v => mx v (vCount γ.1 k)) 6 (fun x w hx => by
    show mm_ev sc i_Co_digest 20 [.ref 0, .long w, .null, .int (nI x), .null] [] h = mm_ev sc i_Co_digest 20 [.ref 0, .long (mx w (vCount γ.1 x)), .null, .int (nI (x + 1)), .null] [] h
    rw [l_Co_digest_20, ltt5, nI_lt_d (by omega) (by omega), decide_eq_false (show ¬ 5 < x by omega), g_count hC hT hW, sCount_in hx, nI_1]
    rfl) (dTold γ (Int32.toInt64 1775))
  refine Eq.trans e2 ?_
  show mm_ev sc i_Co_digest 20 [.ref 0, .long (dCount γ.1 (dTold γ (Int32.toInt64 1775))), .null, .int (nI 6), .null] [] h = _
  rw [l_Co_digest_20, ltt5, nI_lt_d (by omega) (by omega), decide_eq_true (show 5 < 6 by omega), e_Hi_current]
  simp only [bd_s, k14, cond_true]
  rw [q_chordCount hC]
  simp only [bd_s]
  have e3 := fldL (fun x w => mm_ev sc i_Co_digest 41 [.ref 0, .long w, .null, .int (nI γ.1.1), .int (nI x)] [] h) (fun c v => dTones γ.1 c (dRoot γ.1 c v)) γ.1.1 (fun x w hx => by
    show mm_ev sc i_Co_digest 41 [.ref 0, .long w, .null, .int (nI γ.1.1), .int (nI x)] [] h = mm_ev sc i_Co_digest 41 [.ref 0, .long (dTones γ.1 x (dRoot γ.1 x w)), .null, .int (nI γ.1.1), .int (nI (x + 1))] [] h
    rw [l_Co_digest_41, nI_le_d (by omega) (by omega), decide_eq_false (show ¬ γ.1.1 ≤ x by omega), q_dRoot hC hT hW hx]
    simp only [bd_s, cond_false]
    rw [q_dTones hC hT hW hx, nI_1]
    rfl) (dCount γ.1 (dTold γ (Int32.toInt64 1775)))
  refine Eq.trans e3 ?_
  show mm_ev sc i_Co_digest 41 [.ref 0, .long (dChords γ.1 (dCount γ.1 (dTold γ (Int32.toInt64 1775)))), .null, .int (nI γ.1.1), .int (nI γ.1.1)] [] h = _
  rw [l_Co_digest_41, nI_le_d (by omega) (by omega), decide_eq_true (show γ.1.1 ≤ γ.1.1 by omega), q_dTies hC hT hW]
  simp only [bd_s, cond_true]
  rw [q_dParts hT hW]
  rfl
end DIG
