/-! what changes a score: seven kinds, each refused or done -/
abbrev Ro : Type := Int32 ⊕ (Int32 × Sg)
def fr14 (h h' : mm_H) : Prop := (∀ a, a ≠ 14 → a ≠ 21 → a ≠ 22 → a ≠ 23 → a ≠ 24 → h'.1 a = h.1 a) ∧ h'.2 = h.2
def Oc (h : mm_H) (o : Ro) (r : Option mm_R) : Prop := match o with
  | .inl e => r = some ((e, 0, 0), h)
  | .inr (v, σ') => ∃ h', r = some ((v, 0, 0), h') ∧ CC h' σ' ∧ fr14 h h'
/-- an order's answer and its score are of the right kind -/
def Ok (o : Ro) : Prop := match o with
  | .inl e => e = -100000002 ∨ e = -100000003 ∨ e = -100000004
  | .inr (v, σ') => 0 ≤ v.toInt ∧ v.toInt ≤ 10000 ∧ WF σ'
def rat (a b : Int32) (k : Nat) : Int32 := nI (pcn (pr k) 6 a.toNatClampNeg) - nI (pcn (pr k) 6 b.toNatClampNeg)
def wrp (pw : Nat → Int32) (s : Nat) (a b : Int32) : Nat → Int32 := fun x => if s ≤ x ∧ x < s + 4 then rat a b (x - s) else pw x
def sAddC (σ : Sg) : Sg := (σ.1 + 1, σ.2.1, fun x => if x = σ.1 then 0 else σ.2.2.1 x, σ.2.2.2.1, σ.2.2.2.2)
def sAddT (σ : Sg) (c : Nat) (a b : Int32) : Sg := (σ.1, σ.2.1, fun x => if x = c then σ.2.2.1 c + 1 else σ.2.2.1 x, wrp σ.2.2.2.1 ((c * 5 + σ.2.2.1 c) * 4) a b, σ.2.2.2.2)
def sChT (σ : Sg) (c t : Nat) (a b : Int32) : Sg := (σ.1, σ.2.1, σ.2.2.1, wrp σ.2.2.2.1 ((c * 5 + t) * 4) a b, σ.2.2.2.2)
def sTie (σ : Sg) (c : Nat) (o : Option (Nat × Nat)) : Sg := (σ.1, σ.2.1, σ.2.2.1, σ.2.2.2.1, fun x => if x = c then o else σ.2.2.2.2 x)
def sDrop (σ : Sg) : Sg := (σ.1 - 1, σ.2.1, σ.2.2.1, σ.2.2.2.1, fun x => if x + 2 = σ.1 then none else σ.2.2.2.2 x)
def sLim (σ : Sg) (v : Nat) : Sg := (σ.1, v, σ.2.2.1, σ.2.2.2.1, σ.2.2.2.2)
def oChord (σ : Sg) : Ro := if σ.1 < 12 then .inr (nI σ.1, sAddC σ) else .inl (-100000004)
def oTone (σ : Sg) (c a b : Int32) : Ro := if mm_inb c σ.1 = true ∧ isT a = true ∧ isT b = true then (if σ.2.2.1 c.toNatClampNeg < 5 then .inr (nI (σ.2.2.1 c.toNatClampNeg), sAddT σ c.toNatClampNeg a b) else .inl (-100000004)) else .inl (-100000002)
/-- how many ties are of a tone -/
def tfr (σ : Sg) (c t : Nat) : Nat := match c with
  | 0 => 0
  | c + 1 => match σ.2.2.2.2 c with
    | some (_, j) => if j = t then 1 else 0
    | none => 0
def tto (σ : Sg) (c t : Nat) : Nat := match σ.2.2.2.2 c with
  | some (i, _) => if i = t then 1 else 0
  | none => 0
def oTunes (σ : Sg) (c t a b : Int32) : Ro := if isTn σ c t = true ∧ isT a = true ∧ isT b = true then .inr (nI (tfr σ c.toNatClampNeg t.toNatClampNeg + tto σ c.toNatClampNeg t.toNatClampNeg), sChT σ c.toNatClampNeg t.toNatClampNeg a b) else .inl (-100000002)
def oHolds (σ : Sg) (c i j : Int32) : Ro := if isTn σ c i = true then (if mm_inb c (σ.1 - 1) = true then (if isTn σ (c + 1) j = true then .inr (b2i (σ.2.2.2.2 c.toNatClampNeg).isSome, sTie σ c.toNatClampNeg (some (i.toNatClampNeg, j.toNatClampNeg))) else .inl (-100000002)) else .inl (-100000003)) else .inl (-100000002)
def oFrees (σ : Sg) (c : Int32) : Ro := if mm_inb c σ.1 = true then (if mm_inb c (σ.1 - 1) = true then .inr (b2i (σ.2.2.2.2 c.toNatClampNeg).isSome, sTie σ c.toNatClampNeg none) else .inl (-100000003)) else .inl (-100000002)
def oDrops (σ : Sg) : Ro := if σ.1 = 0 then .inl (-100000003) else .inr (nI (σ.1 - 1), sDrop σ)
def oLimit (σ : Sg) (v : Int32) : Ro := if mm_inb v 10000 = true then .inr (nI σ.2.1, sLim σ v.toNatClampNeg) else .inl (-100000002)
theorem rat_in (a b : Int32) (k : Nat) : -6 ≤ (rat a b k).toInt ∧ (rat a b k).toInt ≤ 6 := by
  have h1 := pcn_le (pr k) 6 a.toNatClampNeg
  have h2 := pcn_le (pr k) 6 b.toNatClampNeg
  unfold rat
  rw [pk_sub_toInt (by omega) (by omega)]
  omega
theorem isTn_ex {σ : Sg} {a t : Int32} (hW : WF σ) (h : isTn σ a t = true) : ∃ c u, c < σ.1 ∧ u < σ.2.2.1 c ∧ c < 12 ∧ u < 5 ∧ a = nI c ∧ t = nI u := by
  unfold isTn at h
  rw [Bool.and_eq_true] at h
  obtain ⟨c, hc, hc2, rfl⟩ := inb_ex h.1
  have h2 := h.2
  rw [i_cl hc2] at h2
  obtain ⟨u, hu, hu2, rfl⟩ := inb_ex h2
  have := hW.1
  have h5 := hW.2.2.1 c (by omega)
  exact ⟨c, u, hc, hu, by omega, by omega, rfl, rfl⟩
theorem wf_wrp {pw : Nat → Int32} (h : ∀ j, j < 240 → -6 ≤ (pw j).toInt ∧ (pw j).toInt ≤ 6) (s : Nat) (a b : Int32) : ∀ j, j < 240 → -6 ≤ (wrp pw s a b j).toInt ∧ (wrp pw s a b j).toInt ≤ 6 := by
  intro j hj
  unfold wrp
  split
  · exact rat_in a b _
  · exact h j hj
theorem ok_b2i (b : Bool) : 0 ≤ (b2i b).toInt ∧ (b2i b).toInt ≤ 10000 := by cases b <;> decide +kernel
theorem ok_nI {n : Nat} (h : n ≤ 10000) : 0 ≤ (nI n).toInt ∧ (nI n).toInt ≤ 10000 := by
  rw [i_nI (by omega)]
  omega
theorem ok_chord {σ : Sg} (hW : WF σ) : Ok (oChord σ) := by
  unfold oChord
  split
  · next hn =>
    refine ⟨(ok_nI (by omega)).1, (ok_nI (by omega)).2, ?_, hW.2.1, fun c hc => ?_, hW.2.2.2.1, fun c i j ht => ?_⟩
    · show σ.1 + 1 ≤ 12
      omega
    · show (if c = σ.1 then 0 else σ.2.2.1 c) ≤ 5
      split
      · omega
      · exact hW.2.2.1 c hc
    · obtain ⟨h1, h2⟩ := hW.2.2.2.2 c i j ht
      exact ⟨by show c + 1 < σ.1 + 1; omega, h2⟩
  · exact Or.inr (Or.inr rfl)
theorem ok_tone {σ : Sg} (hW : WF σ) (c a b : Int32) : Ok (oTone σ c a b) := by
  unfold oTone
  split
  · split
    · next h5 =>
      refine ⟨(ok_nI (by omega)).1, (ok_nI (by omega)).2, hW.1, hW.2.1, fun x hx => ?_, wf_wrp hW.2.2.2.1 _ a b, hW.2.2.2.2⟩
      show (if x = c.toNatClampNeg then σ.2.2.1 c.toNatClampNeg + 1 else σ.2.2.1 x) ≤ 5
      split
      · omega
      · exact hW.2.2.1 x hx
    · exact Or.inr (Or.inr rfl)
  · exact Or.inl rfl
theorem tfr_le (σ : Sg) (c t : Nat) : tfr σ c t ≤ 1 := by
  unfold tfr
  split
  · omega
  · split
    · split <;> omega
    · omega
theorem tto_le (σ : Sg) (c t : Nat) : tto σ c t ≤ 1 := by
  unfold tto
  split
  · split <;> omega
  · omega
theorem ok_tunes {σ : Sg} (hW : WF σ) (c t a b : Int32) : Ok (oTunes σ c t a b) := by
  unfold oTunes
  have h1 := tfr_le σ c.toNatClampNeg t.toNatClampNeg
  have h2 := tto_le σ c.toNatClampNeg t.toNatClampNeg
  split
  · exact ⟨(ok_nI (by omega)).1, (ok_nI (by omega)).2, hW.1, hW.2.1, hW.2.2.1, wf_wrp hW.2.2.2.1 _ a b, hW.2.2.2.2⟩
  · exact Or.inl rfl
theorem ok_holds {σ : Sg} (hW : WF σ) (c i j : Int32) : Ok (oHolds σ c i j) := by
  unfold oHolds
  split
  · next h1 =>
    split
    · next h2 =>
      split
      · next h3 =>
        refine ⟨(ok_b2i _).1, (ok_b2i _).2, hW.1, hW.2.1, hW.2.2.1, hW.2.2.2.1, fun x i' j' hx => ?_⟩
        obtain ⟨c', u, a1, a2, a3, a4, rfl, rfl⟩ := isTn_ex hW h1
        obtain ⟨c2, u2, b1, b2, b3, b4, b5, rfl⟩ := isTn_ex hW h3
        obtain ⟨c3, k1, k2, k3⟩ := inb_ex h2
        have hc3 := (i_inj (by omega) k2).mp k3
        have hx : (if x = (nI c').toNatClampNeg then some ((nI u).toNatClampNeg, (nI u2).toNatClampNeg) else σ.2.2.2.2 x) = some (i', j') := hx
        rw [i_cl (by omega), i_cl (by omega), i_cl (by omega)] at hx
        split at hx
        · cases hx
          exact ⟨by show x + 1 < σ.1; omega, a4, b4⟩
        · exact hW.2.2.2.2 x i' j' hx
      · exact Or.inl rfl
    · exact Or.inr (Or.inl rfl)
  · exact Or.inl rfl
theorem ok_frees {σ : Sg} (hW : WF σ) (c : Int32) : Ok (oFrees σ c) := by
  unfold oFrees
  split
  · split
    · refine ⟨(ok_b2i _).1, (ok_b2i _).2, hW.1, hW.2.1, hW.2.2.1, hW.2.2.2.1, fun x i' j' hx => ?_⟩
      have hx : (if x = c.toNatClampNeg then none else σ.2.2.2.2 x) = some (i', j') := hx
      split at hx
      · cases hx
      · exact hW.2.2.2.2 x i' j' hx
    · exact Or.inr (Or.inl rfl)
  · exact Or.inl rfl
theorem ok_drops {σ : Sg} (hW : WF σ) : Ok (oDrops σ) := by
  have hn := hW.1
  unfold oDrops
  split
  · exact Or.inr (Or.inl rfl)
  · refine ⟨(ok_nI (by omega)).1, (ok_nI (by omega)).2, by show σ.1 - 1 ≤ 12; omega, hW.2.1, hW.2.2.1, hW.2.2.2.1, fun x i' j' hx => ?_⟩
    have hx : (if x + 2 = σ.1 then none else σ.2.2.2.2 x) = some (i', j') := hx
    split at hx
    · cases hx
    · obtain ⟨h1, h2⟩ := hW.2.2.2.2 x i' j' hx
      exact ⟨by show x + 1 < σ.1 - 1; omega, h2⟩
theorem ok_limit {σ : Sg} (hW : WF σ) (v : Int32) : Ok (oLimit σ v) := by
  have hL := hW.2.1
  unfold oLimit
  split
  · next h =>
    obtain ⟨c, hc, hc2, rfl⟩ := inb_ex h
    exact ⟨(ok_nI (by omega)).1, (ok_nI (by omega)).2, hW.1, by show (nI c).toNatClampNeg ≤ 9999; rw [i_cl hc2]; omega, hW.2.2.1, hW.2.2.2.1, hW.2.2.2.2⟩
  · exact Or.inl rfl
section SCORE2
variable {sc : Nat × (Nat → Int32)} {h : mm_H} {σ : Sg}
theorem q_addChord (hC : CC h σ) (hW : WF σ) : Oc h (oChord σ) (mm_cal sc i_Sc_addChord [.ref 14] h) := by
  have hn := hW.1
  have g := e_Sc_addChord sc h
  rw [hC.1, show (12 : Int32) = nI 12 from rfl, nI_lt_d (by omega) (by omega)] at g
  unfold oChord
  by_cases q : σ.1 < 12
  · rw [if_pos q]
    rw [inb_t q (by omega), i_cl (by omega)] at g
    simp only [q, decide_true, cond_true] at g
    refine ⟨_, g, ⟨?_, ?_, fun x hx => ?_, fun x hx => ?_, fun x hx => ?_⟩, fun a h1 h2 h3 h4 h5 => ?_, rfl⟩
    · simp [si1, upd1, sAddC, hC.1, nI_1]
    · simp [si1, upd1, sAddC, hC.2.1]
    · have := hC.2.2.1 x hx
      by_cases e : x = σ.1
      · simp [si1, upd1, sAddC, e, nI_z]
      · simp [si1, upd1, sAddC, e, this]
    · simp [si1, upd1, sAddC, hC.2.2.2.1 x hx]
    · have hx : x < σ.1 + 1 := hx
      by_cases e : x = σ.1
      · subst e
        refine ⟨fun _ => (by simp [si1, upd1]), fun i j ht => ?_⟩
        have := (hW.2.2.2.2 _ i j ht).1
        omega
      · have := hC.2.2.2.2 x (by omega)
        simp [si1]
        simp only [pk_un e]
        exact this
    · simp [si1, h1, h2, h4]
  · rw [if_neg q]
    simp only [q, decide_false, cond_false] at g
    exact g
theorem q_write6 (x1 x2 : Int32) {a b s : Nat} (hs : s + 4 ≤ 240) (ha : a < 100) (hb : b < 100) (g : mm_H) {k : Nat} (hk : k < 4) : mm_ev sc i_Sc_writeRatio 6 [.ref 14, .int x1, .int x2, .int (nI a), .int (nI b), .int (nI s), .int (nI k)] [] g = mm_ev sc i_Sc_writeRatio 6 [.ref 14, .int x1, .int x2, .int (nI a), .int (nI b), .int (nI s), .int (nI (k + 1))] [] (mm_si g 22 (s + k) (rat (nI a) (nI b) k)) := by
  rw [l_Sc_writeRatio_6, show (4 : Int32) = nI 4 from rfl, nI_le_d (by omega) (by omega), q_powerIn sc hk (by omega)]
  simp only [show ¬ 4 ≤ k by omega, decide_false, cond_false, bd_s]
  rw [q_powerIn sc hk (by omega)]
  simp only [bd_s]
  rw [nI_add, inb_t (show s + k < 240 by omega) (by omega), i_cl (by omega), nI_1]
  unfold rat
  rw [i_cl (by omega), i_cl (by omega)]
  rfl
theorem isT_ex {a : Int32} (h : isT a = true) : ∃ n, 1 ≤ n ∧ n ≤ 64 ∧ a = nI n := by
  unfold isT at h
  simp only [Bool.and_eq_true, decide_eq_true_eq] at h
  obtain ⟨c, hc, hc2, rfl⟩ := inb_ex (a := a) (n := 65) (inb_iff.mpr ⟨by omega, by omega⟩)
  have h1 := h.1
  rw [i_nI hc2] at h1
  exact ⟨c, by omega, by omega, rfl⟩
theorem q_writeRatio {c t : Nat} {a b : Int32} (hc : c < 12) (ht : t < 5) (ha : isT a = true) (hb : isT b = true) (g : mm_H) : ∃ g', mm_cal sc i_Sc_writeRatio [.ref 14, .int (nI c), .int (nI t), .int a, .int b] g = some ((0, 0, 0), g') ∧ g'.1 22 = wrp (g.1 22) ((c * 5 + t) * 4) a b ∧ (∀ x, x ≠ 22 → g'.1 x = g.1 x) ∧ g'.2 = g.2 := by
  obtain ⟨a, ha1, ha2, rfl⟩ := isT_ex ha
  obtain ⟨b, hb1, hb2, rfl⟩ := isT_ex hb
  have hs : (c * 5 + t) * 4 + 4 ≤ 240 := by omega
  have e := e_Sc_writeRatio sc (nI c) (nI t) (nI a) (nI b) g
  rw [q_startOf] at e
  simp only [bd_s] at e
  rw [show (0 : Int32) = nI 0 from rfl, q_write6 _ _ hs (by omega) (by omega) _ (by omega), q_write6 _ _ hs (by omega) (by omega) _ (by omega), q_write6 _ _ hs (by omega) (by omega) _ (by omega), q_write6 _ _ hs (by omega) (by omega) _ (by omega)] at e
  rw [l_Sc_writeRatio_6, show (4 : Int32) = nI 4 from rfl, nI_le_d (by omega) (by omega)] at e
  simp only [Nat.le_refl, decide_true, cond_true] at e
  refine ⟨_, e, ?_, fun x hx => ?_, rfl⟩
  · generalize (c * 5 + t) * 4 = s
    funext x
    simp only [si1, upd1, wrp, if_true]
    by_cases q : s ≤ x ∧ x < s + 4
    · rw [if_pos q]
      rcases (show x = s ∨ x = s + 1 ∨ x = s + 2 ∨ x = s + 3 by omega) with rfl | rfl | rfl | rfl
      · simp
      · simp [show s + 1 - s = 1 by omega]
      · simp [show s + 2 - s = 2 by omega]
      · simp [show s + 3 - s = 3 by omega]
    · rw [if_neg q, if_neg (by omega), if_neg (by omega), if_neg (by omega), if_neg (by omega)]
  · simp [si1, hx]
theorem wrp_at {pw : Nat → Int32} {f : Nat → Int32} {s : Nat} {a b : Int32} (h : ∀ x, x < 240 → f x = pw x) : ∀ x, x < 240 → wrp f s a b x = wrp pw s a b x := by
  intro x hx
  unfold wrp
  rw [h x hx]
theorem q_addTone (hC : CC h σ) (hW : WF σ) (c a b : Int32) : Oc h (oTone σ c a b) (mm_cal sc i_Sc_addTone [.ref 14, .int c, .int a, .int b] h) := by
  have hn := hW.1
  have g := e_Sc_addTone sc c a b h
  rw [q_hasChord hC hW] at g
  simp only [bd_s] at g
  rw [q_isTerm] at g
  simp only [bd_s] at g
  rw [q_isTerm] at g
  simp only [bd_s, b2i_0] at g
  unfold oTone
  cases hq : mm_inb c σ.1 with
  | false =>
    rw [hq] at g
    rw [if_neg (by simp)]
    exact g
  | true =>
    rw [hq] at g
    cases ha : isT a with
    | false =>
      rw [ha] at g
      rw [if_neg (by simp)]
      exact g
    | true =>
      rw [ha] at g
      cases hb : isT b with
      | false =>
        rw [hb] at g
        rw [if_neg (by simp)]
        exact g
      | true =>
        rw [hb] at g
        rw [if_pos ⟨rfl, rfl, rfl⟩]
        obtain ⟨c, hc, hc2, rfl⟩ := inb_ex hq
        have h5 := hW.2.2.1 c (by omega)
        rw [inb_t (show c < 12 by omega) (by omega), i_cl hc2, hC.2.2.1 c (by omega), show (5 : Int32) = nI 5 from rfl, nI_lt_d (by omega) (by omega)] at g
        simp only [Bool.not_true, cond_false, cond_true] at g
        rw [i_cl hc2]
        by_cases q : σ.2.2.1 c < 5
        · rw [if_pos q]
          simp only [q, decide_true, cond_true] at g
          obtain ⟨g', e1, e2, e3, e4⟩ := q_writeRatio (sc := sc) (show c < 12 by omega) q ha hb (mm_si h 21 c (nI (σ.2.2.1 c) + 1))
          rw [e1] at g
          refine ⟨g', g, ⟨?_, ?_, fun x hx => ?_, fun x hx => ?_, fun x hx => ?_⟩, fun y h1 h2 h3 h4 h5 => ?_, e4⟩
          · rw [e3 14 (by omega)]
            exact hC.1
          · rw [e3 14 (by omega)]
            exact hC.2.1
          · rw [e3 21 (by omega)]
            have := hC.2.2.1 x hx
            by_cases e : x = c
            · simp [si1, upd1, sAddT, e, nI_1]
            · simp [si1, upd1, sAddT, e, this]
          · rw [e2]
            exact wrp_at (fun y hy => hC.2.2.2.1 y hy) x hx
          · rw [e3 23 (by omega), e3 24 (by omega)]
            exact hC.2.2.2.2 x hx
          · rw [e3 y h3]
            simp [si1, h2]
        · rw [if_neg q]
          simp only [q, decide_false, cond_false] at g
          exact g
theorem cc_chT {c t : Nat} {a b : Int32} {g' : mm_H} (hC : CC h σ) (e2 : g'.1 22 = wrp (h.1 22) ((c * 5 + t) * 4) a b) (e3 : ∀ x, x ≠ 22 → g'.1 x = h.1 x) : CC g' (sChT σ c t a b) := by
  refine ⟨?_, ?_, fun x hx => ?_, fun x hx => ?_, fun x hx => ?_⟩
  · rw [e3 14 (by omega)]; exact hC.1
  · rw [e3 14 (by omega)]; exact hC.2.1
  · rw [e3 21 (by omega)]; exact hC.2.2.1 x hx
  · rw [e2]; exact wrp_at (fun y hy => hC.2.2.2.1 y hy) x hx
  · rw [e3 23 (by omega), e3 24 (by omega)]; exact hC.2.2.2.2 x hx
theorem nI_sub1 {c : Nat} : nI (c + 1) - 1 = nI c := nI_pred c
theorem q_changeTone (hC : CC h σ) (hW : WF σ) (c t a b : Int32) : Oc h (oTunes σ c t a b) (mm_cal sc i_Sc_changeTone [.ref 14, .int c, .int t, .int a, .int b] h) := by
  have hn := hW.1
  have g := e_Sc_changeTone sc c t a b h
  rw [q_hasTone hC hW] at g
  simp only [bd_s] at g
  rw [q_isTerm] at g
  simp only [bd_s] at g
  rw [q_isTerm] at g
  simp only [bd_s, b2i_0] at g
  unfold oTunes
  cases hq : isTn σ c t with
  | false =>
    rw [hq] at g
    rw [if_neg (by simp)]
    exact g
  | true =>
    rw [hq] at g
    cases ha : isT a with
    | false =>
      rw [ha] at g
      rw [if_neg (by simp)]
      exact g
    | true =>
      rw [ha] at g
      cases hb : isT b with
      | false =>
        rw [hb] at g
        rw [if_neg (by simp)]
        exact g
      | true =>
        rw [hb] at g
        rw [if_pos ⟨rfl, rfl, rfl⟩]
        obtain ⟨c, u, hc, hu, hc12, hu5, rfl, rfl⟩ := isTn_ex hW hq
        obtain ⟨g', e1, e2, e3, e4⟩ := q_writeRatio (sc := sc) hc12 hu5 ha hb h
        rw [e1] at g
        have hC' : CC g' (sChT σ c u a b) := cc_chT hC e2 e3
        have hW' : WF (sChT σ c u a b) := ⟨hW.1, hW.2.1, hW.2.2.1, wf_wrp hW.2.2.2.1 _ a b, hW.2.2.2.2⟩
        simp only [bd_s, Bool.not_true, cond_false] at g
        rw [q_isTied hC' hW'] at g
        simp only [bd_s, b2i_0] at g
        rw [q_isTied hC' hW', inb_t (show c < 12 by omega) (by omega), i_cl (show c < 2147483648 by omega)] at g
        simp only [bd_s, b2i_0, cond_true] at g
        rw [i_cl (show c < 2147483648 by omega), i_cl (show u < 2147483648 by omega)]
        have fin : mm_cal sc i_Sc_changeTone [.ref 14, .int (nI c), .int (nI u), .int a, .int b] h = some ((nI (tfr σ c u + tto σ c u), 0, 0), g') := by
          rw [g]
          have hto : ∀ v : Int32, ∀ w : Nat, v = nI w → (bif !tdI (sChT σ c u a b) (nI c) then some ((v + 0, 0, 0), g') else bif decide (g'.1 23 c = nI u) then some ((v + 1, 0, 0), g') else some ((v + 0, 0, 0), g')) = (some ((nI (w + tto σ c u), 0, 0), g') : Option mm_R) := by
            intro v w hv
            have ez : v + 0 = nI (w + 0) := by rw [hv, show (0 : Int32) = nI 0 from rfl, nI_add]
            have eo : v + 1 = nI (w + 1) := by rw [hv, nI_1]
            unfold tdI tto
            rw [i_cl (show c < 2147483648 by omega)]
            cases ht : σ.2.2.2.2 c with
            | none =>
              have : (sChT σ c u a b).2.2.2.2 c = none := ht
              rw [this]
              simp only [Option.isSome_none, Bool.and_false, Bool.not_false, cond_true, ez]
            | some q =>
              obtain ⟨i, j⟩ := q
              have ht' : (sChT σ c u a b).2.2.2.2 c = some (i, j) := ht
              obtain ⟨k1, k2, k3⟩ := hW.2.2.2.2 c i j ht
              have hin : mm_inb (nI c) ((sChT σ c u a b).1 - 1) = true := inb_t (show c < σ.1 - 1 by omega) (by show σ.1 - 1 ≤ _; omega)
              rw [ht', hin, ((hC'.2.2.2.2 c hc).2 i j ht').1, nI_eq_d (by omega) (by omega)]
              simp only [Option.isSome_some, Bool.and_true, Bool.not_true, cond_false]
              by_cases e : i = u
              · simp only [e, decide_true, cond_true, if_true, eo]
              · simp only [e, decide_false, cond_false, if_false, ez]
          cases c with
          | zero =>
            have e0 : tdI (sChT σ 0 u a b) (nI 0 - 1) = false := by
              unfold tdI
              have : mm_inb (nI 0 - 1) ((sChT σ 0 u a b).1 - 1) = false := by
                unfold mm_inb
                rw [show (nI 0 - 1).toInt = -1 by decide +kernel]
                rfl
              rw [this]
              rfl
            rw [e0]
            simp only [Bool.not_false, cond_true]
            refine (hto 0 0 rfl).trans ?_
            rfl
          | succ c =>
            rw [nI_sub1, inb_t (show c < 12 by omega) (by omega), i_cl (show c < 2147483648 by omega)]
            simp only [cond_true]
            have e0 : tdI (sChT σ (c + 1) u a b) (nI c) = (σ.2.2.2.2 c).isSome := by
              unfold tdI
              rw [i_cl (show c < 2147483648 by omega)]
              have : mm_inb (nI c) ((sChT σ (c + 1) u a b).1 - 1) = true := inb_t (show c < σ.1 - 1 by omega) (by show σ.1 - 1 ≤ _; omega)
              rw [this]
              rfl
            rw [e0]
            cases ht : σ.2.2.2.2 c with
            | none =>
              simp only [Option.isSome_none, Bool.not_false, cond_true]
              refine (hto 0 0 rfl).trans ?_
              unfold tfr
              simp only [ht]
            | some q =>
              obtain ⟨i, j⟩ := q
              have ht' : (sChT σ (c + 1) u a b).2.2.2.2 c = some (i, j) := ht
              obtain ⟨k1, k2, k3⟩ := hW.2.2.2.2 c i j ht
              simp only [Option.isSome_some, Bool.not_true, cond_false]
              rw [((hC'.2.2.2.2 c (by show c < σ.1; omega)).2 i j ht').2, nI_eq_d (by omega) (by omega)]
              by_cases e : j = u
              · simp only [e, decide_true, cond_true]
                refine (hto 1 1 rfl).trans ?_
                unfold tfr
                simp only [ht, e, if_true]
              · simp only [e, decide_false, cond_false]
                refine (hto 0 0 rfl).trans ?_
                unfold tfr
                simp only [ht, e, if_false]
        exact ⟨g', fin, hC', fun y h1 h2 h3 h4 h5 => e3 y h3, e4⟩
theorem cc_tie {c i j : Nat} {g : mm_H} (hC : CC h σ) (hn : σ.1 ≤ 12) (h1 : ∀ x, x ≠ 23 → x ≠ 24 → g.1 x = h.1 x) (h2 : g.1 23 = upd (h.1 23) c (nI i)) (h3 : g.1 24 = upd (h.1 24) c (nI j)) : CC g (sTie σ c (some (i, j))) := by
  refine ⟨?_, ?_, fun x hx => ?_, fun x hx => ?_, fun x hx => ?_⟩
  · rw [h1 14 (by omega) (by omega)]; exact hC.1
  · rw [h1 14 (by omega) (by omega)]; exact hC.2.1
  · rw [h1 21 (by omega) (by omega)]; exact hC.2.2.1 x hx
  · rw [h1 22 (by omega) (by omega)]; exact hC.2.2.2.1 x hx
  · rw [h2, h3]
    show ((if x = c then some (i, j) else σ.2.2.2.2 x) = none → _) ∧ ∀ i' j', (if x = c then some (i, j) else σ.2.2.2.2 x) = some (i', j') → _
    by_cases e : x = c
    · simp only [e, if_true, upd1]
      refine ⟨fun q => (by cases q), fun i' j' q => ?_⟩
      cases q
      exact ⟨rfl, rfl⟩
    · simp only [e, if_false, upd1]
      exact hC.2.2.2.2 x hx
theorem cc_free {c : Nat} {g : mm_H} (hC : CC h σ) (h1 : ∀ x, x ≠ 23 → g.1 x = h.1 x) (h2 : g.1 23 = upd (h.1 23) c (-100000001)) : CC g (sTie σ c none) := by
  refine ⟨?_, ?_, fun x hx => ?_, fun x hx => ?_, fun x hx => ?_⟩
  · rw [h1 14 (by omega)]; exact hC.1
  · rw [h1 14 (by omega)]; exact hC.2.1
  · rw [h1 21 (by omega)]; exact hC.2.2.1 x hx
  · rw [h1 22 (by omega)]; exact hC.2.2.2.1 x hx
  · rw [h2, h1 24 (by omega)]
    show ((if x = c then none else σ.2.2.2.2 x) = none → _) ∧ ∀ i' j', (if x = c then none else σ.2.2.2.2 x) = some (i', j') → _
    by_cases e : x = c
    · simp only [e, if_true, upd1]
      exact ⟨fun _ => (by first | trivial | rfl), fun i' j' q => (by cases q)⟩
    · simp only [e, if_false, upd1]
      exact hC.2.2.2.2 x hx
theorem tdI_at {c : Nat} (hn : σ.1 ≤ 12) (hc : c < σ.1 - 1) : tdI σ (nI c) = (σ.2.2.2.2 c).isSome := by
  unfold tdI
  rw [i_cl (by omega), inb_t hc (by omega)]
  rfl
theorem q_addTie (hC : CC h σ) (hW : WF σ) (c i j : Int32) : Oc h (oHolds σ c i j) (mm_cal sc i_Sc_addTie [.ref 14, .int c, .int i, .int j] h) := by
  have hn := hW.1
  have g := e_Sc_addTie sc c i j h
  rw [q_hasTone hC hW] at g
  simp only [bd_s] at g
  rw [q_hasNext hC hW] at g
  simp only [bd_s] at g
  rw [q_hasTone hC hW] at g
  simp only [bd_s] at g
  rw [q_isTied hC hW] at g
  simp only [bd_s, b2i_0] at g
  unfold oHolds
  cases hq : isTn σ c i with
  | false =>
    rw [hq] at g
    rw [if_neg (by simp)]
    exact g
  | true =>
    rw [hq] at g
    rw [if_pos rfl]
    cases hq2 : mm_inb c (σ.1 - 1) with
    | false =>
      rw [hq2] at g
      rw [if_neg (by simp)]
      exact g
    | true =>
      rw [hq2] at g
      rw [if_pos rfl]
      cases hq3 : isTn σ (c + 1) j with
      | false =>
        rw [hq3] at g
        rw [if_neg (by simp)]
        exact g
      | true =>
        rw [hq3] at g
        rw [if_pos rfl]
        obtain ⟨c, u, hc, hu, hc12, hu5, rfl, rfl⟩ := isTn_ex hW hq
        obtain ⟨c3, k1, k2, k3⟩ := inb_ex hq2
        have hc3 := (i_inj (by omega) k2).mp k3
        obtain ⟨c2, u2, b1, b2, b3, b4, b5, rfl⟩ := isTn_ex hW hq3
        rw [inb_t hc12 (by omega), i_cl (by omega), tdI_at hn (by omega)] at g
        simp only [Bool.not_true, cond_false, cond_true] at g
        rw [i_cl (show c < 2147483648 by omega), i_cl (show u < 2147483648 by omega), i_cl (show u2 < 2147483648 by omega)]
        refine ⟨mm_si (mm_si h 23 c (nI u)) 24 c (nI u2), ?_, cc_tie hC hn (fun x h1 h2 => by simp [si1, h1, h2]) (by simp [si1]) (by simp [si1]), fun y h1 h2 h3 h4 h5 => by simp [si1, h4, h5], rfl⟩
        rw [g]
        cases (σ.2.2.2.2 c).isSome <;> rfl
theorem q_removeTie (hC : CC h σ) (hW : WF σ) (c : Int32) : Oc h (oFrees σ c) (mm_cal sc i_Sc_removeTie [.ref 14, .int c] h) := by
  have hn := hW.1
  have g := e_Sc_removeTie sc c h
  rw [q_hasChord hC hW] at g
  simp only [bd_s] at g
  rw [q_hasNext hC hW] at g
  simp only [bd_s] at g
  rw [q_isTied hC hW] at g
  simp only [bd_s, b2i_0] at g
  unfold oFrees
  cases hq : mm_inb c σ.1 with
  | false =>
    rw [hq] at g
    rw [if_neg (by simp)]
    exact g
  | true =>
    rw [hq] at g
    rw [if_pos rfl]
    cases hq2 : mm_inb c (σ.1 - 1) with
    | false =>
      rw [hq2] at g
      rw [if_neg (by simp)]
      exact g
    | true =>
      rw [hq2] at g
      rw [if_pos rfl]
      obtain ⟨c, k1, k2, rfl⟩ := inb_ex hq2
      rw [inb_t (show c < 12 by omega) (by omega), i_cl (by omega), tdI_at hn k1] at g
      simp only [Bool.not_true, cond_false, cond_true] at g
      rw [i_cl (show c < 2147483648 by omega)]
      refine ⟨mm_si h 23 c (-100000001), ?_, cc_free hC (fun x h1 => by simp [si1, h1]) (by simp [si1]), fun y h1 h2 h3 h4 h5 => by simp [si1, h4], rfl⟩
      rw [g]
      cases (σ.2.2.2.2 c).isSome <;> rfl
theorem q_removeLast (hC : CC h σ) (hW : WF σ) : Oc h (oDrops σ) (mm_cal sc i_Sc_removeLastChord [.ref 14] h) := by
  have hn := hW.1
  have g := e_Sc_removeLastChord sc h
  simp only [si1, upd1, if_true] at g
  rw [hC.1, nI_ne_0 (by omega)] at g
  unfold oDrops
  by_cases q : σ.1 = 0
  · rw [if_pos q]
    simp only [q, decide_true, cond_true] at g
    exact g
  · rw [if_neg q]
    simp only [q, decide_false, cond_false] at g
    obtain ⟨m, hm⟩ : ∃ m, σ.1 = m + 1 := ⟨σ.1 - 1, by omega⟩
    rw [hm, nI_sub1, show (0 : Int32) = nI 0 from rfl, nI_le_d (by omega) (by omega)] at g
    rw [hm, show m + 1 - 1 = m by omega]
    by_cases q2 : m ≤ 0
    · simp only [q2, decide_true, cond_true] at g
      refine ⟨_, g, ⟨?_, ?_, fun x hx => ?_, fun x hx => ?_, fun x hx => ?_⟩, fun y h1 h2 h3 h4 h5 => by simp [si1, h1], rfl⟩
      · simp [si1, upd1, sDrop, hm]
      · simp [si1, upd1, sDrop, hC.2.1]
      · simp [si1, sDrop, hC.2.2.1 x hx]
      · simp [si1, sDrop, hC.2.2.2.1 x hx]
      · have : x < σ.1 - 1 := hx
        omega
    · obtain ⟨k, rfl⟩ : ∃ k, m = k + 1 := ⟨m - 1, by omega⟩
      rw [nI_sub1, inb_t (show k < 12 by omega) (by omega), i_cl (by omega)] at g
      simp only [q2, decide_false, cond_false, cond_true, show ¬ (14 : Nat) = 23 by omega, if_false, si1, if_true, upd1] at g
      refine ⟨_, g, ⟨?_, ?_, fun x hx => ?_, fun x hx => ?_, fun x hx => ?_⟩, fun y h1 h2 h3 h4 h5 => by simp [si1, h1, h4], rfl⟩
      · simp [si1, upd1, sDrop, hm]
      · simp [si1, upd1, sDrop, hC.2.1]
      · simp [si1, sDrop, hC.2.2.1 x hx]
      · simp [si1, sDrop, hC.2.2.2.1 x hx]
      · have hx : x < σ.1 - 1 := hx
        have := hC.2.2.2.2 x (by omega)
        show ((if x + 2 = σ.1 then none else σ.2.2.2.2 x) = none → _) ∧ ∀ i' j', (if x + 2 = σ.1 then none else σ.2.2.2.2 x) = some (i', j') → _
        by_cases e : x + 2 = σ.1
        · have ek : x = k := by omega
          subst ek
          rw [if_pos e]
          exact ⟨fun _ => (by simp [si1, upd1]), fun i' j' q => (by cases q)⟩
        · have ek : ¬ x = k := by omega
          rw [if_neg e]
          simp [si1, upd1, ek]
          exact this
theorem q_changeLimit (hC : CC h σ) (hW : WF σ) (v : Int32) : Oc h (oLimit σ v) (mm_cal sc i_Sc_changeLimit [.ref 14, .int v] h) := by
  have g := e_Sc_changeLimit sc v h
  rw [q_inL (K := 9999) (by decide +kernel)] at g
  simp only [bd_s, b2i_0] at g
  unfold oLimit
  cases hq : mm_inb v 10000 with
  | false =>
    rw [hq] at g
    rw [if_neg (by simp)]
    exact g
  | true =>
    rw [hq] at g
    rw [if_pos rfl]
    obtain ⟨c, k1, k2, rfl⟩ := inb_ex hq
    simp only [Bool.not_true, cond_false] at g
    rw [hC.2.1] at g
    refine ⟨_, g, ⟨?_, ?_, fun x hx => ?_, fun x hx => ?_, fun x hx => ?_⟩, fun y h1 h2 h3 h4 h5 => by simp [si1, h1], rfl⟩
    · simp [si1, upd1, sLim, hC.1]
    · simp [si1, upd1, sLim, i_cl k2]
    · simp [si1, sLim, hC.2.2.1 x hx]
    · simp [si1, sLim, hC.2.2.2.1 x hx]
    · have := hC.2.2.2.2 x hx
      simp [si1, sLim]
      exact this
end SCORE2
