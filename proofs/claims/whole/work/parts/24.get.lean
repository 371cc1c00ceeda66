/-! the class's answers -/
abbrev Ra : Type := Int32 ⊕ Int32
def Gt (h : mm_H) (s : Ra) : Option mm_R := match s with
  | .inl e => some ((e, 0, 0), rfH h e)
  | .inr v => some ((v, 0, 0), h)
def sOf (σ : Sg) (c t w : Int32) : Ra := if isTn σ c t = true ∧ mm_inb w 5 = true then .inr (if w.toNatClampNeg < 4 then σ.2.2.2.1 ((c.toNatClampNeg * 5 + t.toNatClampNeg) * 4 + w.toNatClampNeg) else szc σ c.toNatClampNeg t.toNatClampNeg) else .inl (-100000002)
def vRoot (σ : Sg) (c k : Nat) : Int32 := if k = 4 then szr σ c else if k = 5 then dr σ c else if k = 6 then nI (np σ (c + 1) - 1) else rt σ c k
def sRoot (σ : Sg) (c w : Int32) : Ra := if mm_inb c σ.1 = true ∧ mm_inb w 7 = true then .inr (vRoot σ c.toNatClampNeg w.toNatClampNeg) else .inl (-100000002)
def vSung (σ : Sg) (c t : Nat) : Int32 := szr σ c + szc σ c t + st σ c
def vPitch (σ : Sg) (c t k : Nat) : Int32 := if k = 4 then szr σ c + szc σ c t else if k = 5 then vSung σ c t else rt σ c k + σ.2.2.2.1 ((c * 5 + t) * 4 + k)
def sPitch (σ : Sg) (c t w : Int32) : Ra := if isTn σ c t = true ∧ mm_inb w 6 = true then .inr (vPitch σ c.toNatClampNeg t.toNatClampNeg w.toNatClampNeg) else .inl (-100000002)
def vTie (σ : Sg) (c k : Nat) : Int32 := match σ.2.2.2.2 c with
  | none => -100000001
  | some (i, j) => if k = 0 then nI i else nI j
def sTieq (σ : Sg) (c w : Int32) : Ra := if mm_inb c σ.1 = true ∧ mm_inb w 2 = true then (if mm_inb c (σ.1 - 1) = true then .inr (vTie σ c.toNatClampNeg w.toNatClampNeg) else .inl (-100000003)) else .inl (-100000002)
def vLoop (σ : Sg) (a b k : Nat) : Int32 := if k < 4 then rt σ b k - rt σ a k else offI (szr σ b - szr σ a) 120000
def sLoop (σ : Sg) (a b w : Int32) : Ra := if mm_inb a σ.1 = true ∧ mm_inb b σ.1 = true ∧ mm_inb w 5 = true then (if np σ (a.toNatClampNeg + 1) = np σ (b.toNatClampNeg + 1) then .inr (vLoop σ a.toNatClampNeg b.toNatClampNeg w.toNatClampNeg) else .inl (-100000003)) else .inl (-100000002)
def vPart (σ : Sg) (p k : Nat) : Int32 := if k = 0 then nI (pF σ p) else if k = 1 then nI (pL σ p - pF σ p + 1) else if k = 2 then dr σ (pL σ p) else dr σ (pL σ p) + st σ (pL σ p)
def sPart (σ : Sg) (p w : Int32) : Ra := if mm_inb p (np σ σ.1) = true ∧ mm_inb w 4 = true then .inr (vPart σ p.toNatClampNeg w.toNatClampNeg) else .inl (-100000002)
def sShare (σ : Sg) (c : Int32) : Ra := if mm_inb c σ.1 = true then (if tdI σ c = true then .inr (sh σ c.toNatClampNeg) else .inl (-100000003)) else .inl (-100000002)
def sSet (σ : Sg) (c : Int32) : Ra := if mm_inb c σ.1 = true then .inr (st σ c.toNatClampNeg) else .inl (-100000002)
def vCount (σ : Sg) (k : Nat) : Int32 := if k = 0 then nI σ.1 else if k = 1 then nI (np σ σ.1) else if k = 2 then nI (σ.1 - np σ σ.1) else if k = 3 then nI (smn σ.2.2.1 σ.1) else if k = 4 then nI σ.2.1 else nI (gsm σ σ.1)
def sCount (σ : Sg) (w : Int32) : Ra := if mm_inb w 6 = true then .inr (vCount σ w.toNatClampNeg) else .inl (-100000002)
def vIval (σ : Sg) (c i j k : Nat) : Int32 := if k = 0 then itm σ.2.2.2.1 ((c * 5 + i) * 4) ((c * 5 + j) * 4) 4 else if k = 1 then itm σ.2.2.2.1 ((c * 5 + j) * 4) ((c * 5 + i) * 4) 4 else if k = 2 then szc σ c j - szc σ c i else if k = 3 then offI (szc σ c j - szc σ c i) 10000 else if itm σ.2.2.2.1 ((c * 5 + i) * 4) ((c * 5 + j) * 4) 4 ≤ 16 ∧ itm σ.2.2.2.1 ((c * 5 + j) * 4) ((c * 5 + i) * 4) 4 ≤ 16 then itm σ.2.2.2.1 ((c * 5 + i) * 4) ((c * 5 + j) * 4) 4 * itm σ.2.2.2.1 ((c * 5 + j) * 4) ((c * 5 + i) * 4) 4 else -100000001
def sIval (σ : Sg) (c i j w : Int32) : Ra := if isTn σ c i = true ∧ isTn σ c j = true ∧ i ≠ j ∧ mm_inb w 5 = true then .inr (vIval σ c.toNatClampNeg i.toNatClampNeg j.toNatClampNeg w.toNatClampNeg) else .inl (-100000002)
def vOrder (σ : Sg) (c : Nat) (k : Int32) : Int32 := tbr (szc σ c) (σ.2.2.1 c) k (σ.2.2.1 c) 0
def sOrder (σ : Sg) (c k : Int32) : Ra := if isTn σ c k = true then .inr (vOrder σ c.toNatClampNeg k) else .inl (-100000002)
def sVoice (σ : Sg) (v c : Int32) : Ra := if mm_inb v 5 = true ∧ mm_inb c σ.1 = true then .inr (voi σ v.toNatClampNeg c.toNatClampNeg) else .inl (-100000002)
def vLeap (σ : Sg) (v c : Nat) : Int32 := if td σ (c - 1) = true ∧ voi σ v (c - 1) ≠ -100000001 ∧ voi σ v c ≠ -100000001 then vSung σ c (voi σ v c).toNatClampNeg - vSung σ (c - 1) (voi σ v (c - 1)).toNatClampNeg else -100000001
def sLeap (σ : Sg) (v c : Int32) : Ra := if mm_inb v 5 = true ∧ mm_inb c σ.1 = true ∧ c ≠ 0 then .inr (vLeap σ v.toNatClampNeg c.toNatClampNeg) else .inl (-100000002)
def vTold (γ : Gs) (k : Nat) : Int32 := if k = 0 then γ.2.2.2.1 else if k = 1 then γ.2.2.2.2.1 else if k = 2 then γ.2.2.2.2.2.1 else if k = 3 then nI γ.2.2.2.2.2.2.1 else nI γ.2.1
def sTold (γ : Gs) (w : Int32) : Ra := if mm_inb w 5 = true then .inr (vTold γ w.toNatClampNeg) else .inl (-100000002)
/-- a tone found is a tone of the chord -/
theorem tbr_in {sz : Nat → Int32} {m : Nat} {rank : Int32} : ∀ d t, tbr sz m rank d t = -100000001 ∨ ∃ u, t ≤ u ∧ u < t + d ∧ tbr sz m rank d t = nI u := by
  intro d
  induction d with
  | zero => intro t; exact Or.inl rfl
  | succ d ih =>
    intro t
    unfold tbr
    split
    · exact Or.inr ⟨t, Nat.le_refl _, by omega, rfl⟩
    · rcases ih (t + 1) with h | ⟨u, h1, h2, h3⟩
      · exact Or.inl h
      · exact Or.inr ⟨u, by omega, by omega, h3⟩
theorem voi_in {σ : Sg} (hW : WF σ) {v c : Nat} (hc : c < 12) : voi σ v c = -100000001 ∨ ∃ u, u < 5 ∧ voi σ v c = nI u := by
  have h5 := hW.2.2.1 c hc
  unfold voi
  rcases tbr_in (sz := szc σ c) (m := σ.2.2.1 c) (rank := nI (min v (σ.2.2.1 c - 1))) (σ.2.2.1 c) 0 with h | ⟨u, h1, h2, h3⟩
  · exact Or.inl h
  · exact Or.inr ⟨u, by omega, h3⟩
section GET
variable {sc : Nat × (Nat → Int32)} {h : mm_H} {σ : Sg}
theorem q_partAt {c : Nat} (hT : TU h σ) (hW : WF σ) (hc : c < σ.1) : mm_cal sc i_Tu_partAt [.ref 3, .int (nI c)] h = some ((nI (np σ (c + 1) - 1), 0, 0), h) := by
  have hn := hW.1
  rw [e_Tu_partAt, inb_t (show c < 12 by omega) (by omega), i_cl (by omega), hT.1.2.2.1 c hc]
  rfl
theorem q_setAt {c : Nat} (hT : TU h σ) (hW : WF σ) (hc : c < σ.1) : mm_cal sc i_Tu_setAt [.ref 3, .int (nI c)] h = some ((st σ c, 0, 0), h) := by
  have hn := hW.1
  rw [e_Tu_setAt, inb_t (show c < 12 by omega) (by omega), i_cl (by omega), hT.2.2.1 c hc]
  rfl
theorem q_rootPower2 {c k : Nat} (hT : TU h σ) (hW : WF σ) (hc : c < σ.1) (hk : k < 4) : mm_cal sc i_Tu_rootPower [.ref 3, .int (nI c), .int (nI k)] h = some ((rt σ c k, 0, 0), h) := by
  have hn := hW.1
  rw [q_rootPower h (by omega) hk, hT.1.2.1 c k hc hk]
theorem q_rootSize2 {c : Nat} (hT : TU h σ) (hW : WF σ) (hc : c < σ.1) : mm_cal sc i_Tu_rootSize [.ref 3, .int (nI c)] h = some ((szr σ c, 0, 0), h) := q_rootSize (fun k hk => hT.1.2.1 c k hc hk) (by have := hW.1; omega)
theorem q_driftAt2 {c : Nat} (hT : TU h σ) (hW : WF σ) (hc : c < σ.1) : mm_cal sc i_Tu_driftAt [.ref 3, .int (nI c)] h = some ((dr σ c, 0, 0), h) := q_driftAt hW (fun k hk => hT.1.2.1 c k hc hk) (by have := hW.1; omega)
theorem q_sung {c t : Nat} (hC : CC h σ) (hT : TU h σ) (hW : WF σ) (hc : c < σ.1) (ht : t < 5) : mm_cal sc i_Co_sungSize [.ref 0, .int (nI c), .int (nI t)] h = some ((vSung σ c t, 0, 0), h) := by
  have hn := hW.1
  rw [e_Co_sungSize, q_rootSize2 hT hW hc]
  simp only [bd_s, e_Hi_current, k14, cond_true]
  rw [q_sizeAt hC (by omega) ht]
  simp only [bd_s]
  rw [q_setAt hT hW hc]
  rfl
theorem ltt4 : (4 : Int32) = nI 4 := rfl
theorem ltt5 : (5 : Int32) = nI 5 := rfl
theorem ltt6 : (6 : Int32) = nI 6 := rfl
theorem ltt3 : (3 : Int32) = nI 3 := rfl
theorem ltt2 : (2 : Int32) = nI 2 := rfl
theorem ltt1 : (1 : Int32) = nI 1 := rfl
theorem g_of (hC : CC h σ) (hW : WF σ) (c t w : Int32) : mm_cal sc i_Co_of [.ref 0, .int c, .int t, .int w] h = Gt h (sOf σ c t w) := by
  have hn := hW.1
  rw [e_Co_of]
  simp only [bd_s, e_Hi_current, k14, cond_true]
  rw [q_hasTone hC hW]
  simp only [bd_s, b2i_0]
  rw [q_inL (K := 4) (by decide +kernel)]
  simp only [bd_s, b2i_0]
  unfold sOf
  cases h1 : isTn σ c t with
  | false =>
    rw [if_neg (by simp)]
    simp only [Bool.not_false, cond_true]
    rw [q_refused]
    rfl
  | true =>
    cases h2 : mm_inb w 5 with
    | false =>
      rw [if_neg (by simp)]
      simp only [Bool.not_false, Bool.not_true, cond_true, cond_false]
      rw [q_refused]
      rfl
    | true =>
      rw [if_pos ⟨rfl, rfl⟩]
      obtain ⟨c, u, hc, hu, hc12, hu5, rfl, rfl⟩ := isTn_ex hW h1
      obtain ⟨k, hk, hk2, rfl⟩ := inb_ex h2
      rw [ltt4, nI_le_d (by omega) (by omega), q_sizeAt hC hc12 hu5, i_cl (show c < 2147483648 by omega), i_cl (show u < 2147483648 by omega), i_cl hk2]
      simp only [Bool.not_true, cond_false]
      by_cases q : k < 4
      · rw [if_pos q, q_powerAt hC hc12 hu5 q]
        simp only [show ¬ 4 ≤ k by omega, decide_false, cond_false]
        rfl
      · rw [if_neg q]
        simp only [show 4 ≤ k by omega, decide_true, cond_true]
        rfl
theorem g_root (hC : CC h σ) (hT : TU h σ) (hW : WF σ) (c w : Int32) : mm_cal sc i_Co_root [.ref 0, .int c, .int w] h = Gt h (sRoot σ c w) := by
  have hn := hW.1
  rw [e_Co_root]
  simp only [bd_s, e_Hi_current, k14, cond_true]
  rw [q_hasChord hC hW]
  simp only [bd_s, b2i_0]
  rw [q_inL (K := 6) (by decide +kernel)]
  simp only [bd_s, b2i_0]
  unfold sRoot
  cases h1 : mm_inb c σ.1 with
  | false =>
    rw [if_neg (by simp)]
    simp only [Bool.not_false, cond_true]
    rw [q_refused]
    rfl
  | true =>
    cases h2 : mm_inb w 7 with
    | false =>
      rw [if_neg (by simp)]
      simp only [Bool.not_false, Bool.not_true, cond_true, cond_false]
      rw [q_refused]
      rfl
    | true =>
      rw [if_pos ⟨rfl, rfl⟩]
      obtain ⟨c, hc, hc2, rfl⟩ := inb_ex h1
      obtain ⟨k, hk, hk2, rfl⟩ := inb_ex h2
      rw [ltt4, ltt5, ltt6, nI_eq_d (by omega) (by omega), nI_eq_d (by omega) (by omega), nI_eq_d (by omega) (by omega), q_rootSize2 hT hW hc, q_driftAt2 hT hW hc, q_partAt hT hW hc, i_cl hc2, i_cl hk2]
      simp only [Bool.not_true, cond_false, bd_s]
      unfold vRoot
      by_cases q4 : k = 4
      · simp only [q4, decide_true, cond_true, if_true]
        rfl
      · by_cases q5 : k = 5
        · rw [decide_eq_false q4, decide_eq_true q5, if_neg q4, if_pos q5]
          rfl
        · by_cases q6 : k = 6
          · rw [decide_eq_false q4, decide_eq_false q5, decide_eq_true q6, if_neg q4, if_neg q5, if_pos q6]
            rfl
          · rw [decide_eq_false q4, decide_eq_false q5, decide_eq_false q6, if_neg q4, if_neg q5, if_neg q6, q_rootPower2 hT hW hc (by omega)]
            rfl
theorem g_pitch (hC : CC h σ) (hT : TU h σ) (hW : WF σ) (c t w : Int32) : mm_cal sc i_Co_pitch [.ref 0, .int c, .int t, .int w] h = Gt h (sPitch σ c t w) := by
  have hn := hW.1
  rw [e_Co_pitch]
  simp only [bd_s, e_Hi_current, k14, cond_true]
  rw [q_hasTone hC hW]
  simp only [bd_s, b2i_0]
  rw [q_inL (K := 5) (by decide +kernel)]
  simp only [bd_s, b2i_0]
  unfold sPitch
  cases h1 : isTn σ c t with
  | false =>
    rw [if_neg (by simp)]
    simp only [Bool.not_false, cond_true]
    rw [q_refused]
    rfl
  | true =>
    cases h2 : mm_inb w 6 with
    | false =>
      rw [if_neg (by simp)]
      simp only [Bool.not_false, Bool.not_true, cond_true, cond_false]
      rw [q_refused]
      rfl
    | true =>
      rw [if_pos ⟨rfl, rfl⟩]
      obtain ⟨c, u, hc, hu, hc12, hu5, rfl, rfl⟩ := isTn_ex hW h1
      obtain ⟨k, hk, hk2, rfl⟩ := inb_ex h2
      rw [ltt4, ltt5, nI_eq_d (by omega) (by omega), nI_eq_d (by omega) (by omega), q_rootSize2 hT hW hc, q_sung hC hT hW hc hu5, i_cl (show c < 2147483648 by omega), i_cl (show u < 2147483648 by omega), i_cl hk2]
      simp only [Bool.not_true, cond_false, bd_s]
      rw [q_sizeAt hC hc12 hu5]
      simp only [bd_s]
      unfold vPitch
      by_cases q4 : k = 4
      · rw [decide_eq_true q4, if_pos q4]
        rfl
      · by_cases q5 : k = 5
        · rw [decide_eq_false q4, decide_eq_true q5, if_neg q4, if_pos q5]
          rfl
        · rw [decide_eq_false q4, decide_eq_false q5, if_neg q4, if_neg q5, q_rootPower2 hT hW hc (by omega)]
          simp only [cond_false, bd_s]
          rw [q_powerAt hC hc12 hu5 (by omega)]
          rfl
theorem g_tie (hC : CC h σ) (hW : WF σ) (c w : Int32) : mm_cal sc i_Co_tie [.ref 0, .int c, .int w] h = Gt h (sTieq σ c w) := by
  have hn := hW.1
  rw [e_Co_tie]
  simp only [bd_s, e_Hi_current, k14, cond_true]
  rw [q_hasChord hC hW]
  simp only [bd_s, b2i_0]
  rw [q_inL (K := 1) (by decide +kernel)]
  simp only [bd_s, b2i_0]
  rw [q_hasNext hC hW]
  simp only [bd_s, b2i_0]
  rw [q_isTied hC hW]
  simp only [bd_s, b2i_0]
  unfold sTieq
  cases h1 : mm_inb c σ.1 with
  | false =>
    rw [if_neg (by simp)]
    simp only [Bool.not_false, cond_true]
    rw [q_refused]
    rfl
  | true =>
    cases h2 : mm_inb w 2 with
    | false =>
      rw [if_neg (by simp)]
      simp only [Bool.not_false, Bool.not_true, cond_true, cond_false]
      rw [q_refused]
      rfl
    | true =>
      rw [if_pos ⟨rfl, rfl⟩]
      cases h3 : mm_inb c (σ.1 - 1) with
      | false =>
        rw [if_neg (by simp)]
        simp only [Bool.not_false, Bool.not_true, cond_true, cond_false]
        rw [q_refused]
        rfl
      | true =>
        rw [if_pos rfl]
        obtain ⟨c, hc, hc2, rfl⟩ := inb_ex h3
        obtain ⟨k, hk, hk2, rfl⟩ := inb_ex h2
        rw [tdI_at hn hc, nI_ne_0 (by omega), i_cl hc2, i_cl hk2]
        simp only [Bool.not_true, cond_false]
        unfold vTie
        cases ht : σ.2.2.2.2 c with
        | none => rfl
        | some q =>
          obtain ⟨i, j⟩ := q
          rw [q_heldTone hC hW ht, q_heldAs hC hW ht]
          simp only [Option.isSome_some, Bool.not_true, cond_false, bd_s]
          by_cases q : k = 0
          · rw [decide_eq_true q]
            simp only [cond_true, q, if_true]
            rfl
          · rw [decide_eq_false q]
            simp only [cond_false, q, if_false]
            rfl
theorem g_loop (hC : CC h σ) (hT : TU h σ) (hW : WF σ) (a b w : Int32) : mm_cal sc i_Co_loop [.ref 0, .int a, .int b, .int w] h = Gt h (sLoop σ a b w) := by
  have hn := hW.1
  rw [e_Co_loop]
  simp only [bd_s, e_Hi_current, k14, cond_true]
  rw [q_hasChord hC hW]
  simp only [bd_s, b2i_0]
  rw [q_hasChord hC hW]
  simp only [bd_s, b2i_0]
  rw [q_inL (K := 4) (by decide +kernel)]
  simp only [bd_s, b2i_0]
  unfold sLoop
  cases h1 : mm_inb a σ.1 with
  | false =>
    rw [if_neg (by simp)]
    simp only [Bool.not_false, cond_true]
    rw [q_refused]
    rfl
  | true =>
    cases h2 : mm_inb b σ.1 with
    | false =>
      rw [if_neg (by simp)]
      simp only [Bool.not_false, Bool.not_true, cond_true, cond_false]
      rw [q_refused]
      rfl
    | true =>
      cases h3 : mm_inb w 5 with
      | false =>
        rw [if_neg (by simp)]
        simp only [Bool.not_false, Bool.not_true, cond_true, cond_false]
        rw [q_refused]
        rfl
      | true =>
        rw [if_pos ⟨rfl, rfl, rfl⟩]
        obtain ⟨a, ha, ha2, rfl⟩ := inb_ex h1
        obtain ⟨b, hb, hb2, rfl⟩ := inb_ex h2
        obtain ⟨k, hk, hk2, rfl⟩ := inb_ex h3
        have hla := np_le σ (a + 1)
        have hlb := np_le σ (b + 1)
        have hpa := np_pos σ a
        have hpb := np_pos σ b
        have sa := szr_in hW (show a < 12 by omega)
        have sb := szr_in hW (show b < 12 by omega)
        rw [q_partAt hT hW ha]
        simp only [bd_s, Bool.not_true, cond_false]
        rw [q_partAt hT hW hb]
        simp only [bd_s]
        rw [nI_eq_d (by omega) (by omega), ltt4, nI_le_d (by omega) (by omega), i_cl ha2, i_cl hb2, i_cl hk2]
        by_cases q : np σ (a + 1) = np σ (b + 1)
        · rw [if_pos q, decide_eq_true (show np σ (a + 1) - 1 = np σ (b + 1) - 1 by omega)]
          simp only [cond_true]
          unfold vLoop
          by_cases q4 : k < 4
          · rw [if_pos q4, decide_eq_false (show ¬ 4 ≤ k by omega), q_rootPower2 hT hW hb q4]
            simp only [cond_false, bd_s]
            rw [q_rootPower2 hT hW ha q4]
            rfl
          · rw [if_neg q4, decide_eq_true (show 4 ≤ k by omega), q_rootSize2 hT hW hb]
            simp only [cond_true, bd_s]
            rw [q_rootSize2 hT hW ha]
            simp only [bd_s]
            have es : (szr σ b - szr σ a).toInt = (szr σ b).toInt - (szr σ a).toInt := i_sub (by omega) (by omega)
            rw [show (120000 : Int32) = nI (2 * 60000) from rfl, q_off (by omega) (by omega) sc _ (by rw [es]; omega) (by rw [es]; omega)]
            rfl
        · rw [if_neg q, decide_eq_false (show ¬ np σ (a + 1) - 1 = np σ (b + 1) - 1 by omega)]
          simp only [cond_false]
          rw [q_refused]
          rfl
theorem g_part (hT : TU h σ) (hW : WF σ) (p w : Int32) : mm_cal sc i_Co_part [.ref 0, .int p, .int w] h = Gt h (sPart σ p w) := by
  have hn := hW.1
  have hle := np_le σ σ.1
  rw [e_Co_part, e_Tu_partCount, hT.1.1]
  simp only [bd_s]
  rw [q_inN (by omega)]
  simp only [bd_s, b2i_0]
  rw [q_inL (K := 3) (by decide +kernel)]
  simp only [bd_s, b2i_0]
  unfold sPart
  cases h1 : mm_inb p (np σ σ.1) with
  | false =>
    rw [if_neg (by simp)]
    simp only [Bool.not_false, cond_true]
    rw [q_refused]
    rfl
  | true =>
    cases h2 : mm_inb w 4 with
    | false =>
      rw [if_neg (by simp)]
      simp only [Bool.not_false, Bool.not_true, cond_true, cond_false]
      rw [q_refused]
      rfl
    | true =>
      rw [if_pos ⟨rfl, rfl⟩]
      obtain ⟨p, hp, hp2, rfl⟩ := inb_ex h1
      obtain ⟨k, hk, hk2, rfl⟩ := inb_ex h2
      obtain ⟨f1, f2⟩ := pF_le hp
      obtain ⟨t1, t2⟩ := hT.1.2.2.2 p hp
      rw [e_Tu_firstOfPart, inb_t (show p < 12 by omega) (by omega), i_cl hp2, t1]
      simp only [Bool.not_true, cond_false, cond_true, bd_s]
      rw [e_Tu_lastOfPart, inb_t (show p < 12 by omega) (by omega), i_cl hp2, t2]
      simp only [cond_true, bd_s]
      have eF : fi σ σ.1 p = pF σ p := rfl
      have eL : la σ σ.1 p = pL σ p := rfl
      rw [eF, eL, nI_ne_0 (by omega), ltt1, ltt2, nI_eq_d (by omega) (by omega), nI_eq_d (by omega) (by omega), q_driftAt2 hT hW f2, pk_sub f1, nI_add, i_cl hk2]
      simp only [bd_s]
      rw [q_setAt hT hW f2]
      unfold vPart
      by_cases q0 : k = 0
      · rw [decide_eq_true q0, if_pos q0]
        rfl
      · by_cases q1 : k = 1
        · rw [decide_eq_false q0, decide_eq_true q1, if_neg q0, if_pos q1]
          rfl
        · by_cases q2 : k = 2
          · rw [decide_eq_false q0, decide_eq_false q1, decide_eq_true q2, if_neg q0, if_neg q1, if_pos q2]
            rfl
          · rw [decide_eq_false q0, decide_eq_false q1, decide_eq_false q2, if_neg q0, if_neg q1, if_neg q2]
            rfl
theorem g_share (hC : CC h σ) (hT : TU h σ) (hW : WF σ) (c : Int32) : mm_cal sc i_Co_share [.ref 0, .int c] h = Gt h (sShare σ c) := by
  have hn := hW.1
  rw [e_Co_share]
  simp only [bd_s, e_Hi_current, k14, cond_true]
  rw [q_hasChord hC hW]
  simp only [bd_s, b2i_0]
  rw [q_isTied hC hW]
  simp only [bd_s, b2i_0]
  unfold sShare
  cases h1 : mm_inb c σ.1 with
  | false =>
    rw [if_neg (by simp)]
    simp only [Bool.not_false, cond_true]
    rw [q_refused]
    rfl
  | true =>
    rw [if_pos rfl]
    cases h2 : tdI σ c with
    | false =>
      rw [if_neg (by simp)]
      simp only [Bool.not_false, Bool.not_true, cond_true, cond_false]
      rw [q_refused]
      rfl
    | true =>
      rw [if_pos rfl]
      obtain ⟨c, hc, hc2, rfl⟩ := inb_ex h1
      have htd : td σ c = true := by
        unfold tdI at h2
        rw [Bool.and_eq_true, i_cl hc2] at h2
        exact h2.2
      rw [e_Tu_shareAt, inb_t (show c < 12 by omega) (by omega), i_cl hc2, hT.2.2.2 c hc htd]
      rfl
theorem g_set (hC : CC h σ) (hT : TU h σ) (hW : WF σ) (c : Int32) : mm_cal sc i_Co_set [.ref 0, .int c] h = Gt h (sSet σ c) := by
  have hn := hW.1
  rw [e_Co_set]
  simp only [bd_s, e_Hi_current, k14, cond_true]
  rw [q_hasChord hC hW]
  simp only [bd_s, b2i_0]
  unfold sSet
  cases h1 : mm_inb c σ.1 with
  | false =>
    rw [if_neg (by simp)]
    simp only [Bool.not_false, cond_true]
    rw [q_refused]
    rfl
  | true =>
    rw [if_pos rfl]
    obtain ⟨c, hc, hc2, rfl⟩ := inb_ex h1
    rw [q_setAt hT hW hc, i_cl hc2]
    rfl
theorem inb_cases {w : Int32} {n : Nat} (hn : n ≤ 8) (h : mm_inb w n = false) : ∀ k, k < n → ¬ w = nI k := by
  intro k hk e
  rw [e, inb_t hk (by omega)] at h
  cases h
theorem g_count (hC : CC h σ) (hT : TU h σ) (hW : WF σ) (w : Int32) : mm_cal sc i_Co_count [.ref 0, .int w] h = Gt h (sCount σ w) := by
  have hn := hW.1
  have hle := np_le σ σ.1
  rw [e_Co_count]
  simp only [bd_s, e_Hi_current, k14, cond_true]
  rw [q_chordCount hC, e_Tu_partCount, hT.1.1, q_allTones hC hW, q_greatestAllowed hC, e_Tu_greatestShare, hT.2.1]
  simp only [bd_s]
  rw [e_Tu_partCount, hT.1.1]
  simp only [bd_s]
  rw [pk_sub hle]
  unfold sCount
  cases h1 : mm_inb w 6 with
  | false =>
    have ne := inb_cases (by omega) h1
    rw [if_neg (by simp)]
    have z : (0 : Int32) = nI 0 := rfl
    rw [show decide (w = 0) = false from decide_eq_false (ne 0 (by omega)), show decide (w = 1) = false from decide_eq_false (ne 1 (by omega)), show decide (w = 2) = false from decide_eq_false (ne 2 (by omega)), show decide (w = 3) = false from decide_eq_false (ne 3 (by omega)), show decide (w = 4) = false from decide_eq_false (ne 4 (by omega)), show decide (w = 5) = false from decide_eq_false (ne 5 (by omega))]
    simp only [cond_false]
    rw [q_refused]
    rfl
  | true =>
    rw [if_pos rfl]
    obtain ⟨k, hk, hk2, rfl⟩ := inb_ex h1
    rw [i_cl hk2]
    rcases (show k = 0 ∨ k = 1 ∨ k = 2 ∨ k = 3 ∨ k = 4 ∨ k = 5 by omega) with rfl | rfl | rfl | rfl | rfl | rfl <;> rfl
theorem q_meet (a b : Int32) : mm_cal sc i_Co_meeting [.int a, .int b] h = some ((if a ≤ 16 ∧ b ≤ 16 then a * b else -100000001, 0, 0), h) := by
  rw [e_Co_meeting]
  have key : ∀ z : Int32, decide (16 < z) = !decide (z ≤ 16) := fun z => by
    have h1 := i_lt (a := 16) (b := z)
    have h2 := i_le (a := z) (b := 16)
    by_cases q : z ≤ 16
    · have := h2.mp q
      rw [decide_eq_true q]
      simp only [Bool.not_true, decide_eq_false_iff_not]
      rw [h1]
      omega
    · have := mt h2.mpr q
      rw [decide_eq_false q]
      simp only [Bool.not_false, decide_eq_true_eq]
      rw [h1]
      omega
  rw [key a, key b]
  by_cases qa : a ≤ 16
  · by_cases qb : b ≤ 16
    · rw [decide_eq_true qa, decide_eq_true qb, if_pos ⟨qa, qb⟩]
      rfl
    · rw [decide_eq_true qa, decide_eq_false qb, if_neg (fun z => qb z.2)]
      rfl
  · rw [decide_eq_false qa, if_neg (fun z => qa z.1)]
    rfl
theorem g_interval (hC : CC h σ) (hW : WF σ) (c i j w : Int32) : mm_cal sc i_Co_interval [.ref 0, .int c, .int i, .int j, .int w] h = Gt h (sIval σ c i j w) := by
  have hn := hW.1
  rw [e_Co_interval]
  simp only [bd_s, e_Hi_current, k14, cond_true]
  rw [q_hasTone hC hW]
  simp only [bd_s, b2i_0]
  rw [q_hasTone hC hW]
  simp only [bd_s, b2i_0]
  rw [q_inL (K := 4) (by decide +kernel)]
  simp only [bd_s, b2i_0]
  unfold sIval
  cases h1 : isTn σ c i with
  | false =>
    rw [if_neg (by simp)]
    simp only [Bool.not_false, cond_true]
    rw [q_refused]
    rfl
  | true =>
    cases h2 : isTn σ c j with
    | false =>
      rw [if_neg (by simp)]
      simp only [Bool.not_false, Bool.not_true, cond_true, cond_false]
      rw [q_refused]
      rfl
    | true =>
      by_cases hij : i = j
      · rw [if_neg (fun q => q.2.2.1 hij), decide_eq_true hij]
        simp only [Bool.not_true, cond_true, cond_false]
        rw [q_refused]
        rfl
      · rw [decide_eq_false hij]
        cases h3 : mm_inb w 5 with
        | false =>
          rw [if_neg (by simp)]
          simp only [Bool.not_false, Bool.not_true, cond_true, cond_false]
          rw [q_refused]
          rfl
        | true =>
          rw [if_pos ⟨rfl, rfl, hij, rfl⟩]
          obtain ⟨c, u, hc, hu, hc12, hu5, rfl, rfl⟩ := isTn_ex hW h1
          obtain ⟨c2, v, hc', hv, hc12', hv5, e1, rfl⟩ := isTn_ex hW h2
          obtain ⟨k, hk, hk2, rfl⟩ := inb_ex h3
          have b1 := szf_in hW.2.2.2.1 (s := (c * 5 + u) * 4) (by omega)
          have b2 := szf_in hW.2.2.2.1 (s := (c * 5 + v) * 4) (by omega)
          rw [q_sizeAt hC hc12 hv5]
          simp only [Bool.not_true, cond_false, bd_s]
          rw [q_sizeAt hC hc12 hu5]
          simp only [bd_s]
          rw [q_intervalTerm hC hc12 hu5 hv5, q_intervalTerm hC hc12 hv5 hu5]
          simp only [bd_s]
          rw [q_intervalTerm hC hc12 hv5 hu5]
          simp only [bd_s]
          have es : (szf σ.2.2.2.1 ((c * 5 + v) * 4) - szf σ.2.2.2.1 ((c * 5 + u) * 4)).toInt = (szf σ.2.2.2.1 ((c * 5 + v) * 4)).toInt - (szf σ.2.2.2.1 ((c * 5 + u) * 4)).toInt := i_sub (by omega) (by omega)
          rw [q_meet, show (10000 : Int32) = nI (2 * 5000) from rfl, q_off (by omega) (by omega) sc _ (by rw [es]; omega) (by rw [es]; omega)]
          simp only [bd_s]
          rw [i_cl (show c < 2147483648 by omega), i_cl (show u < 2147483648 by omega), i_cl (show v < 2147483648 by omega), i_cl hk2]
          rcases (show k = 0 ∨ k = 1 ∨ k = 2 ∨ k = 3 ∨ k = 4 by omega) with rfl | rfl | rfl | rfl | rfl <;> rfl
theorem g_order (hC : CC h σ) (hW : WF σ) (c k : Int32) : mm_cal sc i_Co_order [.ref 0, .int c, .int k] h = Gt h (sOrder σ c k) := by
  have hn := hW.1
  rw [e_Co_order]
  simp only [bd_s, e_Hi_current, k14, cond_true]
  rw [q_hasTone hC hW]
  simp only [bd_s, b2i_0]
  unfold sOrder
  cases h1 : isTn σ c k with
  | false =>
    rw [if_neg (by simp)]
    simp only [Bool.not_false, cond_true]
    rw [q_refused]
    rfl
  | true =>
    rw [if_pos rfl]
    obtain ⟨c, u, hc, hu, hc12, hu5, rfl, rfl⟩ := isTn_ex hW h1
    rw [q_byRank hC hW hc12, i_cl (show c < 2147483648 by omega)]
    rfl
theorem q_isVoice (v : Int32) : mm_cal sc i_Co_isVoice [.int v] h = some ((b2i (mm_inb v 5), 0, 0), h) := by
  rw [e_Co_isVoice, q_inL (K := 4) (by decide +kernel)]
  simp only [bd_s, b2i_01, cond_true]
theorem g_voice (hC : CC h σ) (hW : WF σ) (v c : Int32) : mm_cal sc i_Co_voice [.ref 0, .int v, .int c] h = Gt h (sVoice σ v c) := by
  have hn := hW.1
  rw [e_Co_voice]
  simp only [bd_s, e_Hi_current, k14, cond_true]
  rw [q_isVoice]
  simp only [bd_s, b2i_0]
  rw [q_hasChord hC hW]
  simp only [bd_s, b2i_0]
  unfold sVoice
  cases h1 : mm_inb v 5 with
  | false =>
    rw [if_neg (by simp)]
    simp only [Bool.not_false, cond_true]
    rw [q_refused]
    rfl
  | true =>
    cases h2 : mm_inb c σ.1 with
    | false =>
      rw [if_neg (by simp)]
      simp only [Bool.not_false, Bool.not_true, cond_true, cond_false]
      rw [q_refused]
      rfl
    | true =>
      rw [if_pos ⟨rfl, rfl⟩]
      obtain ⟨v, hv, hv2, rfl⟩ := inb_ex h1
      obtain ⟨c, hc, hc2, rfl⟩ := inb_ex h2
      rw [q_voice hC hW (by omega) hv, i_cl hv2, i_cl hc2]
      rfl
theorem g_leap (hC : CC h σ) (hT : TU h σ) (hW : WF σ) (v c : Int32) : mm_cal sc i_Co_leap [.ref 0, .int v, .int c] h = Gt h (sLeap σ v c) := by
  have hn := hW.1
  rw [e_Co_leap]
  simp only [bd_s, e_Hi_current, k14, cond_true]
  rw [q_isVoice]
  simp only [bd_s, b2i_0]
  rw [q_hasChord hC hW]
  simp only [bd_s, b2i_0]
  unfold sLeap
  cases h1 : mm_inb v 5 with
  | false =>
    rw [if_neg (by simp)]
    simp only [Bool.not_false, cond_true]
    rw [q_refused]
    rfl
  | true =>
    by_cases hc0 : c = 0
    · rw [if_neg (fun q => q.2.2 hc0), decide_eq_true hc0]
      simp only [Bool.not_true, cond_true, cond_false]
      rw [q_refused]
      rfl
    · rw [decide_eq_false hc0]
      cases h2 : mm_inb c σ.1 with
      | false =>
        rw [if_neg (by simp)]
        simp only [Bool.not_false, Bool.not_true, cond_true, cond_false]
        rw [q_refused]
        rfl
      | true =>
        rw [if_pos ⟨rfl, rfl, hc0⟩]
        obtain ⟨v, hv, hv2, rfl⟩ := inb_ex h1
        obtain ⟨c, hc, hc2, rfl⟩ := inb_ex h2
        obtain ⟨c, rfl⟩ : ∃ d, c = d + 1 := ⟨c - 1, by
          have : c ≠ 0 := fun e => hc0 (by rw [e]; rfl)
          omega⟩
        rw [nI_sub1, q_voice hC hW (by omega) hv]
        simp only [Bool.not_true, cond_false, bd_s]
        rw [q_voice hC hW (by omega) hv]
        simp only [bd_s]
        rw [q_isTied hC hW, tdI_at hn (by omega)]
        simp only [bd_s, b2i_0]
        rw [i_cl hv2, i_cl hc2]
        unfold vLeap
        rw [show c + 1 - 1 = c by omega]
        have etd : (σ.2.2.2.2 c).isSome = td σ c := rfl
        rw [etd]
        cases htd : td σ c with
        | false =>
          rw [if_neg (by simp)]
          rfl
        | true =>
          by_cases n1 : voi σ v c = -100000001
          · rw [if_neg (fun q => q.2.1 n1), decide_eq_true n1]
            rfl
          · by_cases n2 : voi σ v (c + 1) = -100000001
            · rw [if_neg (fun q => q.2.2 n2), decide_eq_false n1, decide_eq_true n2]
              rfl
            · rw [if_pos ⟨rfl, n1, n2⟩, decide_eq_false n1, decide_eq_false n2]
              obtain ⟨u1, a1, a2⟩ := (voi_in hW (v := v) (c := c) (by omega)).resolve_left n1
              obtain ⟨u2, b1, b2⟩ := (voi_in hW (v := v) (c := c + 1) (by omega)).resolve_left n2
              rw [a2, b2, q_sung hC hT hW hc b1]
              simp only [Bool.not_true, cond_false, bd_s]
              rw [q_sung hC hT hW (by omega) a1, i_cl (by omega), i_cl (by omega)]
              rfl
theorem g_told {γ : Gs} (hI : IC h γ) (w : Int32) : mm_cal sc i_Co_told [.ref 0, .int w] h = Gt h (sTold γ w) := by
  obtain ⟨n1, n2, n3, n4, n5, n6, n7⟩ := hI.2.2.2.2
  rw [e_Co_told, e_Hi_stateCount, n1, n2, n3, n4, hI.2.2.2.1.1]
  simp only [bd_s]
  unfold sTold
  cases h1 : mm_inb w 5 with
  | false =>
    have ne := inb_cases (by omega) h1
    rw [if_neg (by simp)]
    rw [show decide (w = 0) = false from decide_eq_false (ne 0 (by omega)), show decide (w = 1) = false from decide_eq_false (ne 1 (by omega)), show decide (w = 2) = false from decide_eq_false (ne 2 (by omega)), show decide (w = 3) = false from decide_eq_false (ne 3 (by omega)), show decide (w = 4) = false from decide_eq_false (ne 4 (by omega))]
    simp only [cond_false]
    rw [q_refused]
    rfl
  | true =>
    rw [if_pos rfl]
    obtain ⟨k, hk, hk2, rfl⟩ := inb_ex h1
    rw [i_cl hk2]
    rcases (show k = 0 ∨ k = 1 ∨ k = 2 ∨ k = 3 ∨ k = 4 by omega) with rfl | rfl | rfl | rfl | rfl <;> rfl
end GET
/-- an answer, and what holds behind it -/
def aG (s : Ra) : Int32 := match s with
  | .inl e => e
  | .inr v => v
def nG (γ : Gs) (s : Ra) : Gs := match s with
  | .inl e => rfu γ e
  | .inr _ => γ
theorem c_get {h : mm_H} {γ : Gs} (hI : IC h γ) {s : Ra} {r : Option mm_R} (hr : r = Gt h s) : ∃ g, r = some ((aG s, 0, 0), g) ∧ IC g (nG γ s) ∧ frC h g := by
  subst hr
  cases s with
  | inl e => exact ⟨_, rfl, (IC_rf hI e).1, (IC_rf hI e).2⟩
  | inr v => exact ⟨_, rfl, hI, frC.rf⟩
