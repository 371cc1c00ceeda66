/-! terms: how often a prime is in a number; sizes; powers of primes -/
def pr (k : Nat) : Nat := ([2, 3, 5, 7] : List Nat).getD k 2
def wt (k : Nat) : Int32 := ([120000, 190196, 278631, 336883] : List Int32).getD k 0
theorem pr_in : ∀ k, k < 4 → 2 ≤ pr k ∧ pr k < 8 := by decide +kernel
theorem ro63 (sc : Nat × (Nat → Int32)) {k : Nat} (hk : k < 4) : mm_ro sc 63 k = nI (pr k) := by
  rcases (show k = 0 ∨ k = 1 ∨ k = 2 ∨ k = 3 by omega) with rfl | rfl | rfl | rfl <;> rfl
theorem ro64 (sc : Nat × (Nat → Int32)) {k : Nat} (hk : k < 4) : mm_ro sc 64 k = wt k := by
  rcases (show k = 0 ∨ k = 1 ∨ k = 2 ∨ k = 3 by omega) with rfl | rfl | rfl | rfl <;> rfl
def pcn (p : Nat) : Nat → Nat → Nat
  | 0, _ => 0
  | f + 1, m => if m % p = 0 then pcn p f (m / p) + 1 else 0
theorem pcn_s (p f m : Nat) : pcn p (f + 1) m = if m % p = 0 then pcn p f (m / p) + 1 else 0 := rfl
theorem pcn_le (p : Nat) : ∀ f m, pcn p f m ≤ f := by
  intro f
  induction f with
  | zero => intro m; exact Nat.le_refl _
  | succ f ih =>
    intro m
    unfold pcn
    split
    · have := ih (m / p)
      omega
    · omega
def dvn (p : Nat) : Nat → Nat → Nat
  | 0, m => m
  | c + 1, m => dvn p c (m / p)
theorem dvn_le (p : Nat) : ∀ c m, dvn p c m ≤ m := by
  intro c
  induction c with
  | zero => intro m; exact Nat.le_refl _
  | succ c ih => intro m; exact Nat.le_trans (ih _) (Nat.div_le_self _ _)
theorem nI_ne_0 {n : Nat} (h : n < 2147483648) : decide (nI n = 0) = decide (n = 0) := by
  have := i_inj (a := n) (b := 0) h (by omega)
  rw [show nI 0 = 0 from rfl] at this
  by_cases q : n = 0
  · simp [q, show nI 0 = 0 from rfl]
  · simp [q, this]
theorem nI_le_d {a b : Nat} (ha : a < 2147483648) (hb : b < 2147483648) : decide (nI a ≤ nI b) = decide (a ≤ b) := by
  have := nI_leI (a := a) (b := b) (by omega) (by omega)
  simp only [this]
theorem nI_lt_d {a b : Nat} (ha : a < 2147483648) (hb : b < 2147483648) : decide (nI a < nI b) = decide (a < b) := by
  have := nI_ltI (a := a) (b := b) (by omega) (by omega)
  simp only [this]
theorem nI_eq_d {a b : Nat} (ha : a < 2147483648) (hb : b < 2147483648) : decide (nI a = nI b) = decide (a = b) := by
  have := i_inj (a := a) (b := b) (by omega) (by omega)
  simp only [this]
theorem q_powerIn1 (sc : Nat × (Nat → Int32)) (x0 : Int32) {k : Nat} (hk : k < 4) (h : mm_H) : ∀ f c m, c + f = 6 → m < 2147483648 → mm_ev sc i_Ra_powerIn 4 [.int x0, .int (nI k), .int (nI m), .int (nI c)] [] h = some ((nI (c + pcn (pr k) f m), 0, 0), h) := by
  obtain ⟨hp1, hp2⟩ := pr_in k hk
  have h4 : mm_inb (nI k) 4 = true := inb_t hk (by omega)
  intro f
  induction f with
  | zero =>
    intro c m hc hm
    have : c = 6 := by omega
    subst this
    rw [l_Ra_powerIn_4, show (6 : Int32) = nI 6 from rfl, nI_le_d (by omega) (by omega)]
    rfl
  | succ f ih =>
    intro c m hc hm
    rw [l_Ra_powerIn_4, show (6 : Int32) = nI 6 from rfl, nI_le_d (by omega) (by omega), h4, i_cl (by omega), ro63 sc hk, nI_ne_0 (by omega), pk_rem (by omega) (by omega) (by omega), pk_div (by omega) (by omega) (by omega), nI_ne_0 (by have := Nat.mod_lt m (show 0 < pr k by omega); omega)]
    simp only [show ¬ 6 ≤ c by omega, show ¬ pr k = 0 by omega, decide_false, Bool.not_false, cond_true, cond_false]
    by_cases q : m % pr k = 0
    · have hd : m / pr k ≤ m := Nat.div_le_self _ _
      simp only [q, decide_true, cond_true]
      rw [nI_1, ih (c + 1) (m / pr k) (by omega) (by omega)]
      rw [pcn_s, if_pos q, show c + 1 + pcn (pr k) f (m / pr k) = c + (pcn (pr k) f (m / pr k) + 1) by omega]
    · simp only [q, decide_false, cond_false]
      rw [pcn_s, if_neg q]
      rfl
theorem q_powerIn (sc : Nat × (Nat → Int32)) {n k : Nat} (hk : k < 4) (hn : n < 2147483648) (h : mm_H) : mm_cal sc i_Ra_powerIn [.int (nI n), .int (nI k)] h = some ((nI (pcn (pr k) 6 n), 0, 0), h) := by
  rw [e_Ra_powerIn, show (0 : Int32) = nI 0 from rfl, q_powerIn1 sc _ hk h 6 0 n (by omega) hn, Nat.zero_add]
theorem m_often1 (sc : Nat × (Nat → Int32)) (x0 x1 : Int32) {p : Nat} (hp1 : 2 ≤ p) (hp2 : p < 8) (h : mm_H) : ∀ f c m, 1 ≤ m → m < 2 ^ f → m < 2147483648 → mm_ev sc i_Mo_often 14 [.int x0, .int x1, .int (nI p), .int (nI m), .int (nI c)] [] h = some ((nI (c + pcn p f m), 0, 0), h) := by
  intro f
  induction f with
  | zero => intro c m h1 h2 _; omega
  | succ f ih =>
    intro c m h1 h2 h3
    rw [l_Mo_often_14, nI_ne_0 (by omega), pk_rem (by omega) (by omega) (by omega), pk_div (by omega) (by omega) (by omega), nI_ne_0 (by have := Nat.mod_lt m (show 0 < p by omega); omega)]
    simp only [show ¬ p = 0 by omega, decide_false, Bool.not_false, cond_true]
    by_cases q : m % p = 0
    · have hd : m / p ≤ m := Nat.div_le_self _ _
      have hmul : p * (m / p) = m := by have := Nat.div_add_mod m p; omega
      have h5 : 1 ≤ m / p := by
        cases hz : m / p with
        | zero => rw [hz] at hmul; omega
        | succ z => omega
      have h6 : m / p < 2 ^ f := by
        have : m / p ≤ m / 2 := Nat.div_le_div_left hp1 (by omega)
        have e : 2 ^ (f + 1) = 2 ^ f * 2 := Nat.pow_succ 2 f
        omega
      simp only [q, decide_true, cond_true]
      rw [nI_1, ih (c + 1) (m / p) h5 h6 (by omega)]
      rw [pcn_s, if_pos q, show c + 1 + pcn p f (m / p) = c + (pcn p f (m / p) + 1) by omega]
    · simp only [q, decide_false, cond_false]
      rw [pcn_s, if_neg q]
      rfl
theorem pcn_67 : ∀ n, n < 65 → 0 < n → ∀ k, k < 4 → pcn (pr k) 7 n = pcn (pr k) 6 n := by decide +kernel
theorem m_often (sc : Nat × (Nat → Int32)) {n k : Nat} (hk : k < 4) (hn : 1 ≤ n) (hn2 : n < 65) (h : mm_H) : mm_cal sc i_Mo_often [.int (nI n), .int (nI k)] h = some ((nI (pcn (pr k) 6 n), 0, 0), h) := by
  have key : ∀ x1 : Int32, mm_ev sc i_Mo_often 14 [.int (nI n), .int x1, .int (nI (pr k)), .int (nI n), .int (nI 0)] [] h = some ((nI (pcn (pr k) 6 n), 0, 0), h) := by
    intro x1
    obtain ⟨hp1, hp2⟩ := pr_in k hk
    rw [m_often1 sc _ x1 hp1 hp2 h 7 0 n hn (by omega) (by omega), pcn_67 n hn2 hn k hk, Nat.zero_add]
  rw [e_Mo_often, nI_ne_0 (by omega)]
  rcases (show k = 0 ∨ k = 1 ∨ k = 2 ∨ k = 3 by omega) with rfl | rfl | rfl | rfl
  · exact key _
  · exact key _
  · exact key _
  · exact key _
/-- a number made of 2, 3, 5, 7 alone -/
def tmn (n : Nat) : Bool := decide (dvn 7 (pcn 7 6 n) (dvn 5 (pcn 5 6 n) (dvn 3 (pcn 3 6 n) (dvn 2 (pcn 2 6 n) n))) = 1)
def isT (a : Int32) : Bool := (decide (1 ≤ a.toInt) && decide (a.toInt ≤ 64)) && tmn a.toNatClampNeg
theorem q_term21 (sc : Nat × (Nat → Int32)) (x0 : Int32) {k cnt : Nat} (hk : k < 4) (hcnt : cnt < 100) (h : mm_H) : ∀ d i m, i + d = cnt → m < 2147483648 → mm_ev sc i_Ra_isTerm 21 [.int x0, .int (nI m), .int (nI k), .int (nI cnt), .int (nI i)] [] h = mm_ev sc i_Ra_isTerm 12 [.int x0, .int (nI (dvn (pr k) d m)), .int (nI (k + 1)), .int (nI cnt), .int (nI cnt)] [] h := by
  obtain ⟨hp1, hp2⟩ := pr_in k hk
  have h4 : mm_inb (nI k) 4 = true := inb_t hk (by omega)
  intro d
  induction d with
  | zero =>
    intro i m hi hm
    have : i = cnt := by omega
    subst this
    rw [l_Ra_isTerm_21, nI_le_d (by omega) (by omega), nI_1]
    simp only [Nat.le_refl, decide_true, cond_true]
    rfl
  | succ d ih =>
    intro i m hi hm
    rw [l_Ra_isTerm_21, nI_le_d (by omega) (by omega), h4, i_cl (by omega), ro63 sc hk, nI_ne_0 (by omega), pk_div (by omega) (by omega) (by omega)]
    simp only [show ¬ cnt ≤ i by omega, show ¬ pr k = 0 by omega, decide_false, Bool.not_false, cond_true, cond_false]
    have hd : m / pr k ≤ m := Nat.div_le_self _ _
    rw [nI_1, ih (i + 1) (m / pr k) (by omega) (by omega)]
    rfl
theorem q_term12 (sc : Nat × (Nat → Int32)) {n k m : Nat} (hk : k < 4) (hn : n < 100) (hm : m < 2147483648) (w3 w4 : Value) (h : mm_H) : ∃ w5 w6, mm_ev sc i_Ra_isTerm 12 [.int (nI n), .int (nI m), .int (nI k), w3, w4] [] h = mm_ev sc i_Ra_isTerm 12 [.int (nI n), .int (nI (dvn (pr k) (pcn (pr k) 6 n) m)), .int (nI (k + 1)), w5, w6] [] h := by
  have hc := pcn_le (pr k) 6 n
  refine ⟨.int (nI (pcn (pr k) 6 n)), .int (nI (pcn (pr k) 6 n)), ?_⟩
  rw [l_Ra_isTerm_12, show (4 : Int32) = nI 4 from rfl, nI_le_d (by omega) (by omega), q_powerIn sc hk (by omega), bd_s]
  simp only [show ¬ 4 ≤ k by omega, decide_false, cond_false]
  rw [show (0 : Int32) = nI 0 from rfl, q_term21 sc _ hk (by omega) h (pcn (pr k) 6 n) 0 m (by omega) hm]
theorem q_isTerm (sc : Nat × (Nat → Int32)) (a : Int32) (h : mm_H) : mm_cal sc i_Ra_isTerm [.int a] h = some ((b2i (isT a), 0, 0), h) := by
  rw [e_Ra_isTerm]
  have e1 : (1 : Int32).toInt = 1 := by decide +kernel
  have e64 : (64 : Int32).toInt = 64 := by decide +kernel
  by_cases h1 : a < 1
  · have h1' := i_lt.mp h1
    rw [e1] at h1'
    simp [h1, isT, show ¬ 1 ≤ a.toInt by omega, b2i]
  · have h1' := mt i_lt.mpr h1
    rw [e1] at h1'
    by_cases h2 : a ≤ 64
    · have h2' := i_le.mp h2
      rw [e64] at h2'
      obtain ⟨n, hn1, hn2, rfl⟩ := inb_ex (a := a) (n := 65) (inb_iff.mpr ⟨by omega, by omega⟩)
      rw [i_nI hn2] at h1' h2'
      have b2 := dvn_le 2 (pcn 2 6 n) n
      have b3 := dvn_le 3 (pcn 3 6 n) (dvn 2 (pcn 2 6 n) n)
      have b5 := dvn_le 5 (pcn 5 6 n) (dvn 3 (pcn 3 6 n) (dvn 2 (pcn 2 6 n) n))
      have b7 := dvn_le 7 (pcn 7 6 n) (dvn 5 (pcn 5 6 n) (dvn 3 (pcn 3 6 n) (dvn 2 (pcn 2 6 n) n)))
      obtain ⟨w5, w6, g0⟩ := q_term12 sc (n := n) (k := 0) (m := n) (by omega) (by omega) (by omega) .null .null h
      obtain ⟨w7, w8, g1⟩ := q_term12 sc (n := n) (k := 1) (m := dvn 2 (pcn 2 6 n) n) (by omega) (by omega) (by omega) w5 w6 h
      obtain ⟨w9, w10, g2⟩ := q_term12 sc (n := n) (k := 2) (m := dvn 3 (pcn 3 6 n) (dvn 2 (pcn 2 6 n) n)) (by omega) (by omega) (by omega) w7 w8 h
      obtain ⟨w11, w12, g3⟩ := q_term12 sc (n := n) (k := 3) (m := dvn 5 (pcn 5 6 n) (dvn 3 (pcn 3 6 n) (dvn 2 (pcn 2 6 n) n))) (by omega) (by omega) (by omega) w9 w10 h
      simp only [h1, h2, decide_false, decide_true, cond_true, cond_false]
      rw [show (0 : Int32) = nI 0 from rfl]
      refine (g0.trans (g1.trans (g2.trans g3))).trans ?_
      rw [l_Ra_isTerm_12, show (4 : Int32) = nI 4 from rfl, nI_le_d (by omega) (by omega), show (1 : Int32) = nI 1 from rfl, show pr 3 = 7 from rfl, nI_eq_d (show dvn 7 (pcn 7 6 n) (dvn 5 (pcn 5 6 n) (dvn 3 (pcn 3 6 n) (dvn 2 (pcn 2 6 n) n))) < 2147483648 by omega) (by omega)]
      have e : isT (nI n) = decide (dvn 7 (pcn 7 6 n) (dvn 5 (pcn 5 6 n) (dvn 3 (pcn 3 6 n) (dvn 2 (pcn 2 6 n) n))) = 1) := by
        unfold isT tmn
        rw [i_nI (by omega), i_cl (by omega), decide_eq_true (show (1 : Int) ≤ n by omega), decide_eq_true (show (n : Int) ≤ 64 by omega)]
        rfl
      rw [e]
      cases decide (dvn 7 (pcn 7 6 n) (dvn 5 (pcn 5 6 n) (dvn 3 (pcn 3 6 n) (dvn 2 (pcn 2 6 n) n))) = 1) <;> rfl
    · have h2' := mt i_le.mpr h2
      rw [e64] at h2'
      simp [h1, h2, isT, show ¬ a.toInt ≤ 64 by omega, b2i]
theorem m_made16 (sc : Nat × (Nat → Int32)) (x0 : Int32) {k : Nat} (hk : k < 4) (h : mm_H) : ∀ d m, d < 100 → m < 2147483648 → mm_ev sc i_Mo_isMade 16 [.int x0, .int (nI m), .int (nI k), .int (nI d)] [] h = mm_ev sc i_Mo_isMade 4 [.int x0, .int (nI (dvn (pr k) d m)), .int (nI (k + 1)), .int (nI 0)] [] h := by
  obtain ⟨hp1, hp2⟩ := pr_in k hk
  intro d
  induction d with
  | zero =>
    intro m _ hm
    rw [l_Mo_isMade_16, show (0 : Int32) = nI 0 from rfl, nI_le_d (by omega) (by omega), nI_1]
    rfl
  | succ d ih =>
    intro m hd hm
    have hdm : m / pr k ≤ m := Nat.div_le_self _ _
    rw [l_Mo_isMade_16, pk_m1]
    have hle : decide (nI (d + 1) ≤ 0) = false := by
      rw [show (0 : Int32) = nI 0 from rfl, nI_le_d (by omega) (by omega)]
      simp
    rw [hle, nI_ne_0 (by omega)]
    have step : mm_ev sc i_Mo_isMade 16 [.int x0, .int (nI m / nI (pr k)), .int (nI k), .int (nI d)] [] h = mm_ev sc i_Mo_isMade 4 [.int x0, .int (nI (dvn (pr k) (d + 1) m)), .int (nI (k + 1)), .int (nI 0)] [] h := by
      rw [pk_div (by omega) (by omega) (by omega), ih (m / pr k) (by omega) (by omega)]
      rfl
    rcases (show k = 0 ∨ k = 1 ∨ k = 2 ∨ k = 3 by omega) with rfl | rfl | rfl | rfl <;> exact step
theorem m_made4 (sc : Nat × (Nat → Int32)) {n k m : Nat} (hk : k < 4) (hn1 : 1 ≤ n) (hn : n < 65) (hm : m < 2147483648) (w3 : Value) (h : mm_H) : mm_ev sc i_Mo_isMade 4 [.int (nI n), .int (nI m), .int (nI k), w3] [] h = mm_ev sc i_Mo_isMade 4 [.int (nI n), .int (nI (dvn (pr k) (pcn (pr k) 6 n) m)), .int (nI (k + 1)), .int (nI 0)] [] h := by
  have hc := pcn_le (pr k) 6 n
  have hw : (decide ((1 : Int32).toInt ≤ (nI n).toInt) && decide ((nI n).toInt ≤ (64 : Int32).toInt)) = true := by
    rw [i_nI (by omega), show (1 : Int32).toInt = 1 by decide +kernel, show (64 : Int32).toInt = 64 by decide +kernel, decide_eq_true (show (1 : Int) ≤ n by omega), decide_eq_true (show (n : Int) ≤ 64 by omega)]
    rfl
  rw [l_Mo_isMade_4, show (4 : Int32) = nI 4 from rfl, nI_le_d (by omega) (by omega), m_within, hw]
  simp only [bd_s, show ¬ 4 ≤ k by omega, decide_false, cond_false, b2i_0, Bool.not_true]
  rw [m_often sc hk hn1 hn, bd_s, m_made16 sc _ hk h (pcn (pr k) 6 n) m (by omega) hm]
theorem m_isMade (sc : Nat × (Nat → Int32)) (a : Int32) (h : mm_H) : mm_cal sc i_Mo_isMade [.int a] h = some ((b2i (isT a), 0, 0), h) := by
  rw [e_Mo_isMade]
  have e1 : (1 : Int32).toInt = 1 := by decide +kernel
  have e64 : (64 : Int32).toInt = 64 := by decide +kernel
  by_cases hw : (decide ((1 : Int32).toInt ≤ a.toInt) && decide (a.toInt ≤ (64 : Int32).toInt)) = true
  · have hw0 := hw
    simp only [Bool.and_eq_true, decide_eq_true_eq, e1, e64] at hw
    obtain ⟨n, hn1, hn2, rfl⟩ := inb_ex (a := a) (n := 65) (inb_iff.mpr ⟨by omega, by omega⟩)
    rw [i_nI hn2] at hw
    have b2 := dvn_le 2 (pcn 2 6 n) n
    have b3 := dvn_le 3 (pcn 3 6 n) (dvn 2 (pcn 2 6 n) n)
    have b5 := dvn_le 5 (pcn 5 6 n) (dvn 3 (pcn 3 6 n) (dvn 2 (pcn 2 6 n) n))
    have b7 := dvn_le 7 (pcn 7 6 n) (dvn 5 (pcn 5 6 n) (dvn 3 (pcn 3 6 n) (dvn 2 (pcn 2 6 n) n)))
    have g0 := m_made4 sc (n := n) (k := 0) (m := n) (by omega) (by omega) (by omega) (by omega) .null h
    have g1 := m_made4 sc (n := n) (k := 1) (m := dvn 2 (pcn 2 6 n) n) (by omega) (by omega) (by omega) (by omega) (.int (nI 0)) h
    have g2 := m_made4 sc (n := n) (k := 2) (m := dvn 3 (pcn 3 6 n) (dvn 2 (pcn 2 6 n) n)) (by omega) (by omega) (by omega) (by omega) (.int (nI 0)) h
    have g3 := m_made4 sc (n := n) (k := 3) (m := dvn 5 (pcn 5 6 n) (dvn 3 (pcn 3 6 n) (dvn 2 (pcn 2 6 n) n))) (by omega) (by omega) (by omega) (by omega) (.int (nI 0)) h
    rw [show (0 : Int32) = nI 0 from rfl]
    refine (g0.trans (g1.trans (g2.trans g3))).trans ?_
    rw [l_Mo_isMade_4, show (4 : Int32) = nI 4 from rfl, nI_le_d (by omega) (by omega), m_within, hw0]
    simp only [bd_s, show 4 ≤ 3 + 1 by omega, decide_true, cond_true, b2i_0, Bool.not_true, cond_false]
    rw [show (1 : Int32) = nI 1 from rfl, show pr 3 = 7 from rfl, nI_eq_d (show dvn 7 (pcn 7 6 n) (dvn 5 (pcn 5 6 n) (dvn 3 (pcn 3 6 n) (dvn 2 (pcn 2 6 n) n))) < 2147483648 by omega) (by omega)]
    have e : isT (nI n) = decide (dvn 7 (pcn 7 6 n) (dvn 5 (pcn 5 6 n) (dvn 3 (pcn 3 6 n) (dvn 2 (pcn 2 6 n) n))) = 1) := by
      unfold isT tmn
      rw [i_nI (by omega), i_cl (by omega), decide_eq_true (show (1 : Int) ≤ n by omega), decide_eq_true (show (n : Int) ≤ 64 by omega)]
      rfl
    rw [e]
    cases decide (dvn 7 (pcn 7 6 n) (dvn 5 (pcn 5 6 n) (dvn 3 (pcn 3 6 n) (dvn 2 (pcn 2 6 n) n))) = 1) <;> rfl
  · have hw1 : (decide ((1 : Int32).toInt ≤ a.toInt) && decide (a.toInt ≤ (64 : Int32).toInt)) = false := by simpa using hw
    rw [l_Mo_isMade_4, m_within, hw1]
    have e : isT a = false := by
      unfold isT
      rw [e1, e64] at hw1
      rw [hw1]
      rfl
    rw [e]
    simp only [bd_s, show decide ((4 : Int32) ≤ 0) = false by decide +kernel, cond_false, b2i_0, Bool.not_false, cond_true]
    rw [m_within, hw1, bd_s]
    simp only [b2i_0, Bool.not_false, cond_true]
    rfl
/-! sizes -/
def szf (f : Nat → Int32) (s : Nat) : Int32 := 0 + wt 0 * f s + wt 1 * f (s + 1) + wt 2 * f (s + 2) + wt 3 * f (s + 3)
theorem q_sizeOf4 (sc : Nat × (Nat → Int32)) {x s k : Nat} {v : Int32} (h : mm_H) (hx : mm_kd x = 0) (h62 : x < 63) (hs : s + 4 ≤ mm_len sc x) (hl : mm_len sc x < 100000) (hk : k < 4) : mm_ev sc i_Ra_sizeOf 4 [.ref x, .int (nI s), .int v, .int (nI k)] [] h = mm_ev sc i_Ra_sizeOf 4 [.ref x, .int (nI s), .int (v + wt k * h.1 x (s + k)), .int (nI (k + 1))] [] h := by
  have hb : Nat.ble x 62 = true := Nat.ble_eq_true_of_le (by omega)
  rw [l_Ra_sizeOf_4, show (4 : Int32) = nI 4 from rfl, nI_le_d (by omega) (by omega), inb_t hk (by omega), i_cl (by omega), ro64 sc hk, nI_add, inb_t (by omega) (by omega), i_cl (by omega), hx, nI_1]
  unfold mm_arr
  rw [hb]
  simp only [show ¬ 4 ≤ k by omega, decide_false, cond_false, cond_true]
  rfl
theorem q_sizeOf (sc : Nat × (Nat → Int32)) {x s : Nat} (h : mm_H) (hx : mm_kd x = 0) (h62 : x < 63) (hs : s + 4 ≤ mm_len sc x) (hl : mm_len sc x < 100000) : mm_cal sc i_Ra_sizeOf [.ref x, .int (nI s)] h = some ((szf (h.1 x) s, 0, 0), h) := by
  rw [e_Ra_sizeOf]
  have z : (0 : Int32) = nI 0 := rfl
  rw [show ([.ref x, .int (nI s), .int 0, .int 0] : List Value) = [.ref x, .int (nI s), .int 0, .int (nI 0)] from rfl]
  rw [q_sizeOf4 sc h hx h62 hs hl (by omega), q_sizeOf4 sc h hx h62 hs hl (by omega), q_sizeOf4 sc h hx h62 hs hl (by omega), q_sizeOf4 sc h hx h62 hs hl (by omega)]
  rw [l_Ra_sizeOf_4, show (4 : Int32) = nI 4 from rfl, nI_le_d (by omega) (by omega)]
  rfl
theorem m_weight (sc : Nat × (Nat → Int32)) {k : Nat} (hk : k < 4) (h : mm_H) : mm_cal sc i_Mo_weight [.int (nI k)] h = some ((wt k, 0, 0), h) := by
  rw [e_Mo_weight]
  rcases (show k = 0 ∨ k = 1 ∨ k = 2 ∨ k = 3 by omega) with rfl | rfl | rfl | rfl <;> rfl
/-! powers of primes -/
def ipw (p : Int32) : Nat → Int32
  | 0 => 1
  | n + 1 => ipw p n * p
theorem q_ptp4 (sc : Nat × (Nat → Int32)) {k : Nat} (hk : k < 4) (x1 : Int32) (h : mm_H) : ∀ (d i : Nat), i < 2147483648 → (x1.toInt - i).toNat = d → ∀ v : Int32, v = ipw (nI (pr k)) i → (i : Int) ≤ x1.toInt ∨ i = 0 → mm_ev sc i_Ra_primeToPower 4 [.int (nI k), .int x1, .int v, .int (nI i)] [] h = some ((ipw (nI (pr k)) x1.toInt.toNat, 0, 0), h) := by
  have hx := i_hi x1
  intro d
  induction d with
  | zero =>
    intro i hi hd v hv hle
    rw [l_Ra_primeToPower_4]
    have : x1 ≤ nI i := by
      rw [i_le, i_nI hi]
      omega
    simp only [this, decide_true, cond_true]
    rw [hv, show x1.toInt.toNat = i by omega]
  | succ d ih =>
    intro i hi hd v hv hle
    rw [l_Ra_primeToPower_4]
    have : ¬ x1 ≤ nI i := by
      rw [i_le, i_nI hi]
      omega
    simp only [this, decide_false, cond_false, inb_t (show k < 4 from hk) (by omega), cond_true]
    rw [i_cl (by omega), ro63 sc hk, nI_1]
    exact ih (i + 1) (by omega) (by omega) _ (by rw [hv]; rfl) (by omega)
theorem q_ptp (sc : Nat × (Nat → Int32)) {k : Nat} (hk : k < 4) (x : Int32) (h : mm_H) : mm_cal sc i_Ra_primeToPower [.int (nI k), .int x] h = some ((ipw (nI (pr k)) x.toInt.toNat, 0, 0), h) := by
  rw [e_Ra_primeToPower]
  exact q_ptp4 sc hk x h _ 0 (by omega) rfl 1 rfl (Or.inr rfl)
theorem m_times4 (sc : Nat × (Nat → Int32)) (x0 p x2 : Int32) (h : mm_H) : ∀ (d : Nat) (v z : Int32), z.toInt.toNat = d → mm_ev sc i_Mo_times 4 [.int x0, .int p, .int x2, .int v, .int z] [] h = some ((v * ipw p d, 0, 0), h) := by
  intro d
  induction d with
  | zero =>
    intro v z hz
    rw [l_Mo_times_4]
    have : z ≤ 0 := by
      rw [i_le, Int32.toInt_zero]
      omega
    simp only [this, decide_true, cond_true, ipw, Int32.mul_one]
  | succ d ih =>
    intro v z hz
    rw [l_Mo_times_4]
    have : ¬ z ≤ 0 := by
      rw [i_le, Int32.toInt_zero]
      omega
    simp only [this, decide_false, cond_false]
    have hh := i_hi z
    have e : (z + -1).toInt = z.toInt - 1 := by
      rw [i_add] <;> rw [show (-1 : Int32).toInt = -1 by decide +kernel] <;> omega
    rw [ih (v * p) (z + -1) (by rw [e]; omega)]
    have : v * p * ipw p d = v * ipw p (d + 1) := by
      show v * p * ipw p d = v * (ipw p d * p)
      rw [Int32.mul_assoc, Int32.mul_comm p]
    rw [this]
theorem m_times (sc : Nat × (Nat → Int32)) (v p z : Int32) (h : mm_H) : mm_cal sc i_Mo_times [.int v, .int p, .int z] h = some ((v * ipw p z.toInt.toNat, 0, 0), h) := by
  rw [e_Mo_times, m_times4 sc v p z h _ v z rfl]
