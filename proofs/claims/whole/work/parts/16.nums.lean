/-! numbers, truth values, the leaves that both sides have -/
theorem bd_s {r : mm_R} {f : mm_R → Option mm_R} : mm_bd (some r) f = f r := rfl
def b2i (b : Bool) : Int32 := bif b then 1 else 0
theorem b2i_0 (b : Bool) : decide (b2i b = 0) = !b := by cases b <;> decide +kernel
theorem b2i_01 (b : Bool) : (decide (b2i b = 0) || decide (b2i b = 1)) = true := by cases b <;> decide +kernel
theorem b2i_t : b2i true = 1 := rfl
theorem b2i_f : b2i false = 0 := rfl
theorem ib_mod {z : Int} (h1 : -2147483648 ≤ z) (h2 : z < 2147483648) : z.bmod (2 ^ 32) = z := by
  apply Int.bmod_eq_of_le <;> omega
theorem i_add {a b : Int32} (h1 : -2147483648 ≤ a.toInt + b.toInt) (h2 : a.toInt + b.toInt < 2147483648) : (a + b).toInt = a.toInt + b.toInt := by
  rw [Int32.toInt_add, ib_mod h1 h2]
theorem i_sub {a b : Int32} (h1 : -2147483648 ≤ a.toInt - b.toInt) (h2 : a.toInt - b.toInt < 2147483648) : (a - b).toInt = a.toInt - b.toInt := by
  rw [Int32.toInt_sub, ib_mod h1 h2]
theorem i_mul {a b : Int32} (h1 : -2147483648 ≤ a.toInt * b.toInt) (h2 : a.toInt * b.toInt < 2147483648) : (a * b).toInt = a.toInt * b.toInt := by
  rw [Int32.toInt_mul, ib_mod h1 h2]
theorem i_neg {a : Int32} (h : -2147483648 < a.toInt) : (-a).toInt = -a.toInt := by
  have := a.toInt_lt
  rw [Int32.toInt_neg, ib_mod (by omega) (by omega)]
theorem i_lt {a b : Int32} : a < b ↔ a.toInt < b.toInt := Int32.lt_iff_toInt_lt
theorem i_le {a b : Int32} : a ≤ b ↔ a.toInt ≤ b.toInt := Int32.le_iff_toInt_le
theorem i_eq {a b : Int32} : a = b ↔ a.toInt = b.toInt := Int32.toInt_inj.symm
theorem i_lo (a : Int32) : -2147483648 ≤ a.toInt := a.le_toInt
theorem i_hi (a : Int32) : a.toInt < 2147483648 := a.toInt_lt
theorem i_ofInt {z : Int} (h1 : -2147483648 ≤ z) (h2 : z < 2147483648) : (Int32.ofInt z).toInt = z := Int32.toInt_ofInt_of_le (by omega) (by omega)
theorem i_nI {n : Nat} (h : n < 2147483648) : (nI n).toInt = n := nI_toInt (by omega)
theorem i_cl {n : Nat} (h : n < 2147483648) : (nI n).toNatClampNeg = n := nI_clamp (by omega)
theorem i_inj {a b : Nat} (ha : a < 2147483648) (hb : b < 2147483648) : nI a = nI b ↔ a = b := nI_eq (by omega) (by omega)
theorem inb_iff {a : Int32} {n : Nat} : mm_inb a n = true ↔ 0 ≤ a.toInt ∧ a.toInt < n := by
  unfold mm_inb
  simp
theorem inb_ex {a : Int32} {n : Nat} (h : mm_inb a n = true) : ∃ c, c < n ∧ c < 2147483648 ∧ a = nI c := by
  rw [inb_iff] at h
  have := i_hi a
  refine ⟨a.toInt.toNat, by omega, by omega, ?_⟩
  rw [i_eq, i_nI (by omega)]
  omega
theorem inb_nI {c n : Nat} (hc : c < 2147483648) : mm_inb (nI c) n = decide (c < n) := by
  unfold mm_inb
  rw [i_nI hc]
  by_cases h : c < n
  · simp [h]
  · simp [h]
theorem inb_t {c n : Nat} (h : c < n) (hn : n ≤ 2147483648) : mm_inb (nI c) n = true := by
  rw [inb_nI (by omega)]
  simp [h]
/-! within -/
theorem q_within (sc : Nat × (Nat → Int32)) (a b : Int32) (h : mm_H) : mm_cal sc i_Co_isWithin [.int a, .int b] h = some ((b2i (decide (0 ≤ a.toInt) && decide (a.toInt ≤ b.toInt)), 0, 0), h) := by
  rw [e_Co_isWithin]
  by_cases h1 : a < 0
  · have h1' := i_lt.mp h1
    rw [Int32.toInt_zero] at h1'
    simp [h1, show ¬ 0 ≤ a.toInt by omega, b2i]
  · have h1' : 0 ≤ a.toInt := by
      have := mt i_lt.mpr h1
      rw [Int32.toInt_zero] at this
      omega
    by_cases h2 : b < a
    · have h2' := i_lt.mp h2
      simp [h1, h2, show ¬ a.toInt ≤ b.toInt by omega, b2i]
    · have h2' : a.toInt ≤ b.toInt := by
        have := mt i_lt.mpr h2
        omega
      simp [h1, h2, h1', h2', b2i]
theorem q_inL {K : Nat} {b : Int32} (hb : b.toInt = K) (sc : Nat × (Nat → Int32)) (a : Int32) (h : mm_H) : mm_cal sc i_Co_isWithin [.int a, .int b] h = some ((b2i (mm_inb a (K + 1)), 0, 0), h) := by
  rw [q_within, hb]
  unfold mm_inb
  congr 5
  by_cases q : a.toInt ≤ K
  · simp [q, show a.toInt < (K : Int) + 1 by omega]
  · simp [q, show ¬ a.toInt < (K : Int) + 1 by omega]
theorem q_inN {n : Nat} (hn : n < 1000000) (sc : Nat × (Nat → Int32)) (a : Int32) (h : mm_H) : mm_cal sc i_Co_isWithin [.int a, .int (nI n - 1)] h = some ((b2i (mm_inb a n), 0, 0), h) := by
  have e : (nI n - 1).toInt = (n : Int) - 1 := by
    rw [i_sub] <;> rw [i_nI (by omega), show (1 : Int32).toInt = 1 by decide +kernel] <;> omega
  rw [q_within, e]
  unfold mm_inb
  congr 5
  by_cases q : a.toInt < n
  · simp [q, show a.toInt ≤ (n : Int) - 1 by omega]
  · simp [q, show ¬ a.toInt ≤ (n : Int) - 1 by omega]
theorem q_inN2 {n : Nat} (hn : n < 1000000) (sc : Nat × (Nat → Int32)) (a : Int32) (h : mm_H) : mm_cal sc i_Co_isWithin [.int a, .int (nI n - 2)] h = some ((b2i (mm_inb a (n - 1)), 0, 0), h) := by
  have e : (nI n - 2).toInt = (n : Int) - 2 := by
    rw [i_sub] <;> rw [i_nI (by omega), show (2 : Int32).toInt = 2 by decide +kernel] <;> omega
  have e3 : (decide (0 ≤ a.toInt) && decide (a.toInt ≤ (n : Int) - 2)) = mm_inb a (n - 1) := by
    unfold mm_inb
    by_cases q : 0 ≤ a.toInt
    · by_cases q2 : a.toInt ≤ (n : Int) - 2
      · simp [q, q2, show a.toInt < ((n - 1 : Nat) : Int) by omega]
      · simp [q, q2, show ¬ a.toInt < ((n - 1 : Nat) : Int) by omega]
    · simp [q]
  rw [q_within, e, e3]
theorem m_within (sc : Nat × (Nat → Int32)) (a b c : Int32) (h : mm_H) : mm_cal sc i_Mo_within [.int a, .int b, .int c] h = some ((b2i (decide (b.toInt ≤ a.toInt) && decide (a.toInt ≤ c.toInt)), 0, 0), h) := by
  rw [e_Mo_within]
  by_cases h1 : a < b
  · have h1' := i_lt.mp h1
    simp [h1, show ¬ b.toInt ≤ a.toInt by omega, b2i]
  · have h1' : b.toInt ≤ a.toInt := by
      have := mt i_lt.mpr h1
      omega
    by_cases h2 : c < a
    · have h2' := i_lt.mp h2
      simp [h1, h2, show ¬ a.toInt ≤ c.toInt by omega, b2i]
    · have h2' : a.toInt ≤ c.toInt := by
        have := mt i_lt.mpr h2
        omega
      simp [h1, h2, h1', h2', b2i]
theorem m_inL {K : Nat} {b : Int32} (hb : b.toInt = K) (sc : Nat × (Nat → Int32)) (a : Int32) (h : mm_H) : mm_cal sc i_Mo_within [.int a, .int 0, .int b] h = some ((b2i (mm_inb a (K + 1)), 0, 0), h) := by
  rw [m_within, hb, Int32.toInt_zero]
  unfold mm_inb
  congr 5
  by_cases q : a.toInt ≤ K
  · simp [q, show a.toInt < (K : Int) + 1 by omega]
  · simp [q, show ¬ a.toInt < (K : Int) + 1 by omega]
theorem m_inN {n : Nat} (hn : n < 1000000) (sc : Nat × (Nat → Int32)) (a : Int32) (h : mm_H) : mm_cal sc i_Mo_within [.int a, .int 0, .int (nI n - 1)] h = some ((b2i (mm_inb a n), 0, 0), h) := by
  have e : (nI n - 1).toInt = (n : Int) - 1 := by
    rw [i_sub] <;> rw [i_nI (by omega), show (1 : Int32).toInt = 1 by decide +kernel] <;> omega
  rw [m_within, e, Int32.toInt_zero]
  unfold mm_inb
  congr 5
  by_cases q : a.toInt < n
  · simp [q, show a.toInt ≤ (n : Int) - 1 by omega]
  · simp [q, show ¬ a.toInt ≤ (n : Int) - 1 by omega]
/-! off the nearest multiple -/
theorem i_rem {a b : Int32} (hb : b ≠ -1) (hb0 : 0 < b.toInt) : (a - a / b * b).toInt = a.toInt.tmod b.toInt := by
  have hd := Int32.toInt_div_of_ne_right a b hb
  have e := Int.tmod_def a.toInt b.toInt
  have l1 := i_lo a
  have l2 := i_hi a
  have l3 := i_hi b
  have t1 := tmod_bounds (a := a.toInt) hb0
  have hm : (a / b * b).toInt = a.toInt.tdiv b.toInt * b.toInt := by
    have c : b.toInt * a.toInt.tdiv b.toInt = a.toInt - a.toInt.tmod b.toInt := by omega
    have hs : -2147483648 ≤ a.toInt.tdiv b.toInt * b.toInt ∧ a.toInt.tdiv b.toInt * b.toInt < 2147483648 := by
      rw [Int.mul_comm, c]
      rcases Int.le_total 0 a.toInt with q | q
      · rw [Int.tmod_eq_emod_of_nonneg q]
        have := Int.emod_nonneg a.toInt (show b.toInt ≠ 0 by omega)
        have := Int.emod_lt_of_pos a.toInt hb0
        have h0 : 0 ≤ a.toInt - a.toInt % b.toInt := by
          have := Int.mul_ediv_add_emod a.toInt b.toInt
          have h3 : 0 ≤ b.toInt * (a.toInt / b.toInt) := Int.mul_nonneg (by omega) (Int.ediv_nonneg q (by omega))
          omega
        omega
      · have : a.toInt.tmod b.toInt ≤ 0 := by
          have := Int.neg_tmod (-a.toInt) b.toInt
          rw [Int.neg_neg] at this
          rw [this, Int.tmod_eq_emod_of_nonneg (by omega)]
          have := Int.emod_nonneg (-a.toInt) (show b.toInt ≠ 0 by omega)
          omega
        have h3 : a.toInt - a.toInt.tmod b.toInt ≤ 0 := by
          have := Int.neg_tmod (-a.toInt) b.toInt
          rw [Int.neg_neg] at this
          rw [this, Int.tmod_eq_emod_of_nonneg (by omega)]
          have := Int.mul_ediv_add_emod (-a.toInt) b.toInt
          have h3 : 0 ≤ b.toInt * (-a.toInt / b.toInt) := Int.mul_nonneg (by omega) (Int.ediv_nonneg (by omega) (by omega))
          omega
        omega
    rw [i_mul] <;> rw [hd]
    · exact hs.1
    · exact hs.2
  have c : b.toInt * a.toInt.tdiv b.toInt = a.toInt - a.toInt.tmod b.toInt := by omega
  rw [Int.mul_comm] at c
  rw [i_sub] <;> rw [hm] <;> omega
theorem i_tmod_pos {z w : Int} (hw : 0 < w) : z % w = (if z.tmod w < 0 then z.tmod w + w else z.tmod w) := by
  rcases Int.le_total 0 z with q | q
  · rw [Int.tmod_eq_emod_of_nonneg q]
    have := Int.emod_nonneg z (show w ≠ 0 by omega)
    rw [if_neg (by omega)]
  · have e := Int.neg_tmod (-z) w
    rw [Int.neg_neg] at e
    rw [e, Int.tmod_eq_emod_of_nonneg (by omega)]
    have h1 := Int.emod_nonneg (-z) (show w ≠ 0 by omega)
    have h2 := Int.emod_lt_of_pos (-z) hw
    by_cases h0 : (-z) % w = 0
    · rw [if_neg (by omega), h0]
      have : w ∣ -z := Int.dvd_of_emod_eq_zero h0
      have : w ∣ z := (Int.dvd_neg).mp this
      rw [Int.emod_eq_zero_of_dvd this]
      rfl
    · rw [if_pos (by omega)]
      have hz : z = (w - (-z) % w) + w * (-((-z) / w) - 1) := by
        have := Int.mul_ediv_add_emod (-z) w
        rw [Int.mul_sub, Int.mul_neg, Int.mul_one]
        omega
      have h3 : z % w = (w - (-z) % w) % w := by
        rw [show z % w = ((w - (-z) % w) + w * (-((-z) / w) - 1)) % w by rw [← hz], Int.add_mul_emod_self_left]
      rw [h3, Int.emod_eq_of_lt (by omega) (by omega)]
      omega
/-- what is left over by the nearest of so wide steps -/
def offN (z w : Int) : Int := if 2 * (z % w) > w then z % w - w else z % w
def offI (x : Int32) (w : Nat) : Int32 := Int32.ofInt (offN x.toInt w)
theorem offN_in {z w : Int} (hw : 0 < w) : -w < offN z w ∧ offN z w < w := by
  unfold offN
  have h1 := Int.emod_nonneg z (show w ≠ 0 by omega)
  have h2 := Int.emod_lt_of_pos z hw
  split <;> omega
theorem m_apart {w : Nat} (hw : 0 < w) (hw2 : w < 1000000) (sc : Nat × (Nat → Int32)) (x : Int32) (h : mm_H) : mm_cal sc i_Mo_apart [.int x, .int (nI w)] h = some ((offI x w, 0, 0), h) := by
  rw [e_Mo_apart]
  have ew := i_nI (n := w) (by omega)
  have hne : nI w ≠ -1 := by
    intro q
    rw [i_eq, ew, show (-1 : Int32).toInt = -1 by decide +kernel] at q
    omega
  have hn0 : ¬ nI w = 0 := by
    intro q
    rw [i_eq, ew, Int32.toInt_zero] at q
    omega
  have er := i_rem (a := x) hne (by rw [ew]; omega)
  have hb := tmod_bounds (a := x.toInt) (M := (nI w).toInt) (by rw [ew]; omega)
  have ep := i_tmod_pos (z := x.toInt) (w := (w : Int)) (by omega)
  rw [ew] at er hb
  generalize x - x / nI w * nI w = y at er ⊢
  have z0 : (0 : Int32).toInt = 0 := Int32.toInt_zero
  have h2m : ∀ u : Int32, -1000000 < u.toInt → u.toInt < 1000000 → ((2 : Int32) * u).toInt = 2 * u.toInt := by
    intro u u1 u2
    rw [i_mul] <;> rw [show (2 : Int32).toInt = 2 by decide +kernel] <;> omega
  have hin := offN_in (z := x.toInt) (w := (w : Int)) (by omega)
  have hoff : (offI x w).toInt = offN x.toInt w := i_ofInt (by omega) (by omega)
  simp only [hn0, decide_false, Bool.not_false, cond_true]
  by_cases h0 : 0 ≤ y
  · have h0' := i_le.mp h0
    rw [z0] at h0'
    have ea : (y + 0).toInt = y.toInt := by rw [i_add] <;> rw [z0] <;> omega
    rw [if_neg (by omega)] at ep
    simp only [h0, decide_true, cond_true]
    by_cases h1 : 2 * (y + 0) ≤ nI w
    · have h1' := i_le.mp h1
      rw [h2m _ (by omega) (by omega), ea, ew] at h1'
      simp only [h1, decide_true, cond_true]
      congr 3
      rw [i_eq, hoff, ea]
      unfold offN
      rw [if_neg (by omega)]
      omega
    · have h1' := mt i_le.mpr h1
      rw [h2m _ (by omega) (by omega), ea, ew] at h1'
      simp only [h1, decide_false, cond_false]
      congr 3
      rw [i_eq, hoff, i_sub (by omega) (by omega), ea, ew]
      unfold offN
      rw [if_pos (by omega)]
      omega
  · have h0' := mt i_le.mpr h0
    rw [z0] at h0'
    have ea : (y + nI w).toInt = y.toInt + w := by rw [i_add] <;> rw [ew] <;> omega
    rw [if_pos (by omega)] at ep
    simp only [h0, decide_false, cond_false]
    by_cases h1 : 2 * (y + nI w) ≤ nI w
    · have h1' := i_le.mp h1
      rw [h2m _ (by omega) (by omega), ea, ew] at h1'
      simp only [h1, decide_true, cond_true]
      congr 3
      rw [i_eq, hoff, ea]
      unfold offN
      rw [if_neg (by omega)]
      omega
    · have h1' := mt i_le.mpr h1
      rw [h2m _ (by omega) (by omega), ea, ew] at h1'
      simp only [h1, decide_false, cond_false]
      congr 3
      rw [i_eq, hoff, i_sub (by omega) (by omega), ea, ew]
      unfold offN
      rw [if_pos (by omega)]
      omega
theorem i_xor {a b : Int32} (hb : 0 ≤ b.toInt) : (0 ≤ a ^^^ b) ↔ 0 ≤ a.toInt := by
  have h1 : (a ^^^ b).toBitVec.msb = (a.toBitVec.msb ^^ b.toBitVec.msb) := by
    show (a.toBitVec ^^^ b.toBitVec).msb = _
    exact BitVec.msb_xor
  have m : ∀ z : Int32, z.toBitVec.msb = decide (z.toInt < 0) := fun z => BitVec.msb_eq_toInt
  rw [m, m, m, decide_eq_false (show ¬ b.toInt < 0 by omega), Bool.xor_false] at h1
  rw [i_le, Int32.toInt_zero]
  have : (a ^^^ b).toInt < 0 ↔ a.toInt < 0 := by
    constructor
    · intro q
      simpa [q] using h1.symm
    · intro q
      simpa [q] using h1
  omega
theorem q_floorMod {w : Nat} (hw : 0 < w) (hw2 : w < 1000000) (sc : Nat × (Nat → Int32)) (x : Int32) (h : mm_H) : mm_cal sc i_Ma_floorMod [.int x, .int (nI w)] h = some ((Int32.ofInt (x.toInt % w), 0, 0), h) := by
  rw [e_Ma_floorMod]
  have ew := i_nI (n := w) (by omega)
  have hne : nI w ≠ -1 := by
    intro q
    rw [i_eq, ew, show (-1 : Int32).toInt = -1 by decide +kernel] at q
    omega
  have hn0 : ¬ nI w = 0 := by
    intro q
    rw [i_eq, ew, Int32.toInt_zero] at q
    omega
  have er := i_rem (a := x) hne (by rw [ew]; omega)
  have hb := tmod_bounds (a := x.toInt) (M := (nI w).toInt) (by rw [ew]; omega)
  have ep := i_tmod_pos (z := x.toInt) (w := (w : Int)) (by omega)
  have hx := i_xor (a := x) (b := nI w) (by rw [ew]; omega)
  rw [ew] at er hb
  have hp0 : 0 ≤ x.toInt → 0 ≤ x.toInt.tmod w := fun q => by
    rw [Int.tmod_eq_emod_of_nonneg q]
    exact Int.emod_nonneg _ (by omega)
  have hm0 : x.toInt < 0 → x.toInt.tmod w ≤ 0 := fun q => by
    have e := Int.neg_tmod (-x.toInt) w
    rw [Int.neg_neg] at e
    rw [e, Int.tmod_eq_emod_of_nonneg (by omega)]
    have := Int.emod_nonneg (-x.toInt) (show (w : Int) ≠ 0 by omega)
    omega
  generalize x - x / nI w * nI w = y at er ⊢
  have z0 : (0 : Int32).toInt = 0 := Int32.toInt_zero
  have hE : ∀ u : Int32, u.toInt = x.toInt % w → u = Int32.ofInt (x.toInt % w) := by
    intro u hu
    have h1 := Int.emod_nonneg x.toInt (show (w : Int) ≠ 0 by omega)
    have h2 := Int.emod_lt_of_pos x.toInt (show (0 : Int) < w by omega)
    rw [i_eq, i_ofInt (by omega) (by omega)]
    exact hu
  simp only [hn0, decide_false, Bool.not_false, cond_true]
  by_cases h0 : 0 ≤ x ^^^ nI w
  · have h0' := hx.mp h0
    have := hp0 h0'
    simp only [h0, decide_true, cond_true]
    rw [hE y (by rw [ep, if_neg (by omega), er])]
  · have h0' := mt hx.mpr h0
    have := hm0 (by omega)
    simp only [h0, decide_false, cond_false]
    by_cases h1 : y = 0
    · have h1' := i_eq.mp h1
      rw [z0] at h1'
      simp only [h1, decide_true, cond_true]
      rw [← h1, hE y (by rw [ep, if_neg (by omega), er])]
    · have h1' := mt i_eq.mpr h1
      rw [z0] at h1'
      simp only [h1, decide_false, cond_false]
      rw [hE (y + nI w) (by rw [ep, if_pos (by omega), i_add] <;> rw [ew] <;> omega)]
theorem q_off {w : Nat} (hw : 0 < w) (hw2 : w < 500000) (sc : Nat × (Nat → Int32)) (x : Int32) (hx1 : -1000000000 < x.toInt) (hx2 : x.toInt < 1000000000) (h : mm_H) : mm_cal sc i_Ra_offNearest [.int x, .int (nI (2 * w))] h = some ((offI x (2 * w), 0, 0), h) := by
  rw [e_Ra_offNearest]
  have e2 : nI (2 * w) / 2 = nI w := by
    rw [show (2 : Int32) = nI 2 from rfl, pk_div (by omega) (by omega) (by omega)]
    congr 1
    omega
  have ew := i_nI (n := w) (by omega)
  rw [e2, q_floorMod (by omega) (by omega), bd_s]
  have es : (nI w - x).toInt = w - x.toInt := by rw [i_sub] <;> rw [ew] <;> omega
  rw [es]
  have h1 := Int.emod_nonneg ((w : Int) - x.toInt) (show ((2 * w : Nat) : Int) ≠ 0 by omega)
  have h2 := Int.emod_lt_of_pos ((w : Int) - x.toInt) (show (0 : Int) < ((2 * w : Nat) : Int) by omega)
  have hin := offN_in (z := x.toInt) (w := ((2 * w : Nat) : Int)) (by omega)
  have hoff : (offI x (2 * w)).toInt = offN x.toInt ((2 * w : Nat) : Int) := i_ofInt (by omega) (by omega)
  dsimp only
  congr 3
  rw [i_eq, hoff, i_sub] <;> rw [i_ofInt (by omega) (by omega), ew]
  · unfold offN
    have h3 := Int.emod_nonneg x.toInt (show ((2 * w : Nat) : Int) ≠ 0 by omega)
    have h4 := Int.emod_lt_of_pos x.toInt (show (0 : Int) < ((2 * w : Nat) : Int) by omega)
    have e3 : ((w : Int) - x.toInt) % ((2 * w : Nat) : Int) = ((w : Int) - x.toInt % ((2 * w : Nat) : Int)) % ((2 * w : Nat) : Int) := by
      rw [Int.sub_emod, Int.sub_emod (w : Int) (x.toInt % _), Int.emod_emod]
    rw [e3]
    by_cases q : 2 * (x.toInt % ((2 * w : Nat) : Int)) > ((2 * w : Nat) : Int)
    · rw [if_pos q]
      have : ((w : Int) - x.toInt % ((2 * w : Nat) : Int)) % ((2 * w : Nat) : Int) = ((w : Int) - x.toInt % ((2 * w : Nat) : Int) + ((2 * w : Nat) : Int)) % ((2 * w : Nat) : Int) := by simp
      rw [this, Int.emod_eq_of_lt (by omega) (by omega)]
      omega
    · rw [if_neg q, Int.emod_eq_of_lt (by omega) (by omega)]
      omega
  · omega
  · omega
