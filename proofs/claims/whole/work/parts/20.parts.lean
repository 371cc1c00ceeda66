/-! roots, parts, shares, sets: what follows from a score -/
def td (σ : Sg) (c : Nat) : Bool := (σ.2.2.2.2 c).isSome
def tdp (σ : Sg) (c : Nat) : Bool := match c with
  | 0 => false
  | c + 1 => td σ c
def rt (σ : Sg) : Nat → Nat → Int32
  | 0, _ => 0
  | c + 1, k => match σ.2.2.2.2 c with
    | some (i, j) => rt σ c k + (σ.2.2.2.1 ((c * 5 + i) * 4 + k) - σ.2.2.2.1 (((c + 1) * 5 + j) * 4 + k))
    | none => 0
def np (σ : Sg) : Nat → Nat
  | 0 => 0
  | c + 1 => if tdp σ c = true then np σ c else np σ c + 1
def fi (σ : Sg) : Nat → Nat → Nat
  | 0, _ => 0
  | c + 1, p => if tdp σ c = true then fi σ c p else (if p = np σ c then c else fi σ c p)
def la (σ : Sg) : Nat → Nat → Nat
  | 0, _ => 0
  | c + 1, p => if p + 1 = np σ (c + 1) then c else la σ c p
def szr (σ : Sg) (c : Nat) : Int32 := 0 + wt 0 * rt σ c 0 + wt 1 * rt σ c 1 + wt 2 * rt σ c 2 + wt 3 * rt σ c 3
def dr (σ : Sg) (c : Nat) : Int32 := offI (szr σ c) 120000
/-- a part's numbers: its first chord, its last, how many ties -/
def pF (σ : Sg) (p : Nat) : Nat := fi σ σ.1 p
def pL (σ : Sg) (p : Nat) : Nat := la σ σ.1 p
def pE (σ : Sg) (p : Nat) : Nat := (dr σ (pL σ p)).toInt.natAbs
/-- the size of what a tie gets -/
def shz (σ : Sg) (c : Nat) : Nat := min (pE σ (np σ (c + 1) - 1) / (pL σ (np σ (c + 1) - 1) - pF σ (np σ (c + 1) - 1)) + (if c - pF σ (np σ (c + 1) - 1) < pE σ (np σ (c + 1) - 1) % (pL σ (np σ (c + 1) - 1) - pF σ (np σ (c + 1) - 1)) then 1 else 0)) σ.2.1
def sh (σ : Sg) (c : Nat) : Int32 := if 0 < (dr σ (pL σ (np σ (c + 1) - 1))).toInt then -nI (shz σ c) else nI (shz σ c)
def st (σ : Sg) : Nat → Int32
  | 0 => 0
  | c + 1 => if td σ c = true then st σ c + sh σ c else 0
def gsm (σ : Sg) : Nat → Nat
  | 0 => 0
  | c + 1 => if td σ c = true then max (gsm σ c) (shz σ c) else gsm σ c
theorem np_le (σ : Sg) : ∀ c, np σ c ≤ c := by
  intro c
  induction c with
  | zero => exact Nat.le_refl _
  | succ c ih =>
    unfold np
    split <;> omega
theorem np_pos (σ : Sg) : ∀ c, 0 < np σ (c + 1) := by
  intro c
  induction c with
  | zero => simp [np, tdp]
  | succ c ih =>
    have e : np σ (c + 1 + 1) = if tdp σ (c + 1) = true then np σ (c + 1) else np σ (c + 1) + 1 := rfl
    rw [e]
    split <;> omega
/-- how the parts lie -/
def PI (σ : Sg) (c : Nat) : Prop :=
  (∀ p, p < np σ c → fi σ c p ≤ la σ c p ∧ la σ c p < c) ∧
  (∀ p x, p < np σ c → fi σ c p ≤ x → x ≤ la σ c p → np σ (x + 1) = p + 1) ∧
  (∀ p x, p < np σ c → fi σ c p ≤ x → x < la σ c p → td σ x = true) ∧
  (∀ p, p < np σ c → tdp σ (fi σ c p) = false) ∧
  (∀ p, p + 1 = np σ c → la σ c p + 1 = c) ∧
  (∀ p, p + 1 < np σ c → fi σ c (p + 1) = la σ c p + 1) ∧
  (0 < np σ c → fi σ c 0 = 0)
theorem PI_all (σ : Sg) : ∀ c, PI σ c := by
  intro c
  induction c with
  | zero => exact ⟨fun p h => absurd h (Nat.not_lt_zero p), fun p x h => absurd h (Nat.not_lt_zero p), fun p x h => absurd h (Nat.not_lt_zero p), fun p h => absurd h (Nat.not_lt_zero p), fun p h => absurd h (Nat.succ_ne_zero p), fun p h => absurd h (Nat.not_lt_zero _), fun h => absurd h (Nat.lt_irrefl 0)⟩
  | succ c ih =>
    obtain ⟨i1, i2, i3, i4, i5, i6, i7⟩ := ih
    have enp : np σ (c + 1) = if tdp σ c = true then np σ c else np σ c + 1 := rfl
    have efi : ∀ p, fi σ (c + 1) p = if tdp σ c = true then fi σ c p else (if p = np σ c then c else fi σ c p) := fun _ => rfl
    have ela : ∀ p, la σ (c + 1) p = if p + 1 = np σ (c + 1) then c else la σ c p := fun _ => rfl
    by_cases ht : tdp σ c = true
    · rw [if_pos ht] at enp
      have efi : ∀ p, fi σ (c + 1) p = fi σ c p := fun p => by rw [efi p, if_pos ht]
      obtain ⟨c', rfl⟩ : ∃ c', c = c' + 1 := by
        cases c with
        | zero => simp [tdp] at ht
        | succ c' => exact ⟨c', rfl⟩
      have htd : td σ c' = true := ht
      have hpos := np_pos σ c'
      refine ⟨fun p hp => ?_, fun p x hp h1 h2 => ?_, fun p x hp h1 h2 => ?_, fun p hp => ?_, fun p hp => ?_, fun p hp => ?_, fun hp => ?_⟩
      · rw [enp] at hp
        have := i1 p hp
        rw [efi, ela]
        split <;> omega
      · rw [enp] at hp
        rw [efi] at h1
        rw [ela] at h2
        by_cases e : p + 1 = np σ (c' + 1 + 1)
        · rw [if_pos e] at h2
          by_cases hx : x = c' + 1
          · subst hx
            omega
          · have := i5 p (by omega)
            exact i2 p x hp h1 (by omega)
        · rw [if_neg e] at h2
          exact i2 p x hp h1 h2
      · rw [enp] at hp
        rw [efi] at h1
        rw [ela] at h2
        by_cases e : p + 1 = np σ (c' + 1 + 1)
        · rw [if_pos e] at h2
          have := i5 p (by omega)
          by_cases hx : x = c'
          · subst hx
            exact htd
          · exact i3 p x hp h1 (by omega)
        · rw [if_neg e] at h2
          exact i3 p x hp h1 h2
      · rw [enp] at hp
        rw [efi]
        exact i4 p hp
      · rw [ela, if_pos hp]
      · rw [enp] at hp
        rw [efi, ela, if_neg (by omega)]
        exact i6 p hp
      · rw [efi]
        exact i7 (by omega)
    · rw [if_neg ht] at enp
      have hle := np_le σ c
      refine ⟨fun p hp => ?_, fun p x hp h1 h2 => ?_, fun p x hp h1 h2 => ?_, fun p hp => ?_, fun p hp => ?_, fun p hp => ?_, fun hp => ?_⟩
      · rw [efi, ela, if_neg ht]
        by_cases e : p = np σ c
        · rw [if_pos e, if_pos (by omega)]
          omega
        · rw [if_neg e, if_neg (by omega)]
          have := i1 p (by omega)
          omega
      · rw [efi, if_neg ht] at h1
        rw [ela] at h2
        by_cases e : p = np σ c
        · rw [if_pos e] at h1
          rw [if_pos (by omega)] at h2
          have : x = c := by omega
          subst this
          omega
        · rw [if_neg e] at h1
          rw [if_neg (by omega)] at h2
          exact i2 p x (by omega) h1 h2
      · rw [efi, if_neg ht] at h1
        rw [ela] at h2
        by_cases e : p = np σ c
        · rw [if_pos e] at h1
          rw [if_pos (by omega)] at h2
          omega
        · rw [if_neg e] at h1
          rw [if_neg (by omega)] at h2
          exact i3 p x (by omega) h1 h2
      · rw [efi, if_neg ht]
        by_cases e : p = np σ c
        · rw [if_pos e]
          simpa using ht
        · rw [if_neg e]
          exact i4 p (by omega)
      · rw [ela, if_pos hp]
      · rw [efi, if_neg ht, ela, if_neg (show ¬ p + 1 = np σ (c + 1) by omega)]
        by_cases e : p + 1 = np σ c
        · rw [if_pos e]
          have := i5 p e
          omega
        · rw [if_neg e]
          exact i6 p (by omega)
      · rw [efi, if_neg ht]
        by_cases e : 0 = np σ c
        · rw [if_pos e]
          cases c with
          | zero => rfl
          | succ c => have := np_pos σ c; omega
        · rw [if_neg e]
          exact i7 (by omega)
theorem pF_le {σ : Sg} {p : Nat} (hp : p < np σ σ.1) : pF σ p ≤ pL σ p ∧ pL σ p < σ.1 := (PI_all σ σ.1).1 p hp
theorem p_np {σ : Sg} {p x : Nat} (hp : p < np σ σ.1) (h1 : pF σ p ≤ x) (h2 : x ≤ pL σ p) : np σ (x + 1) = p + 1 := (PI_all σ σ.1).2.1 p x hp h1 h2
theorem p_td {σ : Sg} {p x : Nat} (hp : p < np σ σ.1) (h1 : pF σ p ≤ x) (h2 : x < pL σ p) : td σ x = true := (PI_all σ σ.1).2.2.1 p x hp h1 h2
theorem p_tdp {σ : Sg} {p : Nat} (hp : p < np σ σ.1) : tdp σ (pF σ p) = false := (PI_all σ σ.1).2.2.2.1 p hp
theorem p_last {σ : Sg} {p : Nat} (hp : p + 1 = np σ σ.1) : pL σ p + 1 = σ.1 := (PI_all σ σ.1).2.2.2.2.1 p hp
theorem p_next {σ : Sg} {p : Nat} (hp : p + 1 < np σ σ.1) : pF σ (p + 1) = pL σ p + 1 := (PI_all σ σ.1).2.2.2.2.2.1 p hp
theorem p_first {σ : Sg} (hp : 0 < np σ σ.1) : pF σ 0 = 0 := (PI_all σ σ.1).2.2.2.2.2.2 hp
/-- where part p begins; behind the last one, where all ends -/
def bnd (σ : Sg) (p : Nat) : Nat := if p < np σ σ.1 then pF σ p else σ.1
theorem bnd_s {σ : Sg} {p : Nat} (hp : p < np σ σ.1) : bnd σ (p + 1) = pL σ p + 1 := by
  unfold bnd
  split
  · next h => exact p_next h
  · next h => exact (p_last (by omega)).symm
theorem bnd_0 {σ : Sg} : bnd σ 0 = 0 := by
  unfold bnd
  split
  · next h => exact p_first h
  · next h =>
    cases hn : σ.1 with
    | zero => rfl
    | succ c =>
      rw [hn] at h
      exact absurd (np_pos σ c) h
theorem td_last {σ : Sg} {p : Nat} (hW : WF σ) (hp : p < np σ σ.1) : td σ (pL σ p) = false := by
  by_cases h : p + 1 < np σ σ.1
  · have h1 := p_tdp h
    rw [p_next h] at h1
    exact h1
  · have h1 := p_last (σ := σ) (p := p) (by omega)
    unfold td
    cases hq : σ.2.2.2.2 (pL σ p) with
    | none => rfl
    | some q =>
      obtain ⟨i, j⟩ := q
      have := (hW.2.2.2.2 _ i j hq).1
      omega
/-- every chord lies in its part -/
theorem p_of {σ : Sg} : ∀ c, c < σ.1 → np σ (c + 1) - 1 < np σ σ.1 ∧ pF σ (np σ (c + 1) - 1) ≤ c ∧ c ≤ pL σ (np σ (c + 1) - 1) := by
  have key : ∀ p, p ≤ np σ σ.1 → ∀ c, c < bnd σ p → ∃ p', p' < np σ σ.1 ∧ pF σ p' ≤ c ∧ c ≤ pL σ p' := by
    intro p
    induction p with
    | zero =>
      intro _ c hc
      rw [bnd_0] at hc
      omega
    | succ p ih =>
      intro hp c hc
      rw [bnd_s (by omega)] at hc
      by_cases h : c < pF σ p
      · exact ih (by omega) c (by unfold bnd; rw [if_pos (by omega)]; exact h)
      · exact ⟨p, by omega, by omega, by omega⟩
  intro c hc
  obtain ⟨p', h1, h2, h3⟩ := key (np σ σ.1) (Nat.le_refl _) c (by unfold bnd; rw [if_neg (by omega)]; exact hc)
  have := p_np h1 h2 h3
  rw [this]
  exact ⟨h1, h2, h3⟩
theorem st_first {σ : Sg} {p : Nat} (hp : p < np σ σ.1) : st σ (pF σ p) = 0 := by
  have h := p_tdp hp
  cases hq : pF σ p with
  | zero => rfl
  | succ c =>
    rw [hq] at h
    have h : td σ c = false := h
    unfold st
    rw [h]
    rfl
/-! bounds: nothing overflows -/
theorem rt_in {σ : Sg} (hW : WF σ) {k : Nat} (hk : k < 4) : ∀ c : Nat, c < 12 → -(12 * (c : Int)) ≤ (rt σ c k).toInt ∧ (rt σ c k).toInt ≤ 12 * c := by
  have hn := hW.1
  intro c
  induction c with
  | zero =>
    intro _
    unfold rt
    rw [Int32.toInt_zero]
    omega
  | succ c ih =>
    intro hc
    have := ih (by omega)
    unfold rt
    split
    · next i j ht =>
      obtain ⟨k1, k2, k3⟩ := hW.2.2.2.2 c i j ht
      have b1 := hW.2.2.2.1 ((c * 5 + i) * 4 + k) (by omega)
      have b2 := hW.2.2.2.1 (((c + 1) * 5 + j) * 4 + k) (by omega)
      have e1 : (σ.2.2.2.1 ((c * 5 + i) * 4 + k) - σ.2.2.2.1 (((c + 1) * 5 + j) * 4 + k)).toInt = (σ.2.2.2.1 ((c * 5 + i) * 4 + k)).toInt - (σ.2.2.2.1 (((c + 1) * 5 + j) * 4 + k)).toInt := i_sub (by omega) (by omega)
      rw [i_add] <;> rw [e1] <;> omega
    · rw [Int32.toInt_zero]
      omega
theorem wt_i : (wt 0).toInt = 120000 ∧ (wt 1).toInt = 190196 ∧ (wt 2).toInt = 278631 ∧ (wt 3).toInt = 336883 := by decide +kernel
/-- four products added -/
theorem sum4_in {a b c d : Int32} {B : Int} (hB : B ≤ 150) (ha : -B ≤ a.toInt ∧ a.toInt ≤ B) (hb : -B ≤ b.toInt ∧ b.toInt ≤ B) (hc : -B ≤ c.toInt ∧ c.toInt ≤ B) (hd : -B ≤ d.toInt ∧ d.toInt ≤ B) : (0 + wt 0 * a + wt 1 * b + wt 2 * c + wt 3 * d).toInt = 120000 * a.toInt + 190196 * b.toInt + 278631 * c.toInt + 336883 * d.toInt := by
  obtain ⟨w0, w1, w2, w3⟩ := wt_i
  have e0 : (wt 0 * a).toInt = 120000 * a.toInt := by rw [i_mul] <;> rw [w0] <;> omega
  have e1 : (wt 1 * b).toInt = 190196 * b.toInt := by rw [i_mul] <;> rw [w1] <;> omega
  have e2 : (wt 2 * c).toInt = 278631 * c.toInt := by rw [i_mul] <;> rw [w2] <;> omega
  have e3 : (wt 3 * d).toInt = 336883 * d.toInt := by rw [i_mul] <;> rw [w3] <;> omega
  have f0 : (0 + wt 0 * a).toInt = 120000 * a.toInt := by rw [i_add] <;> rw [Int32.toInt_zero, e0] <;> omega
  have f1 : (0 + wt 0 * a + wt 1 * b).toInt = 120000 * a.toInt + 190196 * b.toInt := by rw [i_add] <;> rw [f0, e1] <;> omega
  have f2 : (0 + wt 0 * a + wt 1 * b + wt 2 * c).toInt = 120000 * a.toInt + 190196 * b.toInt + 278631 * c.toInt := by rw [i_add] <;> rw [f1, e2] <;> omega
  rw [i_add] <;> rw [f2, e3] <;> omega
theorem szr_in {σ : Sg} (hW : WF σ) {c : Nat} (hc : c < 12) : -140000000 ≤ (szr σ c).toInt ∧ (szr σ c).toInt ≤ 140000000 := by
  have h0 := rt_in hW (k := 0) (by omega) c hc
  have h1 := rt_in hW (k := 1) (by omega) c hc
  have h2 := rt_in hW (k := 2) (by omega) c hc
  have h3 := rt_in hW (k := 3) (by omega) c hc
  unfold szr
  rw [sum4_in (B := 150) (by omega) (by omega) (by omega) (by omega) (by omega)]
  omega
theorem szf_in {pw : Nat → Int32} (h : ∀ j, j < 240 → -6 ≤ (pw j).toInt ∧ (pw j).toInt ≤ 6) {s : Nat} (hs : s + 4 ≤ 240) : -6000000 ≤ (szf pw s).toInt ∧ (szf pw s).toInt ≤ 6000000 := by
  have h0 := h s (by omega)
  have h1 := h (s + 1) (by omega)
  have h2 := h (s + 2) (by omega)
  have h3 := h (s + 3) (by omega)
  unfold szf
  rw [sum4_in (B := 6) (by omega) (by omega) (by omega) (by omega) (by omega)]
  omega
theorem dr_in (σ : Sg) (c : Nat) : -120000 < (dr σ c).toInt ∧ (dr σ c).toInt < 120000 := by
  have h := offN_in (z := (szr σ c).toInt) (w := ((120000 : Nat) : Int)) (by omega)
  unfold dr offI
  rw [i_ofInt] <;> omega
