/-! a text done: all its orders, or none -/
def oAt (A : Ar) (i : Nat) (σ : Sg) : Ro := if A.2.2.2.1 i = 99 then oChord σ else if A.2.2.2.1 i = 102 then oFrees σ (nI (A.2.2.2.2 (i * 3))) else if A.2.2.2.1 i = 104 then oHolds σ (nI (A.2.2.2.2 (i * 3))) (nI (A.2.2.2.2 (i * 3 + 1))) (nI (A.2.2.2.2 (i * 3 + 2))) else if A.2.2.2.1 i = 116 then oTone σ (nI (A.2.2.2.2 (i * 3))) (nI (A.2.2.2.2 (i * 3 + 1))) (nI (A.2.2.2.2 (i * 3 + 2))) else oLimit σ (nI (A.2.2.2.2 (i * 3)))
def exo (A : Ar) : Nat → Nat → Sg → Nat ⊕ Sg
  | 0, _, σ => .inr σ
  | d + 1, i, σ => match oAt A i σ with
    | .inl _ => .inl i
    | .inr (_, σ') => exo A d (i + 1) σ'
def xDoes (γ : Gs) : Int32 × Gs := match rdg γ.2.2.2.2.2.2.2 γ.2.2.2.2.2.2.1 0 A0 with
  | .inl p => (-10 - nI p, γ)
  | .inr A => match exo A A.1 0 γ.1 with
    | .inl i => (-1000 - nI i, γ)
    | .inr σ' => (nI A.1, (σ', kpK γ.2.1, kpH γ.2.1 γ.2.2.1 γ.1, γ.2.2.2))
theorem ok_oAt {A : Ar} {i : Nat} {σ : Sg} (hW : WF σ) : Ok (oAt A i σ) := by
  unfold oAt
  split
  · exact ok_chord hW
  · split
    · exact ok_frees hW _
    · split
      · exact ok_holds hW _ _ _
      · split
        · exact ok_tone hW _ _ _
        · exact ok_limit hW _
section DOES
variable {sc : Nat × (Nat → Int32)}
theorem RA_of {h g : mm_H} {A : Ar} (hR : RA h A) (e4 : g.1 4 = h.1 4) (e12 : g.1 12 = h.1 12) (e13 : g.1 13 = h.1 13) : RA g A := by
  unfold RA
  rw [e4, e12, e13]
  exact hR
theorem q_fault11 {h : mm_H} {tx : Nat → Int32} {n : Nat} (hn : n ≤ 120) (ht : ∀ j, j < n → h.1 5 j = tx j) (hb : ∀ j, j < n → mm_inb (tx j) 128 = true) : ∀ d p g A, p + d = n → RA g A → WA p A → frR h g → ∃ g', frR h g' ∧ (match rdg tx d p A with
  | .inl q => q ≤ 120 ∧ mm_ev sc i_Re_faultIn 11 [.ref 4, .ref 5, .int (nI n), .int (nI p)] [] g = some ((nI q, 0, 0), g')
  | .inr A' => mm_ev sc i_Re_faultIn 11 [.ref 4, .ref 5, .int (nI n), .int (nI p)] [] g = some ((-1, 0, 0), g') ∧ RA g' A' ∧ WA n A' ∧ A'.2.1 = none) := by
  intro d
  induction d with
  | zero =>
    intro p g A hp hR hA hf
    have hp : p = n := by omega
    subst hp
    refine ⟨g, hf, ?_⟩
    unfold rdg
    have e := l_Re_faultIn_11 sc (nI p) (nI p) g
    rw [nI_le_d (by omega) (by omega), decide_eq_true (show p ≤ p by omega), hR.1, show (0 : Int32) = nI 0 from rfl, nI_le_d (by have := hA.1; omega) (by omega)] at e
    by_cases q : A.2.1 = none
    · rw [hR.2.2.1 q] at e
      by_cases q2 : 0 < A.1
      · rw [if_pos ⟨q, q2⟩]
        rw [decide_eq_false (show ¬ A.1 ≤ 0 by omega)] at e
        exact ⟨e, hR, hA, q⟩
      · rw [if_neg (fun c => q2 c.2)]
        rw [decide_eq_true (show A.1 ≤ 0 by omega)] at e
        exact ⟨by omega, e⟩
    · rw [if_neg (fun c => q c.1)]
      obtain ⟨⟨w, b⟩, hwb⟩ := Option.ne_none_iff_exists'.mp q
      rw [(hR.2.2.2.1 w b hwb).1, nI_m1 (by have := (hA.2.2.2.2.1 w b hwb).2.1; omega)] at e
      exact ⟨by omega, e⟩
  | succ d ih =>
    intro p g A hp hR hA hf
    have e := l_Re_faultIn_11 sc (nI n) (nI p) g
    obtain ⟨b, hb1, hb2, hb3⟩ := inb_ex (hb p (by omega))
    rw [nI_le_d (by omega) (by omega), decide_eq_false (show ¬ n ≤ p by omega), inb_t (show p < 120 by omega) (by omega), i_cl (by omega), hf.1 5 (by omega) (by omega) (by omega), ht p (by omega), hb3] at e
    obtain ⟨g1, e1, f1, r1⟩ := q_takes (sc := sc) hR hA (by omega) hb1
    rw [e1] at e
    simp only [bd_s, cond_true, cond_false, b2i_0] at e
    unfold rdg
    rw [hb3, i_cl hb2]
    cases hs : stp A b with
    | none =>
      rw [hs] at e
      exact ⟨g1, hf.tr f1, by omega, e⟩
    | some A' =>
      rw [hs, nI_1] at e
      obtain ⟨g', x1, x2⟩ := ih (p + 1) g1 A' (by omega) (r1 A' hs) (wa_stp hA hs) (hf.tr f1)
      refine ⟨g', x1, ?_⟩
      dsimp only
      simp only [Option.isSome_some, Bool.not_true, cond_false] at e
      rw [e]
      exact x2
theorem q_faultIn {h : mm_H} {γ : Gs} (hN : CN h γ) : ∃ g', frR h g' ∧ (match rdg γ.2.2.2.2.2.2.2 γ.2.2.2.2.2.2.1 0 A0 with
  | .inl q => q ≤ 120 ∧ mm_cal sc i_Re_faultIn [.ref 4, .ref 5, .int (nI γ.2.2.2.2.2.2.1)] h = some ((nI q, 0, 0), g')
  | .inr A' => mm_cal sc i_Re_faultIn [.ref 4, .ref 5, .int (nI γ.2.2.2.2.2.2.1)] h = some ((-1, 0, 0), g') ∧ RA g' A' ∧ WA γ.2.2.2.2.2.2.1 A' ∧ A'.2.1 = none) := by
  obtain ⟨n1, n2, n3, n4, n5, n6, n7⟩ := hN
  rw [e_Re_faultIn]
  refine q_fault11 n5 n6 n7 γ.2.2.2.2.2.2.1 0 _ A0 (by omega) ⟨?_, ?_, ?_, fun w g q => (by cases q), fun i hi => absurd hi (by show ¬ i < 0; omega), fun i j hi => absurd hi (by show ¬ i < 0; omega)⟩ ⟨by show 2 * 0 ≤ 0; omega, fun q => absurd rfl q, by show 0 ≤ 4; omega, fun _ => rfl, fun w g q => (by cases q), fun i => by show 0 < 10000; omega, fun w g q => (by cases q)⟩ ⟨fun a x y z => by simp only [si1, x, if_false], rfl⟩
  · simp [si1, upd1]
    rfl
  · simp [si1, upd1]
    rfl
  · intro _
    simp [si1, upd1]
theorem nfn_of {b : Nat} : (b = 102 → nfn b = 1) ∧ (b = 104 → nfn b = 3) ∧ (b = 116 → nfn b = 3) ∧ (b ≠ 99 → 1 ≤ nfn b) := by
  refine ⟨fun h => by subst h; rfl, fun h => by subst h; rfl, fun h => by subst h; rfl, fun h => ?_⟩
  unfold nfn nof
  rw [if_neg h]
  repeat' split
  all_goals decide
theorem q_carry {h : mm_H} {σ : Sg} {A : Ar} {i : Nat} (hC : CC h σ) (hW : WF σ) (hR : RA h A) (hL : ∀ i, i < A.1 → A.2.2.2.1 i < 128) (hi : i < A.1) (hk : A.1 ≤ 60) : Oc h (oAt A i σ) (mm_cal sc i_Re_carryOut [.ref 4, .int (nI i), .ref 14] h) := by
  obtain ⟨r1, r2, r3, r4, r5, r6⟩ := hR
  have hl := hL i hi
  have h6 := r6 i
  obtain ⟨v1, v2, v3, v4⟩ := @nfn_of (A.2.2.2.1 i)
  rw [e_Re_carryOut, inb_t (show i < 60 by omega) (by omega), i_cl (by omega), r5 i hi, show (99 : Int32) = nI 99 from rfl, show (102 : Int32) = nI 102 from rfl, show (104 : Int32) = nI 104 from rfl, show (116 : Int32) = nI 116 from rfl, nI_eq_d (by omega) (by omega), nI_eq_d (by omega) (by omega), nI_eq_d (by omega) (by omega), nI_eq_d (by omega) (by omega), ltt3, pk_mul, ltt1, ltt2, nI_add, nI_add, inb_t (show i * 3 < 180 by omega) (by omega), inb_t (show i * 3 + 1 < 180 by omega) (by omega), inb_t (show i * 3 + 2 < 180 by omega) (by omega), i_cl (show i * 3 < 2147483648 by omega), i_cl (show i * 3 + 1 < 2147483648 by omega), i_cl (show i * 3 + 2 < 2147483648 by omega)]
  simp only [cond_true]
  have done : ∀ {o : Ro} {r : Option mm_R}, Oc h o r → Oc h o (mm_bd r (fun r1 => some ((r1.1.1, 0, 0), r1.2))) := by
    intro o r hr
    cases o with
    | inl e =>
      have hr : r = some ((e, 0, 0), h) := hr
      rw [hr]
      rfl
    | inr q =>
      obtain ⟨v, σ'⟩ := q
      obtain ⟨h', e, c, f⟩ := hr
      rw [e]
      exact ⟨h', rfl, c, f⟩
  unfold oAt
  by_cases c1 : A.2.2.2.1 i = 99
  · rw [if_pos c1, decide_eq_true c1]
    exact done (q_addChord hC hW)
  · rw [if_neg c1, decide_eq_false c1]
    have g0 := h6 0 hi (by have := v4 c1; omega)
    rw [Nat.add_zero] at g0
    by_cases c2 : A.2.2.2.1 i = 102
    · rw [if_pos c2, decide_eq_true c2, g0]
      exact done (q_removeTie hC hW _)
    · rw [if_neg c2, decide_eq_false c2]
      by_cases c3 : A.2.2.2.1 i = 104
      · rw [if_pos c3, decide_eq_true c3, g0, h6 1 hi (by have := v2 c3; omega), h6 2 hi (by have := v2 c3; omega)]
        exact done (q_addTie hC hW _ _ _)
      · rw [if_neg c3, decide_eq_false c3]
        by_cases c4 : A.2.2.2.1 i = 116
        · rw [if_pos c4, decide_eq_true c4, g0, h6 1 hi (by have := v3 c4; omega), h6 2 hi (by have := v3 c4; omega)]
          exact done (q_addTone hC hW _ _ _)
        · rw [if_neg c4, decide_eq_false c4, g0]
          exact done (q_changeLimit hC hW _)
end DOES
/-- the letters read are bytes -/
def LA (A : Ar) : Prop := ∀ i, A.2.2.2.1 i < 128
theorem la_stp {A A' : Ar} {b : Nat} (hb : b < 128) (h : LA A) (hs : stp A b = some A') : LA A' := by
  obtain ⟨k, o, f, L, N⟩ := A
  unfold stp at hs
  dsimp only at hs
  by_cases hd : 48 ≤ b ∧ b ≤ 57
  · rw [if_pos hd] at hs
    cases o with
    | none => cases hs
    | some q =>
      obtain ⟨w, g⟩ := q
      dsimp only at hs
      repeat' split at hs
      all_goals first
        | cases hs
        | skip
      all_goals exact h
  · rw [if_neg hd] at hs
    by_cases hb2 : b = 32
    · rw [if_pos hb2] at hs
      cases hs
      exact h
    · rw [if_neg hb2] at hs
      by_cases he : b = 59
      · rw [if_pos he] at hs
        cases o with
        | none => cases hs
        | some q =>
          obtain ⟨w, g⟩ := q
          dsimp only at hs
          split at hs
          · cases hs
            exact h
          · cases hs
      · rw [if_neg he] at hs
        cases o with
        | some q => cases hs
        | none =>
          dsimp only at hs
          cases hm : nof b with
          | none => rw [hm] at hs; cases hs
          | some m =>
            rw [hm] at hs
            cases hs
            intro i
            show upN L k b i < 128
            unfold upN
            have : L i < 128 := h i
            split <;> omega
theorem la_rdg {tx : Nat → Int32} {n : Nat} (hb : ∀ j, j < n → mm_inb (tx j) 128 = true) : ∀ d p A A', p + d = n → LA A → rdg tx d p A = .inr A' → LA A' := by
  intro d
  induction d with
  | zero =>
    intro p A A' _ h e
    unfold rdg at e
    split at e
    · cases e; exact h
    · cases e
  | succ d ih =>
    intro p A A' hp h e
    unfold rdg at e
    obtain ⟨b, hb1, hb2, hb3⟩ := inb_ex (hb p (by omega))
    rw [hb3, i_cl hb2] at e
    cases hs : stp A b with
    | none => rw [hs] at e; cases e
    | some A1 =>
      rw [hs] at e
      exact ih (p + 1) A1 A' (by omega) (la_stp hb1 h hs) e
section DOES2
variable {sc : Nat × (Nat → Int32)}
theorem c_does {h : mm_H} {γ : Gs} (hI : IC h γ) : ∃ g, mm_cal sc i_Co_does [.ref 0] h = some (((xDoes γ).1, 0, 0), g) ∧ IC g (xDoes γ).2 ∧ frC h g := by
  obtain ⟨i1, i2, i3, i4, i5⟩ := id hI
  obtain ⟨g1, f1, R⟩ := q_faultIn (sc := sc) i5
  have I1 : IC g1 γ := ⟨CC_of i1 (fun a ha => f1.1 a (by omega) (by omega) (by omega)), i2, TU_of i3 (fun a ha => f1.1 a (by omega) (by omega) (by omega)), HI_of i4 (by rw [f1.1 1 (by omega) (by omega) (by omega)]) (by rw [f1.2]) (fun b hb a ha => by
    have := i4.2.2.1 b (by have := i4.2.1; omega)
    exact f1.1 a (by omega) (by omega) (by omega)), CN_of i5 (f1.1 0 (by omega) (by omega) (by omega)) (f1.1 5 (by omega) (by omega) (by omega))⟩
  have F1 : frC h g1 := ⟨fun a ha => f1.1 a (by omega) (by omega) (by omega), by rw [f1.2]⟩
  rw [e_Co_does, i5.2.2.2.1]
  unfold xDoes
  cases hr : rdg γ.2.2.2.2.2.2.2 γ.2.2.2.2.2.2.1 0 A0 with
  | inl p =>
    rw [hr] at R
    obtain ⟨R1, R2⟩ := R
    rw [R2]
    simp only [bd_s]
    rw [nI_m1 (by omega)]
    exact ⟨g1, rfl, I1, F1⟩
  | inr A =>
    rw [hr] at R
    obtain ⟨R1, R2, R3, R4⟩ := R
    have hLA : LA A := la_rdg i5.2.2.2.2.2.2 _ _ _ _ (by omega) (fun i => by show 0 < 128; omega) hr
    have hk : A.1 ≤ 60 := by have := R3.1; have := i5.2.2.2.2.1; omega
    rw [R1]
    simp only [bd_s, decide_true, cond_true]
    obtain ⟨j1, j2, j3, j4, j5⟩ := id I1
    obtain ⟨g2, o1, o2, o3, o4, o5, o6⟩ := q_opened (sc := sc) j1 j2 j4
    rw [o1]
    simp only [bd_s]
    have RA2 : RA g2 A := RA_of R2 (o5.1 4 (by omega) (by omega)) (o5.1 12 (by omega) (by omega)) (o5.1 13 (by omega) (by omega))
    have T2 : TU g2 γ.1 := TU_of j3 (fun a ha => o5.1 a (by omega) (by omega))
    have N2 : CN g2 γ := CN_of j5 (o5.1 0 (by omega) (by omega)) (o5.1 5 (by omega) (by omega))
    have F2 : frC h g2 := F1.tr ⟨fun a ha => o5.1 a (by omega) (by omega), o5.2⟩
    have loop : ∀ d i g σ, i + d = A.1 → CC g σ → WF σ → fr14 g2 g → ∃ g', mm_ev sc i_Co_does 21 [.ref 0, .int (-1), .ref 14, .int (nI i)] [] g = some (((match exo A d i σ with
        | .inl i => (-1000 - nI i, γ)
        | .inr σ' => (nI A.1, (σ', kpK γ.2.1, kpH γ.2.1 γ.2.2.1 γ.1, γ.2.2.2)) : Int32 × Gs).1, 0, 0), g') ∧ IC g' (match exo A d i σ with
        | .inl i => (-1000 - nI i, γ)
        | .inr σ' => (nI A.1, (σ', kpK γ.2.1, kpH γ.2.1 γ.2.2.1 γ.1, γ.2.2.2)) : Int32 × Gs).2 ∧ frC h g' := by
      intro d
      induction d with
      | zero =>
        intro i g σ hd hC hW hf
        have hd : i = A.1 := by omega
        subst hd
        unfold exo
        have e := l_Co_does_21 sc (-1) 14 (nI A.1) g
        have RAg : RA g A := RA_of RA2 (hf.1 4 (by omega) (by omega) (by omega) (by omega) (by omega)) (hf.1 12 (by omega) (by omega) (by omega) (by omega) (by omega)) (hf.1 13 (by omega) (by omega) (by omega) (by omega) (by omega))
        have Hg : HI g γ.2.1 γ.2.2.1 := HI_of o3 (by rw [hf.1 1 (by omega) (by omega) (by omega) (by omega) (by omega)]) (by rw [hf.2]) (fun b hb a ha => by
          have := o3.2.2.1 b (by have := o3.2.1; omega)
          exact hf.1 a (by omega) (by omega) (by omega) (by omega) (by omega))
        have Bg : CS g (g.2.1 5) γ.1 := by
          rw [hf.2]
          have := o3.2.2.1 5 (by omega)
          exact CS_of o4 (fun a ha => hf.1 a (by omega) (by omega) (by omega) (by omega) (by omega))
        rw [e_Re_orderCount, RAg.1] at e
        simp only [bd_s] at e
        rw [nI_le_d (by omega) (by omega), decide_eq_true (show A.1 ≤ A.1 by omega), cond_true] at e
        obtain ⟨g3, k1, k2, k3, k4⟩ := q_keep (sc := sc) Hg Bg i2
        have hC3 : CC g3 σ := CC_of hC (fun a ha => k3 a (by omega))
        obtain ⟨g', t1, t2, t3, t4⟩ := q_follow (sc := sc) hC3 hW
        rw [k1] at e
        simp only [bd_s] at e
        rw [t1] at e
        simp only [bd_s, e_Re_orderCount] at e
        rw [t3 4 (by omega) (by omega), k3 4 (by omega), RAg.1] at e
        refine ⟨g', e, ⟨CC_of hC3 (fun a ha => t3 a (by omega) (by omega)), hW, t2, HI_of k2 (by rw [t3 1 (by omega) (by omega)]) (by rw [t4]) (fun b (hb : b < kpK γ.2.1) a ha => t3 a (by have := k2.2.2.1 b (by have := k2.2.1; omega); omega) (by have := k2.2.2.1 b (by have := k2.2.1; omega); omega)), ?_⟩, F2.tr (frC.tr ⟨fun a ha => hf.1 a (by omega) (by omega) (by omega) (by omega) (by omega), by rw [hf.2]⟩ ⟨fun a ha => (t3 a (by omega) (by omega)).trans (k3 a (by omega)), by rw [t4]; exact k4⟩)⟩
        obtain ⟨n1, n2, n3, n4, n5, n6, n7⟩ := N2
        have e0 : g'.1 0 = g2.1 0 := ((t3 0 (by omega) (by omega)).trans (k3 0 (by omega))).trans (hf.1 0 (by omega) (by omega) (by omega) (by omega) (by omega))
        have e5 : g'.1 5 = g2.1 5 := ((t3 5 (by omega) (by omega)).trans (k3 5 (by omega))).trans (hf.1 5 (by omega) (by omega) (by omega) (by omega) (by omega))
        refine ⟨?_, ?_, ?_, ?_, n5, ?_, n7⟩
        · rw [e0]; exact n1
        · rw [e0]; exact n2
        · rw [e0]; exact n3
        · rw [e0]; exact n4
        · rw [e5]; exact n6
      | succ d ih =>
        intro i g σ hd hC hW hf
        unfold exo
        have e := l_Co_does_21 sc (-1) 14 (nI i) g
        have RAg : RA g A := RA_of RA2 (hf.1 4 (by omega) (by omega) (by omega) (by omega) (by omega)) (hf.1 12 (by omega) (by omega) (by omega) (by omega) (by omega)) (hf.1 13 (by omega) (by omega) (by omega) (by omega) (by omega))
        rw [e_Re_orderCount, RAg.1] at e
        simp only [bd_s] at e
        rw [nI_le_d (by omega) (by omega), decide_eq_false (show ¬ A.1 ≤ i by omega), cond_false] at e
        have hO := q_carry (sc := sc) (i := i) hC hW RAg (fun i _ => hLA i) (by omega) hk
        have hok := ok_oAt (A := A) (i := i) hW
        cases ho : oAt A i σ with
        | inl r =>
          rw [ho] at hO hok
          have hO : mm_cal sc i_Re_carryOut [.ref 4, .int (nI i), .ref 14] g = some ((r, 0, 0), g) := hO
          rw [hO] at e
          simp only [bd_s] at e
          rw [q_isRef1 hok] at e
          simp only [bd_s, show decide ((1 : Int32) = 0) = false by decide +kernel, cond_false] at e
          have hb := o3.2.2.1 5 (by omega)
          rw [e_Hi_dismiss] at e
          obtain ⟨g3, c1, c2, c3, c4⟩ := q_copy (sc := sc) (d := 14) (s := g.2.1 5) g (by omega) (by omega) (by rw [hf.2]; omega) (by rw [hf.2]; omega) (by rw [hf.2]; omega)
          rw [c1] at e
          simp only [bd_s] at e
          have g3f : ∀ a, a ≠ 14 → (a < 21 ∨ 24 < a) → g3.1 a = g2.1 a := fun a a1 a2 => (c3 a a1 (by omega)).trans (hf.1 a a1 (by omega) (by omega) (by omega) (by omega))
          have hC3 : CC g3 γ.1 := c2 _ i2 (by
            rw [hf.2]
            exact CS_of o4 (fun a ha => hf.1 a (by omega) (by omega) (by omega) (by omega) (by omega)))
          refine ⟨g3, e, ⟨hC3, i2, TU_of T2 (fun a ha => g3f a (by omega) (by omega)), HI_of o3 (by rw [g3f 1 (by omega) (by omega)]) (by rw [c4, hf.2]) (fun b hb a ha => by
            have hb : b < γ.2.1 := hb
            have := o3.2.2.1 b (by have := o3.2.1; omega)
            exact g3f a (by omega) (by omega)), CN_of N2 (g3f 0 (by omega) (by omega)) (g3f 5 (by omega) (by omega))⟩, F2.tr ⟨fun a ha => g3f a (by omega) (by omega), by rw [c4, hf.2]⟩⟩
        | inr q =>
          obtain ⟨v, σ'⟩ := q
          rw [ho] at hO hok
          obtain ⟨g3, c1, c2, c3⟩ := hO
          obtain ⟨v1, v2, hW'⟩ := hok
          rw [c1] at e
          simp only [bd_s] at e
          rw [q_isRef0 v1, nI_1] at e
          simp only [bd_s, decide_true, cond_true] at e
          obtain ⟨g', x1, x2⟩ := ih (i + 1) g3 σ' (by omega) c2 hW' ⟨fun a a1 a2 a3 a4 a5 => (c3.1 a a1 a2 a3 a4 a5).trans (hf.1 a a1 a2 a3 a4 a5), c3.2.trans hf.2⟩
          exact ⟨g', e.trans x1, x2⟩
    exact loop A.1 0 g2 γ.1 (by omega) o2 i2 ⟨fun a _ _ _ _ _ => rfl, rfl⟩
end DOES2
