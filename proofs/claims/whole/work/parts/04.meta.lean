/-! runs of the small machine: with fuel, then without; stretches of code at once -/
def mm_ent (j : Nat) (vs : List Value) : List Value := mm_pad (mm_flat vs) (mm_mx j)
/-- the values fit the callee's variables -/
def mm_fit (j : Nat) (vs : List Value) : Bool := Nat.ble (mm_flat vs).length (mm_mx j)
def mm_ex (sc : Nat × (Nat → Int32)) : Nat → Nat → Nat → List Value → List Value → mm_H → Option mm_R
  | 0, _, _, _, _, _ => none
  | n + 1, i, k, ls, st, h => match (mm_code i)[k]? with
    | none => none
    | some q => mm_drv mm_rt (fun j as h => bif mm_fit j as then mm_ex sc n j 0 (mm_ent j as) [] h else none) (fun k ls st h => mm_ex sc n i k ls st h) h (mm_act sc (mm_rt i) q k ls st h)
theorem mm_cond_some {b : Bool} {x y : Option mm_R} {r : mm_R} (h : (bif b then x else y) = some r) : (b = true ∧ x = some r) ∨ (b = false ∧ y = some r) := by
  cases b
  · exact Or.inr ⟨rfl, h⟩
  · exact Or.inl ⟨rfl, h⟩
theorem mm_bd_some {o : Option mm_R} {f : mm_R → Option mm_R} {r : mm_R} (h : mm_bd o f = some r) : ∃ u, o = some u ∧ f u = some r := by
  cases o with
  | none => cases h
  | some u => exact ⟨u, rfl, h⟩
theorem mm_swc_at (x : Int32) (d : Nat) (ps : List (Int32 × Nat)) : ∃ t, ∀ K : Nat → Option mm_R, mm_swc K x d ps = K t := by
  induction ps with
  | nil => exact ⟨d, fun _ => rfl⟩
  | cons q l ih =>
    obtain ⟨k, t⟩ := q
    obtain ⟨t2, h2⟩ := ih
    by_cases hx : x = k
    · exact ⟨t, fun K => by simp [mm_swc, hx]⟩
    · exact ⟨t2, fun K => by simp [mm_swc, hx, h2]⟩
theorem mm_drv_cont {rs : Nat → Nat} {Ec : Nat → List Value → mm_H → Option mm_R} {E : Nat → List Value → List Value → mm_H → Option mm_R} {Fc : Nat → Nat → List Value → mm_H → Option mm_R} {F : Nat → Nat → List Value → List Value → mm_H → Option mm_R}
    (mc : ∀ n m j as h r, n ≤ m → Fc n j as h = some r → Fc m j as h = some r) (me : ∀ n m k ls st h r, n ≤ m → F n k ls st h = some r → F m k ls st h = some r)
    (hc : ∀ j as h r, Ec j as h = some r → ∃ n, Fc n j as h = some r) (he : ∀ k ls st h r, E k ls st h = some r → ∃ n, F n k ls st h = some r)
    {h : mm_H} {a : mm_A} {r : mm_R} (H : mm_drv rs Ec E h a = some r) : ∃ n, mm_drv rs (Fc n) (F n) h a = some r := by
  rcases a with ⟨b, r0⟩ | ⟨b, c, _ | d⟩ | ⟨b, j, as, k, ls, st⟩ | ⟨x, ps, d, ls, st⟩
  · exact ⟨0, H⟩
  · rcases mm_cond_some H with ⟨hb, hx⟩ | ⟨hb, hx⟩
    · obtain ⟨n, hn⟩ := he _ _ _ _ _ hx
      exact ⟨n, by simp [mm_drv, hb, hn]⟩
    · cases hx
  · rcases mm_cond_some H with ⟨hb, hx⟩ | ⟨hb, hx⟩
    · obtain ⟨n, hn⟩ := he _ _ _ _ _ hx
      exact ⟨n, by simp [mm_drv, hb, hn]⟩
    · obtain ⟨n, hn⟩ := he _ _ _ _ _ hx
      exact ⟨n, by simp [mm_drv, hb, hn]⟩
  · rcases mm_cond_some H with ⟨hb, hx⟩ | ⟨hb, hx⟩
    · obtain ⟨u, h1, h2⟩ := mm_bd_some hx
      obtain ⟨n, hn⟩ := hc _ _ _ _ h1
      obtain ⟨n2, hn2⟩ := he _ _ _ _ _ h2
      refine ⟨max n n2, ?_⟩
      have e1 := mc n (max n n2) _ _ _ _ (Nat.le_max_left _ _) hn
      have e2 := me n2 (max n n2) _ _ _ _ _ (Nat.le_max_right _ _) hn2
      simp [mm_drv, hb, e1, mm_bd, e2]
    · cases hx
  · obtain ⟨t, ht⟩ := mm_swc_at x d ps
    have H' : mm_swc (fun k => E k ls st h) x d ps = some r := H
    rw [ht] at H'
    obtain ⟨n, hn⟩ := he _ _ _ _ _ H'
    refine ⟨n, ?_⟩
    show mm_swc (fun k => F n k ls st h) x d ps = some r
    rw [ht]
    exact hn
theorem mm_drv_mono {rs : Nat → Nat} {Ec Ec' : Nat → List Value → mm_H → Option mm_R} {E E' : Nat → List Value → List Value → mm_H → Option mm_R}
    (hc : ∀ j as h r, Ec j as h = some r → Ec' j as h = some r) (he : ∀ k ls st h r, E k ls st h = some r → E' k ls st h = some r)
    {h : mm_H} {a : mm_A} {r : mm_R} (H : mm_drv rs Ec E h a = some r) : mm_drv rs Ec' E' h a = some r := by
  obtain ⟨_, hn⟩ := mm_drv_cont (rs := rs) (Ec := Ec) (E := E) (Fc := fun _ => Ec') (F := fun _ => E') (fun _ _ _ _ _ _ _ x => x) (fun _ _ _ _ _ _ _ _ x => x) (fun _ _ _ _ x => ⟨0, hc _ _ _ _ x⟩) (fun _ _ _ _ _ x => ⟨0, he _ _ _ _ _ x⟩) H
  exact hn
theorem mm_ex_succ (sc : Nat × (Nat → Int32)) : ∀ (n i k : Nat) (ls st : List Value) (h : mm_H) (r : mm_R), mm_ex sc n i k ls st h = some r → mm_ex sc (n + 1) i k ls st h = some r := by
  intro n
  induction n with
  | zero => intro i k ls st h r H; cases H
  | succ n ih =>
    intro i k ls st h r H
    unfold mm_ex at H ⊢
    cases hq : (mm_code i)[k]? with
    | none => rw [hq] at H; cases H
    | some q =>
      rw [hq] at H
      exact mm_drv_mono (fun j as h r x => (mm_cond_some x).elim (fun q => by rw [q.1]; exact ih j 0 _ _ h r q.2) (fun q => by cases q.2)) (fun k ls st h r x => ih i k ls st h r x) H
theorem mm_ex_le (sc : Nat × (Nat → Int32)) {n m : Nat} (hle : n ≤ m) {i k : Nat} {ls st : List Value} {h : mm_H} {r : mm_R} (H : mm_ex sc n i k ls st h = some r) : mm_ex sc m i k ls st h = some r := by
  induction hle with
  | refl => exact H
  | step _ ih => exact mm_ex_succ sc _ _ _ _ _ _ _ ih
noncomputable def mm_ev (sc : Nat × (Nat → Int32)) (i k : Nat) (ls st : List Value) (h : mm_H) : Option mm_R :=
  @dite _ (∃ n r, mm_ex sc n i k ls st h = some r) (Classical.propDecidable _) (fun hh => mm_ex sc (Classical.choose hh) i k ls st h) (fun _ => none)
theorem mm_ex_of_ev {sc : Nat × (Nat → Int32)} {i k : Nat} {ls st : List Value} {h : mm_H} {r : mm_R} (H : mm_ev sc i k ls st h = some r) : ∃ n, mm_ex sc n i k ls st h = some r := by
  unfold mm_ev at H
  split at H
  · exact ⟨_, H⟩
  · cases H
theorem mm_ev_of_ex {sc : Nat × (Nat → Int32)} {n i k : Nat} {ls st : List Value} {h : mm_H} {r : mm_R} (H : mm_ex sc n i k ls st h = some r) : mm_ev sc i k ls st h = some r := by
  have hh : ∃ n r, mm_ex sc n i k ls st h = some r := ⟨n, r, H⟩
  unfold mm_ev
  rw [dif_pos hh]
  obtain ⟨r2, h2⟩ := Classical.choose_spec hh
  have e1 := mm_ex_le sc (Nat.le_max_left n (Classical.choose hh)) H
  have e2 := mm_ex_le sc (Nat.le_max_right n (Classical.choose hh)) h2
  rw [e1] at e2
  rw [h2]
  exact e2.symm
/-- a call: from the entry, with these values -/
noncomputable def mm_cal (sc : Nat × (Nat → Int32)) (j : Nat) (as : List Value) (h : mm_H) : Option mm_R := bif mm_fit j as then mm_ev sc j 0 (mm_ent j as) [] h else none
theorem mm_ev_eq (sc : Nat × (Nat → Int32)) (i k : Nat) (ls st : List Value) (h : mm_H) : mm_ev sc i k ls st h = match (mm_code i)[k]? with
    | none => none
    | some q => mm_drv mm_rt (mm_cal sc) (mm_ev sc i) h (mm_act sc (mm_rt i) q k ls st h) := by
  apply Option.ext
  intro r
  constructor
  · intro H
    obtain ⟨n, hn⟩ := mm_ex_of_ev H
    cases n with
    | zero => cases hn
    | succ n =>
      unfold mm_ex at hn
      cases hq : (mm_code i)[k]? with
      | none => rw [hq] at hn; cases hn
      | some q =>
        rw [hq] at hn
        exact mm_drv_mono (fun j as h r x => (mm_cond_some x).elim (fun q => by unfold mm_cal; rw [q.1]; exact mm_ev_of_ex q.2) (fun q => by cases q.2)) (fun k ls st h r x => mm_ev_of_ex x) hn
  · intro H
    cases hq : (mm_code i)[k]? with
    | none => rw [hq] at H; cases H
    | some q =>
      rw [hq] at H
      obtain ⟨n, hn⟩ := mm_drv_cont (Fc := fun n j as h => bif mm_fit j as then mm_ex sc n j 0 (mm_ent j as) [] h else none) (F := fun n k ls st h => mm_ex sc n i k ls st h) (fun _ _ _ _ _ _ hle x => (mm_cond_some x).elim (fun q => by simp only [q.1]; exact mm_ex_le sc hle q.2) (fun q => by cases q.2)) (fun _ _ _ _ _ _ _ hle x => mm_ex_le sc hle x) (fun j as h r x => (mm_cond_some x).elim (fun q => by obtain ⟨n, hn⟩ := mm_ex_of_ev q.2; exact ⟨n, by simp only [q.1]; exact hn⟩) (fun q => by cases q.2)) (fun k ls st h r x => mm_ex_of_ev x) H
      refine mm_ev_of_ex (n := n + 1) ?_
      unfold mm_ex
      rw [hq]
      exact hn
def mm_in (k : Nat) : List Nat → Bool
  | [] => false
  | a :: l => bif Nat.beq k a then true else mm_in k l
/-- a stretch: at most n steps, ended at the places sp -/
def mm_run (sc : Nat × (Nat → Int32)) (L : List mm_E) (rt : Nat) (sp : List Nat) (Ec : Nat → List Value → mm_H → Option mm_R) (E : Nat → List Value → List Value → mm_H → Option mm_R) : Nat → Nat → List Value → List Value → mm_H → Option mm_R
  | 0, k, ls, st, h => E k ls st h
  | n + 1, k, ls, st, h => match L[k]? with
    | none => none
    | some q => mm_drv mm_rt Ec (fun k' ls' st' h' => bif mm_in k' sp then E k' ls' st' h' else mm_run sc L rt sp Ec E n k' ls' st' h') h (mm_act sc rt q k ls st h)
theorem mm_ev_run (sc : Nat × (Nat → Int32)) (i : Nat) (sp : List Nat) (n : Nat) : ∀ (k : Nat) (ls st : List Value) (h : mm_H), mm_ev sc i k ls st h = mm_run sc (mm_code i) (mm_rt i) sp (mm_cal sc) (mm_ev sc i) n k ls st h := by
  induction n with
  | zero => intro k ls st h; rfl
  | succ n ih =>
    intro k ls st h
    rw [mm_ev_eq]
    unfold mm_run
    cases hq : (mm_code i)[k]? with
    | none => rfl
    | some q =>
      have e : (fun k' ls' st' h' => bif mm_in k' sp then mm_ev sc i k' ls' st' h' else mm_run sc (mm_code i) (mm_rt i) sp (mm_cal sc) (mm_ev sc i) n k' ls' st' h') = mm_ev sc i := by
        funext k' ls' st' h'
        rw [← ih k' ls' st' h']
        cases mm_in k' sp <;> rfl
      dsimp only
      rw [e]
