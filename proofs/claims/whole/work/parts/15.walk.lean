/-! the walk: a run of the small machine that ends is a run of the machine that ends so -/
theorem mm_oks_at {i : Nat} : ∀ (L : List mm_E) (k : Nat), mm_oks i k L = true → ∀ (n : Nat) (q : mm_E), L[n]? = some q → mm_ok i (k + n) q = true := by
  intro L
  induction L with
  | nil => intro k _ n q hq; simp at hq
  | cons a L ih =>
    intro k h n q hq
    unfold mm_oks at h
    simp only [Bool.and_eq_true] at h
    cases n with
    | zero => simp at hq; subst hq; exact h.1
    | succ n =>
      have := ih (k + 1) h.2 n q (by simpa using hq)
      rw [show k + (n + 1) = k + 1 + n by omega]
      exact this
theorem mm_oks_app {i : Nat} : ∀ (L M : List mm_E) (k : Nat), mm_oks i k L = true → mm_oks i (k + L.length) M = true → mm_oks i k (L ++ M) = true := by
  intro L
  induction L with
  | nil => intro M k _ h; exact h
  | cons a L ih =>
    intro M k h1 h2
    unfold mm_oks at h1
    simp only [Bool.and_eq_true] at h1
    show (mm_ok i k a && mm_oks i (k + 1) (L ++ M)) = true
    rw [h1.1, ih M (k + 1) h1.2 (by rw [show k + 1 + L.length = k + (a :: L).length by simp; omega]; exact h2)]
    rfl
theorem mm_all {f : Nat → Bool} {a n i : Nat} (h : (List.range' a n).all f = true) (h1 : a ≤ i) (h2 : i < a + n) : f i = true := by
  rw [List.all_eq_true] at h
  exact h i (by simp [List.mem_range'_1]; omega)
theorem mm_okI : ∀ i, i < 175 → mm_oks i 0 (mm_code i) = true := by
  intro i hi
  by_cases q0 : i < 13
  · exact mm_all (f := fun i => mm_oks i 0 (mm_code i)) ok_c_0 (by omega) (by omega)
  by_cases q13 : i < 34
  · exact mm_all (f := fun i => mm_oks i 0 (mm_code i)) ok_c_13 (by omega) (by omega)
  by_cases q34 : i < 47
  · exact mm_all (f := fun i => mm_oks i 0 (mm_code i)) ok_c_34 (by omega) (by omega)
  by_cases q47 : i < 65
  · exact mm_all (f := fun i => mm_oks i 0 (mm_code i)) ok_c_47 (by omega) (by omega)
  by_cases q65 : i < 78
  · exact mm_all (f := fun i => mm_oks i 0 (mm_code i)) ok_c_65 (by omega) (by omega)
  by_cases q78 : i < 88
  · exact mm_all (f := fun i => mm_oks i 0 (mm_code i)) ok_c_78 (by omega) (by omega)
  by_cases q88 : i < 97
  · exact mm_all (f := fun i => mm_oks i 0 (mm_code i)) ok_c_88 (by omega) (by omega)
  by_cases q97 : i < 112
  · exact mm_all (f := fun i => mm_oks i 0 (mm_code i)) ok_c_97 (by omega) (by omega)
  by_cases q112 : i < 124
  · exact mm_all (f := fun i => mm_oks i 0 (mm_code i)) ok_c_112 (by omega) (by omega)
  by_cases q124 : i < 134
  · exact mm_all (f := fun i => mm_oks i 0 (mm_code i)) ok_c_124 (by omega) (by omega)
  by_cases q134 : i < 144
  · exact mm_all (f := fun i => mm_oks i 0 (mm_code i)) ok_c_134 (by omega) (by omega)
  by_cases q144 : i < 155
  · exact mm_all (f := fun i => mm_oks i 0 (mm_code i)) ok_c_144 (by omega) (by omega)
  by_cases q155 : i < 166
  · exact mm_all (f := fun i => mm_oks i 0 (mm_code i)) ok_c_155 (by omega) (by omega)
  by_cases q166 : i < 170
  · exact mm_all (f := fun i => mm_oks i 0 (mm_code i)) ok_c_166 (by omega) (by omega)
  exact mm_all (f := fun i => mm_oks i 0 (mm_code i)) ok_c_170 (by omega) (by omega)
theorem mm_okW : ∀ i, i < 175 → mm_okw i = true := by
  intro i hi
  by_cases q0 : i < 25
  · exact mm_all (f := fun i => mm_okw i) ok_w_0 (by omega) (by omega)
  by_cases q25 : i < 50
  · exact mm_all (f := fun i => mm_okw i) ok_w_25 (by omega) (by omega)
  by_cases q50 : i < 75
  · exact mm_all (f := fun i => mm_okw i) ok_w_50 (by omega) (by omega)
  by_cases q75 : i < 100
  · exact mm_all (f := fun i => mm_okw i) ok_w_75 (by omega) (by omega)
  by_cases q100 : i < 125
  · exact mm_all (f := fun i => mm_okw i) ok_w_100 (by omega) (by omega)
  by_cases q125 : i < 150
  · exact mm_all (f := fun i => mm_okw i) ok_w_125 (by omega) (by omega)
  exact mm_all (f := fun i => mm_okw i) ok_w_150 (by omega) (by omega)
set_option maxRecDepth 100000 in
theorem mm_okL : mm_oks 175 0 (mm_code 175) = true := mm_oks_app _ mc_La_law_7 0 (mm_oks_app _ mc_La_law_6 0 (mm_oks_app _ mc_La_law_5 0 (mm_oks_app _ mc_La_law_4 0 (mm_oks_app _ mc_La_law_3 0 (mm_oks_app _ mc_La_law_2 0 (mm_oks_app _ mc_La_law_1 0 (ok_l_0) ok_l_1) ok_l_2) ok_l_3) ok_l_4) ok_l_5) ok_l_6) ok_l_7
theorem mm_okA {i k : Nat} {q : mm_E} (hi : i < 176) (hq : (mm_code i)[k]? = some q) : mm_ok i k q = true := by
  have h := mm_oks_at (i := i) (mm_code i) 0 (by
    by_cases h : i < 175
    · exact mm_okI i h
    · have : i = 175 := by omega
      subst this
      exact mm_okL) k q hq
  rwa [Nat.zero_add] at h
theorem mm_pc0 : ∀ j, j < 175 → mm_pc j 0 = 0 := by decide +kernel
theorem mm_wJ {j : Nat} (hj : j < 175) : Cond.code (mm_y j) (mm_by j) (mm_mx j) (mm_re (mm_rt j)) ∈ mm_T0 ∧ Cond.initialized (mm_y j).cls ∈ mm_T0 ∧ plainFor (mm_y j) = true ∧ (parseMethodDescriptor (mm_y j).desc).map (fun d => d.parameters.length) = some (bif mm_sta j then mm_na j else mm_na j - 1) ∧ ((mm_y j).cls ≠ "java/lang/invoke/MethodHandle" ∧ (mm_y j).cls ≠ "java/lang/invoke/VarHandle") := by
  have h := mm_okW j hj
  unfold mm_okw at h
  simp only [Bool.and_eq_true, decide_eq_true_eq] at h
  obtain ⟨⟨h1, h2⟩, ⟨h3, h4⟩, h5, h6⟩ := h
  exact ⟨mm_has_in h1, mm_has_in h2, h3, h4, h5, h6⟩
/-- the variables at a method's entry -/
theorem mm_flat_at (ad : Nat → Nat) : ∀ (as : List Value) (b n : Nat) (v : Value), (mm_flat as)[n]? = some v → v ≠ .null → (b + n, mm_mv ad v) ∈ lv_args b (as.map (mm_mv ad)) := by
  intro as
  induction as with
  | nil => intro b n v h; simp [mm_flat] at h
  | cons a r ih =>
    intro b n v h hv
    have two : a.category = 2 → mm_flat (a :: r) = a :: .null :: mm_flat r → (b + n, mm_mv ad v) ∈ lv_args b ((a :: r).map (mm_mv ad)) := by
      intro hc hf
      rw [hf] at h
      show _ ∈ (b, mm_mv ad a) :: lv_args (if (mm_mv ad a).category = 2 then b + 2 else b + 1) (r.map (mm_mv ad))
      rw [mm_mv_cat, if_pos hc]
      match n, h with
      | 0, h => simp at h; subst h; exact List.mem_cons_self
      | 1, h => simp at h; exact absurd h.symm hv
      | n + 2, h =>
        refine List.mem_cons_of_mem _ ?_
        have := ih (b + 2) n v (by simpa using h) hv
        rwa [show b + 2 + n = b + (n + 2) by omega] at this
    have one : a.category ≠ 2 → mm_flat (a :: r) = a :: mm_flat r → (b + n, mm_mv ad v) ∈ lv_args b ((a :: r).map (mm_mv ad)) := by
      intro hc hf
      rw [hf] at h
      show _ ∈ (b, mm_mv ad a) :: lv_args (if (mm_mv ad a).category = 2 then b + 2 else b + 1) (r.map (mm_mv ad))
      rw [mm_mv_cat, if_neg hc]
      match n, h with
      | 0, h => simp at h; subst h; exact List.mem_cons_self
      | n + 1, h =>
        refine List.mem_cons_of_mem _ ?_
        have := ih (b + 1) n v (by simpa using h) hv
        rwa [show b + 1 + n = b + (n + 1) by omega] at this
    cases a with
    | long x => exact two rfl rfl
    | double x => exact two rfl rfl
    | int x => exact one (by simp [Value.category]) rfl
    | float x => exact one (by simp [Value.category]) rfl
    | null => exact one (by simp [Value.category]) rfl
    | ref x => exact one (by simp [Value.category]) rfl
    | retAddr x => exact one (by simp [Value.category]) rfl
theorem mm_flat_len (ad : Nat → Nat) : ∀ as : List Value, (lg_sl (as.map (mm_mv ad))).length = (mm_flat as).length := by
  intro as
  induction as with
  | nil => rfl
  | cons a r ih =>
    have e : lg_sl ((a :: r).map (mm_mv ad)) = (if a.category = 2 then [.val (mm_mv ad a), .second] else [.val (mm_mv ad a)]) ++ lg_sl (r.map (mm_mv ad)) := by
      simp [lg_sl, mm_mv_cat]
    rw [e, List.length_append, ih]
    cases a <;> simp [Value.category, mm_flat] <;> omega
theorem mm_pad_len : ∀ (l : List Value) (n : Nat), l.length ≤ n → (mm_pad l n).length = n := by
  intro l n
  induction n generalizing l with
  | zero => intro h; cases l with
    | nil => rfl
    | cons a r => simp at h
  | succ n ih => intro h; cases l with
    | nil => simp [mm_pad, ih [] (by simp)]
    | cons a r => simp [mm_pad, ih r (by simpa using h)]
theorem mm_pad_at : ∀ (l : List Value) (n k : Nat) (v : Value), (mm_pad l n)[k]? = some v → v ≠ .null → l[k]? = some v := by
  intro l n
  induction n generalizing l with
  | zero => intro k v h hv; cases l with
    | nil => simp [mm_pad] at h
    | cons a r => exact h
  | succ n ih => intro k v h hv; cases l with
    | nil =>
      cases k with
      | zero => simp [mm_pad] at h; exact absurd h.symm hv
      | succ k => have := ih [] k v (by simpa [mm_pad] using h) hv; simp at this
    | cons a r =>
      cases k with
      | zero => simpa [mm_pad] using h
      | succ k => simpa using ih r k v (by simpa [mm_pad] using h) hv
theorem mm_lok_ent {ad : Nat → Nat} {j : Nat} {as : List Value} (hf : mm_fit j as = true) : mm_lok ad ((lg_sl (as.map (mm_mv ad)) ++ List.replicate (mm_mx j - (lg_sl (as.map (mm_mv ad))).length) Slot.unset).toArray) (mm_mx j) (mm_ent j as) := by
  have hf : (mm_flat as).length ≤ mm_mx j := Nat.le_of_ble_eq_true hf
  have h := lv_entry (as.map (mm_mv ad)) (n := mm_mx j) (by rw [mm_flat_len]; exact hf)
  refine ⟨h.1, h.2.1, mm_pad_len _ _ hf, fun n v hv hn => ?_⟩
  have := mm_flat_at ad as 0 n v (mm_pad_at _ _ _ _ hv hn) hn
  rw [Nat.zero_add] at this
  exact h.2.2 _ this
def mm_rok (i : Nat) (r : mm_R) (pc : Nat) : Prop := (mm_rt i = 0 ∧ decode (mm_by i) pc = .ok (.return_, 1)) ∨ (mm_rt i = 1 ∧ decode (mm_by i) pc = .ok (.ireturn, 1)) ∨ (mm_rt i = 2 ∧ decode (mm_by i) pc = .ok (.ireturn, 1) ∧ (r.1.1 = 0 ∨ r.1.1 = 1)) ∨ (mm_rt i = 3 ∧ decode (mm_by i) pc = .ok (.lreturn, 1)) ∨ (mm_rt i = 4 ∧ decode (mm_by i) pc = .ok (.areturn, 1))
theorem mm_tsw_ok {i pc : Nat} {x : Int32} {d : Nat} {K : Nat → Option mm_R} {r : mm_R} : ∀ (sw : List (Int32 × Nat)) (lo : Int) (offs : List Int), mm_tsw i pc lo offs sw = true → mm_swc K x d sw = some r → (∃ (n : Nat) (off : Int) (t : Nat), n < sw.length ∧ x.toInt = lo + n ∧ offs[n]? = some off ∧ (pc : Int) + off = (mm_pc i t : Int) ∧ K t = some r) ∨ ((∀ n : Nat, n < sw.length → x.toInt ≠ lo + n) ∧ K d = some r) := by
  intro sw
  induction sw with
  | nil => intro lo offs _ h; exact Or.inr ⟨fun n hn => by simp at hn, h⟩
  | cons q sw ih =>
    intro lo offs ht h
    obtain ⟨y, t⟩ := q
    cases offs with
    | nil => simp [mm_tsw] at ht
    | cons o os =>
      unfold mm_tsw at ht
      simp only [Bool.and_eq_true, decide_eq_true_eq] at ht
      obtain ⟨⟨h1, h2⟩, h3⟩ := ht
      by_cases hx : x = y
      · left
        refine ⟨0, o, t, by simp, by rw [hx, h1]; simp, rfl, mm_tg_pc h2, ?_⟩
        simpa [mm_swc, hx] using h
      · have h' : mm_swc K x d sw = some r := by simpa [mm_swc, hx] using h
        rcases ih (lo + 1) os h3 h' with ⟨n, off, t2, a1, a2, a3, a4, a5⟩ | ⟨a1, a2⟩
        · left
          refine ⟨n + 1, off, t2, by simp; omega, by rw [a2]; push_cast; omega, by simpa using a3, a4, a5⟩
        · right
          refine ⟨fun n hn => ?_, a2⟩
          cases n with
          | zero =>
            intro q
            apply hx
            apply Int32.toInt_inj.mp
            rw [h1, q]
            simp
          | succ n =>
            have := a1 n (by simpa using hn)
            intro q
            apply this
            rw [q]
            push_cast
            omega
theorem mm_lsw_ok {i pc : Nat} {x : Int32} {d : Nat} {dflt : Int} {K : Nat → Option mm_R} {r : mm_R} (hd : (pc : Int) + dflt = (mm_pc i d : Int)) : ∀ (sw : List (Int32 × Nat)) (ps : List (Int × Int)), mm_lsw i pc ps sw = true → mm_swc K x d sw = some r → ∃ (off : Int) (t : Nat), Op.lookupswitch.offset ps dflt x.toInt = off ∧ (pc : Int) + off = (mm_pc i t : Int) ∧ K t = some r := by
  intro sw
  induction sw with
  | nil =>
    intro ps h1 h2
    cases ps with
    | nil => exact ⟨dflt, d, rfl, hd, h2⟩
    | cons q ps => obtain ⟨a, o⟩ := q; simp [mm_lsw] at h1
  | cons q sw ih =>
    intro ps ht h
    obtain ⟨y, t⟩ := q
    cases ps with
    | nil => simp [mm_lsw] at ht
    | cons q ps =>
      obtain ⟨a, o⟩ := q
      unfold mm_lsw at ht
      simp only [Bool.and_eq_true, decide_eq_true_eq] at ht
      obtain ⟨⟨h1, h2⟩, h3⟩ := ht
      by_cases hx : x = y
      · refine ⟨o, t, ?_, mm_tg_pc h2, by simpa [mm_swc, hx] using h⟩
        rw [hx, h1]
        simp [Op.lookupswitch.offset]
      · obtain ⟨off, t2, b1, b2, b3⟩ := ih ps h3 (by simpa [mm_swc, hx] using h)
        exact ⟨off, t2, by rw [lv_osw hx h1]; exact b1, b2, b3⟩

theorem mm_acp : Cond.native arraycopyName ∈ mm_T0 ∧ Cond.static arraycopyName ∈ mm_T0 ∧ Cond.initialized "java/lang/System" ∈ mm_T0 := by decide +kernel
set_option maxHeartbeats 4000000 in
set_option maxRecDepth 100000 in
theorem mm_walk {l : Launch} {D : va_G} {ad : Nat → Nat} {cI cS : ClassId} {A : Nat → Prop} {sc : Nat × (Nat → Int32)} (hinj : ∀ i j, i < 63 → j < 63 → ad i = ad j → i = j) (hA : ∀ k, k < 63 → A (ad k)) : ∀ (n i k : Nat) (ls st : List Value) (h : mm_H) (r : mm_R), mm_ex sc n i k ls st h = some r → i < 176 →
    ∀ (p : Program) (e : Env) (R : Room) (s : State) (m : MethodId) (args : Array Value) (below : List Frame) (meth : Method) (c : Code) (cells slots : Nat) (Q : State → Prop), mm_Cx p R s m args c cells slots i → mm_Env D ad cI cS A sc s →
    (∀ (H : Heap) (locs : List Loc) (lsA : Array Slot) (pc : Nat), va_P D vwCl (mm_ws ad cI cS r.2) H → va_S A s.heap H locs → mm_rok i r pc → W p l e R s m args below meth c H locs cells slots Q (F0 m pc lsA ((mm_rv (mm_rt i) r).map (mm_mv ad)))) → mm_Ct p l e R s m args below meth c cells slots Q D ad cI cS A i k ls st h := by
  intro n
  induction n with
  | zero => intro i k ls st h r hex; cases hex
  | succ n ih =>
    have hMet : ∀ (j : Nat) (as : List Value) (h0 : mm_H) (u : mm_R), (bif mm_fit j as then mm_ex sc n j 0 (mm_ent j as) [] h0 else none) = some u → j < 175 → Met l (mm_y j) (mm_wsJ j) (mm_rmR j) (mm_Pre D ad cI cS A sc as h0) (mm_Post D ad cI cS A j u) 0 0 A := by
      intro j as h0 u hx hj
      rcases mm_cond_some hx with ⟨hfit, hx⟩ | ⟨_, q⟩
      · obtain ⟨w1, w2, w3, w4, w5⟩ := mm_wJ hj
        refine va_MetF (cc := mm_by j) (maxL := mm_mx j) (ret := mm_re (mm_rt j)) w3 rfl ?_
        intro p e s m args below meth c s₁ B hml hv
        obtain ⟨rfl, hP, hE⟩ := hv
        rw [lg_entry_eq]
        have hts := atoms_spec (ws := mm_wsJ j) B.pre
        have hlocks := B.notSynchronized
        have hr := B.returns
        have hCx : mm_Cx p (headSpec (mm_wsJ j) (mm_rmR j)).room s m (as.map (mm_mv ad)).toArray c 0 0 j := ⟨B.exec, B.bytes, hml, findClass_of_methodNamed B.named, fun w hw => hts w (List.mem_cons_of_mem _ hw), ⟨Nat.le_refl _, Nat.le_refl _⟩, Nat.zero_le _, Nat.zero_le _⟩
        have w := ih j 0 (mm_ent j as) [] h0 u hx (by omega) p e (headSpec (mm_wsJ j) (mm_rmR j)).room s m (as.map (mm_mv ad)).toArray below meth c 0 0 (MQ below (mm_Post D ad cI cS A j u) (as.map (mm_mv ad)).toArray s 0 0 A) hCx hE ?_ s.heap [] _ (mm_lok_ent hfit) hP va_S.rf
        · rw [mm_pc0 j hj] at w
          exact w
        · intro H locs lsA pc hP1 hS1 hrok
          have fin : ∀ v : Option Value, (mm_rq (mm_rt j) u).map (mm_mv ad) = v → ∀ t : State, t.heap = H → s.WarmedH t.vm → mm_Post D ad cI cS A j u (as.map (mm_mv ad)).toArray s (.returned v) t := fun v hv t ht _ => ⟨by rw [hv], by rw [ht]; exact hP1, hS1.F ht⟩
          rcases hrok with ⟨e1, hd⟩ | ⟨e1, hd⟩ | ⟨e1, hd, hz⟩ | ⟨e1, hd⟩ | ⟨e1, hd⟩
          · rw [e1]
            exact W.vret B.exec B.bytes (by rw [hr, e1]; rfl) (fin none (by rw [e1]; rfl)) hS1.2.2 hd
          · rw [e1]
            exact W.iret (v := u.1.1) B.exec B.bytes (by rw [hr, e1]; rfl) (fin _ (by rw [e1]; rfl)) hS1.2.2 hd
          · rw [e1]
            exact W.zret (v := u.1.1) (ty := .boolean) B.exec B.bytes (by rw [hr, e1]; rfl) (by rcases hz with q | q <;> rw [q] <;> decide +kernel) (fin _ (by rw [e1]; rfl)) hS1.2.2 hd
          · rw [e1]
            exact W.lret (v := u.1.2.1) B.exec B.bytes (by rw [hr, e1]; rfl) (fin _ (by rw [e1]; rfl)) hS1.2.2 hd
          · rw [e1]
            exact W.aret (v := .ref (ad u.1.2.2)) (rt := .object "CommaChoir$Score") B.exec B.bytes (by rw [hr, e1]; rfl) (Or.inl ⟨_, rfl⟩) (Or.inr ⟨_, rfl⟩) (fin _ (by rw [e1]; rfl)) hS1.2.2 hd
      · cases q
    intro i k ls st h r hex hi p e R s m args below meth c cells slots Q hC hE K
    unfold mm_ex at hex
    cases hq : (mm_code i)[k]? with
    | none => rw [hq] at hex; cases hex
    | some q =>
      rw [hq] at hex
      have hok := mm_okA hi hq
      have hpc : mm_pc i k = q.1 := by
        unfold mm_pc
        rw [hq]
      have hE' : ∀ (k' : Nat) (ls' st' : List Value) (h' : mm_H), mm_ex sc n i k' ls' st' h' = some r → mm_Ct p l e R s m args below meth c cells slots Q D ad cI cS A i k' ls' st' h' := fun k' ls' st' h' x => ih i k' ls' st' h' r x hi p e R s m args below meth c cells slots Q hC hE K
      obtain ⟨pc, ins, len, ⟨a, b, f, d⟩, lit, sw⟩ := q
      cases ins with
      | aload z =>
        obtain ⟨hd, hn⟩ := ok_n (N := 2) hok
        obtain ⟨x, h1, h2⟩ := iv_aload hex
        exact sp_aload hC hpc hd hn h1 (hE' _ _ _ _ h2)
      | aload_n z =>
        obtain ⟨hd, hn⟩ := ok_n (N := 1) hok
        obtain ⟨x, h1, h2⟩ := iv_aload hex
        exact sp_aload_n hC hpc hd hn h1 (hE' _ _ _ _ h2)
      | iload z =>
        obtain ⟨hd, hn⟩ := ok_n (N := 2) hok
        obtain ⟨x, h1, h2⟩ := iv_iload hex
        exact sp_iload hC hpc hd hn h1 (hE' _ _ _ _ h2)
      | iload_n z =>
        obtain ⟨hd, hn⟩ := ok_n (N := 1) hok
        obtain ⟨x, h1, h2⟩ := iv_iload hex
        exact sp_iload_n hC hpc hd hn h1 (hE' _ _ _ _ h2)
      | lload z =>
        obtain ⟨hd, hn⟩ := ok_n (N := 2) hok
        obtain ⟨x, h1, h2⟩ := iv_lload hex
        exact sp_lload hC hpc hd hn h1 (hE' _ _ _ _ h2)
      | lload_n z =>
        obtain ⟨hd, hn⟩ := ok_n (N := 1) hok
        obtain ⟨x, h1, h2⟩ := iv_lload hex
        exact sp_lload_n hC hpc hd hn h1 (hE' _ _ _ _ h2)
      | astore z =>
        obtain ⟨hd, hn⟩ := ok_n (N := 2) hok
        obtain ⟨x, st', rfl, h1, h2⟩ := iv_astore hex
        exact sp_astore hC hpc hd hn h1 (hE' _ _ _ _ h2)
      | astore_n z =>
        obtain ⟨hd, hn⟩ := ok_n (N := 1) hok
        obtain ⟨x, st', rfl, h1, h2⟩ := iv_astore hex
        exact sp_astore_n hC hpc hd hn h1 (hE' _ _ _ _ h2)
      | istore z =>
        obtain ⟨hd, hn⟩ := ok_n (N := 2) hok
        obtain ⟨x, st', rfl, h1, h2⟩ := iv_istore hex
        exact sp_istore hC hpc hd hn h1 (hE' _ _ _ _ h2)
      | istore_n z =>
        obtain ⟨hd, hn⟩ := ok_n (N := 1) hok
        obtain ⟨x, st', rfl, h1, h2⟩ := iv_istore hex
        exact sp_istore_n hC hpc hd hn h1 (hE' _ _ _ _ h2)
      | lstore z =>
        obtain ⟨hd, hn⟩ := ok_n (N := 2) hok
        obtain ⟨x, st', rfl, h1, h2⟩ := iv_lstore hex
        exact sp_lstore hC hpc hd hn h1 (hE' _ _ _ _ h2)
      | lstore_n z =>
        obtain ⟨hd, hn⟩ := ok_n (N := 1) hok
        obtain ⟨x, st', rfl, h1, h2⟩ := iv_lstore hex
        exact sp_lstore_n hC hpc hd hn h1 (hE' _ _ _ _ h2)
      | iconst z =>
        obtain ⟨hd, hn, hv⟩ := ok_x (N := 1) hok
        exact sp_iconst hC hpc hd hn (of_decide_eq_true hv) (hE' _ _ _ _ hex)
      | bipush z =>
        obtain ⟨hd, hn, hv⟩ := ok_x (N := 2) hok
        exact sp_bipush hC hpc hd hn (of_decide_eq_true hv) (hE' _ _ _ _ hex)
      | sipush z =>
        obtain ⟨hd, hn, hv⟩ := ok_x (N := 3) hok
        exact sp_sipush hC hpc hd hn (of_decide_eq_true hv) (hE' _ _ _ _ hex)
      | ldc z =>
        obtain ⟨hd, hn, hv⟩ := ok_x (N := 2) hok
        exact sp_ldc hC hpc hd hn (mm_has_in hv) (hE' _ _ _ _ hex)
      | ldc2_w z =>
        obtain ⟨hd, hn, hv⟩ := ok_x (N := 3) hok
        exact sp_ldc2 hC hpc hd hn (mm_has_in hv) (hE' _ _ _ _ hex)
      | iinc z y =>
        obtain ⟨hd, hn, hv⟩ := ok_x (N := 3) hok
        obtain ⟨x, h1, h2⟩ := iv_iinc hex
        exact sp_iinc hC hpc hd hn (of_decide_eq_true hv) h1 (hE' _ _ _ _ h2)
      | iadd =>
        obtain ⟨hd, hn⟩ := ok_n (N := 1) hok
        obtain ⟨x, y, st', rfl, h1⟩ := iv_bin hex
        exact sp_iadd hC hpc hd hn (hE' _ _ _ _ h1)
      | isub =>
        obtain ⟨hd, hn⟩ := ok_n (N := 1) hok
        obtain ⟨x, y, st', rfl, h1⟩ := iv_bin hex
        exact sp_isub hC hpc hd hn (hE' _ _ _ _ h1)
      | imul =>
        obtain ⟨hd, hn⟩ := ok_n (N := 1) hok
        obtain ⟨x, y, st', rfl, h1⟩ := iv_bin hex
        exact sp_imul hC hpc hd hn (hE' _ _ _ _ h1)
      | iand =>
        obtain ⟨hd, hn⟩ := ok_n (N := 1) hok
        obtain ⟨x, y, st', rfl, h1⟩ := iv_bin hex
        exact sp_iand hC hpc hd hn (hE' _ _ _ _ h1)
      | ixor =>
        obtain ⟨hd, hn⟩ := ok_n (N := 1) hok
        obtain ⟨x, y, st', rfl, h1⟩ := iv_bin hex
        exact sp_ixor hC hpc hd hn (hE' _ _ _ _ h1)
      | idiv =>
        obtain ⟨hd, hn⟩ := ok_n (N := 1) hok
        obtain ⟨x, y, st', rfl, h0, h1⟩ := iv_dv hex
        exact sp_idiv hC hpc hd hn h0 (hE' _ _ _ _ h1)
      | irem =>
        obtain ⟨hd, hn⟩ := ok_n (N := 1) hok
        obtain ⟨x, y, st', rfl, h0, h1⟩ := iv_dv hex
        exact sp_irem hC hpc hd hn h0 (hE' _ _ _ _ h1)
      | ladd =>
        obtain ⟨hd, hn⟩ := ok_n (N := 1) hok
        obtain ⟨x, y, st', rfl, h1⟩ := iv_lbin hex
        exact sp_ladd hC hpc hd hn (hE' _ _ _ _ h1)
      | lmul =>
        obtain ⟨hd, hn⟩ := ok_n (N := 1) hok
        obtain ⟨x, y, st', rfl, h1⟩ := iv_lbin hex
        exact sp_lmul hC hpc hd hn (hE' _ _ _ _ h1)
      | ineg =>
        obtain ⟨hd, hn⟩ := ok_n (N := 1) hok
        obtain ⟨x, st', rfl, h1⟩ := iv_neg hex
        exact sp_ineg hC hpc hd hn (hE' _ _ _ _ h1)
      | i2l =>
        obtain ⟨hd, hn⟩ := ok_n (N := 1) hok
        obtain ⟨x, st', rfl, h1⟩ := iv_i2l hex
        exact sp_i2l hC hpc hd hn (hE' _ _ _ _ h1)
      | pop =>
        obtain ⟨hd, hn⟩ := ok_n (N := 1) hok
        obtain ⟨x, st', rfl, h1⟩ := iv_pop hex
        exact sp_pop hC hpc hd hn (hE' _ _ _ _ h1)
      | lcmp =>
        obtain ⟨hd, hn⟩ := ok_n (N := 1) hok
        obtain ⟨x, y, st', rfl, h1⟩ := iv_lcmp hex
        exact sp_lcmp hC hpc hd hn (hE' _ _ _ _ h1)
      | dup =>
        obtain ⟨hd, hn⟩ := ok_n (N := 1) hok
        obtain ⟨v, st', rfl, h0, h1⟩ := iv_dup hex
        exact sp_dup hC hpc hd hn h0 (hE' _ _ _ _ h1)
      | dup2 =>
        obtain ⟨hd, hn⟩ := ok_n (N := 1) hok
        obtain ⟨y, x, st', rfl, h1⟩ := iv_dup2 hex
        exact sp_dup2 hC hpc hd hn (hE' _ _ _ _ h1)
      | goto off =>
        have hok' : (decide (decode (mm_by i) pc = .ok (.goto off, len)) && (Nat.beq len 3 && mm_tg i a pc off)) = true := hok
        simp only [Bool.and_eq_true, decide_eq_true_eq] at hok'
        obtain ⟨h1, h2, h3⟩ := hok'
        have := Nat.eq_of_beq_eq_true h2
        subst this
        exact sp_goto hC hpc h1 (mm_tg_pc h3) (hE' _ _ _ _ hex)
      | if_icmp cnd off =>
        obtain ⟨hd, hn, ht⟩ := ok_x (N := 3) hok
        obtain ⟨x, y, st', rfl⟩ := iv_if2 hex
        cases cnd with
        | eq => exact sp_if_icmp_eq hC hpc hd hn (mm_tg_pc ht) (fun q => hE' _ _ _ _ ((iv_br hex).1 q)) (fun q => hE' _ _ _ _ ((iv_br hex).2 q))
        | ne => exact sp_if_icmp_ne hC hpc hd hn (mm_tg_pc ht) (fun q => hE' _ _ _ _ ((iv_br hex).1 q)) (fun q => hE' _ _ _ _ ((iv_br hex).2 q))
        | lt => exact sp_if_icmp_lt hC hpc hd hn (mm_tg_pc ht) (fun q => hE' _ _ _ _ ((iv_br hex).1 q)) (fun q => hE' _ _ _ _ ((iv_br hex).2 q))
        | ge => exact sp_if_icmp_ge hC hpc hd hn (mm_tg_pc ht) (fun q => hE' _ _ _ _ ((iv_br hex).1 q)) (fun q => hE' _ _ _ _ ((iv_br hex).2 q))
        | gt => exact sp_if_icmp_gt hC hpc hd hn (mm_tg_pc ht) (fun q => hE' _ _ _ _ ((iv_br hex).1 q)) (fun q => hE' _ _ _ _ ((iv_br hex).2 q))
        | le => exact sp_if_icmp_le hC hpc hd hn (mm_tg_pc ht) (fun q => hE' _ _ _ _ ((iv_br hex).1 q)) (fun q => hE' _ _ _ _ ((iv_br hex).2 q))
      | ifCond cnd off =>
        obtain ⟨hd, hn, ht⟩ := ok_x (N := 3) hok
        obtain ⟨x, st', rfl⟩ := iv_if1 hex
        cases cnd with
        | eq => exact sp_ifCond_eq hC hpc hd hn (mm_tg_pc ht) (fun q => hE' _ _ _ _ ((iv_br hex).1 q)) (fun q => hE' _ _ _ _ ((iv_br hex).2 q))
        | ne => exact sp_ifCond_ne hC hpc hd hn (mm_tg_pc ht) (fun q => hE' _ _ _ _ ((iv_br hex).1 q)) (fun q => hE' _ _ _ _ ((iv_br hex).2 q))
        | lt => exact sp_ifCond_lt hC hpc hd hn (mm_tg_pc ht) (fun q => hE' _ _ _ _ ((iv_br hex).1 q)) (fun q => hE' _ _ _ _ ((iv_br hex).2 q))
        | ge => exact sp_ifCond_ge hC hpc hd hn (mm_tg_pc ht) (fun q => hE' _ _ _ _ ((iv_br hex).1 q)) (fun q => hE' _ _ _ _ ((iv_br hex).2 q))
        | gt => exact sp_ifCond_gt hC hpc hd hn (mm_tg_pc ht) (fun q => hE' _ _ _ _ ((iv_br hex).1 q)) (fun q => hE' _ _ _ _ ((iv_br hex).2 q))
        | le => exact sp_ifCond_le hC hpc hd hn (mm_tg_pc ht) (fun q => hE' _ _ _ _ ((iv_br hex).1 q)) (fun q => hE' _ _ _ _ ((iv_br hex).2 q))
      | getfield z =>
        obtain ⟨hd, hn, hf⟩ := ok_x (N := 3) hok
        obtain ⟨x, st', rfl, h1, h2⟩ := iv_get hex
        exact sp_get hC hE hpc hd hn hf h1 (hE' _ _ _ _ h2)
      | putfield z =>
        have hok' : (decide (decode (mm_by i) pc = .ok (.putfield z, len)) && (((Nat.beq len 3 && mm_nx i (k + 1) (pc + 3)) && mm_fin a d) && mm_fld i z a b f d)) = true := hok
        simp only [Bool.and_eq_true, decide_eq_true_eq] at hok'
        obtain ⟨h1, ⟨⟨h2, h3⟩, h4⟩, h5⟩ := hok'
        have := Nat.eq_of_beq_eq_true h2
        subst this
        obtain ⟨v, x, st', rfl, g1, g2⟩ := iv_put hex
        rcases g2 with ⟨w, e1, e2, e3⟩ | ⟨w, e1, e2, e3⟩ | ⟨w, e1, e2, e3⟩
        · exact sp_put hC hE hinj hA hpc h1 (mm_nx_pc h3) h4 h5 g1 (Or.inl ⟨e1, w, e2, rfl⟩) (hE' _ _ _ _ e3)
        · exact sp_put hC hE hinj hA hpc h1 (mm_nx_pc h3) h4 h5 g1 (Or.inr (Or.inl ⟨e1, w, e2, rfl⟩)) (hE' _ _ _ _ e3)
        · exact sp_put hC hE hinj hA hpc h1 (mm_nx_pc h3) h4 h5 g1 (Or.inr (Or.inr ⟨e1, w, e2, rfl⟩)) (hE' _ _ _ _ e3)
      | getstatic z =>
        obtain ⟨hd, hn, hf⟩ := ok_x (N := 3) hok
        simp only [Bool.or_eq_true, Bool.and_eq_true] at hf
        rcases hf with ⟨g1, g2⟩ | ⟨g1, g2⟩
        · have := Nat.eq_of_beq_eq_true g1
          have this : a = 63 := this
          subst this
          exact sp_getstatic hC hE.2.1 hpc hd hn (mm_has_in g2) (hE' _ _ _ _ hex)
        · have := Nat.eq_of_beq_eq_true g1
          have this : a = 64 := this
          subst this
          exact sp_getstatic hC hE.2.2.1 hpc hd hn (mm_has_in g2) (hE' _ _ _ _ hex)
      | iaload =>
        obtain ⟨hd, hn⟩ := ok_n (N := 1) hok
        obtain ⟨j, x, st', rfl, g1, g2, h1⟩ := iv_iald hex
        exact sp_iald hC hE hpc hd hn g1 g2 (hE' _ _ _ _ h1)
      | iastore =>
        obtain ⟨hd, hn⟩ := ok_n (N := 1) hok
        obtain ⟨v, j, x, st', rfl, g1, g2, h1⟩ := iv_iast hex
        exact sp_iast hC hE hinj hA hpc hd hn g1 g2 (hE' _ _ _ _ h1)
      | aaload =>
        obtain ⟨hd, hn⟩ := ok_n (N := 1) hok
        obtain ⟨j, x, st', rfl, g1, g2, h1⟩ := iv_aald hex
        exact sp_aald hC hE hpc hd hn g1 g2 (hE' _ _ _ _ h1)
      | aastore =>
        obtain ⟨hd, hn⟩ := ok_n (N := 1) hok
        obtain ⟨v, j, x, st', rfl, g1, g2, g3, h1⟩ := iv_aast hex
        exact sp_aast hC hE hinj hA hpc hd hn g1 g2 g3 (hE' _ _ _ _ h1)
      | arraylength =>
        obtain ⟨hd, hn⟩ := ok_n (N := 1) hok
        obtain ⟨x, st', rfl, g1, h1⟩ := iv_alen hex
        exact sp_alen hC hE hpc hd hn g1 (hE' _ _ _ _ h1)
      | tableswitch dflt lo hi offs =>
        have hok' : (decide (decode (mm_by i) pc = .ok (.tableswitch dflt lo hi offs, len)) && ((mm_tg i a pc dflt && decide (hi = lo + (sw.length : Int) - 1)) && mm_tsw i pc lo offs.toList sw)) = true := hok
        simp only [Bool.and_eq_true, decide_eq_true_eq] at hok'
        obtain ⟨h1, ⟨h2, h3⟩, h4⟩ := hok'
        obtain ⟨x, st', rfl, h5⟩ := iv_sw hex
        rcases mm_tsw_ok sw lo offs.toList h4 h5 with ⟨n2, off, t, g1, g2, g3, g4, g5⟩ | ⟨g1, g2⟩
        · intro H locs lsA hl hP hS
          have w := hE' _ _ _ _ g5 H locs lsA hl hP hS
          rw [hpc]
          refine lv_tableIn (off := off) hC.1 hC.2.1 h1 (by omega) (by omega) ?_ g4 w
          rw [← Array.getElem?_toList, show (x.toInt - lo).toNat = n2 by omega]
          exact g3
        · intro H locs lsA hl hP hS
          have w := hE' _ _ _ _ g2 H locs lsA hl hP hS
          rw [hpc]
          refine lv_tableOut hC.1 hC.2.1 h1 ?_ (mm_tg_pc h2) w
          by_cases q : x.toInt < lo
          · exact Or.inl q
          · right
            by_cases q2 : hi < x.toInt
            · exact q2
            · exact absurd (show x.toInt = lo + ((x.toInt - lo).toNat : Nat) by omega) (g1 _ (by omega))
      | lookupswitch dflt ps =>
        have hok' : (decide (decode (mm_by i) pc = .ok (.lookupswitch dflt ps, len)) && ((mm_tg i a pc dflt && (ps.toList.zip (ps.toList.drop 1)).all (fun (a, next) => a.1 < next.1)) && mm_lsw i pc ps.toList sw)) = true := hok
        rw [Bool.and_eq_true, Bool.and_eq_true, Bool.and_eq_true, decide_eq_true_eq] at hok'
        obtain ⟨h1, ⟨h2, h3⟩, h4⟩ := hok'
        obtain ⟨x, st', rfl, h5⟩ := iv_sw hex
        obtain ⟨off, t, g1, g2, g3⟩ := mm_lsw_ok (mm_tg_pc h2) sw ps.toList h4 h5
        intro H locs lsA hl hP hS
        have w := hE' _ _ _ _ g3 H locs lsA hl hP hS
        rw [hpc]
        exact lv_lookup hC.1 hC.2.1 h1 h3 g1 g2 w
      | invokevirtual z =>
        have hok' : (decide (decode (mm_by i) pc = .ok (.invokevirtual z, len)) && (((Nat.beq len 3 && mm_nx i (k + 1) (pc + 3)) && mm_cle i a f) && ((mm_has b (.methodLink (mm_y i).cls z (mm_y a)) && !mm_sta a) && (Nat.blt 9 d && (match vwCl[d - 10]? with | some (C, _, _) => decide (C = (mm_y a).cls) && (mm_has (mm_wp a).2.2.1 (.instanceMethod (mm_y a)) && mm_has (mm_wp a).2.2.2 (.selects C (mm_y a) (mm_y a))) | none => false))))) = true := hok
        simp only [Bool.and_eq_true, decide_eq_true_eq] at hok'
        obtain ⟨h1, ⟨⟨h2, h3⟩, h4⟩, ⟨h5, h6⟩, h7, h8⟩ := hok'
        have := Nat.eq_of_beq_eq_true h2
        subst this
        have h7 : 9 < d := by simpa using h7
        split at h8
        · next C T N hcl =>
          simp only [Bool.and_eq_true, decide_eq_true_eq] at h8
          obtain ⟨c1, c2, c3⟩ := h8
          unfold mm_cle at h4
          simp only [Bool.and_eq_true] at h4
          obtain ⟨⟨k1, k2, k3⟩, k4, k5⟩ := h4
          have k1 : a < 175 := by simpa using k1
          have k2 := Nat.eq_of_beq_eq_true k2
          obtain ⟨x, As, rest, u, rfl, g1, g2, g3, g4, g5⟩ := iv_inv1 h7 hex
          have g1 : As.length + 1 = f := g1
          obtain ⟨w1, w2, w3, w4, w5⟩ := mm_wJ k1
          have h6 : mm_sta a = false := by simpa using h6
          rw [h6] at w4
          exact sp_inv1 hC hE hpc h1 (mm_nx_pc h3) (hMet _ _ _ _ g4 k1) w1 (mm_has_in h5) (mm_has_in c2) (mm_has_in c3) w2 hcl c1 (by rw [g2]; omega) w5 (by rw [w4]; show some (mm_na a - 1) = _; congr 1; omega) (Nat.le_of_ble_eq_true k4) (Nat.le_of_ble_eq_true k5) g3 (hE' _ _ _ _ g5)
        · cases h8
      | invokestatic z =>
        cases d with
        | zero =>
          have hok' : (decide (decode (mm_by i) pc = .ok (.invokestatic z, len)) && ((Nat.beq len 3 && mm_nx i (k + 1) (pc + 3)) && ((mm_cle i a f && (mm_has (mm_wp a).2.2.1 (.static (mm_y a)) && mm_sta a)) && (mm_has b (.methodLink (mm_y i).cls z (mm_y a)) || (decide ((mm_y i).cls = "CommaChoir$Score") && (Nat.beq z 64 && decide (mm_y a = ⟨"CommaChoir", "isWithin", "(II)Z"⟩))))))) = true := hok
          simp only [Bool.and_eq_true, Bool.or_eq_true, decide_eq_true_eq] at hok'
          obtain ⟨h1, ⟨h2, h3⟩, ⟨h4, h5, h6⟩, h7⟩ := hok'
          have := Nat.eq_of_beq_eq_true h2
          subst this
          unfold mm_cle at h4
          simp only [Bool.and_eq_true] at h4
          obtain ⟨⟨k1, k2, k3⟩, k4, k5⟩ := h4
          have k1 : a < 175 := by simpa using k1
          have k2 := Nat.eq_of_beq_eq_true k2
          obtain ⟨As, rest, u, rfl, g1, g3, g4, g5⟩ := iv_inv0 hex
          have g1 : As.length = f := g1
          obtain ⟨w1, w2, w3, w4, w5⟩ := mm_wJ k1
          rw [h6] at w4
          exact sp_inv0 hC hE hpc h1 (mm_nx_pc h3) (hMet _ _ _ _ g4 k1) w1 (h7.imp mm_has_in (fun q => ⟨q.1, Nat.eq_of_beq_eq_true q.2.1, q.2.2⟩)) (mm_has_in h5) w2 w5 (by rw [w4]; show some (mm_na a) = _; congr 1; omega) (Nat.le_of_ble_eq_true k4) (Nat.le_of_ble_eq_true k5) g3 (hE' _ _ _ _ g5)
        | succ d =>
          have hok' : (decide (decode (mm_by i) pc = .ok (.invokestatic z, len)) && ((Nat.beq len 3 && mm_nx i (k + 1) (pc + 3)) && (mm_has b (.methodLink (mm_y i).cls z arraycopyName) && (Nat.ble 1 (mm_rm i).1 && Nat.ble 40 (mm_rm i).2)))) = true := hok
          simp only [Bool.and_eq_true, decide_eq_true_eq] at hok'
          obtain ⟨h1, ⟨h2, h3⟩, h4, h5, h6⟩ := hok'
          have := Nat.eq_of_beq_eq_true h2
          subst this
          obtain ⟨nn, dp, y, sp, x, st', rfl, g1, g2, g3, g4, g5, g6, g7, g8, g9⟩ := iv_cpy hex
          exact sp_cpy hC hE hinj hA hpc h1 (mm_nx_pc h3) (mm_has_in h4) mm_acp.1 mm_acp.2.1 mm_acp.2.2 (Nat.le_of_ble_eq_true h5) (Nat.le_of_ble_eq_true h6) g1 g2 g3 g4 g5 g6 g7 g8 (hE' _ _ _ _ g9)
      | ireturn =>
        have hok' : (decide (decode (mm_by i) pc = .ok (.ireturn, len)) && Nat.beq len 1) = true := hok
        simp only [Bool.and_eq_true, decide_eq_true_eq] at hok'
        obtain ⟨h1, h2⟩ := hok'
        have := Nat.eq_of_beq_eq_true h2
        subst this
        have hex' : mm_drv mm_rt (fun j as h => bif mm_fit j as then mm_ex sc n j 0 (mm_ent j as) [] h else none) (fun k ls st h => mm_ex sc n i k ls st h) h (mm_ret (mm_rt i) st h) = some r := hex
        unfold mm_ret at hex'
        split at hex'
        · next v =>
          split at hex'
          · next e =>
            cases hex'
            intro H locs lsA hl hP hS
            have w := K H locs lsA pc hP hS (Or.inr (Or.inl ⟨e, h1⟩))
            rw [hpc]
            rw [e] at w
            exact w
          · next e =>
            rcases mm_cond_some hex' with ⟨q1, q2⟩ | ⟨q1, q2⟩
            · cases q2
              intro H locs lsA hl hP hS
              have w := K H locs lsA pc hP hS (Or.inr (Or.inr (Or.inl ⟨e, h1, by simpa using q1⟩)))
              rw [hpc]
              rw [e] at w
              exact w
            · cases q2
          · cases hex'
        · cases hex'
      | lreturn =>
        have hok' : (decide (decode (mm_by i) pc = .ok (.lreturn, len)) && Nat.beq len 1) = true := hok
        simp only [Bool.and_eq_true, decide_eq_true_eq] at hok'
        obtain ⟨h1, h2⟩ := hok'
        have := Nat.eq_of_beq_eq_true h2
        subst this
        dsimp only [mm_act] at hex
        split at hex
        · rcases mm_cond_some hex with ⟨q1, q2⟩ | ⟨q1, q2⟩
          · cases q2
            have e := Nat.eq_of_beq_eq_true q1
            intro H locs lsA hl hP hS
            have w := K H locs lsA pc hP hS (Or.inr (Or.inr (Or.inr (Or.inl ⟨e, h1⟩))))
            rw [hpc]
            rw [e] at w
            exact w
          · cases q2
        · cases hex
      | areturn =>
        have hok' : (decide (decode (mm_by i) pc = .ok (.areturn, len)) && Nat.beq len 1) = true := hok
        simp only [Bool.and_eq_true, decide_eq_true_eq] at hok'
        obtain ⟨h1, h2⟩ := hok'
        have := Nat.eq_of_beq_eq_true h2
        subst this
        dsimp only [mm_act] at hex
        split at hex
        · rcases mm_cond_some hex with ⟨q1, q2⟩ | ⟨q1, q2⟩
          · cases q2
            have e := Nat.eq_of_beq_eq_true q1
            intro H locs lsA hl hP hS
            have w := K H locs lsA pc hP hS (Or.inr (Or.inr (Or.inr (Or.inr ⟨e, h1⟩))))
            rw [hpc]
            rw [e] at w
            exact w
          · cases q2
        · cases hex
      | return_ =>
        have hok' : (decide (decode (mm_by i) pc = .ok (.return_, len)) && Nat.beq len 1) = true := hok
        simp only [Bool.and_eq_true, decide_eq_true_eq] at hok'
        obtain ⟨h1, h2⟩ := hok'
        have := Nat.eq_of_beq_eq_true h2
        subst this
        dsimp only [mm_act] at hex
        split at hex
        · rcases mm_cond_some hex with ⟨q1, q2⟩ | ⟨q1, q2⟩
          · cases q2
            have e := Nat.eq_of_beq_eq_true q1
            intro H locs lsA hl hP hS
            have w := K H locs lsA pc hP hS (Or.inl ⟨e, h1⟩)
            rw [hpc]
            rw [e] at w
            exact w
          · cases q2
        · cases hex
      | _ => cases hex
