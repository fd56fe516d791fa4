def lw_P (b : Addr) (xs : List Int32) (args : Array Value) (s : State) : Prop := args = #[.ref b] ∧ s.IntsAt b xs ∧ xs.length ≤ 3072 ∧ (Jvm.Cond.and given_1 narrow_1).before args s = true
def lw_Q (_ : Array Value) (s : State) (o : Outcome) (t : State) : Prop := o = .returned (some (.int 1)) ∧ Framed s o t [] 64 35034
def lw_Z (below : List Frame) (a : Array Value) (s : State) : State → Prop := fun t => ∃ o, t.status = .running ∧ Ended t below o ∧ lw_Q a s o t
/-- the law's own end, with 1 on the stack, nothing written that was there before, its room as the claim has it -/
theorem lw_ret {p : Program} {l : Launch} {e : Env} {s : State} {m : MethodId} {below : List Frame} {meth : Method} {c : Code} {b : Nat} (hx : p.tables.exec = Jvm.exec) (hb : c.code = code) (hr : meth.sig.returnType = ret) (hlocks : meth.locks = false) {pc : Nat} {H : Heap} {ls : Array Slot} (hdg : decode code pc = .ok (.ireturn, 1)) : W p l e room_1 s m #[Value.ref b] below meth c H [] 64 35034 (lw_Z below #[Value.ref b] s) (F0 m pc ls [.int 1]) := by
  intro T hT X
  obtain ⟨fs, hret, hrun, hended, hW, hframe⟩ := X.leave (v := some (.int 1)) (hlocks := hlocks) (fun h => by rw [hr] at h; cases h)
  have hmeth' : T.vm.method? m = some meth := X.method'
  refine ⟨T.setFrames fs, ?_, .returned (some (.int 1)), hrun, hended, rfl, ⟨_, rfl⟩, hW, hframe⟩
  jvm_step X.here [X.here.top, hx, hb, hdg, hmeth', hr, ret, narrow_b1]
  (try refine ⟨rfl, ?_⟩); (try refine ⟨rfl, ?_⟩)
  first | (intro acts; rw [hret _ acts rfl rfl rfl]) | rw [hret _ _ rfl rfl rfl]
  exact Steps.refl _
/-- what holds at the law's entry: the machine, the code, the tables' words (any of lw_tbl by 'hts w (by decide +kernel)'), the script of L ints xs at the cell b, what the Statement gives of the start (any of its parts by flat_of_before) -/
def lw_At (p : Program) (s : State) (m : MethodId) (meth : Method) (c : Code) (b L : Nat) (xs : Nat → Int32) : Prop :=
  p.tables.exec = Jvm.exec ∧ c.code = code ∧ meth.sig.returnType = ret ∧ c.maxLocals = 4 ∧ s.vm.findClass R_law = some m.cls ∧ (∀ w ∈ lw_tbl, w.before #[Value.ref b] s = true) ∧ va_X b L xs s s.heap ∧ b < s.heap.size ∧ meth.locks = false ∧ (Jvm.Cond.and given_1 narrow_1).before #[Value.ref b] s = true

/-! the claim out of a property that every call keeps -/
def ja_Le : ja_L := (0, 0, (fun _ => (0, 0)), fun _ _ => none)
def ja_S0 : ja_S := (fun _ _ => 0, fun _ _ => 0)
def ja_L1 : ja_L := ja_Ln ja_Le 7 12
def ja_L2 : ja_L := ja_Ln (li_Frame 0 ja_L1) 8 42
def ja_S1 : ja_S := ja_Sn (si_Frame 0 1 (ja_Sn ja_S0 0)) 45
theorem ja_L2_1 : ja_L2.1 = 46 := by decide +kernel
set_option maxRecDepth 100000 in
theorem ja_L2_ok : ja_L0.1 = (li_Model 45 ja_L2).1 ∧ ja_L0.2.1 = (li_Model 45 ja_L2).2.1 ∧ ∀ i, i < (li_Model 45 ja_L2).1 → ja_L0.2.2.1 i = (li_Model 45 ja_L2).2.2.1 i ∧ ∀ j, j < 42 → ja_L0.2.2.2 i j = (li_Model 45 ja_L2).2.2.2 i j := by decide +kernel
set_option maxHeartbeats 4000000 in
theorem whole_of (P : ja_S → Prop) (w0 : ja_S) (h0 : f_Model_usesSheet 45 (si_Model 45 46 ja_S1) = some w0) (hp0 : P w0) (hstep : ∀ (n : Nat) (a : Nat → Int32) (sg : ja_S), n < 64 → P sg → ∃ sg2, ja_case n a sg = some sg2 ∧ P sg2)
    {p : Program} {e : Env} {s : State} {m : MethodId} {below : List Frame} {meth : Method} {c : Code} (l : Launch) {b L : Nat} {xs : Nat → Int32} (hL : L ≤ 3072) (C0 : lw_At p s m meth c b L xs) : W p l e room_1 s m #[Value.ref b] below meth c s.heap [] 0 0 (lw_Z below #[Value.ref b] s) (entryFrame m ([Value.ref b] : List Value).toArray 4) := by
  obtain ⟨hx, hb, hr, hml, hown, hts, hX, hbl, hlocks, hgv⟩ := C0
  have hN : narrow_1.before #[Value.ref b] s = true := ja_y hgv
  have htb : ∀ w ∈ ja_tb, w.before #[Value.ref b] s = true := fun w hw => hts w (List.mem_filter.mp hw).1
  obtain ⟨c0, iS0, hKn0⟩ := u_known (C := R_History) (T := F_History) (N := 7) (n := 7) htb i_History (htb (.instantiable R_History 7) (ja_m1 110 rfl rfl))
  obtain ⟨c1, iS1, hKn1⟩ := u_known (C := R_LockPlanner) (T := F_LockPlanner) (N := 4) (n := 4) htb i_LockPlanner (htb (.instantiable R_LockPlanner 4) (ja_m1 186 rfl rfl))
  obtain ⟨c2, iS2, hKn2⟩ := u_known (C := R_Locking) (T := F_Locking) (N := 2) (n := 2) htb i_Locking (htb (.instantiable R_Locking 2) (ja_m1 148 rfl rfl))
  obtain ⟨c3, iS3, hKn3⟩ := u_known (C := R_Merger) (T := F_Merger) (N := 4) (n := 4) htb i_Merger (htb (.instantiable R_Merger 4) (ja_m1 208 rfl rfl))
  obtain ⟨c4, iS4, hKn4⟩ := u_known (C := R_Search) (T := F_Search) (N := 5) (n := 5) htb i_Search (htb (.instantiable R_Search 5) (ja_m1 142 rfl rfl))
  obtain ⟨c5, iS5, hKn5⟩ := u_known (C := R_Sheet) (T := F_Sheet) (N := 9) (n := 9) htb i_Sheet (htb (.instantiable R_Sheet 9) (ja_m1 60 rfl rfl))
  obtain ⟨c6, iS6, hKn6⟩ := u_known (C := R_SheetParser) (T := F_SheetParser) (N := 7) (n := 7) htb i_SheetParser (htb (.instantiable R_SheetParser 7) (ja_m1 28 rfl rfl))
  obtain ⟨c7, iS7, hKn7⟩ := u_known (C := R_Frame) (T := F_Frame) (N := 12) (n := 12) htb i_Frame (htb (.instantiable R_Frame 12) (ja_m1 20 rfl rfl))
  obtain ⟨c8, iS8, hKn8⟩ := u_known (C := R_Model) (T := F_Model) (N := 42) (n := 42) htb i_Model (htb (.instantiable R_Model 42) (ja_m4 180 rfl rfl))
  obtain ⟨dC, dI, hKc⟩ : ∃ (dC : Nat → ClassId) (dI : Nat → Nat → Nat), ∀ (k : Nat) (q : vw_C), classes[k]? = some q → u_Kn s q.1 q.2.1 q.2.2 (dC k) (dI k) := by
    refine ⟨fun k => if k = 0 then c0 else if k = 1 then c1 else if k = 2 then c2 else if k = 3 then c3 else if k = 4 then c4 else if k = 5 then c5 else if k = 6 then c6 else if k = 7 then c7 else c8, fun k => if k = 0 then iS0 else if k = 1 then iS1 else if k = 2 then iS2 else if k = 3 then iS3 else if k = 4 then iS4 else if k = 5 then iS5 else if k = 6 then iS6 else if k = 7 then iS7 else iS8, ?_⟩
    intro k q hq
    match k, hq with
    | 0, hq => cases hq; exact hKn0
    | 1, hq => cases hq; exact hKn1
    | 2, hq => cases hq; exact hKn2
    | 3, hq => cases hq; exact hKn3
    | 4, hq => cases hq; exact hKn4
    | 5, hq => cases hq; exact hKn5
    | 6, hq => cases hq; exact hKn6
    | 7, hq => cases hq; exact hKn7
    | 8, hq => cases hq; exact hKn8
    | k + 9, hq => simp [classes] at hq
  obtain ⟨cI, kI, compI, hfI, hkI, hkkI⟩ := Cond.arrayClass_spec (htb (.arrayClass .int) wa_int)
  obtain ⟨cJ, kJ, compJ, hfJ, hkJ, hkkJ⟩ := Cond.arrayClass_spec (htb (.arrayClass .long) wa_long)
  have hK : va_K (dC, dI) classes [(cI, .int), (cJ, .long)] s := by
    refine ⟨hKc, fun k q hq => ?_⟩
    match k, hq with
    | 0, hq => cases hq; exact ⟨fun n z => ⟨fun k h => (by cases h), kI, hkI, compI, hkkI⟩, hfI⟩
    | 1, hq => cases hq; exact ⟨fun n z => ⟨fun k h => (by cases h), kJ, hkJ, compJ, hkkJ⟩, hfJ⟩
    | k + 2, hq => simp at hq
  obtain ⟨ad, had, hSF⟩ := ja_start (b := b) (A := fun q : Nat => s.heap.size ≤ q) hN hts (fun q hq h => by have : s.heap.size ≤ q := h; omega)
  have hl := lv_entry ([.ref b]) (n := 4) (Nat.le_of_ble_eq_true rfl)
  rw [lg_entry_eq]
  generalize (lg_sl ([.ref b]) ++ List.replicate (4 - (lg_sl ([.ref b])).length) Slot.unset).toArray = ls at hl ⊢
  have hl : lv_has ls 4 (ja_cl ad [(0, .ref 3000)]) := by
    show lv_has ls 4 [(0, .ref (ad 3000))]
    rw [had]
    exact hl
  let C : ja_C := ((p, l, e, room_1, s, m, #[Value.ref b], below, meth, c), ((dC, dI), cI, cJ), (ad, 0, 0, 64, 35034, fun q : Nat => s.heap.size ≤ q), (fun zz t => zz.1 = some (.int 1) → lw_Z below #[Value.ref b] s t), 0, fun _ => 0)
  have hXC : ja_hX C L xs := ⟨by rw [had]; exact hX, by rw [had]; exact hbl, by rw [had]; exact Nat.not_le.mpr hbl⟩
  obtain ⟨w, hJ⟩ := law_loop (C := C) hXC hL P (fun i sg _ hp n _ hn => hstep n (fun j => xs (i + j)) sg hn hp) (L + 1) 0 w0 (by omega) (by omega) hp0
  have ok : ja_ok M_law C := by
    refine ⟨⟨hx, hb, hml, hown, htb⟩, hK, fun q hq => hq, hSF, ⟨Nat.le_refl _, Nat.le_refl _, Nat.le_refl _, Nat.le_refl _⟩, fun h => absurd h (by decide), Or.inl rfl, ?_⟩
    intro v ad2 Λ2 σ2 H locs pc ls2 hd hi iv
    cases v with
    | none => simp [ja_ri] at hi
    | some v =>
      cases v <;> (try (simp [ja_ri] at hi; done))
      rename_i z
      have hz : z = 0 ∨ z = 1 := by
        by_cases h : z = 0 ∨ z = 1
        · exact h
        · simp [ja_ri, h] at hi
      have hd2 : decode code pc = .ok (.ireturn, 1) := by
        have : decode code pc = .ok ((ja_ri (some .boolean) (some (.int z))).getD .nop, 1) := hd
        rw [this]; simp [ja_ri, hz]
      rcases hz with rfl | rfl
      · intro T hT X
        exact ⟨_, Steps.refl _, fun h => by simp at h⟩
      · have h1 : W p l e room_1 s m #[Value.ref b] below meth c H [] 64 35034 (lw_Z below #[Value.ref b] s) (F0 m pc ls2 [.int 1]) := lw_ret hx hb hr hlocks hd2
        have h2 : W p l e room_1 s m #[Value.ref b] below meth c H locs (Λ2.1 - 0) (Λ2.2.1 - 0) (lw_Z below #[Value.ref b] s) (F0 m pc ls2 [.int 1]) := va_forget iv.2.2.1.2.2 (W.widen iv.2.2.2.2.2.2.1 iv.2.2.2.2.2.2.2.1 h1)
        intro T hT X
        obtain ⟨t, g1, g2⟩ := h2 T hT X
        exact ⟨t, g1, fun _ => g2⟩
  have hwalk : ja_J M_law C 0 [(0, .ref 3000)] [] ja_Le ja_S0 (some (.int 1), ja_L0, w) := by
    refine ja_new2 (pc := 0) (idx := 7) (t := 7) (NN := 12) 0 rfl (by decide +kernel) ⟨R_Frame, F_Frame, t_Frame, rfl, i_Frame, t_Frame_ok, ja_m1 19 rfl rfl, ja_m1 20 rfl rfl, ja_m1 1 rfl rfl, by decide +kernel⟩ ⟨by show ja_Le.1 + 1 - 0 ≤ 64; decide +kernel, by show ja_Le.2.1 + 12 - 0 ≤ 35034; decide +kernel, by decide +kernel⟩ (ja_rgm (lv := [(0, .ref 3000)]) (ja_rvr (Or.inr (by omega)) ja_rv0) ja_rv0) ?_
    refine ja_dup (pc := 3) (by decide +kernel) rfl ?_
    refine ja_callI (pc := 4) (idx := 9) (n := 0) (b := 0) (as := []) (st := [.ref 0]) (Λ := ja_L1) (by decide +kernel) ⟨⟨ja_m1 1 rfl rfl, ja_m1 23 rfl rfl, by decide +kernel, by decide +kernel, by decide +kernel⟩, ja_m1 22 rfl rfl, rfl, rfl⟩ (ja_m1 21 rfl rfl) ⟨by decide, by decide⟩ (c_Frame_init _ _ 0 1 rfl (ja_ob_0 rfl) (by decide +kernel)) rfl (Nat.le_of_ble_eq_true rfl) rfl ⟨by rw [li_Frame1]; omega, by rw [li_Frame2]; omega, by show (li_Frame 0 ja_L1).1 - 0 ≤ 64; rw [li_Frame1]; decide +kernel, by show (li_Frame 0 ja_L1).2.1 - 0 ≤ 35034; rw [li_Frame2]; decide +kernel⟩ (ja_rgm (lv := [(0, .ref 3000)]) (ja_rvr (Or.inr (by omega)) ja_rv0) (ja_rvr (Or.inl (by decide +kernel)) ja_rv0)) ?_
    refine ja_astore_n (pc := 7) (f := 1) (i := 1) (lv' := [(1, .ref 0), (0, .ref 3000)]) (by decide +kernel) rfl (by decide) rfl ?_
    refine ja_new2 (pc := 8) (idx := 10) (t := 8) (NN := 42) 45 (by decide +kernel) (by decide +kernel) ⟨R_Model, F_Model, t_Model, rfl, i_Model, t_Model_ok, ja_m4 179 rfl rfl, ja_m4 180 rfl rfl, ja_m1 10 rfl rfl, by decide +kernel⟩ ⟨by show (li_Frame 0 ja_L1).1 + 1 - 0 ≤ 64; rw [li_Frame1]; decide +kernel, by show (li_Frame 0 ja_L1).2.1 + 42 - 0 ≤ 35034; rw [li_Frame2]; decide +kernel, by rw [li_Frame1]; decide +kernel⟩ (ja_rgm (lv := [(1, .ref 0), (0, .ref 3000)]) (ja_rvr (Or.inl (by omega)) (ja_rvr (Or.inr (by omega)) ja_rv0)) ja_rv0) ?_
    refine ja_dup (pc := 11) (by decide +kernel) rfl ?_
    refine ja_callI (pc := 12) (idx := 12) (n := 0) (b := 45) (as := []) (st := [.ref 45]) (Λ := ja_L2) (σ := ja_S1) (by decide +kernel) ⟨⟨ja_m1 10 rfl rfl, ja_m4 183 rfl rfl, by decide +kernel, by decide +kernel, by decide +kernel⟩, ja_m4 182 rfl rfl, rfl, rfl⟩ (ja_m4 181 rfl rfl) ⟨by decide, by decide⟩ (c_Model_init _ _ 45 46 ja_L2_1 (ja_ob_0 (by decide +kernel)) ob45 (by rw [ja_L2_1]; omega) ja_L2_ok h0) rfl (Nat.le_of_ble_eq_true rfl) rfl ⟨by rw [ja_L2_1]; decide +kernel, by decide +kernel, by show ja_L0.1 - 0 ≤ 64; decide +kernel, by show ja_L0.2.1 - 0 ≤ 35034; decide +kernel⟩ (ja_rgm (lv := [(1, .ref 0), (0, .ref 3000)]) (ja_rvr (Or.inl (by rw [ja_L2_1]; omega)) (ja_rvr (Or.inr (by omega)) ja_rv0)) (ja_rvr (Or.inl (by rw [ja_L2_1]; omega)) ja_rv0)) ?_
    refine ja_astore_n (pc := 15) (f := 2) (i := 2) (lv' := [(2, .ref 45), (1, .ref 0), (0, .ref 3000)]) (by decide +kernel) rfl (by decide) rfl ?_
    refine ja_iconst (pc := 16) (n := 0) (v := 0) (by decide +kernel) (by decide +kernel) ?_
    refine ja_istore_n (pc := 17) (f := 3) (i := 3) (lv' := [(3, .int 0), (2, .ref 45), (1, .ref 0), (0, .ref 3000)]) (by decide +kernel) rfl (by decide) rfl ?_
    refine ja_lv [3, 2, 1, 0] rfl ?_
    exact hJ
  have hP : va_P (dC, dI) classes (ja_wl cI cJ ja_Le ja_S0 ad) s.heap := fun k q h => by simp [ja_wl, ja_Le] at h
  have hD : va_D (fun q : Nat => s.heap.size ≤ q) (ja_wl cI cJ ja_Le ja_S0 ad) := ⟨fun i j p q h => by simp [ja_wl, ja_Le] at h, fun k q h => by simp [ja_wl, ja_Le] at h⟩
  have hfin := hwalk ok ad s.heap [] ls ⟨hP, hD, va_S.rf, fun _ _ => rfl, Nat.le_refl _, Nat.le_refl _, by show 0 - 0 ≤ 64; omega, by show 0 - 0 ≤ 35034; omega, by show 0 ≤ 1000; omega, fun k j i hk => by have : k < 0 := hk; omega⟩ hl
  intro T hT X
  obtain ⟨t, g1, g2⟩ := hfin T hT X
  exact ⟨t, g1, g2 rfl⟩
