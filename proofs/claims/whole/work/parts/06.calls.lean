/-! contracts: what a method does with the whole abstract heap; how a walk gives one, how a call uses one -/
def ja_Pc (x : ja_X) (as : List Value) (Λ : ja_L) (σ : ja_S) (ad : Nat → Nat) (sz : Nat) : Array Value → State → Prop := va_Pc (as.map (ja_cv ad)) (fun U => U.heap.size = sz ∧ va_P x.1 classes (ja_wl x.2.1 x.2.2 Λ σ ad) U.heap ∧ va_K x.1 classes [(x.2.1, .int), (x.2.2, .long)] U ∧ va_D (fun _ => True) (ja_wl x.2.1 x.2.2 Λ σ ad) ∧ ja_SF ad (va_A (ja_wl x.2.1 x.2.2 Λ σ ad) sz) U U.heap)
def ja_Qc (x : ja_X) (zz : ja_Z) (n0 sl0 : Nat) (ad : Nat → Nat) (A : Nat → Prop) : Array Value → State → Outcome → State → Prop := fun _ st oc t => (∃ ad' : Nat → Nat, oc = .returned (zz.1.map (ja_cv ad')) ∧ (∀ k, k < n0 ∨ zz.2.1.1 ≤ k → ad' k = ad k) ∧ va_P x.1 classes (ja_wl x.2.1 x.2.2 zz.2.1 zz.2.2 ad') t.heap ∧ va_D A (ja_wl x.2.1 x.2.2 zz.2.1 zz.2.2 ad') ∧ (n0 ≤ zz.2.1.1 ∧ sl0 ≤ zz.2.1.2.1 ∧ zz.2.1.1 ≤ 1000 ∧ ja_wf zz.2.1)) ∧ va_F A st t
def ja_rm (M : ja_M) (mc ms : Nat) : Room := { frames := M.2.2.2.2.2.1, cells := mc, slots := ms, locals := M.2.2.2.2.2.2 }
def ja_Ct (l : Launch) (x : ja_X) (y : MethodName) (M : ja_M) (as : List Value) (Λ : ja_L) (σ : ja_S) (zz : ja_Z) : Prop := Λ.1 ≤ 1000 ∧ ja_wf Λ → ∀ (ad : Nat → Nat) (sz : Nat), Met l y (.code y M.1 M.2.1 M.2.2.2.2.1 :: ja_tb) (ja_rm M (zz.2.1.1 - Λ.1) (zz.2.1.2.1 - Λ.2.1)) (ja_Pc x as Λ σ ad sz) (ja_Qc x zz Λ.1 Λ.2.1 ad (va_A (ja_wl x.2.1 x.2.2 Λ σ ad) sz)) (zz.2.1.1 - Λ.1) (zz.2.1.2.1 - Λ.2.1) (va_A (ja_wl x.2.1 x.2.2 Λ σ ad) sz)
theorem ja_args (ad : Nat → Nat) : ∀ (as : List Value) (i : Nat), lv_args i (as.map (ja_cv ad)) = ja_cl ad (lv_args i as)
  | [], _ => rfl
  | a :: l, i => by
    rw [List.map_cons, lv_args, lv_args, ja_args ad l, ja_cat]
    rfl
theorem ja_slen (ad : Nat → Nat) : ∀ (as : List Value), (lg_sl (as.map (ja_cv ad))).length = (lg_sl as).length
  | [] => rfl
  | a :: l => by
    have h := ja_slen ad l
    unfold lg_sl at h ⊢
    rw [List.map_cons, List.flatMap_cons, List.flatMap_cons, List.length_append, List.length_append, h, ja_cat]
    by_cases hc : a.category = 2
    · rw [if_pos hc, if_pos hc]; rfl
    · rw [if_neg hc, if_neg hc]; rfl
/-- a walk from the entry gives the contract -/
theorem ja_mk {M : ja_M} {l : Launch} {x : ja_X} {y : MethodName} {as : List Value} {lv : List (Nat × Value)} {Λ : ja_L} {σ : ja_S} {zz : ja_Z} (hy : plainName y.cls = true ∧ y.cls = M.2.2.1 ∧ y.name = M.2.2.2.1) (hn : (lg_sl as).length ≤ M.2.1) (hlv : lv_args 0 as = lv)
    (hJ : ∀ C : ja_C, C.1.2.1 = l → C.2.1 = x → C.2.2.1.2.1 = Λ.1 → C.2.2.1.2.2.1 = Λ.2.1 → C.2.2.1.2.2.2.1 = zz.2.1.1 - Λ.1 → C.2.2.1.2.2.2.2.1 = zz.2.1.2.1 - Λ.2.1 → ja_J M C 0 lv [] Λ σ zz) : ja_Ct l x y M as Λ σ zz := by
  intro hΛ ad sz
  obtain ⟨D, cI, cJ⟩ := x
  refine Met.ofW (cc := M.1) (maxL := M.2.1) (ret := M.2.2.2.2.1) hy.1 rfl ?_
  intro p e s m args below meth c s₁ B hml hv
  obtain ⟨rfl, hsz, hP, hK, hD0, hSF⟩ := hv
  have hts := atoms_spec (ws := .code y M.1 M.2.1 M.2.2.2.2.1 :: ja_tb) B.pre
  have hown : s.vm.findClass M.2.2.1 = some m.cls := hy.2.1 ▸ findClass_of_methodNamed B.named
  have hlocks := B.notSynchronized
  have hr := B.returns
  subst hsz
  have hD := hD0.self (sz := s.heap.size)
  have hl := lv_entry (as.map (ja_cv ad)) (n := M.2.1) (by rw [ja_slen]; exact hn)
  rw [ja_args, hlv] at hl
  rw [lg_entry_eq]
  generalize hA0 : va_A (ja_wl cI cJ Λ σ ad) s.heap.size = A at hSF hD ⊢
  generalize (lg_sl (as.map (ja_cv ad)) ++ List.replicate (M.2.1 - (lg_sl (as.map (ja_cv ad))).length) Slot.unset).toArray = ls at hl ⊢
  have key := hJ ((p, l, e, ja_rm M (zz.2.1.1 - Λ.1) (zz.2.1.2.1 - Λ.2.1), s, m, (as.map (ja_cv ad)).toArray, below, meth, c), (D, cI, cJ), (ad, Λ.1, Λ.2.1, zz.2.1.1 - Λ.1, zz.2.1.2.1 - Λ.2.1, A), (fun z2 => MQ below (ja_Qc (D, cI, cJ) z2 Λ.1 Λ.2.1 ad A) (as.map (ja_cv ad)).toArray s (z2.2.1.1 - Λ.1) (z2.2.1.2.1 - Λ.2.1) A), 0, fun _ => 0) rfl rfl rfl rfl rfl rfl
  have hok : ja_ok M ((p, l, e, ja_rm M (zz.2.1.1 - Λ.1) (zz.2.1.2.1 - Λ.2.1), s, m, (as.map (ja_cv ad)).toArray, below, meth, c), (D, cI, cJ), (ad, Λ.1, Λ.2.1, zz.2.1.1 - Λ.1, zz.2.1.2.1 - Λ.2.1, A), (fun z2 => MQ below (ja_Qc (D, cI, cJ) z2 Λ.1 Λ.2.1 ad A) (as.map (ja_cv ad)).toArray s (z2.2.1.1 - Λ.1) (z2.2.1.2.1 - Λ.2.1) A), 0, fun _ => 0) := by
    refine ⟨⟨B.exec, B.bytes, hml, hown, fun w hw => hts w (List.mem_cons_of_mem _ hw)⟩, hK, fun q hq => by rw [← hA0]; exact Or.inr hq, hSF, ⟨Nat.le_refl _, Nat.le_refl _, Nat.le_refl _, Nat.le_refl _⟩, fun h => by rw [(name_of_methodNamed B.named B.method).1, hy.2.2]; exact h, Or.inl rfl, ?_⟩
    intro v ad2 Λ2 σ2 H locs pc ls2 hd hi iv
    have hq : ∀ t : State, t.heap = H → s.WarmedH t.vm → ja_Qc (D, cI, cJ) (v, Λ2, σ2) Λ.1 Λ.2.1 ad A (as.map (ja_cv ad)).toArray s (.returned (v.map (ja_cv ad2))) t := by
      intro t ht hW
      exact ⟨⟨ad2, rfl, iv.2.2.2.1, by rw [ht]; exact iv.1, iv.2.1, iv.2.2.2.2.1, iv.2.2.2.2.2.1, iv.2.2.2.2.2.2.2.2.1, iv.2.2.2.2.2.2.2.2.2⟩, iv.2.2.1.F ht⟩
    have hf := iv.2.2.1.2.2
    generalize hrr : M.2.2.2.2.1 = rr at hi hd hr
    cases v with
    | none =>
      cases rr with
      | none => exact W.vret B.exec B.bytes hr hq hf hd
      | some ty => simp [ja_ri] at hi
    | some v =>
      cases rr with
      | none => simp [ja_ri] at hi
      | some ty =>
        cases ty <;> cases v <;> (try (simp [ja_ri] at hi; done))
        · rename_i z
          have hz : narrow .byte (.int z) = .int z := by
            by_cases h : narrow .byte (.int z) = .int z
            · exact h
            · simp [ja_ri, h] at hi
          have hd2 : decode M.1 pc = .ok (.ireturn, 1) := by
            rw [hd]; simp [ja_ri, hz]
          exact W.zret (ty := .byte) B.exec B.bytes hr hz hq hf hd2
        · rename_i z
          have hz : narrow .char (.int z) = .int z := by
            by_cases h : narrow .char (.int z) = .int z
            · exact h
            · simp [ja_ri, h] at hi
          have hd2 : decode M.1 pc = .ok (.ireturn, 1) := by
            rw [hd]; simp [ja_ri, hz]
          exact W.zret (ty := .char) B.exec B.bytes hr hz hq hf hd2
        · exact W.iret B.exec B.bytes hr hq hf hd
        · exact W.lret B.exec B.bytes hr hq hf hd
        · rename_i z
          have hz : z = 0 ∨ z = 1 := by
            by_cases h : z = 0 ∨ z = 1
            · exact h
            · simp [ja_ri, h] at hi
          have hd2 : decode M.1 pc = .ok (.ireturn, 1) := by
            rw [hd]; simp [ja_ri, hz]
          refine W.zret (ty := .boolean) B.exec B.bytes hr ?_ hq hf hd2
          rcases hz with rfl | rfl <;> rfl
        · exact W.aret B.exec B.bytes hr (Or.inl ⟨_, rfl⟩) (Or.inr ⟨_, rfl⟩) hq hf hd
  have h2 := key hok ad s.heap [] ls ⟨hP, hD, va_S.rf, fun _ _ => rfl, Nat.le_refl _, Nat.le_refl _, by omega, by omega, hΛ.1, hΛ.2⟩ hl
  have e1 : Λ.1 - Λ.1 = 0 := Nat.sub_self _
  have e2 : Λ.2.1 - Λ.2.1 = 0 := Nat.sub_self _
  unfold ja_W at h2
  dsimp only at h2
  rw [e1, e2] at h2
  exact h2
/-- behind a call -/
theorem ja_after {p : Program} {l : Launch} {e : Env} {R : Room} {s : State} {m : MethodId} {args : Array Value} {below : List Frame} {meth : Method} {c : Code} {H : Heap} {locs : List Loc} {cells slots : Nat} {Q : State → Prop} {pc : Nat} {ls : Array Slot} {rest st0 : List Value} {a : Array Value} {A0 A1 : Nat → Prop} {H0 : Heap} {mc ms n1 sl1 : Nat} {free : Addr → Prop} {x : ja_X} {z1 : ja_Z} {ad : Nat → Nat}
    (hr : va_Run p l e R s m args below meth c H locs cells slots mc ms (F0 m pc ls st0) rest (ja_Qc x z1 n1 sl1 ad A1 a) free) (hS : va_S A0 H0 H locs) (hA : ∀ q, q < H.size → A1 q → A0 q) (hf : ∀ q, free q → A0 q)
    (kk : ∀ (ad' : Nat → Nat) (H1 : Heap) (locs1 : List Loc), (∀ k, k < n1 ∨ z1.2.1.1 ≤ k → ad' k = ad k) → va_P x.1 classes (ja_wl x.2.1 x.2.2 z1.2.1 z1.2.2 ad') H1 → va_D A1 (ja_wl x.2.1 x.2.2 z1.2.1 z1.2.2 ad') → (n1 ≤ z1.2.1.1 ∧ sl1 ≤ z1.2.1.2.1 ∧ z1.2.1.1 ≤ 1000 ∧ ja_wf z1.2.1) → va_S A0 H0 H1 locs1 → W p l e R s m args below meth c H1 locs1 (cells + mc) (slots + ms) Q (F0 m (pc + 3) ls ((z1.1.map (ja_cv ad')).toList ++ rest))) : W p l e R s m args below meth c H locs cells slots Q (F0 m pc ls st0) := by
  intro T hT X
  obtain ⟨v, st₀, t, T', L, h0, X', hL, e1, e2, ⟨⟨ad', hv, h1, h2, h3, h4⟩, hz, hk⟩, st⟩ := hr T hT X
  cases hv
  rw [h0] at hz hk
  obtain ⟨t2, a1, b1⟩ := kk ad' T'.heap (locs ++ L) h1 (by rw [e1]; exact h2) h3 h4
    ⟨Nat.le_trans hS.1 (by rw [e1]; exact hz), fun q g1 g2 => by rw [e1, hk q (Nat.lt_of_lt_of_le g1 hS.1) (fun z => g2 (hA q (Nat.lt_of_lt_of_le g1 hS.1) z))]; exact hS.2.1 q g1 g2, fun q hq => by
      rcases List.mem_append.mp hq with h | h
      · exact hS.2.2 q h
      · exact hf _ (hL q h)⟩ T' rfl X'
  exact ⟨t2, st t2 a1, b1⟩
theorem ja_blind {x : ja_X} {as : List Value} {Λ : ja_L} {σ : ja_S} {ad : Nat → Nat} {sz : Nat} : FrameBlind (ja_Pc x as Λ σ ad sz) := by
  intro a U g mk q
  obtain ⟨q0, q1, qP, qK, qD, qS⟩ := q
  exact ⟨q0, q1, qP, va_K.moved (u := U) (U := U.calling g mk a) (Vm.Alike.refl U.vm) qK, qD, ja_SF_same rfl qS⟩
/-- what a call of y says of the tables -/
def ja_kB (y : MethodName) (M' : ja_M) (n : Nat) : Prop := Cond.initialized y.cls ∈ ja_tb ∧ Cond.code y M'.1 M'.2.1 M'.2.2.2.2.1 ∈ ja_tb ∧ y.cls ≠ "java/lang/invoke/MethodHandle" ∧ y.cls ≠ "java/lang/invoke/VarHandle" ∧ (parseMethodDescriptor y.desc).map (fun d => d.parameters.length) = some n
def ja_kV (y : MethodName) (M' : ja_M) (n t : Nat) : Prop := ja_kB y M' n ∧ Cond.instanceMethod y ∈ ja_tb ∧ Cond.selects y.cls y y ∈ ja_tb ∧ ∃ q, classes[t]? = some q ∧ q.1 = y.cls
def ja_kS (y : MethodName) (M' : ja_M) (n : Nat) : Prop := ja_kB y M' n ∧ Cond.static y ∈ ja_tb
def ja_rr (M M' : ja_M) : Prop := M'.2.2.2.2.2.1 + 1 ≤ M.2.2.2.2.2.1 ∧ 8 + (M'.2.1 + 11) + M'.2.2.2.2.2.2 ≤ M.2.2.2.2.2.2
section JC
variable {M M' : ja_M} {C : ja_C} {pc idx t b n : Nat} {lv : List (Nat × Value)} {st st0 as : List Value} {Λ : ja_L} {σ σ1 : ja_S} {zz : ja_Z} {y : MethodName} {v1 : Option Value}
theorem ja_callV0 (hd : decode M.1 pc = .ok (.invokevirtual idx, 3)) (hk : ja_kV y M' n t) (hlink : Cond.methodLink M.2.2.1 idx y ∈ ja_tb) (hro : ja_rr M M') (hM : ja_Ct C.1.2.1 C.2.1 y M' (.ref b :: as) Λ σ (v1, Λ, σ1)) (hb : ja_ob Λ t b) (hn : as.length = n) (hst : (st.map fun v => v.category).sum ≤ 8) (hs : st0 = as.reverse ++ .ref b :: st) (kk : ja_J M C (pc + 3) lv (v1.toList ++ st) Λ σ1 zz) : ja_J M C pc lv st0 Λ σ zz := by
  obtain ⟨⟨p, l, e, R, s, m, args, below, meth, c⟩, ⟨D, cI, cJ⟩, ⟨ad0, n0, sl0, MC, MS, A⟩, Qf, L, xs⟩ := C
  intro ok ad H locs ls iv hl
  subst hs
  obtain ⟨iP, iD, iS, i4, i5⟩ := iv
  obtain ⟨⟨k1, k2, k3⟩, k4, k5, q, k6, k7⟩ := hk
  have hM := hM ⟨i5.2.2.2.2.1, i5.2.2.2.2.2⟩ ad H.size
  have hts := ok.1.2.2.2.2
  have hFc : ∀ q, va_A (ja_wl cI cJ Λ σ ad) H.size q → A q := by
    intro q h
    rcases h with ⟨k, e, h⟩ | h
    · exact iD.2 _ _ h
    · exact ok.2.2.1 q (Nat.le_trans iS.1 h)
  have z0 : (v1, Λ, σ1).2.1.1 - Λ.1 = 0 := Nat.sub_self _
  have z1 : (v1, Λ, σ1).2.1.2.1 - Λ.2.1 = 0 := Nat.sub_self _
  have hrun := va_runV (p := p) (e := e) (R := R) (below := below) (meth := meth) (H := H) (locs := locs) (cells := Λ.1 - n0) (slots := Λ.2.1 - sl0) (b := ad b) (As := as.map (ja_cv ad)) (rest := st.map (ja_cv ad)) (g := F0 m pc ls ((as.reverse ++ .ref b :: st).map (ja_cv ad))) (n := n) (C := y.cls) (index := idx) ok.1 hM ⟨callB_of (Ts := ja_tb) n hts (ja_good k2) rfl rfl rfl (hts _ k1) (hts _ hlink) k3 ⟨Nat.le_trans hro.1 ok.2.2.2.2.1.1, Nat.le_trans hro.2 ok.2.2.2.2.1.2.1⟩, hts _ k4, hts _ k5⟩
    ⟨ja_blind, by have h := va_recv ok.2.1 iP k6 (ja_wl_o hb); rw [k7] at h; exact h, fun U hU hW => ⟨rfl, by rw [hU], by rw [hU]; exact iP, va_K.moved hW.alike ok.2.1, iD.weaken (fun _ _ _ _ => trivial), by
      have h1 := ja_SF_narrow (ja_SF_moved hW (ja_SF_kept (ja_SF_ad ok.2.2.2.1 (fun k hk => i4 k (Or.inr (by omega)))) iS.2.1)) hFc
      rw [hU]
      exact h1⟩⟩
    rfl (by rw [List.length_map]; exact hn) hl.1 (by simp [ja_cv]) (lv_room (by rw [ja_cats]; exact hst)) hd ⟨by rw [z0]; have := ok.2.2.2.2.1.2.2.1; omega, by rw [z1]; have := ok.2.2.2.2.1.2.2.2; omega⟩
  refine ja_after (x := (D, cI, cJ)) hrun iS (fun q _ h => hFc q h) hFc (fun ad' H1 locs1 h1 h2 h3 h4 h5 => ?_)
  have ha : ad' = ad := funext fun k => h1 k (by show k < Λ.1 ∨ Λ.1 ≤ k; omega)
  subst ha
  have h6 := kk ok ad' H1 locs1 ls ⟨h2, h3.weaken (fun _ _ _ h => hFc _ h), h5, i4, i5⟩ hl
  rw [z0, z1, Nat.add_zero, Nat.add_zero]
  have e1 : (v1.map (ja_cv ad')).toList ++ st.map (ja_cv ad') = (v1.toList ++ st).map (ja_cv ad') := by cases v1 <;> rfl
  show W p l e R s m args below meth c H1 locs1 (Λ.1 - n0) (Λ.2.1 - sl0) (Qf zz) (F0 m (pc + 3) ls ((v1.map (ja_cv ad')).toList ++ st.map (ja_cv ad')))
  rw [e1]
  exact h6
theorem ja_callS0 (hd : decode M.1 pc = .ok (.invokestatic idx, 3)) (hk : ja_kS y M' n) (hlink : Cond.methodLink M.2.2.1 idx y ∈ ja_tb) (hro : ja_rr M M') (hM : ja_Ct C.1.2.1 C.2.1 y M' as Λ σ (v1, Λ, σ1)) (hn : as.length = n) (hst : (st.map fun v => v.category).sum ≤ 8) (hs : st0 = as.reverse ++ st) (kk : ja_J M C (pc + 3) lv (v1.toList ++ st) Λ σ1 zz) : ja_J M C pc lv st0 Λ σ zz := by
  obtain ⟨⟨p, l, e, R, s, m, args, below, meth, c⟩, ⟨D, cI, cJ⟩, ⟨ad0, n0, sl0, MC, MS, A⟩, Qf, L, xs⟩ := C
  intro ok ad H locs ls iv hl
  subst hs
  obtain ⟨iP, iD, iS, i4, i5⟩ := iv
  obtain ⟨⟨k1, k2, k3⟩, k4⟩ := hk
  have hM := hM ⟨i5.2.2.2.2.1, i5.2.2.2.2.2⟩ ad H.size
  have hts := ok.1.2.2.2.2
  have hFc : ∀ q, va_A (ja_wl cI cJ Λ σ ad) H.size q → A q := by
    intro q h
    rcases h with ⟨k, e, h⟩ | h
    · exact iD.2 _ _ h
    · exact ok.2.2.1 q (Nat.le_trans iS.1 h)
  have z0 : (v1, Λ, σ1).2.1.1 - Λ.1 = 0 := Nat.sub_self _
  have z1 : (v1, Λ, σ1).2.1.2.1 - Λ.2.1 = 0 := Nat.sub_self _
  have hrun := va_runS (p := p) (e := e) (R := R) (below := below) (meth := meth) (H := H) (locs := locs) (cells := Λ.1 - n0) (slots := Λ.2.1 - sl0) (As := as.map (ja_cv ad)) (rest := st.map (ja_cv ad)) (g := F0 m pc ls ((as.reverse ++ st).map (ja_cv ad))) (n := n) (index := idx) ok.1 hM ⟨callB_of (Ts := ja_tb) n hts (ja_good k2) rfl rfl rfl (hts _ k1) (hts _ hlink) k3 ⟨Nat.le_trans hro.1 ok.2.2.2.2.1.1, Nat.le_trans hro.2 ok.2.2.2.2.1.2.1⟩, hts _ k4⟩
    ⟨ja_blind, fun U hU hW => ⟨rfl, by rw [hU], by rw [hU]; exact iP, va_K.moved hW.alike ok.2.1, iD.weaken (fun _ _ _ _ => trivial), by
      have h1 := ja_SF_narrow (ja_SF_moved hW (ja_SF_kept (ja_SF_ad ok.2.2.2.1 (fun k hk => i4 k (Or.inr (by omega)))) iS.2.1)) hFc
      rw [hU]
      exact h1⟩⟩
    rfl (by rw [List.length_map]; exact hn) hl.1 (by simp) (lv_room (by rw [ja_cats]; exact hst)) hd ⟨by rw [z0]; have := ok.2.2.2.2.1.2.2.1; omega, by rw [z1]; have := ok.2.2.2.2.1.2.2.2; omega⟩
  refine ja_after (x := (D, cI, cJ)) hrun iS (fun q _ h => hFc q h) hFc (fun ad' H1 locs1 h1 h2 h3 h4 h5 => ?_)
  have ha : ad' = ad := funext fun k => h1 k (by show k < Λ.1 ∨ Λ.1 ≤ k; omega)
  subst ha
  have h6 := kk ok ad' H1 locs1 ls ⟨h2, h3.weaken (fun _ _ _ h => hFc _ h), h5, i4, i5⟩ hl
  rw [z0, z1, Nat.add_zero, Nat.add_zero]
  have e1 : (v1.map (ja_cv ad')).toList ++ st.map (ja_cv ad') = (v1.toList ++ st).map (ja_cv ad') := by cases v1 <;> rfl
  show W p l e R s m args below meth c H1 locs1 (Λ.1 - n0) (Λ.2.1 - sl0) (Qf zz) (F0 m (pc + 3) ls ((v1.map (ja_cv ad')).toList ++ st.map (ja_cv ad')))
  rw [e1]
  exact h6
end JC
