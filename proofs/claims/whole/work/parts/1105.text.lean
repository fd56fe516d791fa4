/-! text constants: String.length and charAt -/
theorem ja_zi {e : Int32} {s : ja_S} {w : Int32 × ja_S} {L : ja_L} (hf : some (e, s) = some w) : ((some (Value.int w.1), L, w.2) : ja_Z) = (some (.int e), L, s) := by cases hf; rfl
theorem ja_zv {s w : ja_S} {L : ja_L} {v : Option Value} (hf : some s = some w) : ((v, L, w) : ja_Z) = (v, L, s) := by cases hf; rfl
def ja_kT (y : MethodName) (M' : ja_M) (n : Nat) : Prop := ja_kB y M' n ∧ Cond.instanceMethod y ∈ ja_tb ∧ Cond.selects y.cls y y ∈ ja_tb ∧ y.cls = "java/lang/String"
section JT
variable {M M' : ja_M} {C : ja_C} {pc idx t b n : Nat} {lv : List (Nat × Value)} {st st0 as : List Value} {Λ : ja_L} {σ σ1 : ja_S} {zz : ja_Z} {y : MethodName} {v1 : Option Value}
theorem ja_callT0 (hd : decode M.1 pc = .ok (.invokevirtual idx, 3)) (hk : ja_kT y M' n) (hlink : Cond.methodLink M.2.2.1 idx y ∈ ja_tb) (hro : ja_rr M M') (hM : ja_Ct C.1.2.1 C.2.1 y M' (.ref b :: as) Λ σ (v1, Λ, σ1)) (hb : ja_is b) (hn : as.length = n) (hst : (st.map fun v => v.category).sum ≤ 8) (hs : st0 = as.reverse ++ .ref b :: st) (kk : ja_J M C (pc + 3) lv (v1.toList ++ st) Λ σ1 zz) : ja_J M C pc lv st0 Λ σ zz := by
  obtain ⟨⟨p, l, e, R, s, m, args, below, meth, c⟩, ⟨D, cI, cJ⟩, ⟨ad0, n0, sl0, MC, MS, A⟩, Qf, L, xs⟩ := C
  intro ok ad H locs ls iv hl
  subst hs
  obtain ⟨iP, iD, iS, i4, i5⟩ := iv
  obtain ⟨⟨k1, k2, k3⟩, k4, k5, k7⟩ := hk
  obtain ⟨ib, hib, rfl⟩ := hb
  have hSF := ja_SF_ad ok.2.2.2.1 (fun k hk => i4 k (Or.inr (by omega)))
  have hM := hM ⟨i5.2.2.2.2.1, i5.2.2.2.2.2⟩ ad H.size
  have hts := ok.1.2.2.2.2
  have hFc : ∀ q, va_A (ja_wl cI cJ Λ σ ad) H.size q → A q := by
    intro q h
    rcases h with ⟨k, e, h⟩ | h
    · exact iD.2 _ _ h
    · exact ok.2.2.1 q (Nat.le_trans iS.1 h)
  have z0 : (v1, Λ, σ1).2.1.1 - Λ.1 = 0 := Nat.sub_self _
  have z1 : (v1, Λ, σ1).2.1.2.1 - Λ.2.1 = 0 := Nat.sub_self _
  have hrun := va_runV (p := p) (e := e) (R := R) (below := below) (meth := meth) (H := H) (locs := locs) (cells := Λ.1 - n0) (slots := Λ.2.1 - sl0) (b := ad (1000 + ib)) (As := as.map (ja_cv ad)) (rest := st.map (ja_cv ad)) (g := F0 m pc ls ((as.reverse ++ .ref (1000 + ib) :: st).map (ja_cv ad))) (n := n) (C := y.cls) (index := idx) ok.1 hM ⟨callB_of (Ts := ja_tb) n hts (ja_good k2) rfl rfl rfl (hts _ k1) (hts _ hlink) k3 ⟨Nat.le_trans hro.1 ok.2.2.2.2.1.1, Nat.le_trans hro.2 ok.2.2.2.2.1.2.1⟩, hts _ k4, hts _ k5⟩
    ⟨ja_blind, by have h := vk_recv hSF.2.2.2.2.1 hib iS; rw [← k7] at h; exact h, fun U hU hW => ⟨rfl, by rw [hU], by rw [hU]; exact iP, va_K.moved hW.alike ok.2.1, iD.weaken (fun _ _ _ _ => trivial), by
      have h1 := ja_SF_narrow (ja_SF_moved hW (ja_SF_kept (ja_SF_ad ok.2.2.2.1 (fun k hk => i4 k (Or.inr (by omega)))) iS.2.1)) hFc
      rw [hU]
      exact h1⟩⟩
    rfl (by rw [List.length_map]; exact hn) hl.1 (by simp [ja_cv]) (lv_room (by rw [ja_cats]; exact hst)) hd ⟨by rw [z0]; have := ok.2.2.2.2.1.2.2.1; omega, by rw [z1]; have := ok.2.2.2.2.1.2.2.2; omega⟩
  refine ja_after (x := (D, cI, cJ)) hrun iS (fun q _ h => hFc q h) hFc (fun ad' H1 locs1 h1 h2 h3 h4 h5 => ?_)
  have ha : ad' = ad := funext fun k => h1 k (by show k < Λ.1 ∨ Λ.1 ≤ k; omega)
  subst ha
  have h6 := kk ok ad' H1 locs1 ls ⟨h2, h3.weaken (fun _ _ _ h => hFc _ h), h5, i4, i5⟩ hl
  rw [z0, z1, Nat.add_zero, Nat.add_zero]
  have e1 : (v1.map (ja_cv ad')).toList ++ st.map (ja_cv ad') = (v1.toList ++ st).map (ja_cv ad') := by cases v1 <;> rfl
  show W p l e R s m args below meth c H1 locs1 (Λ.1 - n0) (Λ.2.1 - sl0) (Qf zz) (F0 m (pc + 3) ls ((v1.map (ja_cv ad')).toList ++ st.map (ja_cv ad')))
  rw [e1]
  exact h6
theorem ja_callTi {r : Int32} (hd : decode M.1 pc = .ok (.invokevirtual idx, 3)) (hk : ja_kT y M' n) (hlink : Cond.methodLink M.2.2.1 idx y ∈ ja_tb) (hro : ja_rr M M') (hM : ja_Ct C.1.2.1 C.2.1 y M' (.ref b :: as) Λ σ (some (.int r), Λ, σ1)) (hb : ja_is b) (hn : as.length = n) (hst : (st.map fun v => v.category).sum ≤ 8) (hs : st0 = as.reverse ++ .ref b :: st) (kk : ja_J M C (pc + 3) lv (.int r :: st) Λ σ1 zz) : ja_J M C pc lv st0 Λ σ zz := ja_callT0 hd hk hlink hro hM hb hn hst hs kk
theorem ja_gsv (i : Nat) (hi : i < 11) (hd : decode M.1 pc = .ok (.getfield idx, 3)) (hlink : Cond.fieldLink M.2.2.1 idx "java/lang/String" "value" "[B" ∈ ja_tb) (kk : ja_J M C (pc + 3) lv (.ref (1100 + i) :: st) Λ σ zz) : ja_J M C pc lv (.ref (1000 + i) :: st) Λ σ zz := by
  obtain ⟨⟨p, l, e, R, s, m, args, below, meth, c⟩, ⟨D, cI, cJ⟩, ⟨ad0, n0, sl0, MC, MS, A⟩, Qf, L, xs⟩ := C
  intro ok ad H locs ls iv hl
  have hSF := ja_SF_ad ok.2.2.2.1 (fun k hk => iv.2.2.2.1 k (Or.inr (by have := iv.2.2.2.2.2.2.2.2.1; omega)))
  exact vk_getf (rest := st.map (ja_cv ad)) ok.1.1 ok.1.2.1 (hSF.2.2.2.2.1.1 i hi).2.2.1 iv.2.2.1 ok.1.2.2.2.1 (ok.1.2.2.2.2 _ hlink) (fun _ h => h) hd (kk ok ad H locs ls iv hl)
theorem ja_gsc (i : Nat) (hi : i < 11) (hd : decode M.1 pc = .ok (.getfield idx, 3)) (hlink : Cond.fieldLink M.2.2.1 idx "java/lang/String" "code\x72" "B" ∈ ja_tb) (kk : ja_J M C (pc + 3) lv (.int 0 :: st) Λ σ zz) : ja_J M C pc lv (.ref (1000 + i) :: st) Λ σ zz := by
  obtain ⟨⟨p, l, e, R, s, m, args, below, meth, c⟩, ⟨D, cI, cJ⟩, ⟨ad0, n0, sl0, MC, MS, A⟩, Qf, L, xs⟩ := C
  intro ok ad H locs ls iv hl
  have hSF := ja_SF_ad ok.2.2.2.1 (fun k hk => iv.2.2.2.1 k (Or.inr (by have := iv.2.2.2.2.2.2.2.2.1; omega)))
  exact vk_getf (rest := st.map (ja_cv ad)) ok.1.1 ok.1.2.1 (hSF.2.2.2.2.1.1 i hi).2.1 iv.2.2.1 ok.1.2.2.2.1 (ok.1.2.2.2.2 _ hlink) (fun _ h => h) hd (kk ok ad H locs ls iv hl)
theorem ja_bln (i : Nat) (hi : i < 11) (hd : decode M.1 pc = .ok (.arraylength, 1)) (kk : ja_J M C (pc + 1) lv (.int (Int32.ofNat (ja_ln.getD i 0)) :: st) Λ σ zz) : ja_J M C pc lv (.ref (1100 + i) :: st) Λ σ zz := by
  obtain ⟨⟨p, l, e, R, s, m, args, below, meth, c⟩, ⟨D, cI, cJ⟩, ⟨ad0, n0, sl0, MC, MS, A⟩, Qf, L, xs⟩ := C
  intro ok ad H locs ls iv hl
  have hSF := ja_SF_ad ok.2.2.2.1 (fun k hk => iv.2.2.2.1 k (Or.inr (by have := iv.2.2.2.2.2.2.2.2.1; omega)))
  exact va_tlen (rest := st.map (ja_cv ad)) ok.1.1 ok.1.2.1 (hSF.2.2.2.2.1.1 i hi).2.2.2 iv.2.2.1 rfl hd (kk ok ad H locs ls iv hl)
theorem ja_bld (i : Nat) (hi : i < 11) {j : Int32} (hj : 0 ≤ j.toInt ∧ j.toInt < ja_ln.getD i 0) (hd : decode M.1 pc = .ok (.baload, 1)) (kk : ja_J M C (pc + 1) lv (.int ((ja_by.getD i []).getD j.toInt.toNat 0) :: st) Λ σ zz) : ja_J M C pc lv (.int j :: .ref (1100 + i) :: st) Λ σ zz := by
  obtain ⟨⟨p, l, e, R, s, m, args, below, meth, c⟩, ⟨D, cI, cJ⟩, ⟨ad0, n0, sl0, MC, MS, A⟩, Qf, L, xs⟩ := C
  intro ok ad H locs ls iv hl
  have hSF := ja_SF_ad ok.2.2.2.1 (fun k hk => iv.2.2.2.1 k (Or.inr (by have := iv.2.2.2.2.2.2.2.2.1; omega)))
  exact va_tb (rest := st.map (ja_cv ad)) ok.1.1 ok.1.2.1 (hSF.2.2.2.2.1.1 i hi).2.2.2 iv.2.2.1 (ja_vp hj) rfl hd (kk ok ad H locs ls iv hl)
theorem ja_gcs (hd : decode M.1 pc = .ok (.getstatic idx, 3)) (hlink : Cond.fieldLink M.2.2.1 idx "java/lang/String" "COMPACT_STRINGS" "Z" ∈ ja_tb) (kk : ja_J M C (pc + 3) lv (.int 1 :: st) Λ σ zz) : ja_J M C pc lv st Λ σ zz := by
  obtain ⟨⟨p, l, e, R, s, m, args, below, meth, c⟩, ⟨D, cI, cJ⟩, ⟨ad0, n0, sl0, MC, MS, A⟩, Qf, L, xs⟩ := C
  intro ok ad H locs ls iv hl
  have hSF := ja_SF_ad ok.2.2.2.1 (fun k hk => iv.2.2.2.1 k (Or.inr (by have := iv.2.2.2.2.2.2.2.2.1; omega)))
  exact va_gets (rest := st.map (ja_cv ad)) (v := .int 1) ok.1.1 ok.1.2.1 hSF.2.2.1 iv.2.2.1 ok.1.2.2.2.1 (ok.1.2.2.2.2 _ hlink) (fun _ h => h) hd (kk ok ad H locs ls iv hl)
theorem ja_gfm (hd : decode M.1 pc = .ok (.getstatic idx, 3)) (hlink : Cond.fieldLink M.2.2.1 idx "jdk/internal/util/Preconditions" "SIOOBE_FORMATTER" "Ljava/util/function/BiFunction;" ∈ ja_tb) (k1 : ja_J M C (pc + 3) lv (.null :: st) Λ σ zz) (k2 : ja_J M C (pc + 3) lv (.ref 2001 :: st) Λ σ zz) : ja_J M C pc lv st Λ σ zz := by
  obtain ⟨⟨p, l, e, R, s, m, args, below, meth, c⟩, ⟨D, cI, cJ⟩, ⟨ad0, n0, sl0, MC, MS, A⟩, Qf, L, xs⟩ := C
  intro ok ad H locs ls iv hl
  have hSF := ja_SF_ad ok.2.2.2.1 (fun k hk => iv.2.2.2.1 k (Or.inr (by have := iv.2.2.2.2.2.2.2.2.1; omega)))
  rcases hSF.2.2.2.1 with h | h
  · exact va_gets (rest := st.map (ja_cv ad)) (v := .null) ok.1.1 ok.1.2.1 h iv.2.2.1 ok.1.2.2.2.1 (ok.1.2.2.2.2 _ hlink) (fun _ h => h) hd (k1 ok ad H locs ls iv hl)
  · exact va_gets (rest := st.map (ja_cv ad)) (v := .ref (ad 2001)) ok.1.1 ok.1.2.1 h iv.2.2.1 ok.1.2.2.2.1 (ok.1.2.2.2.2 _ hlink) (fun _ h => h) hd (k2 ok ad H locs ls iv hl)
end JT
theorem kv_String_length : ja_kT y_String_length M_String_length 0 := ⟨⟨ja_m1 12 rfl rfl, ja_m2 70 rfl rfl, by decide +kernel, by decide +kernel, by decide +kernel⟩, ja_m2 68 rfl rfl, ja_m2 69 rfl rfl, rfl⟩
theorem kv_String_charAt : ja_kT y_String_charAt M_String_charAt 1 := ⟨⟨ja_m1 12 rfl rfl, ja_m2 80 rfl rfl, by decide +kernel, by decide +kernel, by decide +kernel⟩, ja_m2 78 rfl rfl, ja_m2 79 rfl rfl, rfl⟩
theorem kv_String_coder : ja_kT y_String_coder M_String_coder 0 := ⟨⟨ja_m1 12 rfl rfl, ja_m2 74 rfl rfl, by decide +kernel, by decide +kernel, by decide +kernel⟩, ja_m2 72 rfl rfl, ja_m2 73 rfl rfl, rfl⟩
theorem kv_String_isLatin1 : ja_kT y_String_isLatin1 M_String_isLatin1 0 := ⟨⟨ja_m1 12 rfl rfl, ja_m2 84 rfl rfl, by decide +kernel, by decide +kernel, by decide +kernel⟩, ja_m2 82 rfl rfl, ja_m2 83 rfl rfl, rfl⟩
theorem ks_Latin1_charAt : ja_kS y_Latin1_charAt M_Latin1_charAt 2 := ⟨⟨ja_m1 13 rfl rfl, ja_m2 87 rfl rfl, by decide +kernel, by decide +kernel, by decide +kernel⟩, ja_m2 86 rfl rfl⟩
theorem ks_String_checkIndex : ja_kS y_String_checkIndex M_String_checkIndex 2 := ⟨⟨ja_m1 12 rfl rfl, ja_m2 90 rfl rfl, by decide +kernel, by decide +kernel, by decide +kernel⟩, ja_m2 89 rfl rfl⟩
theorem ks_Precond_checkIndex : ja_kS y_Precond_checkIndex M_Precond_checkIndex 3 := ⟨⟨ja_m1 14 rfl rfl, ja_m2 95 rfl rfl, by decide +kernel, by decide +kernel, by decide +kernel⟩, ja_m2 94 rfl rfl⟩
/-- the char of a text at a place -/
def ja_ch (i j : Nat) : Int32 := (ja_by.getD i []).getD j 0
theorem ja_ch_ok : ∀ i, i < 11 → ∀ j, j < 70 → ((ja_ch i j &&& 255).toUInt32 % 65536).toInt32 = ja_ch i j ∧ narrow .char (.int (ja_ch i j)) = .int (ja_ch i j) := by decide +kernel
theorem ja_ln_ok : ∀ i, i < 11 → ja_ln.getD i 0 < 70 := by decide +kernel
theorem ja_ri_c {x : Int32} (h : narrow .char (.int x) = .int x) : ja_ri (some .char) (some (.int x)) = some .ireturn := if_pos h
def f_String_length (x0 : Nat) (sg : ja_S) : Option (Int32 × ja_S) := some (Int32.ofNat (ja_ln.getD (x0 - 1000) 0), sg)
def f_String_charAt (x0 : Nat) (x1 : Int32) (sg : ja_S) : Option (Int32 × ja_S) := if 0 ≤ x1.toInt ∧ x1.toInt < ja_ln.getD (x0 - 1000) 0 then some (ja_ch (x0 - 1000) x1.toInt.toNat, sg) else none
theorem c_String_coder (l : Launch) (x : ja_X) (i : Nat) (hi : i < 11) {sg : ja_S} : ja_Ct l x y_String_coder M_String_coder [.ref (1000 + i)] ja_L0 sg (some (.int 0), ja_L0, sg) := by
  refine ja_mk ⟨by decide, rfl, rfl⟩ (Nat.le_of_ble_eq_true rfl) (lv := [(0, .ref (1000 + i))]) rfl (fun C hl hx _ _ _ _ => ?_)
  refine ja_gcs (pc := 0) (idx := 38) (by decide +kernel) (ja_m2 75 rfl rfl) ?_
  refine ja_if_eq (pc := 3) (off := 10) 13 (by decide +kernel) (by decide) (X := (none : Option Nat)) (Y := some 0) rfl (fun hf => by simp at hf) (fun _ => ?_)
  refine ja_aload_n (pc := 6) (f := 0) (i := 0) 0 (by decide +kernel) rfl rfl ?_
  refine ja_gsc (pc := 7) (idx := 15) i hi (by decide +kernel) (ja_m6 221 rfl rfl) ?_
  refine ja_goto (pc := 10) (off := 4) 14 (by decide +kernel) (by decide) ?_
  exact ja_ret (pc := 14) (some (.int 0)) .ireturn (by decide +kernel) (by decide) rfl
theorem c_String_isLatin1 (l : Launch) (x : ja_X) (i : Nat) (hi : i < 11) {sg : ja_S} : ja_Ct l x y_String_isLatin1 M_String_isLatin1 [.ref (1000 + i)] ja_L0 sg (some (.int 1), ja_L0, sg) := by
  refine ja_mk ⟨by decide, rfl, rfl⟩ (Nat.le_of_ble_eq_true rfl) (lv := [(0, .ref (1000 + i))]) rfl (fun C hl hx _ _ _ _ => ?_)
  refine ja_gcs (pc := 0) (idx := 38) (by decide +kernel) (ja_m2 75 rfl rfl) ?_
  refine ja_if_eq (pc := 3) (off := 14) 17 (by decide +kernel) (by decide) (X := (none : Option Nat)) (Y := some 0) rfl (fun hf => by simp at hf) (fun _ => ?_)
  refine ja_aload_n (pc := 6) (f := 0) (i := 0) 0 (by decide +kernel) rfl rfl ?_
  refine ja_gsc (pc := 7) (idx := 15) i hi (by decide +kernel) (ja_m6 221 rfl rfl) ?_
  refine ja_if_ne (pc := 10) (off := 7) 17 (by decide +kernel) (by decide) (X := some 0) (Y := (none : Option Nat)) rfl (fun hf => by simp at hf) (fun _ => ?_)
  refine ja_iconst (pc := 13) (n := 1) (v := 1) (by decide +kernel) (by decide +kernel) ?_
  refine ja_goto (pc := 14) (off := 4) 18 (by decide +kernel) (by decide) ?_
  exact ja_ret (pc := 18) (some (.int 1)) .ireturn (by decide +kernel) (by decide) rfl
theorem c_String_length (l : Launch) (x : ja_X) (x0 : Nat) {sg : ja_S} {w : Int32 × ja_S} (h0 : ja_is x0) (hf : f_String_length x0 sg = some w) : ja_Ct l x y_String_length M_String_length [.ref x0] ja_L0 sg (some (.int w.1), ja_L0, w.2) := by
  obtain ⟨i, hi, rfl⟩ := h0
  have e : 1000 + i - 1000 = i := by omega
  unfold f_String_length at hf
  rw [e] at hf
  refine ja_mk ⟨by decide, rfl, rfl⟩ (Nat.le_of_ble_eq_true rfl) (lv := [(0, .ref (1000 + i))]) rfl (fun C hl hx _ _ _ _ => ?_)
  subst hl; subst hx
  refine ja_aload_n (pc := 0) (f := 0) (i := 0) 0 (by decide +kernel) rfl rfl ?_
  refine ja_gsv (pc := 1) (idx := 9) i hi (by decide +kernel) (ja_m6 220 rfl rfl) ?_
  refine ja_bln (pc := 4) i hi (by decide +kernel) ?_
  refine ja_aload_n (pc := 5) (f := 0) (i := 0) 0 (by decide +kernel) rfl rfl ?_
  refine ja_callTi (pc := 6) (idx := 335) (b := 1000 + i) (as := []) (st := [.int (Int32.ofNat (ja_ln.getD i 0))]) (by decide +kernel) kv_String_coder (show Cond.methodLink "java/lang/String" 335 y_String_coder ∈ ja_tb from ja_m2 71 rfl rfl) ⟨by decide, by decide⟩ (c_String_coder _ _ i hi) (ja_is_mk i hi) rfl (Nat.le_of_ble_eq_true rfl) rfl ?_
  refine ja_ishr (pc := 9) (by decide +kernel) ?_
  refine ja_ret (pc := 10) (some (.int _)) .ireturn (by decide +kernel) rfl ?_
  cases hf
  rw [sb_shr0]
theorem c_Precond_checkIndex (l : Launch) (x : ja_X) (x0 x1 : Int32) (v : Value) (hv : v.category = 1) (h : ¬ x0 < 0 ∧ x0 < x1) {sg : ja_S} : ja_Ct l x y_Precond_checkIndex M_Precond_checkIndex [.int x0, .int x1, v] ja_L0 sg (some (.int x0), ja_L0, sg) := by
  refine ja_mk ⟨by decide, rfl, rfl⟩ (by cases v <;> first | exact Nat.le_of_ble_eq_true rfl | (simp [Value.category] at hv)) (lv := [(0, .int x0), (1, .int x1), (2, v)]) rfl (fun C hl hx _ _ _ _ => ?_)
  refine ja_iload_n (pc := 0) (f := 0) (i := 0) 0 (by decide +kernel) rfl rfl ?_
  refine ja_if_lt (pc := 1) (off := 8) 9 (by decide +kernel) (by decide) (X := (none : Option Nat)) (Y := some 0) (w := some 0) (if_neg h.1) (fun hf => by simp at hf) (fun _ => ?_)
  refine ja_iload_n (pc := 4) (f := 0) (i := 0) 0 (by decide +kernel) rfl rfl ?_
  refine ja_iload_n (pc := 5) (f := 1) (i := 1) 1 (by decide +kernel) rfl rfl ?_
  refine ja_icmp_lt (pc := 6) (off := 10) 16 (by decide +kernel) (by decide) (X := some 0) (Y := (none : Option Nat)) (w := some 0) (if_pos h.2) (fun _ => ?_) (fun hf => by simp at hf)
  refine ja_iload_n (pc := 16) (f := 0) (i := 0) 0 (by decide +kernel) rfl rfl ?_
  exact ja_ret (pc := 17) (some (.int x0)) .ireturn (by decide +kernel) rfl rfl
theorem c_String_checkIndex (l : Launch) (x : ja_X) (x0 x1 : Int32) (h : ¬ x0 < 0 ∧ x0 < x1) {sg : ja_S} : ja_Ct l x y_String_checkIndex M_String_checkIndex [.int x0, .int x1] ja_L0 sg (none, ja_L0, sg) := by
  refine ja_mk ⟨by decide, rfl, rfl⟩ (Nat.le_of_ble_eq_true rfl) (lv := [(0, .int x0), (1, .int x1)]) rfl (fun C hl hx _ _ _ _ => ?_)
  subst hl; subst hx
  refine ja_iload_n (pc := 0) (f := 0) (i := 0) 0 (by decide +kernel) rfl rfl ?_
  refine ja_iload_n (pc := 1) (f := 1) (i := 1) 1 (by decide +kernel) rfl rfl ?_
  have key : ∀ v : Value, v.category = 1 → ja_J M_String_checkIndex C 5 [(0, .int x0), (1, .int x1)] [v, .int x1, .int x0] ja_L0 sg (none, ja_L0, sg) := by
    intro v hv
    refine ja_callSi (pc := 5) (idx := 1059) (as := [.int x0, .int x1, v]) (st := []) (by decide +kernel) ks_Precond_checkIndex (show Cond.methodLink "java/lang/String" 1059 y_Precond_checkIndex ∈ ja_tb from ja_m2 93 rfl rfl) ⟨by decide, by decide⟩ (c_Precond_checkIndex _ _ x0 x1 v hv h) rfl (Nat.le_of_ble_eq_true rfl) rfl ?_
    refine ja_pop (pc := 8) (by decide +kernel) rfl ?_
    exact ja_ret (pc := 9) none .return_ (by decide +kernel) rfl rfl
  refine ja_gfm (pc := 2) (idx := 1053) (by decide +kernel) (ja_m2 91 rfl rfl) ?_ ?_
  · exact key .null rfl
  · exact key (.ref 2001) rfl
theorem c_Latin1_charAt (l : Launch) (x : ja_X) (i : Nat) (hi : i < 11) (x1 : Int32) (h : 0 ≤ x1.toInt ∧ x1.toInt < ja_ln.getD i 0) {sg : ja_S} : ja_Ct l x y_Latin1_charAt M_Latin1_charAt [.ref (1100 + i), .int x1] ja_L0 sg (some (.int (ja_ch i x1.toInt.toNat)), ja_L0, sg) := by
  have hlt := ja_ln_ok i hi
  obtain ⟨ch1, ch2⟩ := ja_ch_ok i hi x1.toInt.toNat (by omega)
  refine ja_mk ⟨by decide, rfl, rfl⟩ (Nat.le_of_ble_eq_true rfl) (lv := [(0, .ref (1100 + i)), (1, .int x1)]) rfl (fun C hl hx _ _ _ _ => ?_)
  subst hl; subst hx
  refine ja_iload_n (pc := 0) (f := 1) (i := 1) 1 (by decide +kernel) rfl rfl ?_
  refine ja_aload_n (pc := 1) (f := 0) (i := 0) 0 (by decide +kernel) rfl rfl ?_
  refine ja_bln (pc := 2) i hi (by decide +kernel) ?_
  refine ja_callSv (pc := 3) (idx := 9) (as := [.int x1, .int (Int32.ofNat (ja_ln.getD i 0))]) (st := []) (by decide +kernel) ks_String_checkIndex (show Cond.methodLink "java/lang/StringLatin1" 9 y_String_checkIndex ∈ ja_tb from ja_m2 88 rfl rfl) ⟨by decide, by decide⟩ (c_String_checkIndex _ _ x1 _ ⟨ja_nn h.1, ?_⟩) rfl (Nat.le_of_ble_eq_true rfl) rfl ?_
  · have e : (Int32.ofNat (ja_ln.getD i 0)).toInt = (ja_ln.getD i 0 : Int) := nI_toInt (by omega)
    rw [Int32.lt_iff_toInt_lt, e]
    exact h.2
  refine ja_aload_n (pc := 6) (f := 0) (i := 0) 0 (by decide +kernel) rfl rfl ?_
  refine ja_iload_n (pc := 7) (f := 1) (i := 1) 1 (by decide +kernel) rfl rfl ?_
  refine ja_bld (pc := 8) i hi h (by decide +kernel) ?_
  refine ja_sipush (pc := 9) (n := 255) (v := 255) (by decide +kernel) (by decide +kernel) ?_
  refine ja_iand (pc := 12) (by decide +kernel) ?_
  refine ja_i2c (pc := 13) (by decide +kernel) ?_
  rw [show (ja_by.getD i []).getD x1.toInt.toNat 0 = ja_ch i x1.toInt.toNat from rfl, ch1]
  exact ja_ret (pc := 14) (some (.int _)) .ireturn (by decide +kernel) (ja_ri_c ch2) rfl
theorem c_String_charAt (l : Launch) (x : ja_X) (x0 : Nat) (x1 : Int32) {sg : ja_S} {w : Int32 × ja_S} (h0 : ja_is x0) (hf : f_String_charAt x0 x1 sg = some w) : ja_Ct l x y_String_charAt M_String_charAt [.ref x0, .int x1] ja_L0 sg (some (.int w.1), ja_L0, w.2) := by
  obtain ⟨i, hi, rfl⟩ := h0
  have e : 1000 + i - 1000 = i := by omega
  unfold f_String_charAt at hf
  rw [e] at hf
  obtain ⟨h, rfl⟩ := ja_ite hf
  have hlt := ja_ln_ok i hi
  obtain ⟨ch1, ch2⟩ := ja_ch_ok i hi x1.toInt.toNat (by omega)
  refine ja_mk ⟨by decide, rfl, rfl⟩ (Nat.le_of_ble_eq_true rfl) (lv := [(0, .ref (1000 + i)), (1, .int x1)]) rfl (fun C hl hx _ _ _ _ => ?_)
  subst hl; subst hx
  refine ja_aload_n (pc := 0) (f := 0) (i := 0) 0 (by decide +kernel) rfl rfl ?_
  refine ja_callTi (pc := 1) (idx := 492) (b := 1000 + i) (as := []) (st := []) (by decide +kernel) kv_String_isLatin1 (show Cond.methodLink "java/lang/String" 492 y_String_isLatin1 ∈ ja_tb from ja_m2 81 rfl rfl) ⟨by decide, by decide⟩ (c_String_isLatin1 _ _ i hi) (ja_is_mk i hi) rfl (Nat.le_of_ble_eq_true rfl) rfl ?_
  refine ja_if_eq (pc := 4) (off := 12) 16 (by decide +kernel) (by decide) (X := (none : Option Nat)) (Y := some 0) rfl (fun hf => by simp at hf) (fun _ => ?_)
  refine ja_aload_n (pc := 7) (f := 0) (i := 0) 0 (by decide +kernel) rfl rfl ?_
  refine ja_gsv (pc := 8) (idx := 9) i hi (by decide +kernel) (ja_m6 220 rfl rfl) ?_
  refine ja_iload_n (pc := 11) (f := 1) (i := 1) 1 (by decide +kernel) rfl rfl ?_
  refine ja_callSi (pc := 12) (idx := 495) (as := [.ref (1100 + i), .int x1]) (st := []) (by decide +kernel) ks_Latin1_charAt (show Cond.methodLink "java/lang/String" 495 y_Latin1_charAt ∈ ja_tb from ja_m2 85 rfl rfl) ⟨by decide, by decide⟩ (c_Latin1_charAt _ _ i hi x1 h) rfl (Nat.le_of_ble_eq_true rfl) rfl ?_
  exact ja_ret (pc := 15) (some (.int _)) .ireturn (by decide +kernel) (ja_ri_c ch2) rfl
