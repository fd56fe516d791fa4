/-! rules come and go -/
def rs_ok (σ : ja_S) (rs : List am_R) : Prop := σ.1 3 3 = nI rs.length ∧ ∀ i, i < rs.length → σ.1 4 i = nI (am_pk (am_rd rs i))
def am_ins (rs : List am_R) (p : Nat) (r : am_R) : List am_R := rs.take p ++ r :: rs.drop p
theorem ins_len {rs : List am_R} {p : Nat} {r : am_R} (hp : p ≤ rs.length) : (am_ins rs p r).length = rs.length + 1 := by
  unfold am_ins
  rw [List.length_append, List.length_cons, List.length_take, List.length_drop]
  omega
theorem ins_rd {rs : List am_R} {p j : Nat} {r : am_R} (hp : p ≤ rs.length) : am_rd (am_ins rs p r) j = if j < p then am_rd rs j else if j = p then r else am_rd rs (j - 1) := by
  unfold am_rd am_ins
  have hl : (rs.take p).length = p := by rw [List.length_take]; omega
  rw [List.getD_eq_getElem?_getD]
  by_cases h1 : j < p
  · rw [if_pos h1, List.getElem?_append_left (by omega), List.getElem?_take_of_lt h1, List.getD_eq_getElem?_getD]
  · rw [if_neg h1, List.getElem?_append_right (by omega), hl]
    by_cases h2 : j = p
    · rw [if_pos h2, h2, Nat.sub_self]
      rfl
    · rw [if_neg h2, show j - p = (j - p - 1) + 1 by omega, List.getElem?_cons_succ, List.getElem?_drop, List.getD_eq_getElem?_getD, show p + (j - p - 1) = j - 1 by omega]
theorem er_rd {rs : List am_R} {p j : Nat} : am_rd (rs.eraseIdx p) j = if j < p then am_rd rs j else am_rd rs (j + 1) := by
  unfold am_rd
  rw [List.getD_eq_getElem?_getD, List.getElem?_eraseIdx]
  by_cases h : j < p
  · rw [if_pos h, if_pos h, List.getD_eq_getElem?_getD]
  · rw [if_neg h, if_neg h, List.getD_eq_getElem?_getD]
theorem er_len {rs : List am_R} {p : Nat} (hp : p < rs.length) : (rs.eraseIdx p).length = rs.length - 1 := List.length_eraseIdx_of_lt hp
theorem ins_er {rs : List am_R} {p : Nat} {r : am_R} (h : rs[p]? = some r) : am_ins (rs.eraseIdx p) p r = rs := by
  have hp := (List.getElem?_eq_some_iff.mp h).1
  apply List.ext_getElem?
  intro j
  have hl : (am_ins (rs.eraseIdx p) p r).length = rs.length := by rw [ins_len (by rw [er_len hp]; omega), er_len hp]; omega
  by_cases hj : j < rs.length
  · have h1 := ins_rd (rs := rs.eraseIdx p) (p := p) (j := j) (r := r) (by rw [er_len hp]; omega)
    rw [am_rd_lt (by rw [hl]; exact hj)] at h1
    rw [List.getElem?_eq_getElem (by rw [hl]; exact hj), List.getElem?_eq_getElem hj, h1]
    congr 1
    by_cases c1 : j < p
    · rw [if_pos c1, er_rd, if_pos c1, am_rd_lt hj]
    · rw [if_neg c1]
      by_cases c2 : j = p
      · rw [if_pos c2]
        subst c2
        exact ((List.getElem?_eq_some_iff.mp h).2).symm
      · rw [if_neg c2, er_rd, if_neg (by omega), show j - 1 + 1 = j by omega, am_rd_lt hj]
  · rw [List.getElem?_eq_none (by rw [hl]; omega), List.getElem?_eq_none (by omega)]
theorem ins_end {rs : List am_R} {r : am_R} : am_ins rs rs.length r = rs ++ [r] := by
  unfold am_ins
  rw [List.take_length, List.drop_length]
theorem er_end {rs : List am_R} {r : am_R} : (rs ++ [r]).eraseIdx rs.length = rs := by
  rw [List.eraseIdx_append_of_length_le (Nat.le_refl _), Nat.sub_self]
  simp
def fr_ru (σ σ' : ja_S) : Prop := (∀ k j, k ≠ 4 → (k ≠ 3 ∨ j ≠ 3) → σ'.1 k j = σ.1 k j) ∧ σ'.2 = σ.2
theorem insert_ok {σ : ja_S} {rs : List am_R} {p : Nat} {r : am_R} (h : rs_ok σ rs) (hp : p ≤ rs.length) (hl : rs.length < 24) : ∃ σ', f_Sheet_insertRule 3 (nI p) (nI (am_pk r)) σ = some σ' ∧ rs_ok σ' (am_ins rs p r) ∧ fr_ru σ σ' := by
  obtain ⟨h1, h2⟩ := h
  obtain ⟨σ1, a1, a2, a3, a4⟩ := cps_ok (σ := σ) (a := 4) (N := 24) (sp := p) (dp := p + 1) (n := rs.length - p) rfl (by omega) (by omega) (by omega)
  unfold f_Sheet_insertRule ja_pu
  rw [show ja_q 3 2 = 4 from rfl, if_neg (nI_pos (by omega)), h1, if_neg (nI_nlt hp (by omega)), show (24 : Int32) = nI 24 by decide +kernel, if_pos (nI_lt hl (by omega)), nI_1, pk_sub hp, a1, Option.bind_some, st0' (N := 24) rfl (by omega) (by omega), Option.bind_some, Option.bind_some, si_row (by omega), a3 3 3 (by omega), h1, nI_1]
  refine ⟨_, rfl, ⟨?_, fun i hi => ?_⟩, fun k j x y => ?_, a4⟩
  · rw [si_at, if_pos ⟨rfl, rfl⟩, ins_len hp]
  · rw [ins_len hp] at hi
    rw [si_row (by omega), si_at, ins_rd hp]
    by_cases c2 : i = p
    · rw [if_pos ⟨rfl, c2⟩, if_neg (by omega), if_pos c2]
    · have c3 : ¬ (4 = 4 ∧ i = p) := fun z => c2 z.2
      rw [if_neg c3, a2 i]
      by_cases c1 : i < p
      · rw [if_pos c1, if_neg (by omega)]
        exact h2 i (by omega)
      · rw [if_neg c1, if_neg c2, if_pos (by omega), show p + (i - (p + 1)) = i - 1 by omega]
        exact h2 (i - 1) (by omega)
  · rw [si_at, if_neg (by omega), si_at, if_neg (by omega), a3 k j x]
theorem drop_ok {σ : ja_S} {rs : List am_R} {p : Nat} (h : rs_ok σ rs) (hp : p < rs.length) (hl : rs.length ≤ 24) : ∃ σ', f_Sheet_dropRule 3 (nI p) σ = some σ' ∧ rs_ok σ' (rs.eraseIdx p) ∧ fr_ru σ σ' := by
  obtain ⟨h1, h2⟩ := h
  have e1 : nI rs.length - 1 = nI (rs.length - 1) := by rw [show (1 : Int32) = nI 1 by decide +kernel, pk_sub (by omega)]
  obtain ⟨σ1, a1, a2, a3, a4⟩ := cps_ok (σ := ja_si σ 3 3 (nI (rs.length - 1))) (a := 4) (N := 24) (sp := p + 1) (dp := p) (n := rs.length - 1 - p) rfl (by omega) (by omega) (by omega)
  have e3 : (ja_si σ 3 3 (nI (rs.length - 1))).1 3 3 = nI (rs.length - 1) := by rw [si_at, if_pos ⟨rfl, rfl⟩]
  unfold f_Sheet_dropRule ja_pu
  rw [hasRule_ok h1 (by omega), am_in_nI hp (by omega), Option.bind_some, if_neg bz1, Option.bind_some, h1, e1, show ja_q 3 2 = 4 from rfl, e3, nI_1, pk_sub (by omega), a1, Option.bind_some]
  refine ⟨σ1, rfl, ⟨?_, fun i hi => ?_⟩, fun k j x y => ?_, a4⟩
  · rw [a3 3 3 (by omega), e3, er_len hp]
  · rw [er_len hp] at hi
    rw [a2 i, er_rd]
    by_cases c1 : i < p
    · rw [if_neg (by omega), if_pos c1, si_row (by omega)]
      exact h2 i (by omega)
    · rw [if_pos (by omega), if_neg c1, show p + 1 + (i - p) = i + 1 by omega, si_row (by omega)]
      exact h2 (i + 1) (by omega)
  · rw [a3 k j x, si_at, if_neg (by omega)]
/-! the frame after a call that works on it -/
def am_nw (A : am_A) (rs : List am_R) (cur : Nat) (os : List am_O) : am_A := (A.1, rs, A.2.2.1, A.2.2.2.1, cur, os, A.2.2.2.2.2.2.1, A.2.2.2.2.2.2.2.1, A.2.2.2.2.2.2.2.2)
theorem am_C_rs {A : am_A} {σ : ja_S} (hC : am_C A σ) : rs_ok σ A.2.1 := ⟨am_C_rules hC, fun _ hi => am_C_rule hC hi⟩
theorem am_C_mk {A : am_A} {σ σ' : ja_S} {rs : List am_R} {cur : Nat} {os : List am_O} {ds : List am_D} (hC : am_C A σ) (hc : ∀ k j, (k = 1 ∨ k = 2 ∨ k = 5 ∨ k = 6 ∨ k = 7 ∨ (k = 3 ∧ j ≠ 3)) → σ'.1 k j = σ.1 k j) (hr : rs_ok σ' rs) (h6 : σ'.1 0 6 = nI cur) (hh : hs_ok σ' ds) (hhist : am_hist ds (rs, cur) os) : am_C (am_nw A rs cur os) σ' := by
  obtain ⟨c1, c2, c3, c4, ⟨s1, s2, s3, s4, s5, s6, s7, s8, s9⟩, c6, c7⟩ := hC
  have hrow : ∀ k, (k = 1 ∨ k = 2 ∨ k = 5 ∨ k = 6 ∨ k = 7) → σ'.1 k = σ.1 k := fun k hk => funext fun j => hc k j (by omega)
  refine ⟨(hc 1 6 (by omega)).trans c1, ?_, ?_, ?_, ⟨?_, ?_, ?_, ?_, ?_, ?_, ?_, ?_, ?_⟩, h6, ds, hist_len _ _ _ hhist, hhist, hh.1, hh.2.2⟩
  · rw [hrow 2 (by omega)]; exact c2
  · rw [hrow 1 (by omega)]; exact c3
  · rw [hrow 1 (by omega)]; exact c4
  · exact (hc 3 0 (by omega)).trans s1
  · exact (hc 3 1 (by omega)).trans s2
  · show σ'.1 3 3 = nI (rs.map am_pk).length
    rw [List.length_map]; exact hr.1
  · exact (hc 3 5 (by omega)).trans s4
  · exact (hc 3 8 (by omega)).trans s5
  · intro i hi
    have hi' : i < rs.length := by
      have h2 : i < (rs.map am_pk).length := hi
      rw [List.length_map] at h2
      exact h2
    show σ'.1 4 i = nI ((rs.map am_pk).getD i 0)
    rw [getD_map (d := (0, 0, 0, 0)) hi']
    exact hr.2 i hi'
  · show am_row (σ'.1 5) A.2.2.1
    rw [hrow 5 (by omega)]; exact s7
  · show am_row (σ'.1 6) (A.2.2.2.1.map (fun q => q.1))
    rw [hrow 6 (by omega)]; exact s8
  · show am_row (σ'.1 7) (A.2.2.2.1.map (fun q => q.2))
    rw [hrow 7 (by omega)]; exact s9
theorem am_C_hs {A : am_A} {σ : ja_S} (hA : am_ok A) (hC : am_C A σ) : ∃ ds, hs_ok σ ds ∧ am_hist ds (A.2.1, A.2.2.2.2.1) A.2.2.2.2.2.1 := by
  obtain ⟨c1, c2, c3, c4, c5, c6, ds, d1, d2, d3, d4⟩ := hC
  have : A.2.2.2.2.2.1.length ≤ 12 := hA.2.2.2.2.2.2.2.2.2.1
  exact ⟨ds, ⟨d3, by omega, d4⟩, d2⟩
theorem am_M_mk {A : am_A} {τ τ' : ja_S} {rs : List am_R} {cur : Nat} {os : List am_O} (hM : am_M A τ) (hc : ∀ k j, (k = 48 ∨ k = 49 ∨ k = 50 ∨ k = 51 ∨ (k = 45 ∧ (j = 0 ∨ j = 1 ∨ j = 2 ∨ j = 11 ∨ j = 14 ∨ j = 15 ∨ j = 36))) → τ'.1 k j = τ.1 k j) (hs : am_s (τ'.1 46) 0 (rs, cur)) (hr : rm_ok τ' os) : am_M (am_nw A rs cur os) τ' := by
  obtain ⟨m1, m2, m3, m4, m5, m6, m7, m8, m9, m10, m11, m12, m13, m14⟩ := hM
  have hrow : ∀ k, (k = 48 ∨ k = 49 ∨ k = 50 ∨ k = 51) → τ'.1 k = τ.1 k := fun k hk => funext fun j => hc k j (by omega)
  refine ⟨(hc 45 0 (by omega)).trans m1, (hc 45 1 (by omega)).trans m2, (hc 45 2 (by omega)).trans m3, hs, hr.1, hr.2.2, ?_, ?_, ?_, (hc 45 11 (by omega)).trans m10, ?_, (hc 45 14 (by omega)).trans m12, (hc 45 15 (by omega)).trans m13, (hc 45 36 (by omega)).trans m14⟩
  · rw [hrow 48 (by omega)]; exact m7
  · rw [hrow 49 (by omega)]; exact m8
  · rw [hrow 50 (by omega)]; exact m9
  · rw [hrow 51 (by omega)]; exact m11
theorem am_M_rm {A : am_A} {τ : ja_S} (hA : am_ok A) (hM : am_M A τ) : rm_ok τ A.2.2.2.2.2.1 ∧ am_s (τ.1 46) 0 (A.2.1, A.2.2.2.2.1) ∧ ∀ q ∈ A.2.2.2.2.2.1, q.1.length ≤ 24 := ⟨⟨hM.2.2.2.2.1, hA.2.2.2.2.2.2.2.2.2.1, hM.2.2.2.2.2.1⟩, hM.2.2.2.1, fun q hq => (hA.2.2.2.2.2.2.2.2.2.2.1 q hq).1⟩
theorem am_ok_nw {A : am_A} {rs : List am_R} {cur : Nat} {os : List am_O} (hA : am_ok A) (h1 : rs.length ≤ 24) (h2 : ∀ r ∈ rs, am_rok A.1 r) (h3 : cur < 2 ^ A.1) (h4 : os.length ≤ 12) (h5 : ∀ q ∈ os, q.1.length ≤ 24 ∧ (∀ r ∈ q.1, am_rok A.1 r) ∧ q.2 < 2 ^ A.1) : am_ok (am_nw A rs cur os) := by
  obtain ⟨a1, a2, a3, a4, a5, a6, a7, a8, a9, a10, a11, a12⟩ := hA
  exact ⟨a1, a2, h1, h2, a5, a6, a7, a8, h3, h4, h5, a12⟩
/-- the snapshots after one call more -/
theorem os_ok {A : am_A} (hA : am_ok A) : ((A.2.1, A.2.2.2.2.1) :: A.2.2.2.2.2.1.take 11).length ≤ 12 ∧ ∀ q ∈ (A.2.1, A.2.2.2.2.1) :: A.2.2.2.2.2.1.take 11, q.1.length ≤ 24 ∧ (∀ r ∈ q.1, am_rok A.1 r) ∧ q.2 < 2 ^ A.1 := by
  refine ⟨?_, fun q hq => ?_⟩
  · rw [List.length_cons, List.length_take]
    omega
  · rcases List.mem_cons.mp hq with h | h
    · rw [h]
      exact ⟨hA.2.2.1, hA.2.2.2.1, hA.2.2.2.2.2.2.2.2.1⟩
    · exact hA.2.2.2.2.2.2.2.2.2.2.1 q (List.mem_of_mem_take h)
theorem am_asked3 {A : am_A} {n : Nat} {a : Nat → Int32} {σ τ : ja_S} (hM : am_M A σ) (h : ja_case n a σ = some τ) (hf : fr_md σ τ) : am_ask A n a σ := ⟨τ, h, am_M_md hM hf, fun k hk => ⟨funext fun j => hf.1 k j (by omega) (by omega), by rw [hf.2]⟩⟩
section C14
variable {A : am_A} {a : Nat → Int32} {σ : ja_S}
theorem case_14 (hA : am_ok A) (hC : am_C A σ) (hM : am_M A σ) : am_do A 14 a σ := by
  have hN : A.1 ≤ 12 := hA.2.1
  have hl24 : A.2.1.length ≤ 24 := hA.2.2.1
  have hp := p12 hN
  have hcur : A.2.2.2.2.1 < 2 ^ A.1 := hA.2.2.2.2.2.2.2.2.1
  have c0 : σ.1 3 0 = nI A.1 := hC.2.2.2.2.1.1
  have c6 : σ.1 0 6 = nI A.2.2.2.2.1 := hC.2.2.2.2.2.1
  have c2 : ∀ τ : ja_S, am_M A τ → (ja_si τ 45 9 0).1 45 0 = nI A.1 := fun τ h => by rw [si_at, if_neg (by omega)]; exact h.1
  cases hin : am_in (a 1) A.1 with
  | false =>
    refine am_ask_do hA hC (am_asked hM ?_)
    rw [jc_14]
    unfold f_Frame_moveLever f_Model_moveLever ja_pu
    rw [show ja_q 0 3 = 3 from rfl, hasLever_ok c0 (by omega), hin, Option.bind_some, if_pos (am_bz0.mpr rfl), Option.bind_some, Option.bind_some, isLever_ok (c2 σ hM) (by omega), hin, Option.bind_some, if_pos (am_bz0.mpr rfl), Option.bind_some, if_pos rfl]
  | true =>
    obtain ⟨l, hl, el⟩ := am_in_t hin (by omega)
    -- the reference's start, over any state with the same frame
    have hfree : ∀ τ : ja_S, am_M A τ → ∃ τ1, f_Model_usesSheet 45 (ja_si τ 45 9 0) = some τ1 ∧ τ1.1 46 1 = nI A.2.2.2.2.1 ∧ f_Model_isFree 45 (nI A.2.2.2.2.1) (nI l) τ1 = some (am_bz (am_al A.2.1 A.2.2.2.2.1 l), τ1) ∧ fr_md τ τ1 := by
      intro τ hMτ
      obtain ⟨τ1, g1, g2, g3, g4⟩ := mstart hA (am_M_th (v := 0) hMτ)
      have hM1 := am_M_md (am_M_th (v := 0) hMτ) g4
      exact ⟨τ1, g1, hM1.2.2.2.1.2.1, near_free g2 (by omega) (by omega), fr_md_tr md_th g4⟩
    have hblk : am_io (am_first (fun k => am_blk (am_rd A.2.1 k) A.2.2.2.2.1 l) A.2.1.length 0) = -1 ↔ am_al A.2.1 A.2.2.2.2.1 l = true := by
      rw [first_io_lt (M := 24) (by omega) (by omega), first_none, am_al_t]
      constructor
      · intro h r hr
        obtain ⟨k, hk⟩ := List.getElem?_of_mem hr
        have hkl := (List.getElem?_eq_some_iff.mp hk).1
        have := h k (by omega) (by omega)
        rw [am_rd_lt hkl, (List.getElem?_eq_some_iff.mp hk).2] at this
        exact this
      · intro h k _ hk
        exact h _ (getD_mem (by omega))
    by_cases hal : am_al A.2.1 A.2.2.2.2.1 l = true
    · -- it moves
      have hcur' : A.2.2.2.2.1 ^^^ 2 ^ l < 2 ^ A.1 := Nat.xor_lt_two_pow hcur (Nat.pow_lt_pow_right (by omega) hl)
      obtain ⟨ds, hds, hist⟩ := am_C_hs hA hC
      have hds1 : hs_ok (ja_si σ 0 6 (nI (A.2.2.2.2.1 ^^^ 2 ^ l))) ds := by
        obtain ⟨b1, b2, b3⟩ := hds
        refine ⟨by rw [si_row (by omega)]; exact b1, b2, fun i hi => ?_⟩
        rw [si_row (by omega), si_row (by omega), si_row (by omega)]
        exact b3 i hi
      obtain ⟨σ2, n1, n2, n3⟩ := note_ok (d := (0, l, 0)) hds1
      have f2 : ∀ k j, (k < 13 ∨ 16 < k) → ¬ (k = 0 ∧ j = 6) → σ2.1 k j = σ.1 k j := fun k j h1 h2 => by rw [n3.1 k j h1, si_at, if_neg h2]
      have h06 : σ2.1 0 6 = nI (A.2.2.2.2.1 ^^^ 2 ^ l) := by rw [n3.1 0 6 (by omega), si_at, if_pos ⟨rfl, rfl⟩]
      have hM2 : am_M A σ2 := am_M_ch hM (fun k hk => funext fun j => f2 k j (by omega) (by omega))
      obtain ⟨τ1, u1, u2, u3, u4⟩ := hfree σ2 hM2
      have hM3 := am_M_md hM2 u4
      obtain ⟨r1, r2, r3⟩ := am_M_rm hA hM3
      obtain ⟨τ2, v1, v2, v3⟩ := remembers_ok r1 r2 hl24 r3
      have hcurτ : τ2.1 46 1 = nI A.2.2.2.2.1 := by rw [v3.1 46 1 (by omega) (by omega)]; exact u2
      obtain ⟨oso1, oso2⟩ := os_ok hA
      refine ⟨am_nw A A.2.1 (A.2.2.2.2.1 ^^^ 2 ^ l) ((A.2.1, A.2.2.2.2.1) :: A.2.2.2.2.2.1.take 11), ja_si τ2 46 1 (nI (A.2.2.2.2.1 ^^^ 2 ^ l)), ?_, am_ok_nw hA hl24 hA.2.2.2.1 hcur' oso1 oso2, ?_, ?_, Or.inl ⟨⟨rfl, rfl, rfl, rfl⟩, fun k j hj => ?_⟩, fun k h1 h2 h29 => ?_⟩
      · rw [jc_14]
        unfold f_Frame_moveLever f_Model_moveLever ja_pu
        have n1' : f_History_note 13 0 (nI l) 0 (ja_si σ 0 6 (nI (A.2.2.2.2.1 ^^^ 2 ^ l))) = some σ2 := by
          rw [am_z]; exact n1
        have hv46 : (ja_si τ2 46 1 (nI (A.2.2.2.2.1 ^^^ 2 ^ l))).1 46 1 = nI (A.2.2.2.2.1 ^^^ 2 ^ l) := by rw [si_at, if_pos ⟨rfl, rfl⟩]
        rw [show ja_q 0 3 = 3 from rfl, show ja_q 0 5 = 13 from rfl, hasLever_ok c0 (by omega), hin, Option.bind_some, if_neg bz1, c6, el, firstB_ok hA hC (by omega) (by omega), Option.bind_some, if_pos (hblk.mpr hal), Option.bind_some, c6, nI_pow (by omega), nI_xor, n1', Option.bind_some, h06, Option.bind_some, Option.bind_some, isLever_ok (c2 σ2 hM2) (by omega), am_in_nI hl (by omega), Option.bind_some, if_neg bz1, u1, Option.bind_some, show ja_q 45 3 = 46 from rfl, show (1 : Int32) = nI 1 by decide +kernel, ld0 (N := 98) rfl (by omega) (by omega), Option.bind_some, u2, u3, hal, Option.bind_some, if_neg bz1, v1, Option.bind_some, ld0 (N := 98) rfl (by omega) (by omega), Option.bind_some, hcurτ, nI_xor, st0' (N := 98) rfl (by omega) (by omega), Option.bind_some, ld0 (N := 98) rfl (by omega) (by omega), Option.bind_some, Option.bind_some, hv46]
        exact if_pos rfl
      · have hCx : am_C (am_nw A A.2.1 (A.2.2.2.2.1 ^^^ 2 ^ l) ((A.2.1, A.2.2.2.2.1) :: A.2.2.2.2.2.1.take 11)) σ2 := by
          refine am_C_mk hC (fun k j hk => f2 k j (by omega) (by omega)) ?_ h06 n2 ⟨Or.inl ⟨rfl, rfl, by show l < 12; omega, rfl⟩, hist_take 11 _ _ _ hist⟩
          have := am_C_rs hC
          exact ⟨(f2 3 3 (by omega) (by omega)).trans this.1, fun i hi => (f2 4 i (by omega) (by omega)).trans (this.2 i hi)⟩
        refine am_C_ch hCx (fun k hk => funext fun j => ?_)
        rw [si_at, if_neg (by omega), v3.1 k j (by omega) (by omega), u4.1 k j (by omega) (by omega)]
      · have f4 : ∀ k j, k < 52 → k ≠ 47 → k ≠ 46 → (k ≠ 45 ∨ j = 0 ∨ j = 1 ∨ j = 2 ∨ j = 11 ∨ j = 14 ∨ j = 15 ∨ j = 36) → (ja_si τ2 46 1 (nI (A.2.2.2.2.1 ^^^ 2 ^ l))).1 k j = τ1.1 k j := fun k j a1 a2 a3 a4 => by
          rw [si_at, if_neg (by omega), v3.1 k j a2 (by omega)]
        refine am_M_mk hM3 (fun k j hk => f4 k j (by omega) (by omega) (by omega) (by omega)) ?_ ?_
        · obtain ⟨s1, s2, s3⟩ := r2
          have k46 : ∀ j, j ≠ 1 → (ja_si τ2 46 1 (nI (A.2.2.2.2.1 ^^^ 2 ^ l))).1 46 j = τ1.1 46 j := fun j hj => by
            rw [si_at, if_neg (by omega), v3.1 46 j (by omega) (by omega)]
          refine ⟨(k46 0 (by omega)).trans s1, ?_, fun i hi => ?_⟩
          · rw [si_at, if_pos ⟨rfl, rfl⟩]
          · have := s3 i hi
            rw [k46 _ (by omega), k46 _ (by omega), k46 _ (by omega), k46 _ (by omega)]
            exact this
        · obtain ⟨w1, w2, w3⟩ := v2
          refine ⟨by rw [si_row (by omega)]; exact w1, w2, fun i hi => ?_⟩
          rw [si_row (by omega)]
          exact w3 i hi
      · rw [si_at, if_neg (by omega), v3.1 k j (by omega) (by omega), u4.1 k j (by omega) (by omega), f2 k j (by omega) (by omega)]
      · refine ⟨funext fun j => ?_, ?_⟩
        · rw [si_at, if_neg (by omega), v3.1 k j (by omega) (by omega), u4.1 k j (by omega) (by omega), f2 k j (by omega) (by omega)]
        · rw [si_l, v3.2, u4.2, n3.2, si_l]
    · -- it is blocked
      have hal' : am_al A.2.1 A.2.2.2.2.1 l = false := by simpa using hal
      obtain ⟨τ1, u1, u2, u3, u4⟩ := hfree σ hM
      refine am_ask_do hA hC (am_asked3 (τ := τ1) hM ?_ u4)
      rw [jc_14]
      unfold f_Frame_moveLever f_Model_moveLever ja_pu
      rw [show ja_q 0 3 = 3 from rfl, hasLever_ok c0 (by omega), hin, Option.bind_some, if_neg bz1, c6, el, firstB_ok hA hC (by omega) (by omega), Option.bind_some, if_neg (fun z => hal (hblk.mp z)), Option.bind_some, Option.bind_some, isLever_ok (c2 σ hM) (by omega), am_in_nI hl (by omega), Option.bind_some, if_neg bz1, u1, Option.bind_some, show ja_q 45 3 = 46 from rfl, show (1 : Int32) = nI 1 by decide +kernel, ld0 (N := 98) rfl (by omega) (by omega), Option.bind_some, u2, u3, hal', Option.bind_some, if_pos (am_bz0.mpr rfl), Option.bind_some]
      exact if_pos rfl
end C14
