/-! nextMove -/
theorem i1n0 : ¬ (1 : Int32) = 0 := by decide
section LW
variable {K : Nat} {σ : ja_S} {al : Nat → Nat → Bool} {q r : List bq_E} {pl pr : Nat → Nat} {k0 k : Nat} {T : Nat → Bool} {ek : bq_E}
theorem way_at (hK : K = 17 ∨ K = 23) (hb : bs_ok σ K q) (hq : bq_ok q) {i : Nat} {e : bq_E} (he : q[i]? = some e) : e.1 < 4096 ∧ e.2.2 < 12 ∧ f_Search_reached K (nI e.1) σ = some (1, σ) ∧ (ja_ld ja_L0 σ (K + 5) (nI e.1)) = some (nI (16 * e.2.1 + e.2.2)) ∧ nI (16 * e.2.1 + e.2.2) - nI (16 * e.2.1 + e.2.2) / (16 : Int32) * (16 : Int32) = nI e.2.2 := by
  have hm := List.mem_of_getElem? he
  have hs := bq_see_mem hq.1 hm
  have hbd := bq_bd hq hs
  refine ⟨hbd.2.2, hbd.2.1, ?_, ?_, ?_⟩
  · rw [reached_ok hK hb hq hbd.2.2, hs]
    rfl
  · rw [ld_wy hK hbd.2.2, hb.2.2 _ hbd.2.2, hs, bs_w_some]
  · rw [show (16 : Int32) = nI 16 by decide +kernel, pk_rem (by omega) (by omega) (by omega), show (16 * e.2.1 + e.2.2) % 16 = e.2.2 by omega]
theorem low_L11 (hK : K = 17 ∨ K = 23) (hb : bs_ok σ K q) (hw : wk_ok al q r pl pr k0 k T ek) {idx : Nat} (hidx : idx < ek.2.1) {g : bq_E} (hg : q[wk_ch pl k (ek.2.1 - 1 - idx)]? = some g) : ∀ (d n j : Nat) (e : bq_E), j + d = ek.2.1 - 1 - idx → d < n → q[wk_ch pl k j]? = some e → f_Search_leverOnWay_L11 n K (nI idx) (nI e.1) (am_cd (ek.2.1 - j)) σ = some (nI g.2.2, σ) := by
  have hq := hw.1
  have hm4 : ek.2.1 < 4096 := (bq_bd hq (bq_see_mem hq.1 (List.mem_of_getElem? hw.2.2.2.2.2.2.2.1))).1
  intro d
  induction d with
  | zero =>
    intro n j e hj hn he
    obtain ⟨n, rfl⟩ : ∃ j, n = j + 1 := ⟨n - 1, by omega⟩
    rw [show ek.2.1 - 1 - idx = j by omega, he] at hg
    cases hg
    obtain ⟨w1, w2, w3, w4, w5⟩ := way_at hK hb hq he
    rw [f_Search_leverOnWay_L11, cd_pos (by omega), if_pos (nI_le (by omega) (by omega))]
    unfold f_Search_leverOnWay_B45
    rw [w3, Option.bind_some, if_neg i1n0, (ja_qs hK).2.2, w4, Option.bind_some, w5]
  | succ d ih =>
    intro n j e hj hn he
    obtain ⟨n, rfl⟩ : ∃ j, n = j + 1 := ⟨n - 1, by omega⟩
    obtain ⟨w1, w2, w3, w4, w5⟩ := way_at hK hb hq he
    obtain ⟨f, f1, f2⟩ := wk_dist hw (j + 1) (by omega)
    obtain ⟨p1, p2, p3, p4⟩ := wk_par hw (by omega) he f1
    have hc : am_cd (ek.2.1 - j) + (-1) = am_cd (ek.2.1 - (j + 1)) := by
      rw [show ek.2.1 - j = (ek.2.1 - (j + 1)) + 1 by omega, cd_dec]
    rw [f_Search_leverOnWay_L11, hc, cd_pos (by omega), if_neg (nI_ge (by omega) (by omega)), w3, Option.bind_some, if_neg i1n0, (ja_qs hK).2.2, w4, Option.bind_some, w5, nI_pow (by omega), nI_xor]
    have hx : e.1 ^^^ 2 ^ e.2.2 = f.1 := by rw [p4, xor_back]
    rw [hx]
    exact ih n (j + 1) f (by omega) (by omega) f1
theorem onWay_ok (hK : K = 17 ∨ K = 23) (hb : bs_ok σ K q) (hw : wk_ok al q r pl pr k0 k T ek) {idx : Nat} (hidx : idx < ek.2.1) {g : bq_E} (hg : q[wk_ch pl k (ek.2.1 - 1 - idx)]? = some g) : f_Search_leverOnWay K (nI ek.1) (nI idx) σ = some (nI g.2.2, σ) := by
  have hq := hw.1
  have hek := hw.2.2.2.2.2.2.2.1
  have hs := bq_see_mem hq.1 (List.mem_of_getElem? hek)
  have hbd := bq_bd hq hs
  have := low_L11 hK hb hw hidx hg (ek.2.1 - 1 - idx) ja_FU 0 ek (by omega) (by unfold ja_FU; omega) hek
  unfold f_Search_leverOnWay
  rw [movesTo_ok hK hb hq hbd.2.2, hs, Option.bind_some]
  exact this
end LW
/-- leads nearer, as the reference asks it -/
def am_nr (rs : List am_R) (r : List bq_E) (s l : Nat) : Bool := am_al rs s l && decide (bs_d (bq_see r (s ^^^ 2 ^ l)) = bs_d (bq_see r s) - 1)
theorem near_free {τ : ja_S} {N : Nat} {rs : List am_R} (h : mq_ok τ N rs (2 ^ rs.length - 1) 0) {s l : Nat} (hs : s < 4096) (hl : l < 12) : f_Model_isFree 45 (nI s) (nI l) τ = some (am_bz (am_al rs s l), τ) := by
  rw [mfree_ok h hs hl, sel_ones, Nat.zero_testBit]
  rfl
theorem mnext_L37 {τ : ja_S} {N : Nat} {rs : List am_R} {r : List bq_E} (h : mq_ok τ N rs (2 ^ rs.length - 1) 0) (hm : mf_ok τ r) {s : Nat} (hs : s < 4096) : ∀ (n l : Nat), l ≤ N → N - l < n → f_Model_nextMove_L37 n 45 (nI s) (nI l) τ = some (am_io (am_first (am_nr rs r s) (N - l) l), τ) := by
  have hN := h.2.2.2.2.2
  intro n
  induction n with
  | zero => intro l _ h; omega
  | succ n ih =>
    intro l hl hn
    rw [f_Model_nextMove_L37, h.2.1]
    by_cases hlN : l = N
    · rw [hlN, if_pos (nI_le (Nat.le_refl _) (by omega)), Nat.sub_self]
      rfl
    · have hx : s ^^^ 2 ^ l < 4096 := xor_lt30 hs (by omega)
      rw [if_neg (nI_ge (by omega) (by omega)), near_free h hs (by omega), Option.bind_some, show N - l = (N - (l + 1)) + 1 by omega, nI_1]
      unfold am_first
      have e : am_nr rs r s l = (am_al rs s l && decide (bs_d (bq_see r (s ^^^ 2 ^ l)) = bs_d (bq_see r s) - 1)) := rfl
      rw [e]
      cases ha : am_al rs s l with
      | false =>
        rw [if_pos (am_bz0.mpr rfl), if_neg (fun z => by cases z)]
        exact ih (l + 1) (by omega) (by omega)
      | true =>
        rw [if_neg bz1, nI_pow (by omega), nI_xor, show ja_q 45 30 = 58 from rfl, ld0 (N := 4096) rfl hx (by omega), Option.bind_some, ld0 (N := 4096) rfl hs (by omega), Option.bind_some, hm.2.2 _ hx, hm.2.2 _ hs, Bool.true_and]
        by_cases hc : bs_d (bq_see r (s ^^^ 2 ^ l)) = bs_d (bq_see r s) - 1
        · rw [if_pos hc, if_pos (decide_eq_true hc)]
          rfl
        · rw [if_neg hc, if_neg (fun z => hc (of_decide_eq_true z))]
          exact ih (l + 1) (by omega) (by omega)
section NX
variable {A : am_A} {a : Nat → Int32} {σ : ja_S}
theorem all_root {al : Nat → Nat → Bool} {s : Nat} : (bq_all al s)[0]? = some (s, 0, 0) := by
  obtain ⟨t, ht⟩ := bq_go_pre (al := al) ja_FU 0 [(s, 0, 0)]
  unfold bq_all
  rw [ht]
  rfl
theorem rl_bt : ∃ pl, bt_all (cq_al (am_mv A.1 0) A.2.1) (am_rl A) 1 pl := bt_one (by omega)
theorem see_at {q : List bq_E} {s : Nat} (h : (bq_see q s).isSome = true) : ∃ (i : Nat) (e : bq_E), q[i]? = some e ∧ e.1 = s := by
  cases hs : bq_see q s with
  | none => rw [hs] at h; cases h
  | some x =>
    obtain ⟨i, hi⟩ := List.getElem?_of_mem (bq_see_some hs)
    exact ⟨i, _, hi, rfl⟩
theorem qf_sub {s : Nat} (hs4 : s < 4096) (hs : (bq_see (am_rl A) s).isSome = true) : ∀ (i : Nat) (e : bq_E), (am_qf A s)[i]? = some e → ∃ (j : Nat) (f : bq_E), (am_rl A)[j]? = some f ∧ f.1 = e.1 := by
  obtain ⟨pl, hb⟩ := rl_bt (A := A)
  obtain ⟨p2, hb2⟩ := bt_one (al := cq_al (am_mv A.1 0) A.2.1) (s := s) hs4
  refine stay_all hb hb2 ?_
  intro i e hi he
  have he' : (bq_all (cq_al (am_mv A.1 0) A.2.1) s)[i]? = some e := he
  rw [show i = 0 by omega, all_root] at he'
  cases he'
  exact see_at hs
theorem qf_sym (hA : am_ok A) {s : Nat} (hs4 : s < 4096) (hs : (bq_see (am_rl A) s).isSome = true) : ∀ e ∈ am_qf A s, ∀ l, l < 12 → cq_al (am_mv A.1 0) A.2.1 e.1 l = true → cq_al (am_mv A.1 0) A.2.1 (e.1 ^^^ 2 ^ l) l = true := by
  intro e he l _ ha
  obtain ⟨i, hi⟩ := List.getElem?_of_mem he
  obtain ⟨j, f, h1, h2⟩ := qf_sub hs4 hs i e hi
  refine sym_leg hA ?_ ha
  rw [← h2]
  exact leg_rl hA f (List.mem_of_getElem? h1)
theorem qf_back (hA : am_ok A) {s t : Nat} (hs4 : s < 4096) (ht4 : t < 4096) (ht : (bq_see (am_rl A) t).isSome = true) (h : (bq_see (am_qf A t) s).isSome = true) : (bq_see (am_qf A s) t).isSome = true := by
  obtain ⟨p1, hb1⟩ := bt_one (al := cq_al (am_mv A.1 0) A.2.1) (s := s) hs4
  obtain ⟨p2, hb2⟩ := bt_one (al := cq_al (am_mv A.1 0) A.2.1) (s := t) ht4
  have key : ∀ (i : Nat) (e : bq_E), (am_qf A t)[i]? = some e → (∃ (j : Nat) (f : bq_E), (am_qf A s)[j]? = some f ∧ f.1 = e.1) → ∃ (j : Nat) (f : bq_E), (am_qf A s)[j]? = some f ∧ f.1 = t := by
    intro i
    induction i using Nat.strongRecOn with
    | ind i ih =>
      intro e he hq
      by_cases hi : i = 0
      · rw [hi] at he
        have h0 := all_root (al := cq_al (am_mv A.1 0) A.2.1) (s := t)
        have he' : (bq_all (cq_al (am_mv A.1 0) A.2.1) t)[0]? = some e := he
        rw [h0] at he'
        cases he'
        exact hq
      · obtain ⟨b1, b2, b3, u, b4, b5, b6, b7⟩ := hb2.1 i e (by omega) he
        have hsy := qf_sym hA ht4 ht u (List.mem_of_getElem? b4) e.2.2 b3 b5
        rw [← b6] at hsy
        obtain ⟨j, f, c1, c2⟩ := hq
        obtain ⟨j2, g, d1, d2, d3, d4⟩ := bt_near hb1 b3 c1 (by rw [c2]; exact hsy)
        exact ih (p2 i) b1 u b4 ⟨j2, g, d1, by rw [d2, c2, b6, xor_back]⟩
  obtain ⟨i, e, h1, h2⟩ := see_at h
  obtain ⟨j, f, h3, h4⟩ := key i e h1 ⟨0, _, all_root, h2.symm⟩
  have := bq_see_mem (bq_all_ok hs4).1 (List.mem_of_getElem? h3)
  rw [h4] at this
  show (bq_see (bq_all (cq_al (am_mv A.1 0) A.2.1) s) t).isSome = true
  rw [this]
  rfl
theorem wk_next (hA : am_ok A) {s t : Nat} (hs4 : s < 4096) (ht4 : t < 4096) (hs : (bq_see (am_rl A) s).isSome = true) (h : (bq_see (am_qf A s) t).isSome = true) : ∃ pl pr k ek, wk_ok (cq_al (am_mv A.1 0) A.2.1) (am_qf A s) (am_qf A t) pl pr 1 k (fun x => decide (x = t)) ek ∧ ek.1 = t := by
  obtain ⟨p1, hb1⟩ := bt_one (al := cq_al (am_mv A.1 0) A.2.1) (s := s) hs4
  obtain ⟨p2, hb2⟩ := bt_one (al := cq_al (am_mv A.1 0) A.2.1) (s := t) ht4
  obtain ⟨k, ek, h1, h2⟩ := see_at h
  have h0 := all_root (al := cq_al (am_mv A.1 0) A.2.1) (s := t)
  refine ⟨p1, p2, k, ek, ⟨bq_all_ok hs4, bq_all_ok ht4, hb1, hb2, ?_, ?_, qf_sym hA hs4 hs, h1, decide_eq_true h2, ?_⟩, h2⟩
  · intro i e hi he
    have he' : (bq_all (cq_al (am_mv A.1 0) A.2.1) t)[i]? = some e := he
    rw [show i = 0 by omega, h0] at he'
    cases he'
    exact ⟨decide_eq_true rfl, k, ek, h1, h2⟩
  · intro e _ hT
    exact ⟨0, _, by omega, h0, (of_decide_eq_true hT).symm⟩
  · intro i e he hT
    have := (q_inj (bq_all_ok hs4) h1 he (by rw [h2]; exact (of_decide_eq_true hT).symm)).1
    omega
theorem bs_d_m2 {q : List bq_E} (hq : bq_ok q) {s : Nat} : ¬ bs_d (bq_see q s) = -2 := by
  cases h : bq_see q s with
  | none => decide
  | some x =>
    have := bq_bd hq h
    intro z
    have h1 := congrArg Int32.toInt z
    rw [bs_d_some, nI_toInt (by omega), show (-2 : Int32).toInt = -2 by decide +kernel] at h1
    omega
/-- one step of the walk, as the reference finds it -/
theorem nr_step (hA : am_ok A) {q r : List bq_E} {pl pr : Nat → Nat} {k0 k : Nat} {T : Nat → Bool} {ek : bq_E} (hw : wk_ok (cq_al (am_mv A.1 0) A.2.1) q r pl pr k0 k T ek) {j : Nat} (hj : j + 1 ≤ ek.2.1) {e f : bq_E} (he : q[wk_ch pl k j]? = some e) (hf : q[wk_ch pl k (j + 1)]? = some f) : e.2.2 < A.1 ∧ am_nr A.2.1 r f.1 e.2.2 = true ∧ ∀ l, l < e.2.2 → am_nr A.2.1 r f.1 l = false := by
  have hN : A.1 ≤ 12 := hA.2.1
  obtain ⟨p1, p2, p3, p4⟩ := wk_par hw hj he hf
  obtain ⟨x, hx⟩ := wk_far hw (by omega) he
  obtain ⟨y, hy⟩ := wk_far hw hj hf
  have hby := bq_bd hw.2.1 hy
  have hal : ∀ l, cq_al (am_mv A.1 0) A.2.1 f.1 l = (decide (l < A.1) && am_al A.2.1 f.1 l) := fun l => by
    unfold cq_al
    rw [mv_bit hN, Nat.zero_testBit]
    cases decide (l < A.1) <;> rfl
  have hlA : e.2.2 < A.1 := by
    rw [hal, Bool.and_eq_true] at p3
    exact of_decide_eq_true p3.1
  have hd : bs_d (bq_see r f.1) - 1 = nI j := by
    rw [hy, bs_d_some]
    exact nI_pred j
  refine ⟨hlA, ?_, ?_⟩
  · unfold am_nr
    rw [hal, Bool.and_eq_true] at p3
    rw [p3.2, hd, ← p4, hx, bs_d_some, decide_eq_true rfl]
    rfl
  · intro l hl
    unfold am_nr
    cases ha : am_al A.2.1 f.1 l with
    | false => rfl
    | true =>
      rw [Bool.true_and, hd]
      apply decide_eq_false
      intro z
      cases hz : bq_see r (f.1 ^^^ 2 ^ l) with
      | none =>
        rw [hz, bs_d_none] at z
        exact nI_m1 (a := j) (by omega) z.symm
      | some u =>
        have hbu := bq_bd hw.2.1 hz
        rw [hz, bs_d_some, nI_eq (by omega) (by omega)] at z
        have hz' : bq_see r (f.1 ^^^ 2 ^ l) = some (j, u.2) := by rw [hz, ← z]
        have := wk_min hw hj he hf (by omega) (by rw [hal, ha, decide_eq_true (by omega)]; rfl) hz'
        omega
theorem case_23 (hA : am_ok A) (hC : am_C A σ) (hM : am_M A σ) (hK : am_K A σ) : am_ask2 A 23 a σ := by
  have hp := p12 hA.2.1
  have hN : A.1 ≤ 12 := hA.2.1
  have e1 : σ.1 3 0 = nI A.1 := hC.2.2.2.2.1.1
  have e2 : ∀ τ : ja_S, am_M A τ → (ja_si τ 45 9 0).1 45 0 = nI A.1 := fun τ h => by rw [si_at, if_neg (by omega)]; exact h.1
  cases hin : am_in (a 1) (2 ^ A.1) with
  | false =>
    refine am_asks1 hC hM hK ?_
    rw [jc_23]
    unfold f_Frame_nextMove f_Model_nextMove ja_pu
    rw [show ja_q 0 3 = 3 from rfl, hasState_ok e1 hA.2.1, hin, Option.bind_some, if_pos (am_bz0.mpr rfl), Option.bind_some, Option.bind_some, isState_ok (e2 σ hM) hA.2.1, hin, Option.bind_some, if_pos (am_bz0.mpr rfl), Option.bind_some, if_pos rfl]
  | true =>
    cases hin2 : am_in (a 2) (2 ^ A.1) with
    | false =>
      refine am_asks1 hC hM hK ?_
      rw [jc_23]
      unfold f_Frame_nextMove f_Model_nextMove ja_pu
      rw [show ja_q 0 3 = 3 from rfl, hasState_ok e1 hA.2.1, hin, Option.bind_some, if_neg bz1, hasState_ok e1 hA.2.1, hin2, Option.bind_some, if_pos (am_bz0.mpr rfl), Option.bind_some, Option.bind_some, isState_ok (e2 σ hM) hA.2.1, hin, Option.bind_some, if_neg bz1, isState_ok (e2 σ hM) hA.2.1, hin2, Option.bind_some, if_pos (am_bz0.mpr rfl), Option.bind_some, if_pos rfl]
    | true =>
      obtain ⟨s, hs, es⟩ := am_in_t hin (by omega)
      obtain ⟨t, ht, et⟩ := am_in_t hin2 (by omega)
      have hs4 : s < 4096 := by omega
      have ht4 : t < 4096 := by omega
      -- the reference, over any state that the class leaves
      have mref : ∀ (σ1 : ja_S) (v : Int32), am_M A σ1 → v = (if ((bq_see (am_rl A) t).isSome && (bq_see (am_rl A) s).isSome) = true then am_io (am_first (am_nr A.2.1 (am_qf A t) s) A.1 0) else -1) → ∃ τ1, (((some (v, σ1) : Option (Int32 × ja_S))).bind fun v => ((some (ja_si v.2 45 9 0)).bind fun s1 => (f_Model_isState 45 (nI s) s1).bind fun v2 => if v2.1 = 0 then some ((-3 : Int32), v2.2) else (f_Model_isState 45 (nI t) v2.2).bind fun v3 => if v3.1 = 0 then some ((-3 : Int32), v3.2) else (f_Model_areReachable 45 (nI t) (nI s) v3.2).bind fun v4 => if v4.1 = 0 then some ((-1 : Int32), v4.2) else f_Model_nextMove_L37 ja_FU 45 (nI s) (0 : Int32) v4.2).bind fun u => if v.1 = u.1 then some u.2 else none) = some τ1 ∧ fr_md σ1 τ1 := by
        intro σ1 v hM1 hv
        obtain ⟨τ1, m1, m2, m3, m4⟩ := mreach_ok hA (am_M_th (v := 0) hM1) (s := t) (t := s) ht4 hs4
        refine ⟨τ1, ?_, fr_md_tr md_th m2⟩
        rw [Option.bind_some, Option.bind_some, isState_ok (e2 σ1 hM1) hA.2.1, am_in_nI hs (by omega), Option.bind_some, if_neg bz1, isState_ok (e2 σ1 hM1) hA.2.1, am_in_nI ht (by omega), Option.bind_some, if_neg bz1, m1, Option.bind_some, hv]
        cases hb : (bq_see (am_rl A) t).isSome && (bq_see (am_rl A) s).isSome with
        | false => rw [if_pos (am_bz0.mpr rfl), Option.bind_some]; exact if_pos rfl
        | true =>
          have h37 := mnext_L37 m3 (m4 hb) hs4 ja_FU 0 (by omega) (by unfold ja_FU; omega)
          rw [← am_z, Nat.sub_zero] at h37
          rw [if_neg bz1, h37, Option.bind_some]
          exact if_pos rfl
      by_cases hst : s = t
      · -- both the same
        have hv : (-1 : Int32) = (if ((bq_see (am_rl A) t).isSome && (bq_see (am_rl A) s).isSome) = true then am_io (am_first (am_nr A.2.1 (am_qf A t) s) A.1 0) else -1) := by
          by_cases hb : ((bq_see (am_rl A) t).isSome && (bq_see (am_rl A) s).isSome) = true
          · rw [if_pos hb]
            have hnone : am_first (am_nr A.2.1 (am_qf A t) s) A.1 0 = none := by
              rw [first_none]
              intro l _ hl
              unfold am_nr
              cases ha : am_al A.2.1 s l with
              | false => rfl
              | true =>
                rw [Bool.true_and]
                apply decide_eq_false
                obtain ⟨p2, hb2⟩ := bt_one (al := cq_al (am_mv A.1 0) A.2.1) (s := t) ht4
                have hroot := all_root (al := cq_al (am_mv A.1 0) A.2.1) (s := t)
                obtain ⟨j, e, d1, d2, d3, d4⟩ := bt_near (l := l) hb2 (by omega) hroot (by
                  show cq_al (am_mv A.1 0) A.2.1 t l = true
                  unfold cq_al
                  rw [mv_bit hN, Nat.zero_testBit, decide_eq_true (by omega), ← hst, ha]
                  rfl)
                have hsee0 := bq_see_mem (bq_all_ok ht4).1 (List.mem_of_getElem? hroot)
                have hsee1 := bq_see_mem (bq_all_ok ht4).1 (List.mem_of_getElem? d1)
                have hb1 := bq_bd (bq_all_ok ht4) hsee1
                rw [d2] at hsee1
                dsimp only at hsee0 hsee1
                show ¬ bs_d (bq_see (bq_all (cq_al (am_mv A.1 0) A.2.1) t) (s ^^^ 2 ^ l)) = bs_d (bq_see (bq_all (cq_al (am_mv A.1 0) A.2.1) t) s) - 1
                rw [hst, hsee1, hsee0, bs_d_some, bs_d_some, show nI (0, 0).1 - 1 = -1 by decide +kernel]
                exact nI_m1 (by omega)
            rw [hnone]
            rfl
          · rw [if_neg hb]
        obtain ⟨τ1, h1, h2⟩ := mref σ (-1) hM hv
        refine am_asks (σ2 := τ1) ?_ hC hM fr_cl_rf hK h2
        rw [jc_23]
        unfold f_Frame_nextMove f_Model_nextMove ja_pu
        rw [show ja_q 0 3 = 3 from rfl, hasState_ok e1 hA.2.1, hin, Option.bind_some, if_neg bz1, hasState_ok e1 hA.2.1, hin2, Option.bind_some, if_neg bz1, es, et, if_pos (by rw [hst])]
        exact h1
      · obtain ⟨σ1, c1, c2, c3, c4, c5⟩ := between_ok hA hC hK (s := s) (t := t) hs4 ht4
        have hM1 := am_M_cl hM c4
        have fin : ∀ v : Int32, v = (if ((bq_see (am_rl A) t).isSome && (bq_see (am_rl A) s).isSome) = true then am_io (am_first (am_nr A.2.1 (am_qf A t) s) A.1 0) else -1) → (if am_bz ((bq_see (am_rl A) s).isSome && ((bq_see (am_rl A) t).isSome && (bq_see (am_qf A s) t).isSome)) = 0 then some ((-1 : Int32), σ1) else (f_Search_leverOnWay (ja_q 0 9) (nI t) (0 : Int32) σ1).bind fun v4 => some (v4.1, v4.2)) = some (v, σ1) → am_ask2 A 23 a σ := by
          intro v hv hcl
          obtain ⟨τ1, h1, h2⟩ := mref σ1 v hM1 hv
          refine am_asks (σ2 := τ1) ?_ hC hM c4 c3 h2
          rw [jc_23]
          unfold f_Frame_nextMove f_Model_nextMove ja_pu
          rw [show ja_q 0 3 = 3 from rfl, hasState_ok e1 hA.2.1, hin, Option.bind_some, if_neg bz1, hasState_ok e1 hA.2.1, hin2, Option.bind_some, if_neg bz1, es, et, if_neg (nI_ne hst (by omega) (by omega)), c1, Option.bind_some]
          have hcl' := hcl
          rw [hcl']
          exact h1
        cases b1 : (bq_see (am_rl A) s).isSome with
        | false =>
          refine fin (-1) ?_ ?_
          · rw [b1, Bool.and_false]; rfl
          · rw [b1, Bool.false_and, if_pos (am_bz0.mpr rfl)]
        | true =>
          cases b2 : (bq_see (am_rl A) t).isSome with
          | false =>
            refine fin (-1) ?_ ?_
            · rw [b2, Bool.false_and]; rfl
            · rw [b2, Bool.false_and, Bool.and_false, if_pos (am_bz0.mpr rfl)]
          | true =>
            have b3 := c5 b1 b2
            cases b4 : (bq_see (am_qf A s) t).isSome with
            | false =>
              refine fin (-1) ?_ ?_
              · rw [b1, b2]
                have hns : bq_see (am_qf A t) s = none := by
                  cases hz : bq_see (am_qf A t) s with
                  | none => rfl
                  | some x =>
                    have := qf_back hA hs4 ht4 b2 (by rw [hz]; rfl)
                    rw [b4] at this
                    cases this
                have hnone : am_first (am_nr A.2.1 (am_qf A t) s) A.1 0 = none := by
                  rw [first_none]
                  intro l _ hl
                  unfold am_nr
                  rw [hns, bs_d_none, show (-1 : Int32) - 1 = -2 by decide +kernel, decide_eq_false (bs_d_m2 (q := am_qf A t) (bq_all_ok ht4)), Bool.and_false]
                rw [hnone]
                rfl
              · rw [b1, b2, b4]; exact if_pos (am_bz0.mpr rfl)
            | true =>
              obtain ⟨pl, pr, k, ek, hw, hek⟩ := wk_next hA hs4 ht4 b1 b4
              have hm1 : 1 ≤ ek.2.1 := by
                rcases Nat.eq_zero_or_pos ek.2.1 with h0 | h0
                · exfalso
                  have hk0 : k = 0 := by
                    rcases Nat.eq_zero_or_pos k with hk | hk
                    · exact hk
                    · obtain ⟨_, _, _, f, _, _, _, b7⟩ := hw.2.2.1.1 k ek hk hw.2.2.2.2.2.2.2.1
                      omega
                  have h8 := hw.2.2.2.2.2.2.2.1
                  have hr0 := all_root (al := cq_al (am_mv A.1 0) A.2.1) (s := s)
                  rw [hk0] at h8
                  have h8' : (bq_all (cq_al (am_mv A.1 0) A.2.1) s)[0]? = some ek := h8
                  rw [hr0] at h8'
                  cases h8'
                  exact hst hek
                · exact h0
              obtain ⟨g, g1, g2⟩ := wk_dist hw (ek.2.1 - 1) (by omega)
              obtain ⟨f, f1, f2⟩ := wk_dist hw (ek.2.1 - 1 + 1) (by omega)
              have hfs : f.1 = s := by
                have hc0 : wk_ch pl k (ek.2.1 - 1 + 1) = 0 := by
                  rcases Nat.eq_zero_or_pos (wk_ch pl k (ek.2.1 - 1 + 1)) with hk | hk
                  · exact hk
                  · obtain ⟨_, _, _, f', _, _, _, b7⟩ := hw.2.2.1.1 _ f hk f1
                    omega
                have hr0 := all_root (al := cq_al (am_mv A.1 0) A.2.1) (s := s)
                rw [hc0] at f1
                have f1' : (bq_all (cq_al (am_mv A.1 0) A.2.1) s)[0]? = some f := f1
                rw [hr0] at f1'
                cases f1'
                rfl
              obtain ⟨n1, n2, n3⟩ := nr_step hA hw (j := ek.2.1 - 1) (by omega) g1 f1
              rw [hfs] at n2 n3
              have hfirst : am_first (am_nr A.2.1 (am_qf A t) s) A.1 0 = some g.2.2 := first_some_of n2 A.1 0 (by omega) (by omega) (fun l _ hl => n3 l hl)
              refine fin (nI g.2.2) ?_ ?_
              · rw [b1, b2, hfirst]; rfl
              · rw [b1, b2, b4, show ja_q 0 9 = 23 from rfl, ← hek, am_z]
                rw [if_neg (by rw [← am_z]; exact bz1), onWay_ok (Or.inr rfl) b3 hw (idx := 0) (by omega) (by rw [Nat.sub_zero]; exact g1), Option.bind_some]
end NX
