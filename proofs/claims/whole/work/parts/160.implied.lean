/-! rules that others imply -/
/-- the lowest lever that a looser locking frees -/
def am_fd (mv : Nat) (L L2 : List am_R) (s : Nat) : Option Nat := am_first (fun l => mv.testBit l && (!am_al L s l && am_al L2 s l)) 12 0
def am_tl (N : Nat) (r : am_R) (L2 : List am_R) (s : Nat) : Option Nat := am_first (fun l => am_blk r s l && am_al L2 s l) N 0
def bq_at (q : List bq_E) (i : Nat) : Nat := (q.getD i (0, 0, 0)).1
theorem bq_at_lt {q : List bq_E} {i : Nat} (h : i < q.length) : bq_at q i = q[i].1 := by
  unfold bq_at
  rw [List.getD_eq_getElem?_getD, List.getElem?_eq_getElem h]
  rfl
theorem first_congr {p p' : Nat → Bool} : ∀ (n i : Nat), (∀ k, i ≤ k → k < i + n → p k = p' k) → am_first p n i = am_first p' n i
  | 0, _, _ => rfl
  | n + 1, i, h => by
    unfold am_first
    rw [h i (by omega) (by omega), first_congr n (i + 1) (fun k h1 h2 => h k (by omega) (by omega))]
theorem first_cut {p : Nat → Bool} {N : Nat} : ∀ (n i : Nat), i + n = N → ∀ m, (∀ k, N ≤ k → k < N + m → p k = false) → am_first p (n + m) i = am_first p n i
  | 0, i, h, m, hp => by
    rw [Nat.zero_add]
    show am_first p m i = none
    rw [first_none]
    intro k h1 h2
    exact hp k (by omega) (by omega)
  | n + 1, i, h, m, hp => by
    rw [show n + 1 + m = (n + m) + 1 by omega]
    unfold am_first
    rw [first_cut n (i + 1) (by omega) m hp]
theorem first_io_lt {p : Nat → Bool} {n i M : Nat} (h : i + n ≤ M) (hM : M < 2 ^ 31) : am_io (am_first p n i) = -1 ↔ am_first p n i = none := io_m1 (fun k hk => by have := first_lt _ _ _ hk; omega)
section FD
variable {K X : Nat} {σ : ja_S} {q : List bq_E} {L L2 : List am_R} {mv s : Nat}
theorem fd_L2 (hK : K = 17 ∨ K = 23) (hX : lk_X X) (hX1 : lk_X (K + 1)) (hl : lk_ok σ (K + 1) L) (hl2 : lk_ok σ X L2) (hmv : mv < 4096) (h2 : σ.1 K 2 = nI mv) (hs : s < 4096) : ∀ (m n l : Nat), l + m = 12 → m < n → f_Search_leverFreed_L2 n K X (nI s) (nI l) σ = some (am_io (am_first (fun l => mv.testBit l && (!am_al L s l && am_al L2 s l)) m l), σ) := by
  intro m
  induction m with
  | zero =>
    intro n l hl hn
    obtain ⟨n, rfl⟩ : ∃ j, n = j + 1 := ⟨n - 1, by omega⟩
    rw [f_Search_leverFreed_L2, show (12 : Int32) = nI 12 by decide +kernel, if_pos (nI_le (by omega) (by omega))]
    rfl
  | succ m ih =>
    intro n l hlm hn
    obtain ⟨n, rfl⟩ : ∃ j, n = j + 1 := ⟨n - 1, by omega⟩
    rw [f_Search_leverFreed_L2, show (12 : Int32) = nI 12 by decide +kernel, if_neg (nI_ge (by omega) (by omega)), h2, nI_shr (by omega) (by omega)]
    by_cases hz : mv / 2 ^ l = 0
    · rw [if_pos (by rw [hz]; exact am_z.symm)]
      have : am_first (fun l => mv.testBit l && (!am_al L s l && am_al L2 s l)) (m + 1) l = none := by
        rw [first_none]
        intro k h3 _
        rw [bit_ge hz h3]
        rfl
      rw [this]
      rfl
    · have hdl : mv / 2 ^ l ≤ mv := Nat.div_le_self _ _
      rw [if_neg (nI_ne0' hz (by omega)), ← nI_shr (a := mv) (l := l) (by omega) (by omega), (ja_qs hK).1, nI_1]
      unfold am_first
      cases hm : mv.testBit l with
      | true =>
        rw [if_pos ((nI_bit1 (by omega) (by omega)).mpr hm), allows_ok hX1 hl hs (by omega), Option.bind_some, Bool.true_and]
        cases ha : am_al L s l with
        | true =>
          rw [if_neg bz1, if_neg (fun z => by cases z)]
          exact ih n (l + 1) (by omega) (by omega)
        | false =>
          rw [if_pos (am_bz0.mpr rfl), allows_ok hX hl2 hs (by omega), Option.bind_some]
          cases ha2 : am_al L2 s l with
          | true => rw [if_neg bz1]; rfl
          | false =>
            rw [if_pos (am_bz0.mpr rfl), if_neg (fun z => by cases z)]
            exact ih n (l + 1) (by omega) (by omega)
      | false =>
        rw [if_neg (fun z => by rw [nI_bit1 (by omega) (by omega), hm] at z; cases z), if_neg (fun z => by cases z)]
        exact ih n (l + 1) (by omega) (by omega)
theorem freed_ok (hK : K = 17 ∨ K = 23) (hX : lk_X X) (hX1 : lk_X (K + 1)) (hl : lk_ok σ (K + 1) L) (hl2 : lk_ok σ X L2) (hmv : mv < 4096) (h2 : σ.1 K 2 = nI mv) (hs : s < 4096) : f_Search_leverFreed K X (nI s) σ = some (am_io (am_fd mv L L2 s), σ) := by
  have := fd_L2 hK hX hX1 hl hl2 hmv h2 hs 12 ja_FU 0 (by omega) (by unfold ja_FU; omega)
  rw [← am_z] at this
  exact this
theorem fp_L2 (hK : K = 17 ∨ K = 23) (hX : lk_X X) (hX1 : lk_X (K + 1)) (hb : bs_ok σ K q) (hq : bq_ok q) (hl : lk_ok σ (K + 1) L) (hl2 : lk_ok σ X L2) (hmv : mv < 4096) (h2 : σ.1 K 2 = nI mv) : ∀ (n i : Nat), i ≤ q.length → q.length - i < n → f_Search_firstPlaceFreed_L2 n K X (nI i) σ = some (am_io (am_first (fun i => (am_fd mv L L2 (bq_at q i)).isSome) (q.length - i) i), σ) := by
  have hlen := bq_ok_len hq
  intro n
  induction n with
  | zero => intro i _ h; omega
  | succ n ih =>
    intro i hi hn
    rw [f_Search_firstPlaceFreed_L2, hb.1, (ja_qs hK).2.1]
    by_cases h : i = q.length
    · rw [h, if_pos (nI_le (Nat.le_refl _) (by omega)), Nat.sub_self]
      rfl
    · have hi2 : i < q.length := by omega
      have hs := q_lt hq hi2
      rw [if_neg (nI_ge (by omega) (by omega)), ld_or hK (by omega), Option.bind_some, q_at hb hi2, freed_ok hK hX hX1 hl hl2 hmv h2 hs, Option.bind_some, show q.length - i = (q.length - (i + 1)) + 1 by omega, nI_1]
      unfold am_first
      rw [bq_at_lt hi2]
      cases hf : am_fd mv L L2 q[i].1 with
      | none =>
        rw [if_pos (show am_io none = -1 from rfl), Option.isSome_none, if_neg (fun z => by cases z)]
        exact ih (i + 1) (by omega) (by omega)
      | some l =>
        have := first_lt _ _ _ hf
        rw [if_neg (show ¬ am_io (some l) = -1 from nI_m1 (a := l) (by omega)), Option.isSome_some, if_pos rfl]
        rfl
theorem fpf_ok (hK : K = 17 ∨ K = 23) (hX : lk_X X) (hX1 : lk_X (K + 1)) (hb : bs_ok σ K q) (hq : bq_ok q) (hl : lk_ok σ (K + 1) L) (hl2 : lk_ok σ X L2) (hmv : mv < 4096) (h2 : σ.1 K 2 = nI mv) : f_Search_firstPlaceFreed K X σ = some (am_io (am_first (fun i => (am_fd mv L L2 (bq_at q i)).isSome) q.length 0), σ) := by
  have hlen := bq_ok_len hq
  have := fp_L2 hK hX hX1 hb hq hl hl2 hmv h2 ja_FU 0 (by omega) (by unfold ja_FU; omega)
  rw [← am_z, Nat.sub_zero] at this
  exact this
end FD
section TL
variable {σ : ja_S} {N : Nat} {rs : List am_R} {us gn : Nat} {q : List bq_E}
theorem told_L15 (h : mq_ok σ N rs us gn) {r s l : Nat} (hr : r < rs.length) (hs : s < 4096) (hl : l < 12) : ∀ (n i : Nat), i ≤ rs.length → rs.length - i < n → f_Model_isTold_L15 n 45 (nI r) (nI s) (nI l) (nI i) σ = some (am_bz (am_first (fun k => (an_not us (2 ^ r)).testBit k && am_blk (am_rd rs k) s l) (rs.length - i) i).isNone, σ) := by
  obtain ⟨h1, h2, h3, h4, h5, h6⟩ := h
  have hlen := h1.2.1
  intro n
  induction n with
  | zero => intro i _ h; omega
  | succ n ih =>
    intro i hi hn
    rw [f_Model_isTold_L15, h3, h4]
    by_cases h : i = rs.length
    · rw [h, if_pos (nI_le (Nat.le_refl _) (by omega)), Nat.sub_self]
      rfl
    · rw [if_neg (nI_ge (by omega) (by omega)), show rs.length - i = (rs.length - (i + 1)) + 1 by omega, nI_1]
      unfold am_first
      rw [an_not_bit (by omega), Nat.testBit_two_pow]
      by_cases hir : i = r
      · subst hir
        rw [if_pos rfl, decide_eq_true rfl, Bool.not_true, Bool.and_false, Bool.false_and, if_neg (fun z => by cases z)]
        exact ih (i + 1) (by omega) (by omega)
      · rw [if_neg (nI_ne hir (by omega) (by omega)), has32 (by omega), Option.bind_some, decide_eq_false (fun z => hir z.symm), Bool.not_false, Bool.and_true]
        cases us.testBit i with
        | false =>
          rw [if_pos (am_bz0.mpr rfl), Bool.false_and, if_neg (fun z => by cases z)]
          exact ih (i + 1) (by omega) (by omega)
        | true =>
          rw [if_neg bz1, mblk_ok h1 (by omega) hs hl, Option.bind_some, Bool.true_and]
          cases am_blk (am_rd rs i) s l with
          | false =>
            rw [if_pos (am_bz0.mpr rfl), if_neg (fun z => by cases z)]
            exact ih (i + 1) (by omega) (by omega)
          | true => rw [if_neg bz1, if_pos rfl]; rfl
theorem told_ok (h : mq_ok σ N rs us gn) {r s l : Nat} (hr : r < rs.length) (hs : s < 4096) (hl : l < 12) : f_Model_isTold 45 (nI r) (nI s) (nI l) σ = some (am_bz (am_blk (am_rd rs r) s l && am_al (am_sel rs (an_not us (2 ^ r))) s l), σ) := by
  have hlen := h.1.2.1
  have := told_L15 h hr hs hl ja_FU 0 (by omega) (by unfold ja_FU; omega)
  rw [← am_z, Nat.sub_zero, am_sel_al] at this
  unfold f_Model_isTold
  rw [mblk_ok h.1 hr hs hl, Option.bind_some]
  cases am_blk (am_rd rs r) s l with
  | false => rw [if_pos (am_bz0.mpr rfl)]; rfl
  | true => rw [if_neg bz1, this]; rfl
theorem tell_L2 (h : mq_ok σ N rs us gn) {r s : Nat} (hr : r < rs.length) (hs : s < 4096) : ∀ (n l : Nat), l ≤ N → N - l < n → f_Model_tellingLever_L2 n 45 (nI r) (nI s) (nI l) σ = some (am_io (am_first (fun l => am_blk (am_rd rs r) s l && am_al (am_sel rs (an_not us (2 ^ r))) s l) (N - l) l), σ) := by
  have hN := h.2.2.2.2.2
  intro n
  induction n with
  | zero => intro l _ h; omega
  | succ n ih =>
    intro l hl hn
    rw [f_Model_tellingLever_L2, h.2.1]
    by_cases hlN : l = N
    · rw [hlN, if_pos (nI_le (Nat.le_refl _) (by omega)), Nat.sub_self]
      rfl
    · rw [if_neg (nI_ge (by omega) (by omega)), told_ok h hr hs (by omega), Option.bind_some, show N - l = (N - (l + 1)) + 1 by omega, nI_1]
      unfold am_first
      cases am_blk (am_rd rs r) s l && am_al (am_sel rs (an_not us (2 ^ r))) s l with
      | false =>
        rw [if_pos (am_bz0.mpr rfl), if_neg (fun z => by cases z)]
        exact ih (l + 1) (by omega) (by omega)
      | true => rw [if_neg bz1, if_pos rfl]; rfl
theorem tell_ok (h : mq_ok σ N rs us gn) {r s : Nat} (hr : r < rs.length) (hs : s < 4096) : f_Model_tellingLever 45 (nI r) (nI s) σ = some (am_io (am_tl N (am_rd rs r) (am_sel rs (an_not us (2 ^ r))) s), σ) := by
  have hN := h.2.2.2.2.2
  have := tell_L2 h hr hs ja_FU 0 (by omega) (by unfold ja_FU; omega)
  rw [← am_z, Nat.sub_zero] at this
  exact this
theorem tl_io {r : am_R} {L2 : List am_R} {s : Nat} (hN : N ≤ 12) : am_io (am_tl N r L2 s) = -1 ↔ am_tl N r L2 s = none := first_io_lt (M := 12) (by omega) (by omega)
theorem imp_L7 (h : mq_ok σ N rs us gn) (hm : mf_ok σ q) (hq : bq_ok q) {r : Nat} (hr : r < rs.length) : ∀ (n i : Nat), i ≤ q.length → q.length - i < n → f_Model_isImpliedBy_L7 n 45 (nI r) (nI i) σ = some (am_bz (am_first (fun i => (am_tl N (am_rd rs r) (am_sel rs (an_not us (2 ^ r))) (bq_at q i)).isSome) (q.length - i) i).isNone, σ) := by
  have hlen := bq_ok_len hq
  have hN := h.2.2.2.2.2
  intro n
  induction n with
  | zero => intro i _ h; omega
  | succ n ih =>
    intro i hi hn
    rw [f_Model_isImpliedBy_L7, hm.1]
    by_cases hil : i = q.length
    · rw [hil, if_pos (nI_le (Nat.le_refl _) (by omega)), Nat.sub_self]
      rfl
    · have hi2 : i < q.length := by omega
      have hs := q_lt hq hi2
      rw [if_neg (nI_ge (by omega) (by omega)), show ja_q 45 31 = 59 from rfl, ld0 (N := 4096) rfl (by omega) (by omega), Option.bind_some, mq_at hm hi2, tell_ok h hr hs, Option.bind_some, show q.length - i = (q.length - (i + 1)) + 1 by omega, nI_1]
      unfold am_first
      rw [bq_at_lt hi2]
      cases hf : am_tl N (am_rd rs r) (am_sel rs (an_not us (2 ^ r))) q[i].1 with
      | none =>
        rw [if_pos (show am_io none = -1 from rfl), Option.isSome_none, if_neg (fun z => by cases z)]
        exact ih (i + 1) (by omega) (by omega)
      | some l =>
        have := first_lt _ _ _ hf
        rw [if_neg (show ¬ am_io (some l) = -1 from nI_m1 (a := l) (by omega)), Option.isSome_some, if_pos rfl]
        rfl
end TL
/-! both sides see the same -/
theorem sel_split {rs : List am_R} {us r s l : Nat} (hr : r < rs.length) (h32 : rs.length ≤ 32) (hu : us.testBit r = true) : am_al (am_sel rs us) s l = (!am_blk (am_rd rs r) s l && am_al (am_sel rs (an_not us (2 ^ r))) s l) := by
  rw [Bool.eq_iff_iff, Bool.and_eq_true, am_al_t, am_al_t, Bool.not_eq_true']
  constructor
  · intro h
    refine ⟨h _ (am_sel_mem.mpr ⟨r, hr, hu, rfl⟩), fun x hx => ?_⟩
    obtain ⟨k, h1, h2, rfl⟩ := am_sel_mem.mp hx
    rw [an_not_bit (by omega), Bool.and_eq_true] at h2
    exact h _ (am_sel_mem.mpr ⟨k, h1, h2.1, rfl⟩)
  · rintro ⟨h1, h2⟩ x hx
    obtain ⟨k, h3, h4, rfl⟩ := am_sel_mem.mp hx
    by_cases hk : k = r
    · rw [hk]; exact h1
    · refine h2 _ (am_sel_mem.mpr ⟨k, h3, ?_, rfl⟩)
      rw [an_not_bit (by omega), h4, Nat.testBit_two_pow, decide_eq_false (fun z => hk z.symm)]
      rfl
/-- where the rules that count allow what all rules allow, freed is told -/
theorem fd_tl {N : Nat} {rs : List am_R} {us r s : Nat} (hN : N ≤ 12) (hr : r < rs.length) (h32 : rs.length ≤ 32) (hu : us.testBit r = true) (hag : ∀ l, l < N → am_al (am_sel rs us) s l = am_al rs s l) : am_fd (am_mv N 0) rs (am_sel rs (an_not us (2 ^ r))) s = am_tl N (am_rd rs r) (am_sel rs (an_not us (2 ^ r))) s := by
  unfold am_fd am_tl
  have h1 := first_cut (p := fun l => (am_mv N 0).testBit l && (!am_al rs s l && am_al (am_sel rs (an_not us (2 ^ r))) s l)) (N := N) N 0 (by omega) (12 - N) (fun k h3 _ => by
    rw [mv_bit hN, decide_eq_false (by omega)]
    rfl)
  rw [show N + (12 - N) = 12 by omega] at h1
  rw [h1]
  apply first_congr
  intro k _ hk
  rw [mv_bit hN, decide_eq_true (by omega), Nat.zero_testBit, ← hag k (by omega), sel_split hr h32 hu]
  cases am_blk (am_rd rs r) s k <;> cases am_al (am_sel rs (an_not us (2 ^ r))) s k <;> rfl
theorem mask_lt {n r : Nat} (hn : n ≤ 24) : an_not (2 ^ n - 1) (2 ^ r) < 2 ^ 24 := by
  have h1 : an_not (2 ^ n - 1) (2 ^ r) ≤ 2 ^ n - 1 := an_not_le
  have h2 : 2 ^ n ≤ 2 ^ 24 := Nat.pow_le_pow_right (by omega) hn
  have h3 : 0 < 2 ^ n := Nat.two_pow_pos n
  omega
section C34
variable {A : am_A} {a : Nat → Int32} {σ : ja_S}
/-- the place at which a rule is first missed -/
def am_pf (A : am_A) (r : Nat) : Option Nat := am_first (fun i => (am_tl A.1 (am_rd A.2.1 r) (am_sel A.2.1 (an_not (2 ^ A.2.1.length - 1) (2 ^ r))) (bq_at (am_rl A) i)).isSome) (am_rl A).length 0
theorem fd_full (hA : am_ok A) {r s : Nat} (hr : r < A.2.1.length) : am_fd (am_mv A.1 0) A.2.1 (am_sel A.2.1 (an_not (2 ^ A.2.1.length - 1) (2 ^ r))) s = am_tl A.1 (am_rd A.2.1 r) (am_sel A.2.1 (an_not (2 ^ A.2.1.length - 1) (2 ^ r))) s := by
  have hl : A.2.1.length ≤ 24 := hA.2.2.1
  exact fd_tl hA.2.1 hr (by omega) (by rw [tb_ones, decide_eq_true hr]) (fun l _ => by rw [sel_ones])
theorem without_ok (hA : am_ok A) (hC : am_C A σ) (hK : am_K A σ) {r : Nat} (hr : r < A.2.1.length) : ∃ σ', f_Frame_placeFreedWithout 0 (nI r) σ = some (am_io (am_pf A r), σ') ∧ am_C A σ' ∧ am_K A σ' ∧ hm_ok A σ' ∧ lk_ok σ' 24 (am_sel A.2.1 (an_not (2 ^ A.2.1.length - 1) (2 ^ r))) ∧ fr_cl σ σ' := by
  have hl : A.2.1.length ≤ 24 := hA.2.2.1
  obtain ⟨σ1, e1, e2, e3, e4, e5⟩ := searched_ok hA hC hK
  have hr1 := am_C_shr hA e2
  obtain ⟨σ2, g1, g2, g3⟩ := enforceAll_ok (X := 24) (k := 3) (m := an_not (2 ^ A.2.1.length - 1) (2 ^ r)) (Or.inr (Or.inl rfl)) (Or.inl rfl) hr1
  have hf : fr_cl σ1 σ2 := fun k j _ => by rw [g3.1]
  have hh : hm_ok A σ2 := hm_tr e4 (fun k j _ => by rw [g3.1]) ⟨g3.2 19 (by omega) (by omega), g3.2 20 (by omega) (by omega)⟩
  refine ⟨σ2, ?_, am_C_cl e2 hf, am_K_lk e3 g3, hh, g2, fr_cl_tr e5 hf⟩
  have hpf : am_first (fun i => (am_fd (am_mv A.1 0) A.2.1 (am_sel A.2.1 (an_not (2 ^ A.2.1.length - 1) (2 ^ r))) (bq_at (am_rl A) i)).isSome) (am_rl A).length 0 = am_pf A r := by
    unfold am_pf
    apply first_congr
    intro k _ _
    rw [fd_full hA hr]
  unfold f_Frame_placeFreedWithout
  rw [e1, Option.bind_some, show ja_q 0 3 = 3 from rfl, show ja_q 0 7 = 17 from rfl, show ja_q 0 9 = 23 from rfl, show ja_q 23 0 = 24 from rfl, allRules_ok hr1.1 hl, Option.bind_some, nI_pow (by omega), nI_an, g1, Option.bind_some, fpf_ok (K := 17) (X := 24) (Or.inl rfl) (Or.inr (Or.inl rfl)) (Or.inl rfl) hh.1 rl_ok hh.2.2 g2 (mv_lt hA.2.1) hh.2.1, Option.bind_some, hpf]
theorem pf_lt {r i : Nat} (h : am_pf A r = some i) : i < (am_rl A).length := by
  have := first_lt _ _ _ h
  omega
theorem pf_io {r : Nat} : am_io (am_pf A r) = -1 ↔ am_pf A r = none := first_io_lt (M := 4096) (by have := bq_ok_len (rl_ok (A := A)); omega) (by omega)
theorem case_34 (hA : am_ok A) (hC : am_C A σ) (hM : am_M A σ) (hK : am_K A σ) : am_ask2 A 34 a σ := by
  have hl : A.2.1.length ≤ 24 := hA.2.2.1
  have hlen := bq_ok_len (rl_ok (A := A))
  have c1 := am_C_rules hC
  have c2 : ∀ τ : ja_S, am_M A τ → (ja_si τ 45 9 0).1 46 0 = nI A.2.1.length := fun τ h => by rw [si_row (by omega)]; exact am_M_rules h
  cases hin : am_in (a 1) A.2.1.length with
  | false =>
    refine am_asks1 hC hM hK ?_
    rw [jc_34]
    unfold f_Frame_isImplied f_Model_isImplied ja_pu
    rw [show ja_q 0 3 = 3 from rfl, hasRule_ok c1 (by omega), hin, Option.bind_some, if_pos (am_bz0.mpr rfl), Option.bind_some, Option.bind_some, isRule_ok (c2 σ hM) (by omega), hin, Option.bind_some, if_pos (am_bz0.mpr rfl), Option.bind_some, if_pos rfl]
  | true =>
    obtain ⟨r, hr, er⟩ := am_in_t hin (by omega)
    obtain ⟨σ1, e1, e2, e3, e4, e5, e6⟩ := without_ok hA hC hK hr
    have hM1 := am_M_cl hM e6
    obtain ⟨τ1, τ2, g1, g2, g3, g4, g5, g6, g7⟩ := mhome hA (am_M_th (v := 0) hM1)
    refine am_asks (σ2 := τ2) ?_ hC hM e6 e3 (fr_md_tr md_th g6)
    have h2 := imp_L7 g4 g3 rl_ok hr ja_FU 0 (by omega) (by unfold ja_FU; omega)
    rw [← am_z, Nat.sub_zero] at h2
    rw [jc_34]
    unfold f_Frame_isImplied f_Model_isImplied f_Model_isImpliedBy ja_pu
    rw [show ja_q 0 3 = 3 from rfl, hasRule_ok c1 (by omega), hin, Option.bind_some, if_neg bz1, er, e1, Option.bind_some]
    have e7 : am_first (fun i => (am_tl A.1 (am_rd A.2.1 r) (am_sel A.2.1 (an_not (2 ^ A.2.1.length - 1) (2 ^ r))) (bq_at (am_rl A) i)).isSome) (am_rl A).length 0 = am_pf A r := rfl
    rw [e7] at h2
    cases hp : am_pf A r with
    | none =>
      rw [hp] at h2
      rw [if_pos (show am_io none = -1 from rfl), Option.bind_some, Option.bind_some, isRule_ok (c2 σ1 hM1) (by omega), am_in_nI hr (by omega), Option.bind_some, if_neg bz1, g1, Option.bind_some, g2, Option.bind_some, h2, Option.bind_some, Option.isNone_none, if_neg bz1, Option.bind_some]
      exact if_pos rfl
    | some i =>
      have := pf_lt hp
      rw [hp] at h2
      rw [if_neg (show ¬ am_io (some i) = -1 from nI_m1 (a := i) (by omega)), Option.bind_some, Option.bind_some, isRule_ok (c2 σ1 hM1) (by omega), am_in_nI hr (by omega), Option.bind_some, if_neg bz1, g1, Option.bind_some, g2, Option.bind_some, h2, Option.bind_some, Option.isNone_some, if_pos (am_bz0.mpr rfl), Option.bind_some]
      exact if_pos rfl
end C34
