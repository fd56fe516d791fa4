/-! the first way of a search is the one that a greedy walk takes -/
def wk_ch (pl : Nat → Nat) (k : Nat) : Nat → Nat
  | 0 => k
  | j + 1 => pl (wk_ch pl k j)
theorem xor_inj {a l l' : Nat} (h : a ^^^ 2 ^ l = a ^^^ 2 ^ l') : l = l' := by
  have h1 : 2 ^ l = 2 ^ l' := by
    have := congrArg (fun z => a ^^^ z) h
    simpa [← Nat.xor_assoc] using this
  exact (Nat.pow_right_inj (by omega)).mp h1
theorem xor_back {a l : Nat} : (a ^^^ 2 ^ l) ^^^ 2 ^ l = a := by
  rw [Nat.xor_assoc, Nat.xor_self, Nat.xor_zero]
theorem q_inj {q : List bq_E} (hq : bq_ok q) {i j : Nat} {e f : bq_E} (he : q[i]? = some e) (hf : q[j]? = some f) (h : e.1 = f.1) : i = j ∧ e = f := by
  have h1 := (List.getElem?_eq_some_iff.mp he).1
  have h2 := (List.getElem?_eq_some_iff.mp hf).1
  have hn := hq.1
  have e1 : (q.map Prod.fst)[i]? = some e.1 := by rw [List.getElem?_map, he]; rfl
  have e2 : (q.map Prod.fst)[j]? = some e.1 := by rw [List.getElem?_map, hf, h]; rfl
  have h3 : i = j := (List.getElem?_inj (by rw [List.length_map]; exact h1) hn).mp (by rw [e1, e2])
  subst h3
  rw [he] at hf
  cases hf
  exact ⟨rfl, rfl⟩
section WK
variable {al : Nat → Nat → Bool} {q r : List bq_E} {pl pr : Nat → Nat} {k0 k : Nat} {T : Nat → Bool} {ek : bq_E}
/-- all that a walk stands on -/
def wk_ok (al : Nat → Nat → Bool) (q r : List bq_E) (pl pr : Nat → Nat) (k0 k : Nat) (T : Nat → Bool) (ek : bq_E) : Prop :=
  bq_ok q ∧ bq_ok r ∧ bt_all al q 1 pl ∧ bt_all al r k0 pr ∧
  (∀ (i : Nat) (e : bq_E), i < k0 → r[i]? = some e → T e.1 = true ∧ ∃ (j : Nat) (f : bq_E), q[j]? = some f ∧ f.1 = e.1) ∧
  (∀ e ∈ q, T e.1 = true → ∃ (i : Nat) (f : bq_E), i < k0 ∧ r[i]? = some f ∧ f.1 = e.1) ∧
  (∀ e ∈ q, ∀ l, l < 12 → al e.1 l = true → al (e.1 ^^^ 2 ^ l) l = true) ∧
  q[k]? = some ek ∧ T ek.1 = true ∧ (∀ (i : Nat) (e : bq_E), q[i]? = some e → T e.1 = true → k ≤ i)
theorem wk_sub (h : wk_ok al q r pl pr k0 k T ek) : ∀ (i : Nat) (e : bq_E), r[i]? = some e → ∃ (j : Nat) (f : bq_E), q[j]? = some f ∧ f.1 = e.1 := by
  obtain ⟨a1, a2, a3, a4, a5, a6, a7, a8, a9, a10⟩ := h
  intro i
  induction i using Nat.strongRecOn with
  | ind i ih =>
    intro e he
    by_cases hi : i < k0
    · exact (a5 i e hi he).2
    · obtain ⟨b1, b2, b3, f', b4, b5, b6, b7⟩ := a4.1 i e (by omega) he
      obtain ⟨j, f, c1, c2⟩ := ih (pr i) b1 f' b4
      obtain ⟨j2, g, d1, d2, d3, d4⟩ := bt_near a3 b3 c1 (by rw [c2]; exact b5)
      exact ⟨j2, g, d1, by rw [d2, c2, b6]⟩
theorem wk_low (h : wk_ok al q r pl pr k0 k T ek) : ∀ (i : Nat) (e : bq_E), r[i]? = some e → ∀ (j : Nat) (f : bq_E), q[j]? = some f → f.1 = e.1 → ek.2.1 ≤ f.2.1 + e.2.1 := by
  obtain ⟨a1, a2, a3, a4, a5, a6, a7, a8, a9, a10⟩ := id h
  intro i
  induction i using Nat.strongRecOn with
  | ind i ih =>
    intro e he j f hf hfe
    by_cases hi : i < k0
    · have hT := (a5 i e hi he).1
      have := a10 j f hf (by rw [hfe]; exact hT)
      have := bt_mono a3 j k ek f this a8 hf
      omega
    · obtain ⟨b1, b2, b3, u, b4, b5, b6, b7⟩ := a4.1 i e (by omega) he
      obtain ⟨ju, fu, c1, c2⟩ := wk_sub h (pr i) u b4
      have hs := a7 fu (List.mem_of_getElem? c1) e.2.2 b3 (by rw [c2]; exact b5)
      rw [c2, ← b6, ← hfe] at hs
      obtain ⟨j2, g, d1, d2, d3, d4⟩ := bt_near a3 b3 hf hs
      have := ih (pr i) b1 u b4 j2 g d1 (by rw [d2, hfe, b6, xor_back])
      omega
theorem wk_dist (h : wk_ok al q r pl pr k0 k T ek) : ∀ j, j ≤ ek.2.1 → ∃ e : bq_E, q[wk_ch pl k j]? = some e ∧ e.2.1 + j = ek.2.1 := by
  obtain ⟨a1, a2, a3, a4, a5, a6, a7, a8, a9, a10⟩ := h
  intro j
  induction j with
  | zero => intro _; exact ⟨ek, a8, rfl⟩
  | succ j ih =>
    intro hj
    obtain ⟨e, e1, e2⟩ := ih (by omega)
    have h1 : 1 ≤ wk_ch pl k j := by
      rcases Nat.eq_zero_or_pos (wk_ch pl k j) with h0 | h0
      · rw [h0] at e1
        have := a3.2.2.2.1 0 e (by omega) e1
        omega
      · exact h0
    obtain ⟨b1, b2, b3, f, b4, b5, b6, b7⟩ := a3.1 _ e h1 e1
    exact ⟨f, b4, by omega⟩
theorem wk_par (h : wk_ok al q r pl pr k0 k T ek) {j : Nat} (hj : j + 1 ≤ ek.2.1) {e f : bq_E} (he : q[wk_ch pl k j]? = some e) (hf : q[wk_ch pl k (j + 1)]? = some f) : 1 ≤ wk_ch pl k j ∧ e.2.2 < 12 ∧ al f.1 e.2.2 = true ∧ e.1 = f.1 ^^^ 2 ^ e.2.2 := by
  obtain ⟨a1, a2, a3, a4, a5, a6, a7, a8, a9, a10⟩ := id h
  obtain ⟨e', e1, e2⟩ := wk_dist h j (by omega)
  rw [he] at e1
  cases e1
  have h1 : 1 ≤ wk_ch pl k j := by
    rcases Nat.eq_zero_or_pos (wk_ch pl k j) with h0 | h0
    · rw [h0] at he
      have := a3.2.2.2.1 0 e (by omega) he
      omega
    · exact h0
  obtain ⟨b1, b2, b3, f', b4, b5, b6, b7⟩ := a3.1 _ e h1 he
  have hf' : q[pl (wk_ch pl k j)]? = some f := hf
  rw [b4] at hf'
  cases hf'
  exact ⟨h1, b3, b5, b6⟩
theorem wk_up (h : wk_ok al q r pl pr k0 k T ek) : ∀ j, j ≤ ek.2.1 → ∀ e : bq_E, q[wk_ch pl k j]? = some e → ∃ (i : Nat) (f : bq_E), r[i]? = some f ∧ f.1 = e.1 ∧ f.2.1 ≤ j := by
  obtain ⟨a1, a2, a3, a4, a5, a6, a7, a8, a9, a10⟩ := id h
  intro j
  induction j with
  | zero =>
    intro _ e he
    have he' : q[k]? = some e := he
    rw [a8] at he'
    cases he'
    obtain ⟨i, f, b1, b2, b3⟩ := a6 ek (List.mem_of_getElem? a8) a9
    exact ⟨i, f, b2, b3, by rw [a4.2.2.2.1 i f b1 b2]; exact Nat.le_refl _⟩
  | succ j ih =>
    intro hj f hf
    obtain ⟨e, e1, e2⟩ := wk_dist h j (by omega)
    obtain ⟨p1, p2, p3, p4⟩ := wk_par h hj e1 hf
    obtain ⟨i, g, g1, g2, g3⟩ := ih (by omega) e e1
    have hs := a7 f (List.mem_of_getElem? hf) e.2.2 p2 p3
    rw [← p4, ← g2] at hs
    obtain ⟨j2, g', d1, d2, d3, d4⟩ := bt_near a4 p2 g1 hs
    exact ⟨j2, g', d1, by rw [d2, g2, p4, xor_back], by omega⟩
theorem wk_far (h : wk_ok al q r pl pr k0 k T ek) {j : Nat} (hj : j ≤ ek.2.1) {e : bq_E} (he : q[wk_ch pl k j]? = some e) : ∃ x, bq_see r e.1 = some (j, x) := by
  obtain ⟨i, f, g1, g2, g3⟩ := wk_up h j hj e he
  obtain ⟨e', e1, e2⟩ := wk_dist h j hj
  rw [he] at e1
  cases e1
  have := wk_low h i f g1 _ e he g2.symm
  have hs := bq_see_mem h.2.1.1 (List.mem_of_getElem? g1)
  rw [g2] at hs
  exact ⟨f.2.2, by rw [hs, show j = f.2.1 by omega]⟩
theorem wk_pos (h : wk_ok al q r pl pr k0 k T ek) : ∀ (d i : Nat) (e : bq_E), r[i]? = some e → e.2.1 = d → ∀ (j : Nat) (f : bq_E), q[j]? = some f → f.1 = e.1 → f.2.1 + d = ek.2.1 → wk_ch pl k d ≤ j := by
  obtain ⟨a1, a2, a3, a4, a5, a6, a7, a8, a9, a10⟩ := id h
  intro d
  induction d with
  | zero =>
    intro i e he hd j f hf hfe hm
    by_cases hi : i < k0
    · exact a10 j f hf (by rw [hfe]; exact (a5 i e hi he).1)
    · obtain ⟨b1, b2, b3, u, b4, b5, b6, b7⟩ := a4.1 i e (by omega) he
      omega
  | succ d ih =>
    intro i e he hd j f hf hfe hm
    have hi : k0 ≤ i := by
      rcases Nat.lt_or_ge i k0 with h1 | h1
      · have := a4.2.2.2.1 i e h1 he
        omega
      · exact h1
    obtain ⟨b1, b2, b3, u, b4, b5, b6, b7⟩ := a4.1 i e hi he
    obtain ⟨ju, fu, c1, c2⟩ := wk_sub h (pr i) u b4
    have hs := a7 fu (List.mem_of_getElem? c1) e.2.2 b3 (by rw [c2]; exact b5)
    rw [c2, ← b6, ← hfe] at hs
    obtain ⟨j2, g, d1, d2, d3, d4⟩ := bt_near a3 b3 hf hs
    have hgu : g.1 = u.1 := by rw [d2, hfe, b6, xor_back]
    have hlow := wk_low h (pr i) u b4 j2 g d1 hgu
    have hj2 : 1 ≤ j2 := by
      rcases Nat.eq_zero_or_pos j2 with h0 | h0
      · rw [h0] at d1
        have := a3.2.2.2.1 0 g (by omega) d1
        omega
      · exact h0
    have hc := ih (pr i) u b4 (by omega) j2 g d1 hgu (by omega)
    obtain ⟨ec, e1, e2⟩ := wk_dist h d (by omega)
    have hc1 : 1 ≤ wk_ch pl k d := by
      rcases Nat.eq_zero_or_pos (wk_ch pl k d) with h0 | h0
      · rw [h0] at e1
        have := a3.2.2.2.1 0 ec (by omega) e1
        omega
      · exact h0
    show pl (wk_ch pl k d) ≤ j
    rcases Nat.lt_or_ge (wk_ch pl k d) j2 with h1 | h1
    · have := a3.2.1 _ _ ec g hc1 h1 e1 d1
      omega
    · have : wk_ch pl k d = j2 := by omega
      rw [this]
      omega
/-- the lever that the way takes is the first that leads nearer -/
theorem wk_min (h : wk_ok al q r pl pr k0 k T ek) {j : Nat} (hj : j + 1 ≤ ek.2.1) {e f : bq_E} (he : q[wk_ch pl k j]? = some e) (hf : q[wk_ch pl k (j + 1)]? = some f) {l : Nat} {x : Nat} (hl : l < 12) (ha : al f.1 l = true) (hF : bq_see r (f.1 ^^^ 2 ^ l) = some (j, x)) : e.2.2 ≤ l := by
  obtain ⟨a1, a2, a3, a4, a5, a6, a7, a8, a9, a10⟩ := id h
  obtain ⟨p1, p2, p3, p4⟩ := wk_par h hj he hf
  obtain ⟨f', f1, f2⟩ := wk_dist h (j + 1) hj
  rw [hf] at f1
  cases f1
  obtain ⟨iw, w, d1, d2, d3, d4⟩ := bt_near a3 hl hf ha
  obtain ⟨ir, hir⟩ := List.getElem?_of_mem (bq_see_some hF)
  have hlow := wk_low h ir _ hir iw w d1 d2
  dsimp only at hlow
  have hiw : 1 ≤ iw := by
    rcases Nat.eq_zero_or_pos iw with h0 | h0
    · rw [h0] at d1
      have := a3.2.2.2.1 0 w (by omega) d1
      omega
    · exact h0
  have hc := wk_pos h j ir _ hir rfl iw w d1 d2 (by omega)
  rcases Nat.lt_or_ge (wk_ch pl k j) iw with h1 | h1
  · have h2 := a3.2.1 _ _ e w p1 h1 he d1
    have h3 : wk_ch pl k (j + 1) = pl (wk_ch pl k j) := rfl
    obtain ⟨b1, b2, b3, u, b4, b5, b6, b7⟩ := a3.1 iw w hiw d1
    have h4 : pl iw = wk_ch pl k (j + 1) := by omega
    rw [h4, hf] at b4
    cases b4
    rw [d2] at b6
    have := xor_inj b6
    omega
  · have h2 : wk_ch pl k j = iw := by omega
    rw [h2, d1] at he
    cases he
    rw [d2] at p4
    have := xor_inj p4
    omega
end WK
theorem first_some_of {p : Nat → Bool} {l0 : Nat} (hp : p l0 = true) : ∀ (n i : Nat), i ≤ l0 → l0 < i + n → (∀ l, i ≤ l → l < l0 → p l = false) → am_first p n i = some l0
  | 0, i, h1, h2, _ => by omega
  | n + 1, i, h1, h2, h3 => by
    unfold am_first
    by_cases h : i = l0
    · rw [h, if_pos hp]
    · rw [if_neg (by rw [h3 i (by omega) (by omega)]; simp)]
      exact first_some_of hp n (i + 1) (by omega) (by omega) (fun l h4 h5 => h3 l (by omega) h5)
/-! moves can be taken back -/
theorem tb_flip {s l i : Nat} : (s ^^^ 2 ^ l).testBit i = (s.testBit i != decide (l = i)) := by
  rw [Nat.testBit_xor, Nat.testBit_two_pow]
theorem blk_back {n : Nat} {r : am_R} {s l : Nat} (hr : am_rok n r) (hf : am_forb r s = false) (hb : am_blk r s l = false) : am_blk r (s ^^^ 2 ^ l) l = false := by
  obtain ⟨h1, h2, h3, h4, h5⟩ := hr
  unfold am_blk at hb ⊢
  by_cases hk : r.1 = 2
  · rw [if_pos hk] at hb ⊢
    by_cases hl : r.2.2.1 = l
    · have hA : (s ^^^ 2 ^ l).testBit r.2.1 = s.testBit r.2.1 := by
        rw [tb_flip, decide_eq_false (by omega)]
        simp
      have hc : am_act r.2.2.2 (s ^^^ 2 ^ l) = am_act r.2.2.2 s := by
        unfold am_act
        rcases h5 with h5 | h5
        · simp [h5]
        · rw [tb_flip, decide_eq_false (by omega)]
          simp
      rw [hA, hc]
      exact hb
    · simp [hl]
  · rw [if_neg hk, xor_back]
    exact hf
section LEG
variable {A : am_A}
/-- what a finished search holds, wherever it began -/
theorem leg_all (hA : am_ok A) {al : Nat → Nat → Bool} (hal : al = cq_al (am_mv A.1 0) A.2.1) {q : List bq_E} {pl : Nat → Nat} (ht : bt_all al q 1 pl) (h0 : ∀ e : bq_E, q[0]? = some e → ∀ r ∈ A.2.1, am_forb r e.1 = false) : ∀ (i : Nat) (e : bq_E), q[i]? = some e → ∀ r ∈ A.2.1, am_forb r e.1 = false := by
  intro i e he r hr
  by_cases hi : i = 0
  · rw [hi] at he
    exact h0 e he r hr
  · obtain ⟨b1, b2, b3, f, b4, b5, b6, b7⟩ := ht.1 i e (by omega) he
    rw [hal] at b5
    unfold cq_al at b5
    rw [Bool.and_eq_true] at b5
    have := am_al_t.mp b5.2 r hr
    unfold am_blk at this
    by_cases hk : r.1 = 2
    · unfold am_forb
      simp [hk]
    · rw [if_neg hk, ← b6] at this
      exact this
theorem leg_rl (hA : am_ok A) : ∀ e ∈ am_rl A, ∀ r ∈ A.2.1, am_forb r e.1 = false := by
  intro e he
  obtain ⟨pl, hbt⟩ := bt_one (al := cq_al (am_mv A.1 0) A.2.1) (s := 0) (by omega)
  obtain ⟨i, hi⟩ := List.getElem?_of_mem he
  refine leg_all hA rfl hbt ?_ i e hi
  intro e0 h0 r _
  have : am_rl A = [(0, 0, 0)] ++ (am_rl A).tail := by
    obtain ⟨t, ht⟩ := bq_go_pre (al := cq_al (am_mv A.1 0) A.2.1) ja_FU 0 [(0, 0, 0)]
    have h1 : am_rl A = [(0, 0, 0)] ++ t := ht
    rw [h1]
    rfl
  have h2 : (am_rl A)[0]? = some e0 := h0
  rw [this] at h2
  cases h2
  unfold am_forb
  simp
theorem sym_leg (hA : am_ok A) {s l : Nat} (hl : ∀ r ∈ A.2.1, am_forb r s = false) (ha : cq_al (am_mv A.1 0) A.2.1 s l = true) : cq_al (am_mv A.1 0) A.2.1 (s ^^^ 2 ^ l) l = true := by
  unfold cq_al at ha ⊢
  rw [Bool.and_eq_true] at ha ⊢
  exact ⟨ha.1, am_al_t.mpr (fun r hr => blk_back (hA.2.2.2.1 r hr) (hl r hr) (am_al_t.mp ha.2 r hr))⟩
/-- a search that begins among reachable states stays there -/
theorem stay_all {al : Nat → Nat → Bool} {q q2 : List bq_E} {pl p2 : Nat → Nat} {k k2 : Nat} (ht : bt_all al q k pl) (ht2 : bt_all al q2 k2 p2) (h0 : ∀ (i : Nat) (e : bq_E), i < k2 → q2[i]? = some e → ∃ (j : Nat) (f : bq_E), q[j]? = some f ∧ f.1 = e.1) : ∀ (i : Nat) (e : bq_E), q2[i]? = some e → ∃ (j : Nat) (f : bq_E), q[j]? = some f ∧ f.1 = e.1 := by
  intro i
  induction i using Nat.strongRecOn with
  | ind i ih =>
    intro e he
    by_cases hi : i < k2
    · exact h0 i e hi he
    · obtain ⟨b1, b2, b3, f', b4, b5, b6, b7⟩ := ht2.1 i e (by omega) he
      obtain ⟨j, f, c1, c2⟩ := ih (p2 i) b1 f' b4
      obtain ⟨j2, g, d1, d2, d3, d4⟩ := bt_near ht b3 c1 (by rw [c2]; exact b5)
      exact ⟨j2, g, d1, by rw [d2, c2, b6]⟩
end LEG
