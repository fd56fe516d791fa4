def f_Model_blockOf_L2  : Nat → Nat → Int32 → Int32 → Int32 → ja_S → Option (Int32 × ja_S)
  | 0, _, _, _, _, _ => none
  | n + 1, x0, x1, x2, x3, sg => (if (sg.1 x0 27) ≤ x3 then some ((-1 : Int32), sg) else (f_Model_has (sg.1 x0 28) x3 sg).bind fun v1 => (if v1.1 = 0 then f_Model_blockOf_L2  n x0 x1 x2 (x3 + 1) v1.2 else (f_Model_blocks x0 x3 x1 x2 v1.2).bind fun v2 => (if v2.1 = 0 then f_Model_blockOf_L2  n x0 x1 x2 (x3 + 1) v2.2 else some (x3, v2.2))))
set_option maxRecDepth 4000 in
theorem w_Model_blockOf_L2 (C : ja_C) {w : Int32 × ja_S}    (n : Nat) : ∀ (x0 : Nat) (x1 : Int32) (x2 : Int32) (x3 : Int32) (sg : ja_S), ja_ob ja_L0 8 x0 → f_Model_blockOf_L2  n x0 x1 x2 x3 sg = some w → ja_J M_Model_blockOf C 2 [(0, .ref x0), (1, .int x1), (2, .int x2), (3, .int x3)] [] ja_L0 sg (some (.int w.1), ja_L0, w.2) := by
  induction n with
  | zero => intro _ _ _ _ _ _ hf; exact absurd (show (none : Option _) = some w from hf) (by simp)
  | succ n ih =>
    intro x0 x1 x2 x3 sg h0 hf
    unfold f_Model_blockOf_L2 at hf
    refine ja_iload_n (pc := 2) (f := 3) (i := 3) 3 (by decide +kernel) rfl rfl ?_
    refine ja_aload_n (pc := 3) (f := 0) (i := 0) 0 (by decide +kernel) rfl rfl ?_
    refine ja_geti (pc := 4) (idx := 196) (t := 8) (j := 27) (by decide +kernel) fd_Model_196 h0 ?_
    refine ja_icmp_ge (pc := 7) (off := 32) 39 (by decide +kernel) (by decide) hf (fun hf => ?_) (fun hf => ?_)
    · refine ja_iconst (pc := 39) (n := (-1)) (v := (-1)) (by decide +kernel) (by decide +kernel) ?_
      exact ja_ret (pc := 40) (some (.int (-1 : Int32))) .ireturn (by decide +kernel) rfl (by cases hf; rfl)
    · refine ja_aload_n (pc := 10) (f := 0) (i := 0) 0 (by decide +kernel) rfl rfl ?_
      refine ja_geti (pc := 11) (idx := 199) (t := 8) (j := 28) (by decide +kernel) fd_Model_199 h0 ?_
      refine ja_iload_n (pc := 14) (f := 3) (i := 3) 3 (by decide +kernel) rfl rfl ?_
      refine ja_bind hf (fun v1 hv1 hf => ?_)
      refine ja_callSi (pc := 15) (idx := 152) (as := [.int (sg.1 x0 28), .int x3]) (st := []) (by decide +kernel) ks_Model_has lk_Model_152 ⟨by decide, by decide⟩ (c_Model_has _ _ (sg.1 x0 28) x3  hv1) rfl (Nat.le_of_ble_eq_true rfl) rfl ?_
      refine ja_if_eq (pc := 18) (off := 15) 33 (by decide +kernel) (by decide) hf (fun hf => ?_) (fun hf => ?_)
      · refine ja_iinc (pc := 33) (i := 3) (n := 1) (v := x3 + 1) (lv' := [(3, .int (x3 + 1)), (0, .ref x0), (1, .int x1), (2, .int x2)]) 3 (by decide +kernel) rfl rfl (by decide) rfl ?_
        refine ja_goto (pc := 36) (off := (-34)) 2 (by decide +kernel) (by decide) ?_
        refine ja_lv [1, 2, 3, 0] rfl ?_
        exact ih x0 x1 x2 (x3 + 1) v1.2 h0 hf
      · refine ja_aload_n (pc := 21) (f := 0) (i := 0) 0 (by decide +kernel) rfl rfl ?_
        refine ja_iload_n (pc := 22) (f := 3) (i := 3) 3 (by decide +kernel) rfl rfl ?_
        refine ja_iload_n (pc := 23) (f := 1) (i := 1) 1 (by decide +kernel) rfl rfl ?_
        refine ja_iload_n (pc := 24) (f := 2) (i := 2) 2 (by decide +kernel) rfl rfl ?_
        refine ja_bind hf (fun v2 hv2 hf => ?_)
        refine ja_callVi (pc := 25) (idx := 211) (t := 8) (b := x0) (as := [.int x3, .int x1, .int x2]) (st := []) (by decide +kernel) kv_Model_blocks lk_Model_211 ⟨by decide, by decide⟩ (c_Model_blocks _ _ x0 x3 x1 x2 h0 hv2) h0 rfl (Nat.le_of_ble_eq_true rfl) rfl ?_
        refine ja_if_eq (pc := 28) (off := 5) 33 (by decide +kernel) (by decide) hf (fun hf => ?_) (fun hf => ?_)
        · refine ja_iinc (pc := 33) (i := 3) (n := 1) (v := x3 + 1) (lv' := [(3, .int (x3 + 1)), (0, .ref x0), (1, .int x1), (2, .int x2)]) 3 (by decide +kernel) rfl rfl (by decide) rfl ?_
          refine ja_goto (pc := 36) (off := (-34)) 2 (by decide +kernel) (by decide) ?_
          refine ja_lv [1, 2, 3, 0] rfl ?_
          exact ih x0 x1 x2 (x3 + 1) v2.2 h0 hf
        · refine ja_iload_n (pc := 31) (f := 3) (i := 3) 3 (by decide +kernel) rfl rfl ?_
          exact ja_ret (pc := 32) (some (.int x3)) .ireturn (by decide +kernel) rfl (by cases hf; rfl)
def f_Model_blockOf (x0 : Nat) (x1 : Int32) (x2 : Int32) (sg : ja_S) : Option (Int32 × ja_S) := f_Model_blockOf_L2  ja_FU x0 x1 x2 (0 : Int32) sg
set_option maxRecDepth 4000 in
theorem c_Model_blockOf (l : Launch) (x : ja_X) (x0 : Nat) (x1 : Int32) (x2 : Int32) {sg : ja_S} {w : Int32 × ja_S} (h0 : ja_ob ja_L0 8 x0) (hf : f_Model_blockOf x0 x1 x2 sg = some w) : ja_Ct l x y_Model_blockOf M_Model_blockOf [.ref x0, .int x1, .int x2] ja_L0 sg (some (.int w.1), ja_L0, w.2) := by
  refine ja_mk ⟨by decide, rfl, rfl⟩ (Nat.le_of_ble_eq_true rfl) (lv := [(0, .ref x0), (1, .int x1), (2, .int x2)]) rfl (fun C hl hx _ _ _ _ => ?_)
  subst hl; subst hx
  unfold f_Model_blockOf at hf
  refine ja_iconst (pc := 0) (n := 0) (v := 0) (by decide +kernel) (by decide +kernel) ?_
  refine ja_istore_n (pc := 1) (f := 3) (i := 3) (lv' := [(3, .int (0 : Int32)), (0, .ref x0), (1, .int x1), (2, .int x2)]) (by decide +kernel) rfl (by decide) rfl ?_
  refine ja_lv [1, 2, 3, 0] rfl ?_
  exact w_Model_blockOf_L2 C  ja_FU x0 x1 x2 (0 : Int32) sg h0 hf
def f_Model_isFree (x0 : Nat) (x1 : Int32) (x2 : Int32) (sg : ja_S) : Option (Int32 × ja_S) := (f_Model_has (sg.1 x0 29) x2 sg).bind fun v1 => (if v1.1 = 0 then (f_Model_blockOf x0 x1 x2 v1.2).bind fun v2 => (if v2.1 = (-1 : Int32) then some ((1 : Int32), v2.2) else some ((0 : Int32), v2.2)) else some ((0 : Int32), v1.2))
set_option maxRecDepth 4000 in
theorem c_Model_isFree (l : Launch) (x : ja_X) (x0 : Nat) (x1 : Int32) (x2 : Int32) {sg : ja_S} {w : Int32 × ja_S} (h0 : ja_ob ja_L0 8 x0) (hf : f_Model_isFree x0 x1 x2 sg = some w) : ja_Ct l x y_Model_isFree M_Model_isFree [.ref x0, .int x1, .int x2] ja_L0 sg (some (.int w.1), ja_L0, w.2) := by
  refine ja_mk ⟨by decide, rfl, rfl⟩ (Nat.le_of_ble_eq_true rfl) (lv := [(0, .ref x0), (1, .int x1), (2, .int x2)]) rfl (fun C hl hx _ _ _ _ => ?_)
  subst hl; subst hx
  unfold f_Model_isFree at hf
  refine ja_aload_n (pc := 0) (f := 0) (i := 0) 0 (by decide +kernel) rfl rfl ?_
  refine ja_geti (pc := 1) (idx := 202) (t := 8) (j := 29) (by decide +kernel) fd_Model_202 h0 ?_
  refine ja_iload_n (pc := 4) (f := 2) (i := 2) 2 (by decide +kernel) rfl rfl ?_
  refine ja_bind hf (fun v1 hv1 hf => ?_)
  refine ja_callSi (pc := 5) (idx := 152) (as := [.int (sg.1 x0 29), .int x2]) (st := []) (by decide +kernel) ks_Model_has lk_Model_152 ⟨by decide, by decide⟩ (c_Model_has _ _ (sg.1 x0 29) x2  hv1) rfl (Nat.le_of_ble_eq_true rfl) rfl ?_
  refine ja_if_ne (pc := 8) (off := 17) 25 (by decide +kernel) (by decide) hf (fun hf => ?_) (fun hf => ?_)
  · refine ja_iconst (pc := 25) (n := 0) (v := 0) (by decide +kernel) (by decide +kernel) ?_
    exact ja_ret (pc := 26) (some (.int (0 : Int32))) .ireturn (by decide +kernel) rfl (by cases hf; rfl)
  · refine ja_aload_n (pc := 11) (f := 0) (i := 0) 0 (by decide +kernel) rfl rfl ?_
    refine ja_iload_n (pc := 12) (f := 1) (i := 1) 1 (by decide +kernel) rfl rfl ?_
    refine ja_iload_n (pc := 13) (f := 2) (i := 2) 2 (by decide +kernel) rfl rfl ?_
    refine ja_bind hf (fun v2 hv2 hf => ?_)
    refine ja_callVi (pc := 14) (idx := 215) (t := 8) (b := x0) (as := [.int x1, .int x2]) (st := []) (by decide +kernel) kv_Model_blockOf lk_Model_215 ⟨by decide, by decide⟩ (c_Model_blockOf _ _ x0 x1 x2 h0 hv2) h0 rfl (Nat.le_of_ble_eq_true rfl) rfl ?_
    refine ja_iconst (pc := 17) (n := (-1)) (v := (-1)) (by decide +kernel) (by decide +kernel) ?_
    refine ja_icmp_ne (pc := 18) (off := 7) 25 (by decide +kernel) (by decide) hf (fun hf => ?_) (fun hf => ?_)
    · refine ja_iconst (pc := 25) (n := 0) (v := 0) (by decide +kernel) (by decide +kernel) ?_
      exact ja_ret (pc := 26) (some (.int (0 : Int32))) .ireturn (by decide +kernel) rfl (by cases hf; rfl)
    · refine ja_iconst (pc := 21) (n := 1) (v := 1) (by decide +kernel) (by decide +kernel) ?_
      refine ja_goto (pc := 22) (off := 4) 26 (by decide +kernel) (by decide) ?_
      exact ja_ret (pc := 26) (some (.int (1 : Int32))) .ireturn (by decide +kernel) rfl (by cases hf; rfl)
def f_Model_clears_L2  : Nat → Nat → Int32 → ja_S → Option (ja_S)
  | 0, _, _, _ => none
  | n + 1, x0, x1, sg => (if (4096 : Int32) ≤ x1 then (ja_pu sg x0 32 (0 : Int32)).bind fun s1 => some s1 else (ja_st ja_L0 sg (ja_q x0 30) x1 (-1 : Int32)).bind fun s2 => f_Model_clears_L2  n x0 (x1 + 1) s2)
set_option maxRecDepth 4000 in
theorem w_Model_clears_L2 (C : ja_C) {w : ja_S}    (n : Nat) : ∀ (x0 : Nat) (x1 : Int32) (sg : ja_S), ja_ob ja_L0 8 x0 → f_Model_clears_L2  n x0 x1 sg = some w → ja_J M_Model_clears C 2 [(0, .ref x0), (1, .int x1)] [] ja_L0 sg (none, ja_L0, w) := by
  induction n with
  | zero => intro _ _ _ _ hf; exact absurd (show (none : Option _) = some w from hf) (by simp)
  | succ n ih =>
    intro x0 x1 sg h0 hf
    unfold f_Model_clears_L2 at hf
    refine ja_iload_n (pc := 2) (f := 1) (i := 1) 1 (by decide +kernel) rfl rfl ?_
    refine ja_sipush (pc := 3) (n := 4096) (v := 4096) (by decide +kernel) (by decide +kernel) ?_
    refine ja_icmp_ge (pc := 6) (off := 16) 22 (by decide +kernel) (by decide) hf (fun hf => ?_) (fun hf => ?_)
    · refine ja_aload_n (pc := 22) (f := 0) (i := 0) 0 (by decide +kernel) rfl rfl ?_
      refine ja_iconst (pc := 23) (n := 0) (v := 0) (by decide +kernel) (by decide +kernel) ?_
      refine ja_bind hf (fun s1 hs1 hf => ?_)
      refine ja_puti2 (pc := 24) (idx := 218) (t := 8) (j := 32) (by decide +kernel) fd_Model_218 h0 ⟨rfl, rfl⟩ hs1 ?_
      exact ja_ret (pc := 27) none .return_ (by decide +kernel) rfl (by cases hf; rfl)
    · refine ja_aload_n (pc := 9) (f := 0) (i := 0) 0 (by decide +kernel) rfl rfl ?_
      refine ja_getr (pc := 10) (idx := 56) (t := 8) (j := 30) (by decide +kernel) fd_Model_56 h0 (fr_8_30 h0) ?_
      refine ja_iload_n (pc := 13) (f := 1) (i := 1) 1 (by decide +kernel) rfl rfl ?_
      refine ja_iconst (pc := 14) (n := (-1)) (v := (-1)) (by decide +kernel) (by decide +kernel) ?_
      refine ja_bind hf (fun s2 hs2 hf => ?_)
      refine ja_iast (pc := 15) (by decide +kernel) (fk_8_30 h0) hs2 ?_
      refine ja_iinc (pc := 16) (i := 1) (n := 1) (v := x1 + 1) (lv' := [(1, .int (x1 + 1)), (0, .ref x0)]) 1 (by decide +kernel) rfl rfl (by decide) rfl ?_
      refine ja_goto (pc := 19) (off := (-17)) 2 (by decide +kernel) (by decide) ?_
      refine ja_lv [1, 0] rfl ?_
      exact ih x0 (x1 + 1) s2 h0 hf
def f_Model_clears (x0 : Nat) (sg : ja_S) : Option (ja_S) := f_Model_clears_L2  ja_FU x0 (0 : Int32) sg
set_option maxRecDepth 4000 in
theorem c_Model_clears (l : Launch) (x : ja_X) (x0 : Nat) {sg : ja_S} {w : ja_S} (h0 : ja_ob ja_L0 8 x0) (hf : f_Model_clears x0 sg = some w) : ja_Ct l x y_Model_clears M_Model_clears [.ref x0] ja_L0 sg (none, ja_L0, w) := by
  refine ja_mk ⟨by decide, rfl, rfl⟩ (Nat.le_of_ble_eq_true rfl) (lv := [(0, .ref x0)]) rfl (fun C hl hx _ _ _ _ => ?_)
  subst hl; subst hx
  unfold f_Model_clears at hf
  refine ja_iconst (pc := 0) (n := 0) (v := 0) (by decide +kernel) (by decide +kernel) ?_
  refine ja_istore_n (pc := 1) (f := 1) (i := 1) (lv' := [(1, .int (0 : Int32)), (0, .ref x0)]) (by decide +kernel) rfl (by decide) rfl ?_
  refine ja_lv [1, 0] rfl ?_
  exact w_Model_clears_L2 C  ja_FU x0 (0 : Int32) sg h0 hf
def f_Model_reaches (x0 : Nat) (x1 : Int32) (x2 : Int32) (sg : ja_S) : Option (ja_S) := (ja_ld ja_L0 sg (ja_q x0 30) x1).bind fun v1 => (if v1 = (-1 : Int32) then (ja_st ja_L0 sg (ja_q x0 30) x1 x2).bind fun s2 => (ja_st ja_L0 s2 (ja_q x0 31) (s2.1 x0 32) x1).bind fun s3 => (ja_pu s3 x0 32 ((s3.1 x0 32) + (1 : Int32))).bind fun s4 => some s4 else some sg)
set_option maxRecDepth 4000 in
theorem c_Model_reaches (l : Launch) (x : ja_X) (x0 : Nat) (x1 : Int32) (x2 : Int32) {sg : ja_S} {w : ja_S} (h0 : ja_ob ja_L0 8 x0) (hf : f_Model_reaches x0 x1 x2 sg = some w) : ja_Ct l x y_Model_reaches M_Model_reaches [.ref x0, .int x1, .int x2] ja_L0 sg (none, ja_L0, w) := by
  refine ja_mk ⟨by decide, rfl, rfl⟩ (Nat.le_of_ble_eq_true rfl) (lv := [(0, .ref x0), (1, .int x1), (2, .int x2)]) rfl (fun C hl hx _ _ _ _ => ?_)
  subst hl; subst hx
  unfold f_Model_reaches at hf
  refine ja_aload_n (pc := 0) (f := 0) (i := 0) 0 (by decide +kernel) rfl rfl ?_
  refine ja_getr (pc := 1) (idx := 56) (t := 8) (j := 30) (by decide +kernel) fd_Model_56 h0 (fr_8_30 h0) ?_
  refine ja_iload_n (pc := 4) (f := 1) (i := 1) 1 (by decide +kernel) rfl rfl ?_
  refine ja_bind hf (fun v1 hv1 hf => ?_)
  refine ja_iald (pc := 5) (by decide +kernel) (fk_8_30 h0) hv1 ?_
  refine ja_iconst (pc := 6) (n := (-1)) (v := (-1)) (by decide +kernel) (by decide +kernel) ?_
  refine ja_icmp_eq (pc := 7) (off := 4) 11 (by decide +kernel) (by decide) hf (fun hf => ?_) (fun hf => ?_)
  · refine ja_aload_n (pc := 11) (f := 0) (i := 0) 0 (by decide +kernel) rfl rfl ?_
    refine ja_getr (pc := 12) (idx := 56) (t := 8) (j := 30) (by decide +kernel) fd_Model_56 h0 (fr_8_30 h0) ?_
    refine ja_iload_n (pc := 15) (f := 1) (i := 1) 1 (by decide +kernel) rfl rfl ?_
    refine ja_iload_n (pc := 16) (f := 2) (i := 2) 2 (by decide +kernel) rfl rfl ?_
    refine ja_bind hf (fun s2 hs2 hf => ?_)
    refine ja_iast (pc := 17) (by decide +kernel) (fk_8_30 h0) hs2 ?_
    refine ja_aload_n (pc := 18) (f := 0) (i := 0) 0 (by decide +kernel) rfl rfl ?_
    refine ja_getr (pc := 19) (idx := 59) (t := 8) (j := 31) (by decide +kernel) fd_Model_59 h0 (fr_8_31 h0) ?_
    refine ja_aload_n (pc := 22) (f := 0) (i := 0) 0 (by decide +kernel) rfl rfl ?_
    refine ja_geti (pc := 23) (idx := 218) (t := 8) (j := 32) (by decide +kernel) fd_Model_218 h0 ?_
    refine ja_iload_n (pc := 26) (f := 1) (i := 1) 1 (by decide +kernel) rfl rfl ?_
    refine ja_bind hf (fun s3 hs3 hf => ?_)
    refine ja_iast (pc := 27) (by decide +kernel) (fk_8_31 h0) hs3 ?_
    refine ja_aload_n (pc := 28) (f := 0) (i := 0) 0 (by decide +kernel) rfl rfl ?_
    refine ja_dup (pc := 29) (by decide +kernel) rfl ?_
    refine ja_geti (pc := 30) (idx := 218) (t := 8) (j := 32) (by decide +kernel) fd_Model_218 h0 ?_
    refine ja_iconst (pc := 33) (n := 1) (v := 1) (by decide +kernel) (by decide +kernel) ?_
    refine ja_iadd (pc := 34) (by decide +kernel) ?_
    refine ja_bind hf (fun s4 hs4 hf => ?_)
    refine ja_puti2 (pc := 35) (idx := 218) (t := 8) (j := 32) (by decide +kernel) fd_Model_218 h0 ⟨rfl, rfl⟩ hs4 ?_
    exact ja_ret (pc := 38) none .return_ (by decide +kernel) rfl (by cases hf; rfl)
  · exact ja_ret (pc := 10) none .return_ (by decide +kernel) rfl (by cases hf; rfl)
def f_Model_spreads_L19 (k2 : Nat → Int32 → ja_S → Option (ja_S)) : Nat → Nat → Int32 → Int32 → Int32 → ja_S → Option (ja_S)
  | 0, _, _, _, _, _ => none
  | n + 1, x0, x1, x2, x3, sg => (if (sg.1 x0 0) ≤ x3 then k2 x0 (x1 + 1) sg else (f_Model_isFree x0 x2 x3 sg).bind fun v1 => (if v1.1 = 0 then f_Model_spreads_L19 k2 n x0 x1 x2 (x3 + 1) v1.2 else (ja_ld ja_L0 v1.2 (ja_q x0 30) x2).bind fun v2 => (f_Model_reaches x0 (x2 ^^^ ((1 : Int32) <<< (x3 &&& 31))) (v2 + (1 : Int32)) v1.2).bind fun v3 => f_Model_spreads_L19 k2 n x0 x1 x2 (x3 + 1) v3))
set_option maxRecDepth 4000 in
theorem w_Model_spreads_L19 (C : ja_C) {w : ja_S} {k2 : Nat → Int32 → ja_S → Option (ja_S)} (e2 : ∀ (x0 : Nat) (x1 : Int32) (sg : ja_S), ja_ob ja_L0 8 x0 → k2 x0 x1 sg = some w → ja_J M_Model_spreads C 2 [(0, .ref x0), (1, .int x1)] [] ja_L0 sg (none, ja_L0, w))  (n : Nat) : ∀ (x0 : Nat) (x1 : Int32) (x2 : Int32) (x3 : Int32) (sg : ja_S), ja_ob ja_L0 8 x0 → f_Model_spreads_L19 k2 n x0 x1 x2 x3 sg = some w → ja_J M_Model_spreads C 19 [(0, .ref x0), (1, .int x1), (2, .int x2), (3, .int x3)] [] ja_L0 sg (none, ja_L0, w) := by
  induction n with
  | zero => intro _ _ _ _ _ _ hf; exact absurd (show (none : Option _) = some w from hf) (by simp)
  | succ n ih =>
    intro x0 x1 x2 x3 sg h0 hf
    unfold f_Model_spreads_L19 at hf
    refine ja_iload_n (pc := 19) (f := 3) (i := 3) 3 (by decide +kernel) rfl rfl ?_
    refine ja_aload_n (pc := 20) (f := 0) (i := 0) 0 (by decide +kernel) rfl rfl ?_
    refine ja_geti (pc := 21) (idx := 13) (t := 8) (j := 0) (by decide +kernel) fd_Model_13 h0 ?_
    refine ja_icmp_ge (pc := 24) (off := 35) 59 (by decide +kernel) (by decide) hf (fun hf => ?_) (fun hf => ?_)
    · refine ja_iinc (pc := 59) (i := 1) (n := 1) (v := x1 + 1) (lv' := [(1, .int (x1 + 1)), (0, .ref x0), (2, .int x2), (3, .int x3)]) 1 (by decide +kernel) rfl rfl (by decide) rfl ?_
      refine ja_goto (pc := 62) (off := (-60)) 2 (by decide +kernel) (by decide) ?_
      refine ja_lv [1, 0] rfl ?_
      exact e2 x0 (x1 + 1) sg h0 hf
    · refine ja_aload_n (pc := 27) (f := 0) (i := 0) 0 (by decide +kernel) rfl rfl ?_
      refine ja_iload_n (pc := 28) (f := 2) (i := 2) 2 (by decide +kernel) rfl rfl ?_
      refine ja_iload_n (pc := 29) (f := 3) (i := 3) 3 (by decide +kernel) rfl rfl ?_
      refine ja_bind hf (fun v1 hv1 hf => ?_)
      refine ja_callVi (pc := 30) (idx := 221) (t := 8) (b := x0) (as := [.int x2, .int x3]) (st := []) (by decide +kernel) kv_Model_isFree lk_Model_221 ⟨by decide, by decide⟩ (c_Model_isFree _ _ x0 x2 x3 h0 hv1) h0 rfl (Nat.le_of_ble_eq_true rfl) rfl ?_
      refine ja_if_eq (pc := 33) (off := 20) 53 (by decide +kernel) (by decide) hf (fun hf => ?_) (fun hf => ?_)
      · refine ja_iinc (pc := 53) (i := 3) (n := 1) (v := x3 + 1) (lv' := [(3, .int (x3 + 1)), (0, .ref x0), (1, .int x1), (2, .int x2)]) 3 (by decide +kernel) rfl rfl (by decide) rfl ?_
        refine ja_goto (pc := 56) (off := (-37)) 19 (by decide +kernel) (by decide) ?_
        refine ja_lv [1, 2, 3, 0] rfl ?_
        exact ih x0 x1 x2 (x3 + 1) v1.2 h0 hf
      · refine ja_aload_n (pc := 36) (f := 0) (i := 0) 0 (by decide +kernel) rfl rfl ?_
        refine ja_iload_n (pc := 37) (f := 2) (i := 2) 2 (by decide +kernel) rfl rfl ?_
        refine ja_iconst (pc := 38) (n := 1) (v := 1) (by decide +kernel) (by decide +kernel) ?_
        refine ja_iload_n (pc := 39) (f := 3) (i := 3) 3 (by decide +kernel) rfl rfl ?_
        refine ja_ishl (pc := 40) (by decide +kernel) ?_
        refine ja_ixor (pc := 41) (by decide +kernel) ?_
        refine ja_aload_n (pc := 42) (f := 0) (i := 0) 0 (by decide +kernel) rfl rfl ?_
        refine ja_getr (pc := 43) (idx := 56) (t := 8) (j := 30) (by decide +kernel) fd_Model_56 h0 (fr_8_30 h0) ?_
        refine ja_iload_n (pc := 46) (f := 2) (i := 2) 2 (by decide +kernel) rfl rfl ?_
        refine ja_bind hf (fun v2 hv2 hf => ?_)
        refine ja_iald (pc := 47) (by decide +kernel) (fk_8_30 h0) hv2 ?_
        refine ja_iconst (pc := 48) (n := 1) (v := 1) (by decide +kernel) (by decide +kernel) ?_
        refine ja_iadd (pc := 49) (by decide +kernel) ?_
        refine ja_bind hf (fun v3 hv3 hf => ?_)
        refine ja_callVv (pc := 50) (idx := 224) (t := 8) (b := x0) (as := [.int (x2 ^^^ ((1 : Int32) <<< (x3 &&& 31))), .int (v2 + (1 : Int32))]) (st := []) (by decide +kernel) kv_Model_reaches lk_Model_224 ⟨by decide, by decide⟩ (c_Model_reaches _ _ x0 (x2 ^^^ ((1 : Int32) <<< (x3 &&& 31))) (v2 + (1 : Int32)) h0 hv3) h0 rfl (Nat.le_of_ble_eq_true rfl) rfl ?_
        refine ja_iinc (pc := 53) (i := 3) (n := 1) (v := x3 + 1) (lv' := [(3, .int (x3 + 1)), (0, .ref x0), (1, .int x1), (2, .int x2)]) 3 (by decide +kernel) rfl rfl (by decide) rfl ?_
        refine ja_goto (pc := 56) (off := (-37)) 19 (by decide +kernel) (by decide) ?_
        refine ja_lv [1, 2, 3, 0] rfl ?_
        exact ih x0 x1 x2 (x3 + 1) v3 h0 hf
def f_Model_spreads_L2  : Nat → Nat → Int32 → ja_S → Option (ja_S)
  | 0, _, _, _ => none
  | n + 1, x0, x1, sg => (if (sg.1 x0 32) ≤ x1 then some sg else (ja_ld ja_L0 sg (ja_q x0 31) x1).bind fun v1 => f_Model_spreads_L19 (f_Model_spreads_L2  n) ja_FU x0 x1 v1 (0 : Int32) sg)
set_option maxRecDepth 4000 in
theorem w_Model_spreads_L2 (C : ja_C) {w : ja_S}    (n : Nat) : ∀ (x0 : Nat) (x1 : Int32) (sg : ja_S), ja_ob ja_L0 8 x0 → f_Model_spreads_L2  n x0 x1 sg = some w → ja_J M_Model_spreads C 2 [(0, .ref x0), (1, .int x1)] [] ja_L0 sg (none, ja_L0, w) := by
  induction n with
  | zero => intro _ _ _ _ hf; exact absurd (show (none : Option _) = some w from hf) (by simp)
  | succ n ih =>
    intro x0 x1 sg h0 hf
    unfold f_Model_spreads_L2 at hf
    refine ja_iload_n (pc := 2) (f := 1) (i := 1) 1 (by decide +kernel) rfl rfl ?_
    refine ja_aload_n (pc := 3) (f := 0) (i := 0) 0 (by decide +kernel) rfl rfl ?_
    refine ja_geti (pc := 4) (idx := 218) (t := 8) (j := 32) (by decide +kernel) fd_Model_218 h0 ?_
    refine ja_icmp_ge (pc := 7) (off := 58) 65 (by decide +kernel) (by decide) hf (fun hf => ?_) (fun hf => ?_)
    · exact ja_ret (pc := 65) none .return_ (by decide +kernel) rfl (by cases hf; rfl)
    · refine ja_aload_n (pc := 10) (f := 0) (i := 0) 0 (by decide +kernel) rfl rfl ?_
      refine ja_getr (pc := 11) (idx := 59) (t := 8) (j := 31) (by decide +kernel) fd_Model_59 h0 (fr_8_31 h0) ?_
      refine ja_iload_n (pc := 14) (f := 1) (i := 1) 1 (by decide +kernel) rfl rfl ?_
      refine ja_bind hf (fun v1 hv1 hf => ?_)
      refine ja_iald (pc := 15) (by decide +kernel) (fk_8_31 h0) hv1 ?_
      refine ja_istore_n (pc := 16) (f := 2) (i := 2) (lv' := [(2, .int v1), (0, .ref x0), (1, .int x1)]) (by decide +kernel) rfl (by decide) rfl ?_
      refine ja_iconst (pc := 17) (n := 0) (v := 0) (by decide +kernel) (by decide +kernel) ?_
      refine ja_istore_n (pc := 18) (f := 3) (i := 3) (lv' := [(3, .int (0 : Int32)), (2, .int v1), (0, .ref x0), (1, .int x1)]) (by decide +kernel) rfl (by decide) rfl ?_
      refine ja_lv [2, 3, 1, 0] rfl ?_
      exact w_Model_spreads_L19 C ih ja_FU x0 x1 v1 (0 : Int32) sg h0 hf
def f_Model_spreads (x0 : Nat) (sg : ja_S) : Option (ja_S) := f_Model_spreads_L2  ja_FU x0 (0 : Int32) sg
set_option maxRecDepth 4000 in
theorem c_Model_spreads (l : Launch) (x : ja_X) (x0 : Nat) {sg : ja_S} {w : ja_S} (h0 : ja_ob ja_L0 8 x0) (hf : f_Model_spreads x0 sg = some w) : ja_Ct l x y_Model_spreads M_Model_spreads [.ref x0] ja_L0 sg (none, ja_L0, w) := by
  refine ja_mk ⟨by decide, rfl, rfl⟩ (Nat.le_of_ble_eq_true rfl) (lv := [(0, .ref x0)]) rfl (fun C hl hx _ _ _ _ => ?_)
  subst hl; subst hx
  unfold f_Model_spreads at hf
  refine ja_iconst (pc := 0) (n := 0) (v := 0) (by decide +kernel) (by decide +kernel) ?_
  refine ja_istore_n (pc := 1) (f := 1) (i := 1) (lv' := [(1, .int (0 : Int32)), (0, .ref x0)]) (by decide +kernel) rfl (by decide) rfl ?_
  refine ja_lv [1, 0] rfl ?_
  exact w_Model_spreads_L2 C  ja_FU x0 (0 : Int32) sg h0 hf
def f_Model_laysFrom (x0 : Nat) (x1 : Int32) (sg : ja_S) : Option (ja_S) := (f_Model_clears x0 sg).bind fun v1 => (f_Model_reaches x0 x1 (0 : Int32) v1).bind fun v2 => (f_Model_spreads x0 v2).bind fun v3 => some v3
set_option maxRecDepth 4000 in
theorem c_Model_laysFrom (l : Launch) (x : ja_X) (x0 : Nat) (x1 : Int32) {sg : ja_S} {w : ja_S} (h0 : ja_ob ja_L0 8 x0) (hf : f_Model_laysFrom x0 x1 sg = some w) : ja_Ct l x y_Model_laysFrom M_Model_laysFrom [.ref x0, .int x1] ja_L0 sg (none, ja_L0, w) := by
  refine ja_mk ⟨by decide, rfl, rfl⟩ (Nat.le_of_ble_eq_true rfl) (lv := [(0, .ref x0), (1, .int x1)]) rfl (fun C hl hx _ _ _ _ => ?_)
  subst hl; subst hx
  unfold f_Model_laysFrom at hf
  refine ja_aload_n (pc := 0) (f := 0) (i := 0) 0 (by decide +kernel) rfl rfl ?_
  refine ja_bind hf (fun v1 hv1 hf => ?_)
  refine ja_callVv (pc := 1) (idx := 227) (t := 8) (b := x0) (as := []) (st := []) (by decide +kernel) kv_Model_clears lk_Model_227 ⟨by decide, by decide⟩ (c_Model_clears _ _ x0 h0 hv1) h0 rfl (Nat.le_of_ble_eq_true rfl) rfl ?_
  refine ja_aload_n (pc := 4) (f := 0) (i := 0) 0 (by decide +kernel) rfl rfl ?_
  refine ja_iload_n (pc := 5) (f := 1) (i := 1) 1 (by decide +kernel) rfl rfl ?_
  refine ja_iconst (pc := 6) (n := 0) (v := 0) (by decide +kernel) (by decide +kernel) ?_
  refine ja_bind hf (fun v2 hv2 hf => ?_)
  refine ja_callVv (pc := 7) (idx := 224) (t := 8) (b := x0) (as := [.int x1, .int (0 : Int32)]) (st := []) (by decide +kernel) kv_Model_reaches lk_Model_224 ⟨by decide, by decide⟩ (c_Model_reaches _ _ x0 x1 (0 : Int32) h0 hv2) h0 rfl (Nat.le_of_ble_eq_true rfl) rfl ?_
  refine ja_aload_n (pc := 10) (f := 0) (i := 0) 0 (by decide +kernel) rfl rfl ?_
  refine ja_bind hf (fun v3 hv3 hf => ?_)
  refine ja_callVv (pc := 11) (idx := 230) (t := 8) (b := x0) (as := []) (st := []) (by decide +kernel) kv_Model_spreads lk_Model_230 ⟨by decide, by decide⟩ (c_Model_spreads _ _ x0 h0 hv3) h0 rfl (Nat.le_of_ble_eq_true rfl) rfl ?_
  exact ja_ret (pc := 14) none .return_ (by decide +kernel) rfl (by cases hf; rfl)
def f_Model_remembers_L51  : Nat → Nat → Int32 → ja_S → Option (ja_S)
  | 0, _, _, _ => none
  | n + 1, x0, x1, sg => (if (98 : Int32) ≤ x1 then (ja_pu sg x0 8 ((sg.1 x0 8) + (1 : Int32))).bind fun s1 => some s1 else (ja_ld ja_L0 sg (ja_q x0 3) x1).bind fun v2 => (ja_st ja_L0 sg (ja_q x0 4) (((98 : Int32) * (sg.1 x0 8)) + x1) v2).bind fun s3 => f_Model_remembers_L51  n x0 (x1 + 1) s3)
set_option maxRecDepth 4000 in
theorem w_Model_remembers_L51 (C : ja_C) {w : ja_S}    (n : Nat) : ∀ (x0 : Nat) (x1 : Int32) (sg : ja_S), ja_ob ja_L0 8 x0 → f_Model_remembers_L51  n x0 x1 sg = some w → ja_J M_Model_remembers C 51 [(0, .ref x0), (1, .int x1)] [] ja_L0 sg (none, ja_L0, w) := by
  induction n with
  | zero => intro _ _ _ _ hf; exact absurd (show (none : Option _) = some w from hf) (by simp)
  | succ n ih =>
    intro x0 x1 sg h0 hf
    unfold f_Model_remembers_L51 at hf
    refine ja_iload_n (pc := 51) (f := 1) (i := 1) 1 (by decide +kernel) rfl rfl ?_
    refine ja_bipush (pc := 52) (n := 98) (v := 98) (by decide +kernel) (by decide +kernel) ?_
    refine ja_icmp_ge (pc := 54) (off := 29) 83 (by decide +kernel) (by decide) hf (fun hf => ?_) (fun hf => ?_)
    · refine ja_aload_n (pc := 83) (f := 0) (i := 0) 0 (by decide +kernel) rfl rfl ?_
      refine ja_dup (pc := 84) (by decide +kernel) rfl ?_
      refine ja_geti (pc := 85) (idx := 186) (t := 8) (j := 8) (by decide +kernel) fd_Model_186 h0 ?_
      refine ja_iconst (pc := 88) (n := 1) (v := 1) (by decide +kernel) (by decide +kernel) ?_
      refine ja_iadd (pc := 89) (by decide +kernel) ?_
      refine ja_bind hf (fun s1 hs1 hf => ?_)
      refine ja_puti2 (pc := 90) (idx := 186) (t := 8) (j := 8) (by decide +kernel) fd_Model_186 h0 ⟨rfl, rfl⟩ hs1 ?_
      exact ja_ret (pc := 93) none .return_ (by decide +kernel) rfl (by cases hf; rfl)
    · refine ja_aload_n (pc := 57) (f := 0) (i := 0) 0 (by decide +kernel) rfl rfl ?_
      refine ja_getr (pc := 58) (idx := 20) (t := 8) (j := 4) (by decide +kernel) fd_Model_20 h0 (fr_8_4 h0) ?_
      refine ja_bipush (pc := 61) (n := 98) (v := 98) (by decide +kernel) (by decide +kernel) ?_
      refine ja_aload_n (pc := 63) (f := 0) (i := 0) 0 (by decide +kernel) rfl rfl ?_
      refine ja_geti (pc := 64) (idx := 186) (t := 8) (j := 8) (by decide +kernel) fd_Model_186 h0 ?_
      refine ja_imul (pc := 67) (by decide +kernel) ?_
      refine ja_iload_n (pc := 68) (f := 1) (i := 1) 1 (by decide +kernel) rfl rfl ?_
      refine ja_iadd (pc := 69) (by decide +kernel) ?_
      refine ja_aload_n (pc := 70) (f := 0) (i := 0) 0 (by decide +kernel) rfl rfl ?_
      refine ja_getr (pc := 71) (idx := 16) (t := 8) (j := 3) (by decide +kernel) fd_Model_16 h0 (fr_8_3 h0) ?_
      refine ja_iload_n (pc := 74) (f := 1) (i := 1) 1 (by decide +kernel) rfl rfl ?_
      refine ja_bind hf (fun v2 hv2 hf => ?_)
      refine ja_iald (pc := 75) (by decide +kernel) (fk_8_3 h0) hv2 ?_
      refine ja_bind hf (fun s3 hs3 hf => ?_)
      refine ja_iast (pc := 76) (by decide +kernel) (fk_8_4 h0) hs3 ?_
      refine ja_iinc (pc := 77) (i := 1) (n := 1) (v := x1 + 1) (lv' := [(1, .int (x1 + 1)), (0, .ref x0)]) 1 (by decide +kernel) rfl rfl (by decide) rfl ?_
      refine ja_goto (pc := 80) (off := (-29)) 51 (by decide +kernel) (by decide) ?_
      refine ja_lv [1, 0] rfl ?_
      exact ih x0 (x1 + 1) s3 h0 hf
def f_Model_remembers_L11  : Nat → Nat → Int32 → ja_S → Option (ja_S)
  | 0, _, _, _ => none
  | n + 1, x0, x1, sg => (if (1078 : Int32) ≤ x1 then (ja_pu sg x0 8 ((sg.1 x0 8) - (1 : Int32))).bind fun s1 => f_Model_remembers_L51  ja_FU x0 (0 : Int32) s1 else (ja_ld ja_L0 sg (ja_q x0 4) (x1 + (98 : Int32))).bind fun v2 => (ja_st ja_L0 sg (ja_q x0 4) x1 v2).bind fun s3 => f_Model_remembers_L11  n x0 (x1 + 1) s3)
set_option maxRecDepth 4000 in
theorem w_Model_remembers_L11 (C : ja_C) {w : ja_S}    (n : Nat) : ∀ (x0 : Nat) (x1 : Int32) (sg : ja_S), ja_ob ja_L0 8 x0 → f_Model_remembers_L11  n x0 x1 sg = some w → ja_J M_Model_remembers C 11 [(0, .ref x0), (1, .int x1)] [] ja_L0 sg (none, ja_L0, w) := by
  induction n with
  | zero => intro _ _ _ _ hf; exact absurd (show (none : Option _) = some w from hf) (by simp)
  | succ n ih =>
    intro x0 x1 sg h0 hf
    unfold f_Model_remembers_L11 at hf
    refine ja_iload_n (pc := 11) (f := 1) (i := 1) 1 (by decide +kernel) rfl rfl ?_
    refine ja_sipush (pc := 12) (n := 1078) (v := 1078) (by decide +kernel) (by decide +kernel) ?_
    refine ja_icmp_ge (pc := 15) (off := 24) 39 (by decide +kernel) (by decide) hf (fun hf => ?_) (fun hf => ?_)
    · refine ja_aload_n (pc := 39) (f := 0) (i := 0) 0 (by decide +kernel) rfl rfl ?_
      refine ja_dup (pc := 40) (by decide +kernel) rfl ?_
      refine ja_geti (pc := 41) (idx := 186) (t := 8) (j := 8) (by decide +kernel) fd_Model_186 h0 ?_
      refine ja_iconst (pc := 44) (n := 1) (v := 1) (by decide +kernel) (by decide +kernel) ?_
      refine ja_isub (pc := 45) (by decide +kernel) ?_
      refine ja_bind hf (fun s1 hs1 hf => ?_)
      refine ja_puti2 (pc := 46) (idx := 186) (t := 8) (j := 8) (by decide +kernel) fd_Model_186 h0 ⟨rfl, rfl⟩ hs1 ?_
      refine ja_iconst (pc := 49) (n := 0) (v := 0) (by decide +kernel) (by decide +kernel) ?_
      refine ja_istore_n (pc := 50) (f := 1) (i := 1) (lv' := [(1, .int (0 : Int32)), (0, .ref x0)]) (by decide +kernel) rfl (by decide) rfl ?_
      refine ja_lv [1, 0] rfl ?_
      exact w_Model_remembers_L51 C  ja_FU x0 (0 : Int32) s1 h0 hf
    · refine ja_aload_n (pc := 18) (f := 0) (i := 0) 0 (by decide +kernel) rfl rfl ?_
      refine ja_getr (pc := 19) (idx := 20) (t := 8) (j := 4) (by decide +kernel) fd_Model_20 h0 (fr_8_4 h0) ?_
      refine ja_iload_n (pc := 22) (f := 1) (i := 1) 1 (by decide +kernel) rfl rfl ?_
      refine ja_aload_n (pc := 23) (f := 0) (i := 0) 0 (by decide +kernel) rfl rfl ?_
      refine ja_getr (pc := 24) (idx := 20) (t := 8) (j := 4) (by decide +kernel) fd_Model_20 h0 (fr_8_4 h0) ?_
      refine ja_iload_n (pc := 27) (f := 1) (i := 1) 1 (by decide +kernel) rfl rfl ?_
      refine ja_bipush (pc := 28) (n := 98) (v := 98) (by decide +kernel) (by decide +kernel) ?_
      refine ja_iadd (pc := 30) (by decide +kernel) ?_
      refine ja_bind hf (fun v2 hv2 hf => ?_)
      refine ja_iald (pc := 31) (by decide +kernel) (fk_8_4 h0) hv2 ?_
      refine ja_bind hf (fun s3 hs3 hf => ?_)
      refine ja_iast (pc := 32) (by decide +kernel) (fk_8_4 h0) hs3 ?_
      refine ja_iinc (pc := 33) (i := 1) (n := 1) (v := x1 + 1) (lv' := [(1, .int (x1 + 1)), (0, .ref x0)]) 1 (by decide +kernel) rfl rfl (by decide) rfl ?_
      refine ja_goto (pc := 36) (off := (-25)) 11 (by decide +kernel) (by decide) ?_
      refine ja_lv [1, 0] rfl ?_
      exact ih x0 (x1 + 1) s3 h0 hf
def f_Model_remembers (x0 : Nat) (sg : ja_S) : Option (ja_S) := (if (sg.1 x0 8) = (12 : Int32) then f_Model_remembers_L11  ja_FU x0 (0 : Int32) sg else f_Model_remembers_L51  ja_FU x0 (0 : Int32) sg)
set_option maxRecDepth 4000 in
theorem c_Model_remembers (l : Launch) (x : ja_X) (x0 : Nat) {sg : ja_S} {w : ja_S} (h0 : ja_ob ja_L0 8 x0) (hf : f_Model_remembers x0 sg = some w) : ja_Ct l x y_Model_remembers M_Model_remembers [.ref x0] ja_L0 sg (none, ja_L0, w) := by
  refine ja_mk ⟨by decide, rfl, rfl⟩ (Nat.le_of_ble_eq_true rfl) (lv := [(0, .ref x0)]) rfl (fun C hl hx _ _ _ _ => ?_)
  subst hl; subst hx
  unfold f_Model_remembers at hf
  refine ja_aload_n (pc := 0) (f := 0) (i := 0) 0 (by decide +kernel) rfl rfl ?_
  refine ja_geti (pc := 1) (idx := 186) (t := 8) (j := 8) (by decide +kernel) fd_Model_186 h0 ?_
  refine ja_bipush (pc := 4) (n := 12) (v := 12) (by decide +kernel) (by decide +kernel) ?_
  refine ja_icmp_ne (pc := 6) (off := 43) 49 (by decide +kernel) (by decide) hf (fun hf => ?_) (fun hf => ?_)
  · refine ja_iconst (pc := 49) (n := 0) (v := 0) (by decide +kernel) (by decide +kernel) ?_
    refine ja_istore_n (pc := 50) (f := 1) (i := 1) (lv' := [(1, .int (0 : Int32)), (0, .ref x0)]) (by decide +kernel) rfl (by decide) rfl ?_
    refine ja_lv [1, 0] rfl ?_
    exact w_Model_remembers_L51 C  ja_FU x0 (0 : Int32) sg h0 hf
  · refine ja_iconst (pc := 9) (n := 0) (v := 0) (by decide +kernel) (by decide +kernel) ?_
    refine ja_istore_n (pc := 10) (f := 1) (i := 1) (lv' := [(1, .int (0 : Int32)), (0, .ref x0)]) (by decide +kernel) rfl (by decide) rfl ?_
    refine ja_lv [1, 0] rfl ?_
    exact w_Model_remembers_L11 C  ja_FU x0 (0 : Int32) sg h0 hf
def f_Model_currentState (x0 : Nat) (sg : ja_S) : Option (Int32 × ja_S) := (ja_pu sg x0 9 (0 : Int32)).bind fun s1 => (ja_ld ja_L0 s1 (ja_q x0 3) (1 : Int32)).bind fun v2 => some (v2, s1)
set_option maxRecDepth 4000 in
theorem c_Model_currentState (l : Launch) (x : ja_X) (x0 : Nat) {sg : ja_S} {w : Int32 × ja_S} (h0 : ja_ob ja_L0 8 x0) (hf : f_Model_currentState x0 sg = some w) : ja_Ct l x y_Model_currentState M_Model_currentState [.ref x0] ja_L0 sg (some (.int w.1), ja_L0, w.2) := by
  refine ja_mk ⟨by decide, rfl, rfl⟩ (Nat.le_of_ble_eq_true rfl) (lv := [(0, .ref x0)]) rfl (fun C hl hx _ _ _ _ => ?_)
  subst hl; subst hx
  unfold f_Model_currentState at hf
  refine ja_aload_n (pc := 0) (f := 0) (i := 0) 0 (by decide +kernel) rfl rfl ?_
  refine ja_iconst (pc := 1) (n := 0) (v := 0) (by decide +kernel) (by decide +kernel) ?_
  refine ja_bind hf (fun s1 hs1 hf => ?_)
  refine ja_puti2 (pc := 2) (idx := 1) (t := 8) (j := 9) (by decide +kernel) fd_Model_1 h0 ⟨rfl, rfl⟩ hs1 ?_
  refine ja_aload_n (pc := 5) (f := 0) (i := 0) 0 (by decide +kernel) rfl rfl ?_
  refine ja_getr (pc := 6) (idx := 16) (t := 8) (j := 3) (by decide +kernel) fd_Model_16 h0 (fr_8_3 h0) ?_
  refine ja_iconst (pc := 9) (n := 1) (v := 1) (by decide +kernel) (by decide +kernel) ?_
  refine ja_bind hf (fun v2 hv2 hf => ?_)
  refine ja_iald (pc := 10) (by decide +kernel) (fk_8_3 h0) hv2 ?_
  exact ja_ret (pc := 11) (some (.int v2)) .ireturn (by decide +kernel) rfl (by cases hf; rfl)
def f_Model_moveLever (x0 : Nat) (x1 : Int32) (sg : ja_S) : Option (Int32 × ja_S) := (ja_pu sg x0 9 (0 : Int32)).bind fun s1 => (f_Model_isLever x0 x1 s1).bind fun v2 => (if v2.1 = 0 then some ((-2 : Int32), v2.2) else (f_Model_usesSheet x0 v2.2).bind fun v3 => (ja_ld ja_L0 v3 (ja_q x0 3) (1 : Int32)).bind fun v4 => (f_Model_isFree x0 v4 x1 v3).bind fun v5 => (if v5.1 = 0 then some ((-6 : Int32), v5.2) else (f_Model_remembers x0 v5.2).bind fun v6 => (ja_ld ja_L0 v6 (ja_q x0 3) (1 : Int32)).bind fun v7 => (ja_st ja_L0 v6 (ja_q x0 3) (1 : Int32) (v7 ^^^ ((1 : Int32) <<< (x1 &&& 31)))).bind fun s8 => (ja_ld ja_L0 s8 (ja_q x0 3) (1 : Int32)).bind fun v9 => some (v9, s8)))
set_option maxRecDepth 4000 in
theorem c_Model_moveLever (l : Launch) (x : ja_X) (x0 : Nat) (x1 : Int32) {sg : ja_S} {w : Int32 × ja_S} (h0 : ja_ob ja_L0 8 x0) (hf : f_Model_moveLever x0 x1 sg = some w) : ja_Ct l x y_Model_moveLever M_Model_moveLever [.ref x0, .int x1] ja_L0 sg (some (.int w.1), ja_L0, w.2) := by
  refine ja_mk ⟨by decide, rfl, rfl⟩ (Nat.le_of_ble_eq_true rfl) (lv := [(0, .ref x0), (1, .int x1)]) rfl (fun C hl hx _ _ _ _ => ?_)
  subst hl; subst hx
  unfold f_Model_moveLever at hf
  refine ja_aload_n (pc := 0) (f := 0) (i := 0) 0 (by decide +kernel) rfl rfl ?_
  refine ja_iconst (pc := 1) (n := 0) (v := 0) (by decide +kernel) (by decide +kernel) ?_
  refine ja_bind hf (fun s1 hs1 hf => ?_)
  refine ja_puti2 (pc := 2) (idx := 1) (t := 8) (j := 9) (by decide +kernel) fd_Model_1 h0 ⟨rfl, rfl⟩ hs1 ?_
  refine ja_aload_n (pc := 5) (f := 0) (i := 0) 0 (by decide +kernel) rfl rfl ?_
  refine ja_iload_n (pc := 6) (f := 1) (i := 1) 1 (by decide +kernel) rfl rfl ?_
  refine ja_bind hf (fun v2 hv2 hf => ?_)
  refine ja_callVi (pc := 7) (idx := 233) (t := 8) (b := x0) (as := [.int x1]) (st := []) (by decide +kernel) kv_Model_isLever lk_Model_233 ⟨by decide, by decide⟩ (c_Model_isLever _ _ x0 x1 h0 hv2) h0 rfl (Nat.le_of_ble_eq_true rfl) rfl ?_
  refine ja_if_ne (pc := 10) (off := 6) 16 (by decide +kernel) (by decide) hf (fun hf => ?_) (fun hf => ?_)
  · refine ja_aload_n (pc := 16) (f := 0) (i := 0) 0 (by decide +kernel) rfl rfl ?_
    refine ja_bind hf (fun v3 hv3 hf => ?_)
    refine ja_callVv (pc := 17) (idx := 74) (t := 8) (b := x0) (as := []) (st := []) (by decide +kernel) kv_Model_usesSheet lk_Model_74 ⟨by decide, by decide⟩ (c_Model_usesSheet _ _ x0 h0 hv3) h0 rfl (Nat.le_of_ble_eq_true rfl) rfl ?_
    refine ja_aload_n (pc := 20) (f := 0) (i := 0) 0 (by decide +kernel) rfl rfl ?_
    refine ja_aload_n (pc := 21) (f := 0) (i := 0) 0 (by decide +kernel) rfl rfl ?_
    refine ja_getr (pc := 22) (idx := 16) (t := 8) (j := 3) (by decide +kernel) fd_Model_16 h0 (fr_8_3 h0) ?_
    refine ja_iconst (pc := 25) (n := 1) (v := 1) (by decide +kernel) (by decide +kernel) ?_
    refine ja_bind hf (fun v4 hv4 hf => ?_)
    refine ja_iald (pc := 26) (by decide +kernel) (fk_8_3 h0) hv4 ?_
    refine ja_iload_n (pc := 27) (f := 1) (i := 1) 1 (by decide +kernel) rfl rfl ?_
    refine ja_bind hf (fun v5 hv5 hf => ?_)
    refine ja_callVi (pc := 28) (idx := 221) (t := 8) (b := x0) (as := [.int v4, .int x1]) (st := []) (by decide +kernel) kv_Model_isFree lk_Model_221 ⟨by decide, by decide⟩ (c_Model_isFree _ _ x0 v4 x1 h0 hv5) h0 rfl (Nat.le_of_ble_eq_true rfl) rfl ?_
    refine ja_if_ne (pc := 31) (off := 6) 37 (by decide +kernel) (by decide) hf (fun hf => ?_) (fun hf => ?_)
    · refine ja_aload_n (pc := 37) (f := 0) (i := 0) 0 (by decide +kernel) rfl rfl ?_
      refine ja_bind hf (fun v6 hv6 hf => ?_)
      refine ja_callVv (pc := 38) (idx := 236) (t := 8) (b := x0) (as := []) (st := []) (by decide +kernel) kv_Model_remembers lk_Model_236 ⟨by decide, by decide⟩ (c_Model_remembers _ _ x0 h0 hv6) h0 rfl (Nat.le_of_ble_eq_true rfl) rfl ?_
      refine ja_aload_n (pc := 41) (f := 0) (i := 0) 0 (by decide +kernel) rfl rfl ?_
      refine ja_getr (pc := 42) (idx := 16) (t := 8) (j := 3) (by decide +kernel) fd_Model_16 h0 (fr_8_3 h0) ?_
      refine ja_iconst (pc := 45) (n := 1) (v := 1) (by decide +kernel) (by decide +kernel) ?_
      refine ja_dup2 (pc := 46) (by decide +kernel) rfl rfl ?_
      refine ja_bind hf (fun v7 hv7 hf => ?_)
      refine ja_iald (pc := 47) (by decide +kernel) (fk_8_3 h0) hv7 ?_
      refine ja_iconst (pc := 48) (n := 1) (v := 1) (by decide +kernel) (by decide +kernel) ?_
      refine ja_iload_n (pc := 49) (f := 1) (i := 1) 1 (by decide +kernel) rfl rfl ?_
      refine ja_ishl (pc := 50) (by decide +kernel) ?_
      refine ja_ixor (pc := 51) (by decide +kernel) ?_
      refine ja_bind hf (fun s8 hs8 hf => ?_)
      refine ja_iast (pc := 52) (by decide +kernel) (fk_8_3 h0) hs8 ?_
      refine ja_aload_n (pc := 53) (f := 0) (i := 0) 0 (by decide +kernel) rfl rfl ?_
      refine ja_getr (pc := 54) (idx := 16) (t := 8) (j := 3) (by decide +kernel) fd_Model_16 h0 (fr_8_3 h0) ?_
      refine ja_iconst (pc := 57) (n := 1) (v := 1) (by decide +kernel) (by decide +kernel) ?_
      refine ja_bind hf (fun v9 hv9 hf => ?_)
      refine ja_iald (pc := 58) (by decide +kernel) (fk_8_3 h0) hv9 ?_
      exact ja_ret (pc := 59) (some (.int v9)) .ireturn (by decide +kernel) rfl (by cases hf; rfl)
    · refine ja_bipush (pc := 34) (n := (-6)) (v := (-6)) (by decide +kernel) (by decide +kernel) ?_
      exact ja_ret (pc := 36) (some (.int (-6 : Int32))) .ireturn (by decide +kernel) rfl (by cases hf; rfl)
  · refine ja_bipush (pc := 13) (n := (-2)) (v := (-2)) (by decide +kernel) (by decide +kernel) ?_
    exact ja_ret (pc := 15) (some (.int (-2 : Int32))) .ireturn (by decide +kernel) rfl (by cases hf; rfl)
def f_Model_puts (x0 : Nat) (x1 : Int32) (x2 : Int32) (x3 : Int32) (x4 : Int32) (x5 : Int32) (sg : ja_S) : Option (ja_S) := (ja_st ja_L0 sg (ja_q x0 25) ((4 : Int32) * x1) x2).bind fun s1 => (ja_st ja_L0 s1 (ja_q x0 25) (((4 : Int32) * x1) + (1 : Int32)) x3).bind fun s2 => (ja_st ja_L0 s2 (ja_q x0 25) (((4 : Int32) * x1) + (2 : Int32)) x4).bind fun s3 => (ja_st ja_L0 s3 (ja_q x0 25) (((4 : Int32) * x1) + (3 : Int32)) x5).bind fun s4 => some s4
set_option maxRecDepth 4000 in
theorem c_Model_puts (l : Launch) (x : ja_X) (x0 : Nat) (x1 : Int32) (x2 : Int32) (x3 : Int32) (x4 : Int32) (x5 : Int32) {sg : ja_S} {w : ja_S} (h0 : ja_ob ja_L0 8 x0) (hf : f_Model_puts x0 x1 x2 x3 x4 x5 sg = some w) : ja_Ct l x y_Model_puts M_Model_puts [.ref x0, .int x1, .int x2, .int x3, .int x4, .int x5] ja_L0 sg (none, ja_L0, w) := by
  refine ja_mk ⟨by decide, rfl, rfl⟩ (Nat.le_of_ble_eq_true rfl) (lv := [(0, .ref x0), (1, .int x1), (2, .int x2), (3, .int x3), (4, .int x4), (5, .int x5)]) rfl (fun C hl hx _ _ _ _ => ?_)
  subst hl; subst hx
  unfold f_Model_puts at hf
  refine ja_aload_n (pc := 0) (f := 0) (i := 0) 0 (by decide +kernel) rfl rfl ?_
  refine ja_getr (pc := 1) (idx := 50) (t := 8) (j := 25) (by decide +kernel) fd_Model_50 h0 (fr_8_25 h0) ?_
  refine ja_iconst (pc := 4) (n := 4) (v := 4) (by decide +kernel) (by decide +kernel) ?_
  refine ja_iload_n (pc := 5) (f := 1) (i := 1) 1 (by decide +kernel) rfl rfl ?_
  refine ja_imul (pc := 6) (by decide +kernel) ?_
  refine ja_iload_n (pc := 7) (f := 2) (i := 2) 2 (by decide +kernel) rfl rfl ?_
  refine ja_bind hf (fun s1 hs1 hf => ?_)
  refine ja_iast (pc := 8) (by decide +kernel) (fk_8_25 h0) hs1 ?_
  refine ja_aload_n (pc := 9) (f := 0) (i := 0) 0 (by decide +kernel) rfl rfl ?_
  refine ja_getr (pc := 10) (idx := 50) (t := 8) (j := 25) (by decide +kernel) fd_Model_50 h0 (fr_8_25 h0) ?_
  refine ja_iconst (pc := 13) (n := 4) (v := 4) (by decide +kernel) (by decide +kernel) ?_
  refine ja_iload_n (pc := 14) (f := 1) (i := 1) 1 (by decide +kernel) rfl rfl ?_
  refine ja_imul (pc := 15) (by decide +kernel) ?_
  refine ja_iconst (pc := 16) (n := 1) (v := 1) (by decide +kernel) (by decide +kernel) ?_
  refine ja_iadd (pc := 17) (by decide +kernel) ?_
  refine ja_iload_n (pc := 18) (f := 3) (i := 3) 3 (by decide +kernel) rfl rfl ?_
  refine ja_bind hf (fun s2 hs2 hf => ?_)
  refine ja_iast (pc := 19) (by decide +kernel) (fk_8_25 h0) hs2 ?_
  refine ja_aload_n (pc := 20) (f := 0) (i := 0) 0 (by decide +kernel) rfl rfl ?_
  refine ja_getr (pc := 21) (idx := 50) (t := 8) (j := 25) (by decide +kernel) fd_Model_50 h0 (fr_8_25 h0) ?_
  refine ja_iconst (pc := 24) (n := 4) (v := 4) (by decide +kernel) (by decide +kernel) ?_
  refine ja_iload_n (pc := 25) (f := 1) (i := 1) 1 (by decide +kernel) rfl rfl ?_
  refine ja_imul (pc := 26) (by decide +kernel) ?_
  refine ja_iconst (pc := 27) (n := 2) (v := 2) (by decide +kernel) (by decide +kernel) ?_
  refine ja_iadd (pc := 28) (by decide +kernel) ?_
  refine ja_iload (pc := 29) (i := 4) 4 (by decide +kernel) rfl ?_
  refine ja_bind hf (fun s3 hs3 hf => ?_)
  refine ja_iast (pc := 31) (by decide +kernel) (fk_8_25 h0) hs3 ?_
  refine ja_aload_n (pc := 32) (f := 0) (i := 0) 0 (by decide +kernel) rfl rfl ?_
  refine ja_getr (pc := 33) (idx := 50) (t := 8) (j := 25) (by decide +kernel) fd_Model_50 h0 (fr_8_25 h0) ?_
  refine ja_iconst (pc := 36) (n := 4) (v := 4) (by decide +kernel) (by decide +kernel) ?_
  refine ja_iload_n (pc := 37) (f := 1) (i := 1) 1 (by decide +kernel) rfl rfl ?_
  refine ja_imul (pc := 38) (by decide +kernel) ?_
  refine ja_iconst (pc := 39) (n := 3) (v := 3) (by decide +kernel) (by decide +kernel) ?_
  refine ja_iadd (pc := 40) (by decide +kernel) ?_
  refine ja_iload (pc := 41) (i := 5) 5 (by decide +kernel) rfl ?_
  refine ja_bind hf (fun s4 hs4 hf => ?_)
  refine ja_iast (pc := 43) (by decide +kernel) (fk_8_25 h0) hs4 ?_
  exact ja_ret (pc := 44) none .return_ (by decide +kernel) rfl (by cases hf; rfl)
def f_Model_addRule_L157  : Nat → Nat → Int32 → ja_S → Option (Int32 × ja_S)
  | 0, _, _, _ => none
  | n + 1, x0, x6, sg => (if (4 : Int32) ≤ x6 then (ja_ld ja_L0 sg (ja_q x0 3) (0 : Int32)).bind fun v1 => (ja_st ja_L0 sg (ja_q x0 3) (0 : Int32) (v1 + (1 : Int32))).bind fun s2 => (ja_ld ja_L0 s2 (ja_q x0 3) (0 : Int32)).bind fun v3 => some (v3, s2) else (ja_ld ja_L0 sg (ja_q x0 3) (0 : Int32)).bind fun v4 => (ja_ld ja_L0 sg (ja_q x0 25) (((4 : Int32) * (sg.1 x0 27)) + x6)).bind fun v5 => (ja_st ja_L0 sg (ja_q x0 3) (((2 : Int32) + ((4 : Int32) * v4)) + x6) v5).bind fun s6 => f_Model_addRule_L157  n x0 (x6 + 1) s6)
set_option maxRecDepth 4000 in
theorem w_Model_addRule_L157 (C : ja_C) {w : Int32 × ja_S}    (n : Nat) : ∀ (x0 : Nat) (x6 : Int32) (sg : ja_S), ja_ob ja_L0 8 x0 → f_Model_addRule_L157  n x0 x6 sg = some w → ja_J M_Model_addRule C 157 [(0, .ref x0), (6, .int x6)] [] ja_L0 sg (some (.int w.1), ja_L0, w.2) := by
  induction n with
  | zero => intro _ _ _ _ hf; exact absurd (show (none : Option _) = some w from hf) (by simp)
  | succ n ih =>
    intro x0 x6 sg h0 hf
    unfold f_Model_addRule_L157 at hf
    refine ja_iload (pc := 157) (i := 6) 1 (by decide +kernel) rfl ?_
    refine ja_iconst (pc := 159) (n := 4) (v := 4) (by decide +kernel) (by decide +kernel) ?_
    refine ja_icmp_ge (pc := 160) (off := 41) 201 (by decide +kernel) (by decide) hf (fun hf => ?_) (fun hf => ?_)
    · refine ja_aload_n (pc := 201) (f := 0) (i := 0) 0 (by decide +kernel) rfl rfl ?_
      refine ja_getr (pc := 202) (idx := 16) (t := 8) (j := 3) (by decide +kernel) fd_Model_16 h0 (fr_8_3 h0) ?_
      refine ja_iconst (pc := 205) (n := 0) (v := 0) (by decide +kernel) (by decide +kernel) ?_
      refine ja_dup2 (pc := 206) (by decide +kernel) rfl rfl ?_
      refine ja_bind hf (fun v1 hv1 hf => ?_)
      refine ja_iald (pc := 207) (by decide +kernel) (fk_8_3 h0) hv1 ?_
      refine ja_iconst (pc := 208) (n := 1) (v := 1) (by decide +kernel) (by decide +kernel) ?_
      refine ja_iadd (pc := 209) (by decide +kernel) ?_
      refine ja_bind hf (fun s2 hs2 hf => ?_)
      refine ja_iast (pc := 210) (by decide +kernel) (fk_8_3 h0) hs2 ?_
      refine ja_aload_n (pc := 211) (f := 0) (i := 0) 0 (by decide +kernel) rfl rfl ?_
      refine ja_getr (pc := 212) (idx := 16) (t := 8) (j := 3) (by decide +kernel) fd_Model_16 h0 (fr_8_3 h0) ?_
      refine ja_iconst (pc := 215) (n := 0) (v := 0) (by decide +kernel) (by decide +kernel) ?_
      refine ja_bind hf (fun v3 hv3 hf => ?_)
      refine ja_iald (pc := 216) (by decide +kernel) (fk_8_3 h0) hv3 ?_
      exact ja_ret (pc := 217) (some (.int v3)) .ireturn (by decide +kernel) rfl (by cases hf; rfl)
    · refine ja_aload_n (pc := 163) (f := 0) (i := 0) 0 (by decide +kernel) rfl rfl ?_
      refine ja_getr (pc := 164) (idx := 16) (t := 8) (j := 3) (by decide +kernel) fd_Model_16 h0 (fr_8_3 h0) ?_
      refine ja_iconst (pc := 167) (n := 2) (v := 2) (by decide +kernel) (by decide +kernel) ?_
      refine ja_iconst (pc := 168) (n := 4) (v := 4) (by decide +kernel) (by decide +kernel) ?_
      refine ja_aload_n (pc := 169) (f := 0) (i := 0) 0 (by decide +kernel) rfl rfl ?_
      refine ja_getr (pc := 170) (idx := 16) (t := 8) (j := 3) (by decide +kernel) fd_Model_16 h0 (fr_8_3 h0) ?_
      refine ja_iconst (pc := 173) (n := 0) (v := 0) (by decide +kernel) (by decide +kernel) ?_
      refine ja_bind hf (fun v4 hv4 hf => ?_)
      refine ja_iald (pc := 174) (by decide +kernel) (fk_8_3 h0) hv4 ?_
      refine ja_imul (pc := 175) (by decide +kernel) ?_
      refine ja_iadd (pc := 176) (by decide +kernel) ?_
      refine ja_iload (pc := 177) (i := 6) 1 (by decide +kernel) rfl ?_
      refine ja_iadd (pc := 179) (by decide +kernel) ?_
      refine ja_aload_n (pc := 180) (f := 0) (i := 0) 0 (by decide +kernel) rfl rfl ?_
      refine ja_getr (pc := 181) (idx := 50) (t := 8) (j := 25) (by decide +kernel) fd_Model_50 h0 (fr_8_25 h0) ?_
      refine ja_iconst (pc := 184) (n := 4) (v := 4) (by decide +kernel) (by decide +kernel) ?_
      refine ja_aload_n (pc := 185) (f := 0) (i := 0) 0 (by decide +kernel) rfl rfl ?_
      refine ja_geti (pc := 186) (idx := 196) (t := 8) (j := 27) (by decide +kernel) fd_Model_196 h0 ?_
      refine ja_imul (pc := 189) (by decide +kernel) ?_
      refine ja_iload (pc := 190) (i := 6) 1 (by decide +kernel) rfl ?_
      refine ja_iadd (pc := 192) (by decide +kernel) ?_
      refine ja_bind hf (fun v5 hv5 hf => ?_)
      refine ja_iald (pc := 193) (by decide +kernel) (fk_8_25 h0) hv5 ?_
      refine ja_bind hf (fun s6 hs6 hf => ?_)
      refine ja_iast (pc := 194) (by decide +kernel) (fk_8_3 h0) hs6 ?_
      refine ja_iinc (pc := 195) (i := 6) (n := 1) (v := x6 + 1) (lv' := [(6, .int (x6 + 1)), (0, .ref x0)]) 1 (by decide +kernel) rfl rfl (by decide) rfl ?_
      refine ja_goto (pc := 198) (off := (-41)) 157 (by decide +kernel) (by decide) ?_
      refine ja_lv [1, 0] rfl ?_
      exact ih x0 (x6 + 1) s6 h0 hf
def f_Model_addRule_B99  (x0 : Nat) (x1 : Int32) (x2 : Int32) (x3 : Int32) (x4 : Int32) (sg : ja_S) : Option (Int32 × ja_S) := (ja_ld ja_L0 sg (ja_q x0 3) (0 : Int32)).bind fun v1 => (if v1 = (24 : Int32) then some ((-4 : Int32), sg) else (f_Model_usesSheet x0 sg).bind fun v2 => (f_Model_puts x0 (v2.1 x0 27) x1 x2 x3 x4 v2).bind fun v3 => (ja_ld ja_L0 v3 (ja_q x0 3) (1 : Int32)).bind fun v4 => (f_Model_forbids x0 (v3.1 x0 27) v4 v3).bind fun v5 => (if v5.1 = 0 then (f_Model_remembers x0 v5.2).bind fun v6 => f_Model_addRule_L157  ja_FU x0 (0 : Int32) v6 else some ((-6 : Int32), v5.2)))
set_option maxRecDepth 4000 in
theorem w_Model_addRule_B99 (C : ja_C) {w : Int32 × ja_S}    (x0 : Nat) (x1 : Int32) (x2 : Int32) (x3 : Int32) (x4 : Int32) (sg : ja_S) (h0 : ja_ob ja_L0 8 x0) (hf : f_Model_addRule_B99  x0 x1 x2 x3 x4 sg = some w) : ja_J M_Model_addRule C 99 [(0, .ref x0), (1, .int x1), (2, .int x2), (3, .int x3), (4, .int x4)] [] ja_L0 sg (some (.int w.1), ja_L0, w.2) := by
  unfold f_Model_addRule_B99 at hf
  refine ja_aload_n (pc := 99) (f := 0) (i := 0) 0 (by decide +kernel) rfl rfl ?_
  refine ja_getr (pc := 100) (idx := 16) (t := 8) (j := 3) (by decide +kernel) fd_Model_16 h0 (fr_8_3 h0) ?_
  refine ja_iconst (pc := 103) (n := 0) (v := 0) (by decide +kernel) (by decide +kernel) ?_
  refine ja_bind hf (fun v1 hv1 hf => ?_)
  refine ja_iald (pc := 104) (by decide +kernel) (fk_8_3 h0) hv1 ?_
  refine ja_bipush (pc := 105) (n := 24) (v := 24) (by decide +kernel) (by decide +kernel) ?_
  refine ja_icmp_ne (pc := 107) (off := 6) 113 (by decide +kernel) (by decide) hf (fun hf => ?_) (fun hf => ?_)
  · refine ja_aload_n (pc := 113) (f := 0) (i := 0) 0 (by decide +kernel) rfl rfl ?_
    refine ja_bind hf (fun v2 hv2 hf => ?_)
    refine ja_callVv (pc := 114) (idx := 74) (t := 8) (b := x0) (as := []) (st := []) (by decide +kernel) kv_Model_usesSheet lk_Model_74 ⟨by decide, by decide⟩ (c_Model_usesSheet _ _ x0 h0 hv2) h0 rfl (Nat.le_of_ble_eq_true rfl) rfl ?_
    refine ja_aload_n (pc := 117) (f := 0) (i := 0) 0 (by decide +kernel) rfl rfl ?_
    refine ja_aload_n (pc := 118) (f := 0) (i := 0) 0 (by decide +kernel) rfl rfl ?_
    refine ja_geti (pc := 119) (idx := 196) (t := 8) (j := 27) (by decide +kernel) fd_Model_196 h0 ?_
    refine ja_iload_n (pc := 122) (f := 1) (i := 1) 1 (by decide +kernel) rfl rfl ?_
    refine ja_iload_n (pc := 123) (f := 2) (i := 2) 2 (by decide +kernel) rfl rfl ?_
    refine ja_iload_n (pc := 124) (f := 3) (i := 3) 3 (by decide +kernel) rfl rfl ?_
    refine ja_iload (pc := 125) (i := 4) 4 (by decide +kernel) rfl ?_
    refine ja_bind hf (fun v3 hv3 hf => ?_)
    refine ja_callVv (pc := 127) (idx := 241) (t := 8) (b := x0) (as := [.int (v2.1 x0 27), .int x1, .int x2, .int x3, .int x4]) (st := []) (by decide +kernel) kv_Model_puts lk_Model_241 ⟨by decide, by decide⟩ (c_Model_puts _ _ x0 (v2.1 x0 27) x1 x2 x3 x4 h0 hv3) h0 rfl (Nat.le_of_ble_eq_true rfl) rfl ?_
    refine ja_aload_n (pc := 130) (f := 0) (i := 0) 0 (by decide +kernel) rfl rfl ?_
    refine ja_aload_n (pc := 131) (f := 0) (i := 0) 0 (by decide +kernel) rfl rfl ?_
    refine ja_geti (pc := 132) (idx := 196) (t := 8) (j := 27) (by decide +kernel) fd_Model_196 h0 ?_
    refine ja_aload_n (pc := 135) (f := 0) (i := 0) 0 (by decide +kernel) rfl rfl ?_
    refine ja_getr (pc := 136) (idx := 16) (t := 8) (j := 3) (by decide +kernel) fd_Model_16 h0 (fr_8_3 h0) ?_
    refine ja_iconst (pc := 139) (n := 1) (v := 1) (by decide +kernel) (by decide +kernel) ?_
    refine ja_bind hf (fun v4 hv4 hf => ?_)
    refine ja_iald (pc := 140) (by decide +kernel) (fk_8_3 h0) hv4 ?_
    refine ja_bind hf (fun v5 hv5 hf => ?_)
    refine ja_callVi (pc := 141) (idx := 208) (t := 8) (b := x0) (as := [.int (v3.1 x0 27), .int v4]) (st := []) (by decide +kernel) kv_Model_forbids lk_Model_208 ⟨by decide, by decide⟩ (c_Model_forbids _ _ x0 (v3.1 x0 27) v4 h0 hv5) h0 rfl (Nat.le_of_ble_eq_true rfl) rfl ?_
    refine ja_if_eq (pc := 144) (off := 6) 150 (by decide +kernel) (by decide) hf (fun hf => ?_) (fun hf => ?_)
    · refine ja_aload_n (pc := 150) (f := 0) (i := 0) 0 (by decide +kernel) rfl rfl ?_
      refine ja_bind hf (fun v6 hv6 hf => ?_)
      refine ja_callVv (pc := 151) (idx := 236) (t := 8) (b := x0) (as := []) (st := []) (by decide +kernel) kv_Model_remembers lk_Model_236 ⟨by decide, by decide⟩ (c_Model_remembers _ _ x0 h0 hv6) h0 rfl (Nat.le_of_ble_eq_true rfl) rfl ?_
      refine ja_iconst (pc := 154) (n := 0) (v := 0) (by decide +kernel) (by decide +kernel) ?_
      refine ja_istore (pc := 155) (i := 6) (lv' := [(6, .int (0 : Int32)), (0, .ref x0), (1, .int x1), (2, .int x2), (3, .int x3), (4, .int x4)]) (by decide +kernel) (by decide) rfl ?_
      refine ja_lv [1, 0] rfl ?_
      exact w_Model_addRule_L157 C  ja_FU x0 (0 : Int32) v6 h0 hf
    · refine ja_bipush (pc := 147) (n := (-6)) (v := (-6)) (by decide +kernel) (by decide +kernel) ?_
      exact ja_ret (pc := 149) (some (.int (-6 : Int32))) .ireturn (by decide +kernel) rfl (by cases hf; rfl)
  · refine ja_bipush (pc := 110) (n := (-4)) (v := (-4)) (by decide +kernel) (by decide +kernel) ?_
    exact ja_ret (pc := 112) (some (.int (-4 : Int32))) .ireturn (by decide +kernel) rfl (by cases hf; rfl)
def f_Model_addRule_B50  (x0 : Nat) (x1 : Int32) (x2 : Int32) (x3 : Int32) (x4 : Int32) (y0 : Int32) (sg : ja_S) : Option (Int32 × ja_S) := (f_Model_isIn ((x1 : Int32).toInt64) (0 : Int64) (2 : Int64) sg).bind fun v1 => (if v1.1 = 0 then some ((-3 : Int32), v1.2) else (if x4 < (-1 : Int32) then some ((-3 : Int32), v1.2) else (if x2 = x3 then some ((-3 : Int32), v1.2) else (if y0 = 0 then f_Model_addRule_B99  x0 x1 x2 x3 x4 v1.2 else (if (x4 / (2 : Int32)) = x2 then some ((-3 : Int32), v1.2) else (if (x4 / (2 : Int32)) = x3 then some ((-3 : Int32), v1.2) else f_Model_addRule_B99  x0 x1 x2 x3 x4 v1.2))))))
set_option maxRecDepth 4000 in
theorem w_Model_addRule_B50 (C : ja_C) {w : Int32 × ja_S}    (x0 : Nat) (x1 : Int32) (x2 : Int32) (x3 : Int32) (x4 : Int32) (y0 : Int32) (sg : ja_S) (h0 : ja_ob ja_L0 8 x0) (hf : f_Model_addRule_B50  x0 x1 x2 x3 x4 y0 sg = some w) : ja_J M_Model_addRule C 50 [(0, .ref x0), (1, .int x1), (2, .int x2), (3, .int x3), (4, .int x4)] [.int y0] ja_L0 sg (some (.int w.1), ja_L0, w.2) := by
  unfold f_Model_addRule_B50 at hf
  refine ja_istore (pc := 50) (i := 5) (lv' := [(5, .int y0), (0, .ref x0), (1, .int x1), (2, .int x2), (3, .int x3), (4, .int x4)]) (by decide +kernel) (by decide) rfl ?_
  refine ja_iload_n (pc := 52) (f := 1) (i := 1) 2 (by decide +kernel) rfl rfl ?_
  refine ja_i2l (pc := 53) (by decide +kernel) ?_
  refine ja_lconst (pc := 54) (n := 0) (v := 0) (by decide +kernel) (by decide +kernel) ?_
  refine ja_ldc2 (pc := 55) (idx := 239) (v := 2) (by decide +kernel) cl_Model_239 ?_
  refine ja_bind hf (fun v1 hv1 hf => ?_)
  refine ja_callSi (pc := 58) (idx := 93) (as := [.long ((x1 : Int32).toInt64), .long (0 : Int64), .long (2 : Int64)]) (st := []) (by decide +kernel) ks_Model_isIn lk_Model_93 ⟨by decide, by decide⟩ (c_Model_isIn _ _ ((x1 : Int32).toInt64) (0 : Int64) (2 : Int64)  hv1) rfl (Nat.le_of_ble_eq_true rfl) rfl ?_
  refine ja_if_eq (pc := 61) (off := 35) 96 (by decide +kernel) (by decide) hf (fun hf => ?_) (fun hf => ?_)
  · refine ja_bipush (pc := 96) (n := (-3)) (v := (-3)) (by decide +kernel) (by decide +kernel) ?_
    exact ja_ret (pc := 98) (some (.int (-3 : Int32))) .ireturn (by decide +kernel) rfl (by cases hf; rfl)
  · refine ja_iload (pc := 64) (i := 4) 5 (by decide +kernel) rfl ?_
    refine ja_iconst (pc := 66) (n := (-1)) (v := (-1)) (by decide +kernel) (by decide +kernel) ?_
    refine ja_icmp_lt (pc := 67) (off := 29) 96 (by decide +kernel) (by decide) hf (fun hf => ?_) (fun hf => ?_)
    · refine ja_bipush (pc := 96) (n := (-3)) (v := (-3)) (by decide +kernel) (by decide +kernel) ?_
      exact ja_ret (pc := 98) (some (.int (-3 : Int32))) .ireturn (by decide +kernel) rfl (by cases hf; rfl)
    · refine ja_iload_n (pc := 70) (f := 2) (i := 2) 3 (by decide +kernel) rfl rfl ?_
      refine ja_iload_n (pc := 71) (f := 3) (i := 3) 4 (by decide +kernel) rfl rfl ?_
      refine ja_icmp_eq (pc := 72) (off := 24) 96 (by decide +kernel) (by decide) hf (fun hf => ?_) (fun hf => ?_)
      · refine ja_bipush (pc := 96) (n := (-3)) (v := (-3)) (by decide +kernel) (by decide +kernel) ?_
        exact ja_ret (pc := 98) (some (.int (-3 : Int32))) .ireturn (by decide +kernel) rfl (by cases hf; rfl)
      · refine ja_iload (pc := 75) (i := 5) 0 (by decide +kernel) rfl ?_
        refine ja_if_eq (pc := 77) (off := 22) 99 (by decide +kernel) (by decide) hf (fun hf => ?_) (fun hf => ?_)
        · refine ja_lv [1, 2, 3, 4, 5] rfl ?_
          exact w_Model_addRule_B99 C  x0 x1 x2 x3 x4 v1.2 h0 hf
        · refine ja_iload (pc := 80) (i := 4) 5 (by decide +kernel) rfl ?_
          refine ja_iconst (pc := 82) (n := 2) (v := 2) (by decide +kernel) (by decide +kernel) ?_
          refine ja_idiv (pc := 83) (by decide +kernel) (by decide) ?_
          refine ja_iload_n (pc := 84) (f := 2) (i := 2) 3 (by decide +kernel) rfl rfl ?_
          refine ja_icmp_eq (pc := 85) (off := 11) 96 (by decide +kernel) (by decide) hf (fun hf => ?_) (fun hf => ?_)
          · refine ja_bipush (pc := 96) (n := (-3)) (v := (-3)) (by decide +kernel) (by decide +kernel) ?_
            exact ja_ret (pc := 98) (some (.int (-3 : Int32))) .ireturn (by decide +kernel) rfl (by cases hf; rfl)
          · refine ja_iload (pc := 88) (i := 4) 5 (by decide +kernel) rfl ?_
            refine ja_iconst (pc := 90) (n := 2) (v := 2) (by decide +kernel) (by decide +kernel) ?_
            refine ja_idiv (pc := 91) (by decide +kernel) (by decide) ?_
            refine ja_iload_n (pc := 92) (f := 3) (i := 3) 4 (by decide +kernel) rfl rfl ?_
            refine ja_icmp_ne (pc := 93) (off := 6) 99 (by decide +kernel) (by decide) hf (fun hf => ?_) (fun hf => ?_)
            · refine ja_lv [1, 2, 3, 4, 5] rfl ?_
              exact w_Model_addRule_B99 C  x0 x1 x2 x3 x4 v1.2 h0 hf
            · refine ja_bipush (pc := 96) (n := (-3)) (v := (-3)) (by decide +kernel) (by decide +kernel) ?_
              exact ja_ret (pc := 98) (some (.int (-3 : Int32))) .ireturn (by decide +kernel) rfl (by cases hf; rfl)
def f_Model_addRule_B40  (x0 : Nat) (x1 : Int32) (x2 : Int32) (x3 : Int32) (x4 : Int32) (sg : ja_S) : Option (Int32 × ja_S) := (if x4 < 0 then f_Model_addRule_B50  x0 x1 x2 x3 x4 (0 : Int32) sg else f_Model_addRule_B50  x0 x1 x2 x3 x4 (1 : Int32) sg)
set_option maxRecDepth 4000 in
theorem w_Model_addRule_B40 (C : ja_C) {w : Int32 × ja_S}    (x0 : Nat) (x1 : Int32) (x2 : Int32) (x3 : Int32) (x4 : Int32) (sg : ja_S) (h0 : ja_ob ja_L0 8 x0) (hf : f_Model_addRule_B40  x0 x1 x2 x3 x4 sg = some w) : ja_J M_Model_addRule C 40 [(0, .ref x0), (1, .int x1), (2, .int x2), (3, .int x3), (4, .int x4)] [] ja_L0 sg (some (.int w.1), ja_L0, w.2) := by
  unfold f_Model_addRule_B40 at hf
  refine ja_iload (pc := 40) (i := 4) 4 (by decide +kernel) rfl ?_
  refine ja_if_lt (pc := 42) (off := 7) 49 (by decide +kernel) (by decide) hf (fun hf => ?_) (fun hf => ?_)
  · refine ja_iconst (pc := 49) (n := 0) (v := 0) (by decide +kernel) (by decide +kernel) ?_
    exact w_Model_addRule_B50 C  x0 x1 x2 x3 x4 (0 : Int32) sg h0 hf
  · refine ja_iconst (pc := 45) (n := 1) (v := 1) (by decide +kernel) (by decide +kernel) ?_
    refine ja_goto (pc := 46) (off := 4) 50 (by decide +kernel) (by decide) ?_
    exact w_Model_addRule_B50 C  x0 x1 x2 x3 x4 (1 : Int32) sg h0 hf
def f_Model_addRule (x0 : Nat) (x1 : Int32) (x2 : Int32) (x3 : Int32) (x4 : Int32) (sg : ja_S) : Option (Int32 × ja_S) := (ja_pu sg x0 9 (0 : Int32)).bind fun s1 => (f_Model_isLever x0 x2 s1).bind fun v2 => (if v2.1 = 0 then some ((-2 : Int32), v2.2) else (f_Model_isLever x0 x3 v2.2).bind fun v3 => (if v3.1 = 0 then some ((-2 : Int32), v3.2) else (if x4 < 0 then f_Model_addRule_B40  x0 x1 x2 x3 x4 v3.2 else (f_Model_isLever x0 (x4 / (2 : Int32)) v3.2).bind fun v4 => (if v4.1 = 0 then some ((-2 : Int32), v4.2) else f_Model_addRule_B40  x0 x1 x2 x3 x4 v4.2))))
set_option maxRecDepth 4000 in
theorem c_Model_addRule (l : Launch) (x : ja_X) (x0 : Nat) (x1 : Int32) (x2 : Int32) (x3 : Int32) (x4 : Int32) {sg : ja_S} {w : Int32 × ja_S} (h0 : ja_ob ja_L0 8 x0) (hf : f_Model_addRule x0 x1 x2 x3 x4 sg = some w) : ja_Ct l x y_Model_addRule M_Model_addRule [.ref x0, .int x1, .int x2, .int x3, .int x4] ja_L0 sg (some (.int w.1), ja_L0, w.2) := by
  refine ja_mk ⟨by decide, rfl, rfl⟩ (Nat.le_of_ble_eq_true rfl) (lv := [(0, .ref x0), (1, .int x1), (2, .int x2), (3, .int x3), (4, .int x4)]) rfl (fun C hl hx _ _ _ _ => ?_)
  subst hl; subst hx
  unfold f_Model_addRule at hf
  refine ja_aload_n (pc := 0) (f := 0) (i := 0) 0 (by decide +kernel) rfl rfl ?_
  refine ja_iconst (pc := 1) (n := 0) (v := 0) (by decide +kernel) (by decide +kernel) ?_
  refine ja_bind hf (fun s1 hs1 hf => ?_)
  refine ja_puti2 (pc := 2) (idx := 1) (t := 8) (j := 9) (by decide +kernel) fd_Model_1 h0 ⟨rfl, rfl⟩ hs1 ?_
  refine ja_aload_n (pc := 5) (f := 0) (i := 0) 0 (by decide +kernel) rfl rfl ?_
  refine ja_iload_n (pc := 6) (f := 2) (i := 2) 2 (by decide +kernel) rfl rfl ?_
  refine ja_bind hf (fun v2 hv2 hf => ?_)
  refine ja_callVi (pc := 7) (idx := 233) (t := 8) (b := x0) (as := [.int x2]) (st := []) (by decide +kernel) kv_Model_isLever lk_Model_233 ⟨by decide, by decide⟩ (c_Model_isLever _ _ x0 x2 h0 hv2) h0 rfl (Nat.le_of_ble_eq_true rfl) rfl ?_
  refine ja_if_eq (pc := 10) (off := 27) 37 (by decide +kernel) (by decide) hf (fun hf => ?_) (fun hf => ?_)
  · refine ja_bipush (pc := 37) (n := (-2)) (v := (-2)) (by decide +kernel) (by decide +kernel) ?_
    exact ja_ret (pc := 39) (some (.int (-2 : Int32))) .ireturn (by decide +kernel) rfl (by cases hf; rfl)
  · refine ja_aload_n (pc := 13) (f := 0) (i := 0) 0 (by decide +kernel) rfl rfl ?_
    refine ja_iload_n (pc := 14) (f := 3) (i := 3) 3 (by decide +kernel) rfl rfl ?_
    refine ja_bind hf (fun v3 hv3 hf => ?_)
    refine ja_callVi (pc := 15) (idx := 233) (t := 8) (b := x0) (as := [.int x3]) (st := []) (by decide +kernel) kv_Model_isLever lk_Model_233 ⟨by decide, by decide⟩ (c_Model_isLever _ _ x0 x3 h0 hv3) h0 rfl (Nat.le_of_ble_eq_true rfl) rfl ?_
    refine ja_if_eq (pc := 18) (off := 19) 37 (by decide +kernel) (by decide) hf (fun hf => ?_) (fun hf => ?_)
    · refine ja_bipush (pc := 37) (n := (-2)) (v := (-2)) (by decide +kernel) (by decide +kernel) ?_
      exact ja_ret (pc := 39) (some (.int (-2 : Int32))) .ireturn (by decide +kernel) rfl (by cases hf; rfl)
    · refine ja_iload (pc := 21) (i := 4) 4 (by decide +kernel) rfl ?_
      refine ja_if_lt (pc := 23) (off := 17) 40 (by decide +kernel) (by decide) hf (fun hf => ?_) (fun hf => ?_)
      · exact w_Model_addRule_B40 C  x0 x1 x2 x3 x4 v3.2 h0 hf
      · refine ja_aload_n (pc := 26) (f := 0) (i := 0) 0 (by decide +kernel) rfl rfl ?_
        refine ja_iload (pc := 27) (i := 4) 4 (by decide +kernel) rfl ?_
        refine ja_iconst (pc := 29) (n := 2) (v := 2) (by decide +kernel) (by decide +kernel) ?_
        refine ja_idiv (pc := 30) (by decide +kernel) (by decide) ?_
        refine ja_bind hf (fun v4 hv4 hf => ?_)
        refine ja_callVi (pc := 31) (idx := 233) (t := 8) (b := x0) (as := [.int (x4 / (2 : Int32))]) (st := []) (by decide +kernel) kv_Model_isLever lk_Model_233 ⟨by decide, by decide⟩ (c_Model_isLever _ _ x0 (x4 / (2 : Int32)) h0 hv4) h0 rfl (Nat.le_of_ble_eq_true rfl) rfl ?_
        refine ja_if_ne (pc := 34) (off := 6) 40 (by decide +kernel) (by decide) hf (fun hf => ?_) (fun hf => ?_)
        · exact w_Model_addRule_B40 C  x0 x1 x2 x3 x4 v4.2 h0 hf
        · refine ja_bipush (pc := 37) (n := (-2)) (v := (-2)) (by decide +kernel) (by decide +kernel) ?_
          exact ja_ret (pc := 39) (some (.int (-2 : Int32))) .ireturn (by decide +kernel) rfl (by cases hf; rfl)
def f_Model_removeRule_L34  : Nat → Nat → Int32 → ja_S → Option (Int32 × ja_S)
  | 0, _, _, _ => none
  | n + 1, x0, x2, sg => (ja_ld ja_L0 sg (ja_q x0 3) (0 : Int32)).bind fun v1 => (if ((4 : Int32) * v1) ≤ x2 then (ja_ld ja_L0 sg (ja_q x0 3) (0 : Int32)).bind fun v2 => some (v2, sg) else (ja_ld ja_L0 sg (ja_q x0 3) (((2 : Int32) + x2) + (4 : Int32))).bind fun v3 => (ja_st ja_L0 sg (ja_q x0 3) ((2 : Int32) + x2) v3).bind fun s4 => f_Model_removeRule_L34  n x0 (x2 + 1) s4)
set_option maxRecDepth 4000 in
theorem w_Model_removeRule_L34 (C : ja_C) {w : Int32 × ja_S}    (n : Nat) : ∀ (x0 : Nat) (x2 : Int32) (sg : ja_S), ja_ob ja_L0 8 x0 → f_Model_removeRule_L34  n x0 x2 sg = some w → ja_J M_Model_removeRule C 34 [(0, .ref x0), (2, .int x2)] [] ja_L0 sg (some (.int w.1), ja_L0, w.2) := by
  induction n with
  | zero => intro _ _ _ _ hf; exact absurd (show (none : Option _) = some w from hf) (by simp)
  | succ n ih =>
    intro x0 x2 sg h0 hf
    unfold f_Model_removeRule_L34 at hf
    refine ja_iload_n (pc := 34) (f := 2) (i := 2) 1 (by decide +kernel) rfl rfl ?_
    refine ja_iconst (pc := 35) (n := 4) (v := 4) (by decide +kernel) (by decide +kernel) ?_
    refine ja_aload_n (pc := 36) (f := 0) (i := 0) 0 (by decide +kernel) rfl rfl ?_
    refine ja_getr (pc := 37) (idx := 16) (t := 8) (j := 3) (by decide +kernel) fd_Model_16 h0 (fr_8_3 h0) ?_
    refine ja_iconst (pc := 40) (n := 0) (v := 0) (by decide +kernel) (by decide +kernel) ?_
    refine ja_bind hf (fun v1 hv1 hf => ?_)
    refine ja_iald (pc := 41) (by decide +kernel) (fk_8_3 h0) hv1 ?_
    refine ja_imul (pc := 42) (by decide +kernel) ?_
    refine ja_icmp_ge (pc := 43) (off := 27) 70 (by decide +kernel) (by decide) hf (fun hf => ?_) (fun hf => ?_)
    · refine ja_aload_n (pc := 70) (f := 0) (i := 0) 0 (by decide +kernel) rfl rfl ?_
      refine ja_getr (pc := 71) (idx := 16) (t := 8) (j := 3) (by decide +kernel) fd_Model_16 h0 (fr_8_3 h0) ?_
      refine ja_iconst (pc := 74) (n := 0) (v := 0) (by decide +kernel) (by decide +kernel) ?_
      refine ja_bind hf (fun v2 hv2 hf => ?_)
      refine ja_iald (pc := 75) (by decide +kernel) (fk_8_3 h0) hv2 ?_
      exact ja_ret (pc := 76) (some (.int v2)) .ireturn (by decide +kernel) rfl (by cases hf; rfl)
    · refine ja_aload_n (pc := 46) (f := 0) (i := 0) 0 (by decide +kernel) rfl rfl ?_
      refine ja_getr (pc := 47) (idx := 16) (t := 8) (j := 3) (by decide +kernel) fd_Model_16 h0 (fr_8_3 h0) ?_
      refine ja_iconst (pc := 50) (n := 2) (v := 2) (by decide +kernel) (by decide +kernel) ?_
      refine ja_iload_n (pc := 51) (f := 2) (i := 2) 1 (by decide +kernel) rfl rfl ?_
      refine ja_iadd (pc := 52) (by decide +kernel) ?_
      refine ja_aload_n (pc := 53) (f := 0) (i := 0) 0 (by decide +kernel) rfl rfl ?_
      refine ja_getr (pc := 54) (idx := 16) (t := 8) (j := 3) (by decide +kernel) fd_Model_16 h0 (fr_8_3 h0) ?_
      refine ja_iconst (pc := 57) (n := 2) (v := 2) (by decide +kernel) (by decide +kernel) ?_
      refine ja_iload_n (pc := 58) (f := 2) (i := 2) 1 (by decide +kernel) rfl rfl ?_
      refine ja_iadd (pc := 59) (by decide +kernel) ?_
      refine ja_iconst (pc := 60) (n := 4) (v := 4) (by decide +kernel) (by decide +kernel) ?_
      refine ja_iadd (pc := 61) (by decide +kernel) ?_
      refine ja_bind hf (fun v3 hv3 hf => ?_)
      refine ja_iald (pc := 62) (by decide +kernel) (fk_8_3 h0) hv3 ?_
      refine ja_bind hf (fun s4 hs4 hf => ?_)
      refine ja_iast (pc := 63) (by decide +kernel) (fk_8_3 h0) hs4 ?_
      refine ja_iinc (pc := 64) (i := 2) (n := 1) (v := x2 + 1) (lv' := [(2, .int (x2 + 1)), (0, .ref x0)]) 1 (by decide +kernel) rfl rfl (by decide) rfl ?_
      refine ja_goto (pc := 67) (off := (-33)) 34 (by decide +kernel) (by decide) ?_
      refine ja_lv [1, 0] rfl ?_
      exact ih x0 (x2 + 1) s4 h0 hf
def f_Model_removeRule (x0 : Nat) (x1 : Int32) (sg : ja_S) : Option (Int32 × ja_S) := (ja_pu sg x0 9 (0 : Int32)).bind fun s1 => (f_Model_isRule x0 x1 s1).bind fun v2 => (if v2.1 = 0 then some ((-2 : Int32), v2.2) else (f_Model_remembers x0 v2.2).bind fun v3 => (ja_ld ja_L0 v3 (ja_q x0 3) (0 : Int32)).bind fun v4 => (ja_st ja_L0 v3 (ja_q x0 3) (0 : Int32) (v4 - (1 : Int32))).bind fun s5 => f_Model_removeRule_L34  ja_FU x0 ((4 : Int32) * x1) s5)
set_option maxRecDepth 4000 in
theorem c_Model_removeRule (l : Launch) (x : ja_X) (x0 : Nat) (x1 : Int32) {sg : ja_S} {w : Int32 × ja_S} (h0 : ja_ob ja_L0 8 x0) (hf : f_Model_removeRule x0 x1 sg = some w) : ja_Ct l x y_Model_removeRule M_Model_removeRule [.ref x0, .int x1] ja_L0 sg (some (.int w.1), ja_L0, w.2) := by
  refine ja_mk ⟨by decide, rfl, rfl⟩ (Nat.le_of_ble_eq_true rfl) (lv := [(0, .ref x0), (1, .int x1)]) rfl (fun C hl hx _ _ _ _ => ?_)
  subst hl; subst hx
  unfold f_Model_removeRule at hf
  refine ja_aload_n (pc := 0) (f := 0) (i := 0) 0 (by decide +kernel) rfl rfl ?_
  refine ja_iconst (pc := 1) (n := 0) (v := 0) (by decide +kernel) (by decide +kernel) ?_
  refine ja_bind hf (fun s1 hs1 hf => ?_)
  refine ja_puti2 (pc := 2) (idx := 1) (t := 8) (j := 9) (by decide +kernel) fd_Model_1 h0 ⟨rfl, rfl⟩ hs1 ?_
  refine ja_aload_n (pc := 5) (f := 0) (i := 0) 0 (by decide +kernel) rfl rfl ?_
  refine ja_iload_n (pc := 6) (f := 1) (i := 1) 1 (by decide +kernel) rfl rfl ?_
  refine ja_bind hf (fun v2 hv2 hf => ?_)
  refine ja_callVi (pc := 7) (idx := 189) (t := 8) (b := x0) (as := [.int x1]) (st := []) (by decide +kernel) kv_Model_isRule lk_Model_189 ⟨by decide, by decide⟩ (c_Model_isRule _ _ x0 x1 h0 hv2) h0 rfl (Nat.le_of_ble_eq_true rfl) rfl ?_
  refine ja_if_ne (pc := 10) (off := 6) 16 (by decide +kernel) (by decide) hf (fun hf => ?_) (fun hf => ?_)
  · refine ja_aload_n (pc := 16) (f := 0) (i := 0) 0 (by decide +kernel) rfl rfl ?_
    refine ja_bind hf (fun v3 hv3 hf => ?_)
    refine ja_callVv (pc := 17) (idx := 236) (t := 8) (b := x0) (as := []) (st := []) (by decide +kernel) kv_Model_remembers lk_Model_236 ⟨by decide, by decide⟩ (c_Model_remembers _ _ x0 h0 hv3) h0 rfl (Nat.le_of_ble_eq_true rfl) rfl ?_
    refine ja_aload_n (pc := 20) (f := 0) (i := 0) 0 (by decide +kernel) rfl rfl ?_
    refine ja_getr (pc := 21) (idx := 16) (t := 8) (j := 3) (by decide +kernel) fd_Model_16 h0 (fr_8_3 h0) ?_
    refine ja_iconst (pc := 24) (n := 0) (v := 0) (by decide +kernel) (by decide +kernel) ?_
    refine ja_dup2 (pc := 25) (by decide +kernel) rfl rfl ?_
    refine ja_bind hf (fun v4 hv4 hf => ?_)
    refine ja_iald (pc := 26) (by decide +kernel) (fk_8_3 h0) hv4 ?_
    refine ja_iconst (pc := 27) (n := 1) (v := 1) (by decide +kernel) (by decide +kernel) ?_
    refine ja_isub (pc := 28) (by decide +kernel) ?_
    refine ja_bind hf (fun s5 hs5 hf => ?_)
    refine ja_iast (pc := 29) (by decide +kernel) (fk_8_3 h0) hs5 ?_
    refine ja_iconst (pc := 30) (n := 4) (v := 4) (by decide +kernel) (by decide +kernel) ?_
    refine ja_iload_n (pc := 31) (f := 1) (i := 1) 1 (by decide +kernel) rfl rfl ?_
    refine ja_imul (pc := 32) (by decide +kernel) ?_
    refine ja_istore_n (pc := 33) (f := 2) (i := 2) (lv' := [(2, .int ((4 : Int32) * x1)), (0, .ref x0), (1, .int x1)]) (by decide +kernel) rfl (by decide) rfl ?_
    refine ja_lv [1, 0] rfl ?_
    exact w_Model_removeRule_L34 C  ja_FU x0 ((4 : Int32) * x1) s5 h0 hf
  · refine ja_bipush (pc := 13) (n := (-2)) (v := (-2)) (by decide +kernel) (by decide +kernel) ?_
    exact ja_ret (pc := 15) (some (.int (-2 : Int32))) .ireturn (by decide +kernel) rfl (by cases hf; rfl)
def f_Model_undo_L27  : Nat → Nat → Int32 → ja_S → Option (Int32 × ja_S)
  | 0, _, _, _ => none
  | n + 1, x0, x1, sg => (if (98 : Int32) ≤ x1 then some (sg.1 x0 8, sg) else (ja_ld ja_L0 sg (ja_q x0 4) (((98 : Int32) * (sg.1 x0 8)) + x1)).bind fun v1 => (ja_st ja_L0 sg (ja_q x0 3) x1 v1).bind fun s2 => f_Model_undo_L27  n x0 (x1 + 1) s2)
set_option maxRecDepth 4000 in
theorem w_Model_undo_L27 (C : ja_C) {w : Int32 × ja_S}    (n : Nat) : ∀ (x0 : Nat) (x1 : Int32) (sg : ja_S), ja_ob ja_L0 8 x0 → f_Model_undo_L27  n x0 x1 sg = some w → ja_J M_Model_undo C 27 [(0, .ref x0), (1, .int x1)] [] ja_L0 sg (some (.int w.1), ja_L0, w.2) := by
  induction n with
  | zero => intro _ _ _ _ hf; exact absurd (show (none : Option _) = some w from hf) (by simp)
  | succ n ih =>
    intro x0 x1 sg h0 hf
    unfold f_Model_undo_L27 at hf
    refine ja_iload_n (pc := 27) (f := 1) (i := 1) 1 (by decide +kernel) rfl rfl ?_
    refine ja_bipush (pc := 28) (n := 98) (v := 98) (by decide +kernel) (by decide +kernel) ?_
    refine ja_icmp_ge (pc := 30) (off := 29) 59 (by decide +kernel) (by decide) hf (fun hf => ?_) (fun hf => ?_)
    · refine ja_aload_n (pc := 59) (f := 0) (i := 0) 0 (by decide +kernel) rfl rfl ?_
      refine ja_geti (pc := 60) (idx := 186) (t := 8) (j := 8) (by decide +kernel) fd_Model_186 h0 ?_
      exact ja_ret (pc := 63) (some (.int (sg.1 x0 8))) .ireturn (by decide +kernel) rfl (by cases hf; rfl)
    · refine ja_aload_n (pc := 33) (f := 0) (i := 0) 0 (by decide +kernel) rfl rfl ?_
      refine ja_getr (pc := 34) (idx := 16) (t := 8) (j := 3) (by decide +kernel) fd_Model_16 h0 (fr_8_3 h0) ?_
      refine ja_iload_n (pc := 37) (f := 1) (i := 1) 1 (by decide +kernel) rfl rfl ?_
      refine ja_aload_n (pc := 38) (f := 0) (i := 0) 0 (by decide +kernel) rfl rfl ?_
      refine ja_getr (pc := 39) (idx := 20) (t := 8) (j := 4) (by decide +kernel) fd_Model_20 h0 (fr_8_4 h0) ?_
      refine ja_bipush (pc := 42) (n := 98) (v := 98) (by decide +kernel) (by decide +kernel) ?_
      refine ja_aload_n (pc := 44) (f := 0) (i := 0) 0 (by decide +kernel) rfl rfl ?_
      refine ja_geti (pc := 45) (idx := 186) (t := 8) (j := 8) (by decide +kernel) fd_Model_186 h0 ?_
      refine ja_imul (pc := 48) (by decide +kernel) ?_
      refine ja_iload_n (pc := 49) (f := 1) (i := 1) 1 (by decide +kernel) rfl rfl ?_
      refine ja_iadd (pc := 50) (by decide +kernel) ?_
      refine ja_bind hf (fun v1 hv1 hf => ?_)
      refine ja_iald (pc := 51) (by decide +kernel) (fk_8_4 h0) hv1 ?_
      refine ja_bind hf (fun s2 hs2 hf => ?_)
      refine ja_iast (pc := 52) (by decide +kernel) (fk_8_3 h0) hs2 ?_
      refine ja_iinc (pc := 53) (i := 1) (n := 1) (v := x1 + 1) (lv' := [(1, .int (x1 + 1)), (0, .ref x0)]) 1 (by decide +kernel) rfl rfl (by decide) rfl ?_
      refine ja_goto (pc := 56) (off := (-29)) 27 (by decide +kernel) (by decide) ?_
      refine ja_lv [1, 0] rfl ?_
      exact ih x0 (x1 + 1) s2 h0 hf
def f_Model_undo (x0 : Nat) (sg : ja_S) : Option (Int32 × ja_S) := (ja_pu sg x0 9 (0 : Int32)).bind fun s1 => (if (s1.1 x0 8) = 0 then some ((-5 : Int32), s1) else (ja_pu s1 x0 8 ((s1.1 x0 8) - (1 : Int32))).bind fun s2 => f_Model_undo_L27  ja_FU x0 (0 : Int32) s2)
set_option maxRecDepth 4000 in
theorem c_Model_undo (l : Launch) (x : ja_X) (x0 : Nat) {sg : ja_S} {w : Int32 × ja_S} (h0 : ja_ob ja_L0 8 x0) (hf : f_Model_undo x0 sg = some w) : ja_Ct l x y_Model_undo M_Model_undo [.ref x0] ja_L0 sg (some (.int w.1), ja_L0, w.2) := by
  refine ja_mk ⟨by decide, rfl, rfl⟩ (Nat.le_of_ble_eq_true rfl) (lv := [(0, .ref x0)]) rfl (fun C hl hx _ _ _ _ => ?_)
  subst hl; subst hx
  unfold f_Model_undo at hf
  refine ja_aload_n (pc := 0) (f := 0) (i := 0) 0 (by decide +kernel) rfl rfl ?_
  refine ja_iconst (pc := 1) (n := 0) (v := 0) (by decide +kernel) (by decide +kernel) ?_
  refine ja_bind hf (fun s1 hs1 hf => ?_)
  refine ja_puti2 (pc := 2) (idx := 1) (t := 8) (j := 9) (by decide +kernel) fd_Model_1 h0 ⟨rfl, rfl⟩ hs1 ?_
  refine ja_aload_n (pc := 5) (f := 0) (i := 0) 0 (by decide +kernel) rfl rfl ?_
  refine ja_geti (pc := 6) (idx := 186) (t := 8) (j := 8) (by decide +kernel) fd_Model_186 h0 ?_
  refine ja_if_ne (pc := 9) (off := 6) 15 (by decide +kernel) (by decide) hf (fun hf => ?_) (fun hf => ?_)
  · refine ja_aload_n (pc := 15) (f := 0) (i := 0) 0 (by decide +kernel) rfl rfl ?_
    refine ja_dup (pc := 16) (by decide +kernel) rfl ?_
    refine ja_geti (pc := 17) (idx := 186) (t := 8) (j := 8) (by decide +kernel) fd_Model_186 h0 ?_
    refine ja_iconst (pc := 20) (n := 1) (v := 1) (by decide +kernel) (by decide +kernel) ?_
    refine ja_isub (pc := 21) (by decide +kernel) ?_
    refine ja_bind hf (fun s2 hs2 hf => ?_)
    refine ja_puti2 (pc := 22) (idx := 186) (t := 8) (j := 8) (by decide +kernel) fd_Model_186 h0 ⟨rfl, rfl⟩ hs2 ?_
    refine ja_iconst (pc := 25) (n := 0) (v := 0) (by decide +kernel) (by decide +kernel) ?_
    refine ja_istore_n (pc := 26) (f := 1) (i := 1) (lv' := [(1, .int (0 : Int32)), (0, .ref x0)]) (by decide +kernel) rfl (by decide) rfl ?_
    refine ja_lv [1, 0] rfl ?_
    exact w_Model_undo_L27 C  ja_FU x0 (0 : Int32) s2 h0 hf
  · refine ja_bipush (pc := 12) (n := (-5)) (v := (-5)) (by decide +kernel) (by decide +kernel) ?_
    exact ja_ret (pc := 14) (some (.int (-5 : Int32))) .ireturn (by decide +kernel) rfl (by cases hf; rfl)
def f_Model_isLegal_L22  : Nat → Nat → Int32 → Int32 → ja_S → Option (Int32 × ja_S)
  | 0, _, _, _, _ => none
  | n + 1, x0, x1, x2, sg => (if (sg.1 x0 27) ≤ x2 then some ((1 : Int32), sg) else (f_Model_forbids x0 x2 x1 sg).bind fun v1 => (if v1.1 = 0 then f_Model_isLegal_L22  n x0 x1 (x2 + 1) v1.2 else some ((0 : Int32), v1.2)))
set_option maxRecDepth 4000 in
theorem w_Model_isLegal_L22 (C : ja_C) {w : Int32 × ja_S}    (n : Nat) : ∀ (x0 : Nat) (x1 : Int32) (x2 : Int32) (sg : ja_S), ja_ob ja_L0 8 x0 → f_Model_isLegal_L22  n x0 x1 x2 sg = some w → ja_J M_Model_isLegal C 22 [(0, .ref x0), (1, .int x1), (2, .int x2)] [] ja_L0 sg (some (.int w.1), ja_L0, w.2) := by
  induction n with
  | zero => intro _ _ _ _ _ hf; exact absurd (show (none : Option _) = some w from hf) (by simp)
  | succ n ih =>
    intro x0 x1 x2 sg h0 hf
    unfold f_Model_isLegal_L22 at hf
    refine ja_iload_n (pc := 22) (f := 2) (i := 2) 2 (by decide +kernel) rfl rfl ?_
    refine ja_aload_n (pc := 23) (f := 0) (i := 0) 0 (by decide +kernel) rfl rfl ?_
    refine ja_geti (pc := 24) (idx := 196) (t := 8) (j := 27) (by decide +kernel) fd_Model_196 h0 ?_
    refine ja_icmp_ge (pc := 27) (off := 20) 47 (by decide +kernel) (by decide) hf (fun hf => ?_) (fun hf => ?_)
    · refine ja_iconst (pc := 47) (n := 1) (v := 1) (by decide +kernel) (by decide +kernel) ?_
      exact ja_ret (pc := 48) (some (.int (1 : Int32))) .ireturn (by decide +kernel) rfl (by cases hf; rfl)
    · refine ja_aload_n (pc := 30) (f := 0) (i := 0) 0 (by decide +kernel) rfl rfl ?_
      refine ja_iload_n (pc := 31) (f := 2) (i := 2) 2 (by decide +kernel) rfl rfl ?_
      refine ja_iload_n (pc := 32) (f := 1) (i := 1) 1 (by decide +kernel) rfl rfl ?_
      refine ja_bind hf (fun v1 hv1 hf => ?_)
      refine ja_callVi (pc := 33) (idx := 208) (t := 8) (b := x0) (as := [.int x2, .int x1]) (st := []) (by decide +kernel) kv_Model_forbids lk_Model_208 ⟨by decide, by decide⟩ (c_Model_forbids _ _ x0 x2 x1 h0 hv1) h0 rfl (Nat.le_of_ble_eq_true rfl) rfl ?_
      refine ja_if_eq (pc := 36) (off := 5) 41 (by decide +kernel) (by decide) hf (fun hf => ?_) (fun hf => ?_)
      · refine ja_iinc (pc := 41) (i := 2) (n := 1) (v := x2 + 1) (lv' := [(2, .int (x2 + 1)), (0, .ref x0), (1, .int x1)]) 2 (by decide +kernel) rfl rfl (by decide) rfl ?_
        refine ja_goto (pc := 44) (off := (-22)) 22 (by decide +kernel) (by decide) ?_
        refine ja_lv [1, 2, 0] rfl ?_
        exact ih x0 x1 (x2 + 1) v1.2 h0 hf
      · refine ja_iconst (pc := 39) (n := 0) (v := 0) (by decide +kernel) (by decide +kernel) ?_
        exact ja_ret (pc := 40) (some (.int (0 : Int32))) .ireturn (by decide +kernel) rfl (by cases hf; rfl)
def f_Model_isLegal (x0 : Nat) (x1 : Int32) (sg : ja_S) : Option (Int32 × ja_S) := (ja_pu sg x0 9 (0 : Int32)).bind fun s1 => (f_Model_isState x0 x1 s1).bind fun v2 => (if v2.1 = 0 then some ((-3 : Int32), v2.2) else (f_Model_usesSheet x0 v2.2).bind fun v3 => f_Model_isLegal_L22  ja_FU x0 x1 (0 : Int32) v3)
set_option maxRecDepth 4000 in
theorem c_Model_isLegal (l : Launch) (x : ja_X) (x0 : Nat) (x1 : Int32) {sg : ja_S} {w : Int32 × ja_S} (h0 : ja_ob ja_L0 8 x0) (hf : f_Model_isLegal x0 x1 sg = some w) : ja_Ct l x y_Model_isLegal M_Model_isLegal [.ref x0, .int x1] ja_L0 sg (some (.int w.1), ja_L0, w.2) := by
  refine ja_mk ⟨by decide, rfl, rfl⟩ (Nat.le_of_ble_eq_true rfl) (lv := [(0, .ref x0), (1, .int x1)]) rfl (fun C hl hx _ _ _ _ => ?_)
  subst hl; subst hx
  unfold f_Model_isLegal at hf
  refine ja_aload_n (pc := 0) (f := 0) (i := 0) 0 (by decide +kernel) rfl rfl ?_
  refine ja_iconst (pc := 1) (n := 0) (v := 0) (by decide +kernel) (by decide +kernel) ?_
  refine ja_bind hf (fun s1 hs1 hf => ?_)
  refine ja_puti2 (pc := 2) (idx := 1) (t := 8) (j := 9) (by decide +kernel) fd_Model_1 h0 ⟨rfl, rfl⟩ hs1 ?_
  refine ja_aload_n (pc := 5) (f := 0) (i := 0) 0 (by decide +kernel) rfl rfl ?_
  refine ja_iload_n (pc := 6) (f := 1) (i := 1) 1 (by decide +kernel) rfl rfl ?_
  refine ja_bind hf (fun v2 hv2 hf => ?_)
  refine ja_callVi (pc := 7) (idx := 245) (t := 8) (b := x0) (as := [.int x1]) (st := []) (by decide +kernel) kv_Model_isState lk_Model_245 ⟨by decide, by decide⟩ (c_Model_isState _ _ x0 x1 h0 hv2) h0 rfl (Nat.le_of_ble_eq_true rfl) rfl ?_
  refine ja_if_ne (pc := 10) (off := 6) 16 (by decide +kernel) (by decide) hf (fun hf => ?_) (fun hf => ?_)
  · refine ja_aload_n (pc := 16) (f := 0) (i := 0) 0 (by decide +kernel) rfl rfl ?_
    refine ja_bind hf (fun v3 hv3 hf => ?_)
    refine ja_callVv (pc := 17) (idx := 74) (t := 8) (b := x0) (as := []) (st := []) (by decide +kernel) kv_Model_usesSheet lk_Model_74 ⟨by decide, by decide⟩ (c_Model_usesSheet _ _ x0 h0 hv3) h0 rfl (Nat.le_of_ble_eq_true rfl) rfl ?_
    refine ja_iconst (pc := 20) (n := 0) (v := 0) (by decide +kernel) (by decide +kernel) ?_
    refine ja_istore_n (pc := 21) (f := 2) (i := 2) (lv' := [(2, .int (0 : Int32)), (0, .ref x0), (1, .int x1)]) (by decide +kernel) rfl (by decide) rfl ?_
    refine ja_lv [1, 2, 0] rfl ?_
    exact w_Model_isLegal_L22 C  ja_FU x0 x1 (0 : Int32) v3 h0 hf
  · refine ja_bipush (pc := 13) (n := (-3)) (v := (-3)) (by decide +kernel) (by decide +kernel) ?_
    exact ja_ret (pc := 15) (some (.int (-3 : Int32))) .ireturn (by decide +kernel) rfl (by cases hf; rfl)
def f_Model_blockingRule (x0 : Nat) (x1 : Int32) (x2 : Int32) (sg : ja_S) : Option (Int32 × ja_S) := (ja_pu sg x0 9 (0 : Int32)).bind fun s1 => (f_Model_isLever x0 x2 s1).bind fun v2 => (if v2.1 = 0 then some ((-2 : Int32), v2.2) else (f_Model_isState x0 x1 v2.2).bind fun v3 => (if v3.1 = 0 then some ((-3 : Int32), v3.2) else (f_Model_usesSheet x0 v3.2).bind fun v4 => (f_Model_blockOf x0 x1 x2 v4).bind fun v5 => some (v5.1, v5.2)))
set_option maxRecDepth 4000 in
theorem c_Model_blockingRule (l : Launch) (x : ja_X) (x0 : Nat) (x1 : Int32) (x2 : Int32) {sg : ja_S} {w : Int32 × ja_S} (h0 : ja_ob ja_L0 8 x0) (hf : f_Model_blockingRule x0 x1 x2 sg = some w) : ja_Ct l x y_Model_blockingRule M_Model_blockingRule [.ref x0, .int x1, .int x2] ja_L0 sg (some (.int w.1), ja_L0, w.2) := by
  refine ja_mk ⟨by decide, rfl, rfl⟩ (Nat.le_of_ble_eq_true rfl) (lv := [(0, .ref x0), (1, .int x1), (2, .int x2)]) rfl (fun C hl hx _ _ _ _ => ?_)
  subst hl; subst hx
  unfold f_Model_blockingRule at hf
  refine ja_aload_n (pc := 0) (f := 0) (i := 0) 0 (by decide +kernel) rfl rfl ?_
  refine ja_iconst (pc := 1) (n := 0) (v := 0) (by decide +kernel) (by decide +kernel) ?_
  refine ja_bind hf (fun s1 hs1 hf => ?_)
  refine ja_puti2 (pc := 2) (idx := 1) (t := 8) (j := 9) (by decide +kernel) fd_Model_1 h0 ⟨rfl, rfl⟩ hs1 ?_
  refine ja_aload_n (pc := 5) (f := 0) (i := 0) 0 (by decide +kernel) rfl rfl ?_
  refine ja_iload_n (pc := 6) (f := 2) (i := 2) 2 (by decide +kernel) rfl rfl ?_
  refine ja_bind hf (fun v2 hv2 hf => ?_)
  refine ja_callVi (pc := 7) (idx := 233) (t := 8) (b := x0) (as := [.int x2]) (st := []) (by decide +kernel) kv_Model_isLever lk_Model_233 ⟨by decide, by decide⟩ (c_Model_isLever _ _ x0 x2 h0 hv2) h0 rfl (Nat.le_of_ble_eq_true rfl) rfl ?_
  refine ja_if_ne (pc := 10) (off := 6) 16 (by decide +kernel) (by decide) hf (fun hf => ?_) (fun hf => ?_)
  · refine ja_aload_n (pc := 16) (f := 0) (i := 0) 0 (by decide +kernel) rfl rfl ?_
    refine ja_iload_n (pc := 17) (f := 1) (i := 1) 1 (by decide +kernel) rfl rfl ?_
    refine ja_bind hf (fun v3 hv3 hf => ?_)
    refine ja_callVi (pc := 18) (idx := 245) (t := 8) (b := x0) (as := [.int x1]) (st := []) (by decide +kernel) kv_Model_isState lk_Model_245 ⟨by decide, by decide⟩ (c_Model_isState _ _ x0 x1 h0 hv3) h0 rfl (Nat.le_of_ble_eq_true rfl) rfl ?_
    refine ja_if_ne (pc := 21) (off := 6) 27 (by decide +kernel) (by decide) hf (fun hf => ?_) (fun hf => ?_)
    · refine ja_aload_n (pc := 27) (f := 0) (i := 0) 0 (by decide +kernel) rfl rfl ?_
      refine ja_bind hf (fun v4 hv4 hf => ?_)
      refine ja_callVv (pc := 28) (idx := 74) (t := 8) (b := x0) (as := []) (st := []) (by decide +kernel) kv_Model_usesSheet lk_Model_74 ⟨by decide, by decide⟩ (c_Model_usesSheet _ _ x0 h0 hv4) h0 rfl (Nat.le_of_ble_eq_true rfl) rfl ?_
      refine ja_aload_n (pc := 31) (f := 0) (i := 0) 0 (by decide +kernel) rfl rfl ?_
      refine ja_iload_n (pc := 32) (f := 1) (i := 1) 1 (by decide +kernel) rfl rfl ?_
      refine ja_iload_n (pc := 33) (f := 2) (i := 2) 2 (by decide +kernel) rfl rfl ?_
      refine ja_bind hf (fun v5 hv5 hf => ?_)
      refine ja_callVi (pc := 34) (idx := 215) (t := 8) (b := x0) (as := [.int x1, .int x2]) (st := []) (by decide +kernel) kv_Model_blockOf lk_Model_215 ⟨by decide, by decide⟩ (c_Model_blockOf _ _ x0 x1 x2 h0 hv5) h0 rfl (Nat.le_of_ble_eq_true rfl) rfl ?_
      exact ja_ret (pc := 37) (some (.int v5.1)) .ireturn (by decide +kernel) rfl (by cases hf; rfl)
    · refine ja_bipush (pc := 24) (n := (-3)) (v := (-3)) (by decide +kernel) (by decide +kernel) ?_
      exact ja_ret (pc := 26) (some (.int (-3 : Int32))) .ireturn (by decide +kernel) rfl (by cases hf; rfl)
  · refine ja_bipush (pc := 13) (n := (-2)) (v := (-2)) (by decide +kernel) (by decide +kernel) ?_
    exact ja_ret (pc := 15) (some (.int (-2 : Int32))) .ireturn (by decide +kernel) rfl (by cases hf; rfl)
def f_Model_freeLevers_L24  : Nat → Nat → Int32 → Int32 → Int32 → ja_S → Option (Int32 × ja_S)
  | 0, _, _, _, _, _ => none
  | n + 1, x0, x1, x2, x3, sg => (if (sg.1 x0 0) ≤ x3 then some (x2, sg) else (f_Model_isFree x0 x1 x3 sg).bind fun v1 => (if v1.1 = 0 then f_Model_freeLevers_L24  n x0 x1 (x2 ||| (0 : Int32)) (x3 + 1) v1.2 else f_Model_freeLevers_L24  n x0 x1 (x2 ||| ((1 : Int32) <<< (x3 &&& 31))) (x3 + 1) v1.2))
set_option maxRecDepth 4000 in
theorem w_Model_freeLevers_L24 (C : ja_C) {w : Int32 × ja_S}    (n : Nat) : ∀ (x0 : Nat) (x1 : Int32) (x2 : Int32) (x3 : Int32) (sg : ja_S), ja_ob ja_L0 8 x0 → f_Model_freeLevers_L24  n x0 x1 x2 x3 sg = some w → ja_J M_Model_freeLevers C 24 [(0, .ref x0), (1, .int x1), (2, .int x2), (3, .int x3)] [] ja_L0 sg (some (.int w.1), ja_L0, w.2) := by
  induction n with
  | zero => intro _ _ _ _ _ _ hf; exact absurd (show (none : Option _) = some w from hf) (by simp)
  | succ n ih =>
    intro x0 x1 x2 x3 sg h0 hf
    unfold f_Model_freeLevers_L24 at hf
    refine ja_iload_n (pc := 24) (f := 3) (i := 3) 3 (by decide +kernel) rfl rfl ?_
    refine ja_aload_n (pc := 25) (f := 0) (i := 0) 0 (by decide +kernel) rfl rfl ?_
    refine ja_geti (pc := 26) (idx := 13) (t := 8) (j := 0) (by decide +kernel) fd_Model_13 h0 ?_
    refine ja_icmp_ge (pc := 29) (off := 28) 57 (by decide +kernel) (by decide) hf (fun hf => ?_) (fun hf => ?_)
    · refine ja_iload_n (pc := 57) (f := 2) (i := 2) 2 (by decide +kernel) rfl rfl ?_
      exact ja_ret (pc := 58) (some (.int x2)) .ireturn (by decide +kernel) rfl (by cases hf; rfl)
    · refine ja_iload_n (pc := 32) (f := 2) (i := 2) 2 (by decide +kernel) rfl rfl ?_
      refine ja_aload_n (pc := 33) (f := 0) (i := 0) 0 (by decide +kernel) rfl rfl ?_
      refine ja_iload_n (pc := 34) (f := 1) (i := 1) 1 (by decide +kernel) rfl rfl ?_
      refine ja_iload_n (pc := 35) (f := 3) (i := 3) 3 (by decide +kernel) rfl rfl ?_
      refine ja_bind hf (fun v1 hv1 hf => ?_)
      refine ja_callVi (pc := 36) (idx := 221) (t := 8) (b := x0) (as := [.int x1, .int x3]) (st := [.int x2]) (by decide +kernel) kv_Model_isFree lk_Model_221 ⟨by decide, by decide⟩ (c_Model_isFree _ _ x0 x1 x3 h0 hv1) h0 rfl (Nat.le_of_ble_eq_true rfl) rfl ?_
      refine ja_if_eq (pc := 39) (off := 9) 48 (by decide +kernel) (by decide) hf (fun hf => ?_) (fun hf => ?_)
      · refine ja_iconst (pc := 48) (n := 0) (v := 0) (by decide +kernel) (by decide +kernel) ?_
        refine ja_ior (pc := 49) (by decide +kernel) ?_
        refine ja_istore_n (pc := 50) (f := 2) (i := 2) (lv' := [(2, .int (x2 ||| (0 : Int32))), (0, .ref x0), (1, .int x1), (3, .int x3)]) (by decide +kernel) rfl (by decide) rfl ?_
        refine ja_iinc (pc := 51) (i := 3) (n := 1) (v := x3 + 1) (lv' := [(3, .int (x3 + 1)), (2, .int (x2 ||| (0 : Int32))), (0, .ref x0), (1, .int x1)]) 3 (by decide +kernel) rfl rfl (by decide) rfl ?_
        refine ja_goto (pc := 54) (off := (-30)) 24 (by decide +kernel) (by decide) ?_
        refine ja_lv [2, 3, 1, 0] rfl ?_
        exact ih x0 x1 (x2 ||| (0 : Int32)) (x3 + 1) v1.2 h0 hf
      · refine ja_iconst (pc := 42) (n := 1) (v := 1) (by decide +kernel) (by decide +kernel) ?_
        refine ja_iload_n (pc := 43) (f := 3) (i := 3) 3 (by decide +kernel) rfl rfl ?_
        refine ja_ishl (pc := 44) (by decide +kernel) ?_
        refine ja_goto (pc := 45) (off := 4) 49 (by decide +kernel) (by decide) ?_
        refine ja_ior (pc := 49) (by decide +kernel) ?_
        refine ja_istore_n (pc := 50) (f := 2) (i := 2) (lv' := [(2, .int (x2 ||| ((1 : Int32) <<< (x3 &&& 31)))), (0, .ref x0), (1, .int x1), (3, .int x3)]) (by decide +kernel) rfl (by decide) rfl ?_
        refine ja_iinc (pc := 51) (i := 3) (n := 1) (v := x3 + 1) (lv' := [(3, .int (x3 + 1)), (2, .int (x2 ||| ((1 : Int32) <<< (x3 &&& 31)))), (0, .ref x0), (1, .int x1)]) 3 (by decide +kernel) rfl rfl (by decide) rfl ?_
        refine ja_goto (pc := 54) (off := (-30)) 24 (by decide +kernel) (by decide) ?_
        refine ja_lv [2, 3, 1, 0] rfl ?_
        exact ih x0 x1 (x2 ||| ((1 : Int32) <<< (x3 &&& 31))) (x3 + 1) v1.2 h0 hf
def f_Model_freeLevers (x0 : Nat) (x1 : Int32) (sg : ja_S) : Option (Int32 × ja_S) := (ja_pu sg x0 9 (0 : Int32)).bind fun s1 => (f_Model_isState x0 x1 s1).bind fun v2 => (if v2.1 = 0 then some ((-3 : Int32), v2.2) else (f_Model_usesSheet x0 v2.2).bind fun v3 => f_Model_freeLevers_L24  ja_FU x0 x1 (0 : Int32) (0 : Int32) v3)
set_option maxRecDepth 4000 in
theorem c_Model_freeLevers (l : Launch) (x : ja_X) (x0 : Nat) (x1 : Int32) {sg : ja_S} {w : Int32 × ja_S} (h0 : ja_ob ja_L0 8 x0) (hf : f_Model_freeLevers x0 x1 sg = some w) : ja_Ct l x y_Model_freeLevers M_Model_freeLevers [.ref x0, .int x1] ja_L0 sg (some (.int w.1), ja_L0, w.2) := by
  refine ja_mk ⟨by decide, rfl, rfl⟩ (Nat.le_of_ble_eq_true rfl) (lv := [(0, .ref x0), (1, .int x1)]) rfl (fun C hl hx _ _ _ _ => ?_)
  subst hl; subst hx
  unfold f_Model_freeLevers at hf
  refine ja_aload_n (pc := 0) (f := 0) (i := 0) 0 (by decide +kernel) rfl rfl ?_
  refine ja_iconst (pc := 1) (n := 0) (v := 0) (by decide +kernel) (by decide +kernel) ?_
  refine ja_bind hf (fun s1 hs1 hf => ?_)
  refine ja_puti2 (pc := 2) (idx := 1) (t := 8) (j := 9) (by decide +kernel) fd_Model_1 h0 ⟨rfl, rfl⟩ hs1 ?_
  refine ja_aload_n (pc := 5) (f := 0) (i := 0) 0 (by decide +kernel) rfl rfl ?_
  refine ja_iload_n (pc := 6) (f := 1) (i := 1) 1 (by decide +kernel) rfl rfl ?_
  refine ja_bind hf (fun v2 hv2 hf => ?_)
  refine ja_callVi (pc := 7) (idx := 245) (t := 8) (b := x0) (as := [.int x1]) (st := []) (by decide +kernel) kv_Model_isState lk_Model_245 ⟨by decide, by decide⟩ (c_Model_isState _ _ x0 x1 h0 hv2) h0 rfl (Nat.le_of_ble_eq_true rfl) rfl ?_
  refine ja_if_ne (pc := 10) (off := 6) 16 (by decide +kernel) (by decide) hf (fun hf => ?_) (fun hf => ?_)
  · refine ja_aload_n (pc := 16) (f := 0) (i := 0) 0 (by decide +kernel) rfl rfl ?_
    refine ja_bind hf (fun v3 hv3 hf => ?_)
    refine ja_callVv (pc := 17) (idx := 74) (t := 8) (b := x0) (as := []) (st := []) (by decide +kernel) kv_Model_usesSheet lk_Model_74 ⟨by decide, by decide⟩ (c_Model_usesSheet _ _ x0 h0 hv3) h0 rfl (Nat.le_of_ble_eq_true rfl) rfl ?_
    refine ja_iconst (pc := 20) (n := 0) (v := 0) (by decide +kernel) (by decide +kernel) ?_
    refine ja_istore_n (pc := 21) (f := 2) (i := 2) (lv' := [(2, .int (0 : Int32)), (0, .ref x0), (1, .int x1)]) (by decide +kernel) rfl (by decide) rfl ?_
    refine ja_iconst (pc := 22) (n := 0) (v := 0) (by decide +kernel) (by decide +kernel) ?_
    refine ja_istore_n (pc := 23) (f := 3) (i := 3) (lv' := [(3, .int (0 : Int32)), (2, .int (0 : Int32)), (0, .ref x0), (1, .int x1)]) (by decide +kernel) rfl (by decide) rfl ?_
    refine ja_lv [2, 3, 1, 0] rfl ?_
    exact w_Model_freeLevers_L24 C  ja_FU x0 x1 (0 : Int32) (0 : Int32) v3 h0 hf
  · refine ja_bipush (pc := 13) (n := (-3)) (v := (-3)) (by decide +kernel) (by decide +kernel) ?_
    exact ja_ret (pc := 15) (some (.int (-3 : Int32))) .ireturn (by decide +kernel) rfl (by cases hf; rfl)
