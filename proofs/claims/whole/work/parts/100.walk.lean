def f_SheetParser_append_L3  : Nat → Nat → Int32 → Int32 → ja_S → Option (ja_S)
  | 0, _, _, _, _ => none
  | n + 1, x0, x1, x2, sg => (if x2 < 0 then some sg else (if (900 : Int32) ≤ (sg.1 x0 6) then some sg else (ja_st ja_L0 sg (ja_q x0 2) (sg.1 x0 6) ((((x1 : Int32).toUInt32 >>> ((x2 : Int32).toUInt32 &&& Int32.toUInt32 31)).toInt32) &&& (255 : Int32))).bind fun s1 => (ja_pu s1 x0 6 ((s1.1 x0 6) + (1 : Int32))).bind fun s2 => f_SheetParser_append_L3  n x0 x1 (x2 + (-8)) s2))
set_option maxRecDepth 4000 in
theorem w_SheetParser_append_L3 (C : ja_C) {w : ja_S}    (n : Nat) : ∀ (x0 : Nat) (x1 : Int32) (x2 : Int32) (sg : ja_S), ja_ob ja_L0 6 x0 → f_SheetParser_append_L3  n x0 x1 x2 sg = some w → ja_J M_SheetParser_append C 3 [(0, .ref x0), (1, .int x1), (2, .int x2)] [] ja_L0 sg (none, ja_L0, w) := by
  induction n with
  | zero => intro _ _ _ _ _ hf; exact absurd (show (none : Option _) = some w from hf) (by simp)
  | succ n ih =>
    intro x0 x1 x2 sg h0 hf
    unfold f_SheetParser_append_L3 at hf
    refine ja_iload_n (pc := 3) (f := 2) (i := 2) 2 (by decide +kernel) rfl rfl ?_
    refine ja_if_lt (pc := 4) (off := 45) 49 (by decide +kernel) (by decide) hf (fun hf => ?_) (fun hf => ?_)
    · exact ja_ret (pc := 49) none .return_ (by decide +kernel) rfl (by cases hf; rfl)
    · refine ja_aload_n (pc := 7) (f := 0) (i := 0) 0 (by decide +kernel) rfl rfl ?_
      refine ja_geti (pc := 8) (idx := 9) (t := 6) (j := 6) (by decide +kernel) fd_SheetParser_9 h0 ?_
      refine ja_sipush (pc := 11) (n := 900) (v := 900) (by decide +kernel) (by decide +kernel) ?_
      refine ja_icmp_ge (pc := 14) (off := 35) 49 (by decide +kernel) (by decide) hf (fun hf => ?_) (fun hf => ?_)
      · exact ja_ret (pc := 49) none .return_ (by decide +kernel) rfl (by cases hf; rfl)
      · refine ja_aload_n (pc := 17) (f := 0) (i := 0) 0 (by decide +kernel) rfl rfl ?_
        refine ja_getr (pc := 18) (idx := 21) (t := 6) (j := 2) (by decide +kernel) fd_SheetParser_21 h0 (fr_6_2 h0) ?_
        refine ja_aload_n (pc := 21) (f := 0) (i := 0) 0 (by decide +kernel) rfl rfl ?_
        refine ja_geti (pc := 22) (idx := 9) (t := 6) (j := 6) (by decide +kernel) fd_SheetParser_9 h0 ?_
        refine ja_iload_n (pc := 25) (f := 1) (i := 1) 1 (by decide +kernel) rfl rfl ?_
        refine ja_iload_n (pc := 26) (f := 2) (i := 2) 2 (by decide +kernel) rfl rfl ?_
        refine ja_iushr (pc := 27) (by decide +kernel) ?_
        refine ja_sipush (pc := 28) (n := 255) (v := 255) (by decide +kernel) (by decide +kernel) ?_
        refine ja_iand (pc := 31) (by decide +kernel) ?_
        refine ja_bind hf (fun s1 hs1 hf => ?_)
        refine ja_iast (pc := 32) (by decide +kernel) (fk_6_2 h0) hs1 ?_
        refine ja_aload_n (pc := 33) (f := 0) (i := 0) 0 (by decide +kernel) rfl rfl ?_
        refine ja_dup (pc := 34) (by decide +kernel) rfl ?_
        refine ja_geti (pc := 35) (idx := 9) (t := 6) (j := 6) (by decide +kernel) fd_SheetParser_9 h0 ?_
        refine ja_iconst (pc := 38) (n := 1) (v := 1) (by decide +kernel) (by decide +kernel) ?_
        refine ja_iadd (pc := 39) (by decide +kernel) ?_
        refine ja_bind hf (fun s2 hs2 hf => ?_)
        refine ja_puti2 (pc := 40) (idx := 9) (t := 6) (j := 6) (by decide +kernel) fd_SheetParser_9 h0 ⟨rfl, rfl⟩ hs2 ?_
        refine ja_iinc (pc := 43) (i := 2) (n := (-8)) (v := x2 + (-8)) (lv' := [(2, .int (x2 + (-8))), (0, .ref x0), (1, .int x1)]) 2 (by decide +kernel) rfl rfl (by decide) rfl ?_
        refine ja_goto (pc := 46) (off := (-43)) 3 (by decide +kernel) (by decide) ?_
        refine ja_lv [1, 2, 0] rfl ?_
        exact ih x0 x1 (x2 + (-8)) s2 h0 hf
def f_SheetParser_append (x0 : Nat) (x1 : Int32) (sg : ja_S) : Option (ja_S) := f_SheetParser_append_L3  ja_FU x0 x1 (24 : Int32) sg
set_option maxRecDepth 4000 in
theorem c_SheetParser_append (l : Launch) (x : ja_X) (x0 : Nat) (x1 : Int32) {sg : ja_S} {w : ja_S} (h0 : ja_ob ja_L0 6 x0) (hf : f_SheetParser_append x0 x1 sg = some w) : ja_Ct l x y_SheetParser_append M_SheetParser_append [.ref x0, .int x1] ja_L0 sg (none, ja_L0, w) := by
  refine ja_mk ⟨by decide, rfl, rfl⟩ (Nat.le_of_ble_eq_true rfl) (lv := [(0, .ref x0), (1, .int x1)]) rfl (fun C hl hx _ _ _ _ => ?_)
  subst hl; subst hx
  unfold f_SheetParser_append at hf
  refine ja_bipush (pc := 0) (n := 24) (v := 24) (by decide +kernel) (by decide +kernel) ?_
  refine ja_istore_n (pc := 2) (f := 2) (i := 2) (lv' := [(2, .int (24 : Int32)), (0, .ref x0), (1, .int x1)]) (by decide +kernel) rfl (by decide) rfl ?_
  refine ja_lv [1, 2, 0] rfl ?_
  exact w_SheetParser_append_L3 C  ja_FU x0 x1 (24 : Int32) sg h0 hf
def f_Frame_appendBytes (x0 : Nat) (x1 : Int32) (x2 : Int32) (x3 : Int32) (x4 : Int32) (x5 : Int32) (sg : ja_S) : Option (Int32 × ja_S) := (if ((sg.1 (ja_q x0 2) 6) + (20 : Int32)) ≤ (900 : Int32) then (f_SheetParser_append (ja_q x0 2) x1 sg).bind fun v1 => (f_SheetParser_append (ja_q x0 2) x2 v1).bind fun v2 => (f_SheetParser_append (ja_q x0 2) x3 v2).bind fun v3 => (f_SheetParser_append (ja_q x0 2) x4 v3).bind fun v4 => (f_SheetParser_append (ja_q x0 2) x5 v4).bind fun v5 => some (v5.1 (ja_q x0 2) 6, v5) else some ((-4 : Int32), sg))
set_option maxRecDepth 4000 in
theorem c_Frame_appendBytes (l : Launch) (x : ja_X) (x0 : Nat) (x1 : Int32) (x2 : Int32) (x3 : Int32) (x4 : Int32) (x5 : Int32) {sg : ja_S} {w : Int32 × ja_S} (h0 : ja_ob ja_L0 7 x0) (hf : f_Frame_appendBytes x0 x1 x2 x3 x4 x5 sg = some w) : ja_Ct l x y_Frame_appendBytes M_Frame_appendBytes [.ref x0, .int x1, .int x2, .int x3, .int x4, .int x5] ja_L0 sg (some (.int w.1), ja_L0, w.2) := by
  refine ja_mk ⟨by decide, rfl, rfl⟩ (Nat.le_of_ble_eq_true rfl) (lv := [(0, .ref x0), (1, .int x1), (2, .int x2), (3, .int x3), (4, .int x4), (5, .int x5)]) rfl (fun C hl hx _ _ _ _ => ?_)
  subst hl; subst hx
  unfold f_Frame_appendBytes at hf
  refine ja_aload_n (pc := 0) (f := 0) (i := 0) 0 (by decide +kernel) rfl rfl ?_
  refine ja_getr (pc := 1) (idx := 10) (t := 7) (j := 2) (by decide +kernel) fd_Frame_10 h0 (fr_7_2 h0) ?_
  refine ja_geti (pc := 4) (idx := 71) (t := 6) (j := 6) (by decide +kernel) fd_Frame_71 (fk_7_2 h0) ?_
  refine ja_bipush (pc := 7) (n := 20) (v := 20) (by decide +kernel) (by decide +kernel) ?_
  refine ja_iadd (pc := 9) (by decide +kernel) ?_
  refine ja_sipush (pc := 10) (n := 900) (v := 900) (by decide +kernel) (by decide +kernel) ?_
  refine ja_icmp_le (pc := 13) (off := 6) 19 (by decide +kernel) (by decide) hf (fun hf => ?_) (fun hf => ?_)
  · refine ja_aload_n (pc := 19) (f := 0) (i := 0) 0 (by decide +kernel) rfl rfl ?_
    refine ja_getr (pc := 20) (idx := 10) (t := 7) (j := 2) (by decide +kernel) fd_Frame_10 h0 (fr_7_2 h0) ?_
    refine ja_iload_n (pc := 23) (f := 1) (i := 1) 1 (by decide +kernel) rfl rfl ?_
    refine ja_bind hf (fun v1 hv1 hf => ?_)
    refine ja_callVv (pc := 24) (idx := 74) (t := 6) (b := (ja_q x0 2)) (as := [.int x1]) (st := []) (by decide +kernel) kv_SheetParser_append lk_Frame_74 ⟨by decide, by decide⟩ (c_SheetParser_append _ _ (ja_q x0 2) x1 (fk_7_2 h0) hv1) (fk_7_2 h0) rfl (Nat.le_of_ble_eq_true rfl) rfl ?_
    refine ja_aload_n (pc := 27) (f := 0) (i := 0) 0 (by decide +kernel) rfl rfl ?_
    refine ja_getr (pc := 28) (idx := 10) (t := 7) (j := 2) (by decide +kernel) fd_Frame_10 h0 (fr_7_2 h0) ?_
    refine ja_iload_n (pc := 31) (f := 2) (i := 2) 2 (by decide +kernel) rfl rfl ?_
    refine ja_bind hf (fun v2 hv2 hf => ?_)
    refine ja_callVv (pc := 32) (idx := 74) (t := 6) (b := (ja_q x0 2)) (as := [.int x2]) (st := []) (by decide +kernel) kv_SheetParser_append lk_Frame_74 ⟨by decide, by decide⟩ (c_SheetParser_append _ _ (ja_q x0 2) x2 (fk_7_2 h0) hv2) (fk_7_2 h0) rfl (Nat.le_of_ble_eq_true rfl) rfl ?_
    refine ja_aload_n (pc := 35) (f := 0) (i := 0) 0 (by decide +kernel) rfl rfl ?_
    refine ja_getr (pc := 36) (idx := 10) (t := 7) (j := 2) (by decide +kernel) fd_Frame_10 h0 (fr_7_2 h0) ?_
    refine ja_iload_n (pc := 39) (f := 3) (i := 3) 3 (by decide +kernel) rfl rfl ?_
    refine ja_bind hf (fun v3 hv3 hf => ?_)
    refine ja_callVv (pc := 40) (idx := 74) (t := 6) (b := (ja_q x0 2)) (as := [.int x3]) (st := []) (by decide +kernel) kv_SheetParser_append lk_Frame_74 ⟨by decide, by decide⟩ (c_SheetParser_append _ _ (ja_q x0 2) x3 (fk_7_2 h0) hv3) (fk_7_2 h0) rfl (Nat.le_of_ble_eq_true rfl) rfl ?_
    refine ja_aload_n (pc := 43) (f := 0) (i := 0) 0 (by decide +kernel) rfl rfl ?_
    refine ja_getr (pc := 44) (idx := 10) (t := 7) (j := 2) (by decide +kernel) fd_Frame_10 h0 (fr_7_2 h0) ?_
    refine ja_iload (pc := 47) (i := 4) 4 (by decide +kernel) rfl ?_
    refine ja_bind hf (fun v4 hv4 hf => ?_)
    refine ja_callVv (pc := 49) (idx := 74) (t := 6) (b := (ja_q x0 2)) (as := [.int x4]) (st := []) (by decide +kernel) kv_SheetParser_append lk_Frame_74 ⟨by decide, by decide⟩ (c_SheetParser_append _ _ (ja_q x0 2) x4 (fk_7_2 h0) hv4) (fk_7_2 h0) rfl (Nat.le_of_ble_eq_true rfl) rfl ?_
    refine ja_aload_n (pc := 52) (f := 0) (i := 0) 0 (by decide +kernel) rfl rfl ?_
    refine ja_getr (pc := 53) (idx := 10) (t := 7) (j := 2) (by decide +kernel) fd_Frame_10 h0 (fr_7_2 h0) ?_
    refine ja_iload (pc := 56) (i := 5) 5 (by decide +kernel) rfl ?_
    refine ja_bind hf (fun v5 hv5 hf => ?_)
    refine ja_callVv (pc := 58) (idx := 74) (t := 6) (b := (ja_q x0 2)) (as := [.int x5]) (st := []) (by decide +kernel) kv_SheetParser_append lk_Frame_74 ⟨by decide, by decide⟩ (c_SheetParser_append _ _ (ja_q x0 2) x5 (fk_7_2 h0) hv5) (fk_7_2 h0) rfl (Nat.le_of_ble_eq_true rfl) rfl ?_
    refine ja_aload_n (pc := 61) (f := 0) (i := 0) 0 (by decide +kernel) rfl rfl ?_
    refine ja_getr (pc := 62) (idx := 10) (t := 7) (j := 2) (by decide +kernel) fd_Frame_10 h0 (fr_7_2 h0) ?_
    refine ja_geti (pc := 65) (idx := 71) (t := 6) (j := 6) (by decide +kernel) fd_Frame_71 (fk_7_2 h0) ?_
    exact ja_ret (pc := 68) (some (.int (v5.1 (ja_q x0 2) 6))) .ireturn (by decide +kernel) rfl (by cases hf; rfl)
  · refine ja_bipush (pc := 16) (n := (-4)) (v := (-4)) (by decide +kernel) (by decide +kernel) ?_
    exact ja_ret (pc := 18) (some (.int (-4 : Int32))) .ireturn (by decide +kernel) rfl (by cases hf; rfl)
def f_SheetParser_byteAt (x0 : Nat) (x1 : Int32) (sg : ja_S) : Option (Int32 × ja_S) := (if x1 < 0 then some ((-1 : Int32), sg) else (if (sg.1 x0 3) ≤ x1 then some ((-1 : Int32), sg) else (if (Int32.ofNat (ja_len ja_L0 (ja_q x0 2))) ≤ x1 then some ((-1 : Int32), sg) else (ja_ld ja_L0 sg (ja_q x0 2) x1).bind fun v1 => some (v1, sg))))
set_option maxRecDepth 4000 in
theorem c_SheetParser_byteAt (l : Launch) (x : ja_X) (x0 : Nat) (x1 : Int32) {sg : ja_S} {w : Int32 × ja_S} (h0 : ja_ob ja_L0 6 x0) (hf : f_SheetParser_byteAt x0 x1 sg = some w) : ja_Ct l x y_SheetParser_byteAt M_SheetParser_byteAt [.ref x0, .int x1] ja_L0 sg (some (.int w.1), ja_L0, w.2) := by
  refine ja_mk ⟨by decide, rfl, rfl⟩ (Nat.le_of_ble_eq_true rfl) (lv := [(0, .ref x0), (1, .int x1)]) rfl (fun C hl hx _ _ _ _ => ?_)
  subst hl; subst hx
  unfold f_SheetParser_byteAt at hf
  refine ja_iload_n (pc := 0) (f := 1) (i := 1) 1 (by decide +kernel) rfl rfl ?_
  refine ja_if_lt (pc := 1) (off := 29) 30 (by decide +kernel) (by decide) hf (fun hf => ?_) (fun hf => ?_)
  · refine ja_iconst (pc := 30) (n := (-1)) (v := (-1)) (by decide +kernel) (by decide +kernel) ?_
    exact ja_ret (pc := 31) (some (.int (-1 : Int32))) .ireturn (by decide +kernel) rfl (by cases hf; rfl)
  · refine ja_iload_n (pc := 4) (f := 1) (i := 1) 1 (by decide +kernel) rfl rfl ?_
    refine ja_aload_n (pc := 5) (f := 0) (i := 0) 0 (by decide +kernel) rfl rfl ?_
    refine ja_geti (pc := 6) (idx := 25) (t := 6) (j := 3) (by decide +kernel) fd_SheetParser_25 h0 ?_
    refine ja_icmp_ge (pc := 9) (off := 21) 30 (by decide +kernel) (by decide) hf (fun hf => ?_) (fun hf => ?_)
    · refine ja_iconst (pc := 30) (n := (-1)) (v := (-1)) (by decide +kernel) (by decide +kernel) ?_
      exact ja_ret (pc := 31) (some (.int (-1 : Int32))) .ireturn (by decide +kernel) rfl (by cases hf; rfl)
    · refine ja_iload_n (pc := 12) (f := 1) (i := 1) 1 (by decide +kernel) rfl rfl ?_
      refine ja_aload_n (pc := 13) (f := 0) (i := 0) 0 (by decide +kernel) rfl rfl ?_
      refine ja_getr (pc := 14) (idx := 21) (t := 6) (j := 2) (by decide +kernel) fd_SheetParser_21 h0 (fr_6_2 h0) ?_
      refine ja_alen (pc := 17) (by decide +kernel) (Or.inl (fk_6_2 h0)) ?_
      refine ja_icmp_ge (pc := 18) (off := 12) 30 (by decide +kernel) (by decide) hf (fun hf => ?_) (fun hf => ?_)
      · refine ja_iconst (pc := 30) (n := (-1)) (v := (-1)) (by decide +kernel) (by decide +kernel) ?_
        exact ja_ret (pc := 31) (some (.int (-1 : Int32))) .ireturn (by decide +kernel) rfl (by cases hf; rfl)
      · refine ja_aload_n (pc := 21) (f := 0) (i := 0) 0 (by decide +kernel) rfl rfl ?_
        refine ja_getr (pc := 22) (idx := 21) (t := 6) (j := 2) (by decide +kernel) fd_SheetParser_21 h0 (fr_6_2 h0) ?_
        refine ja_iload_n (pc := 25) (f := 1) (i := 1) 1 (by decide +kernel) rfl rfl ?_
        refine ja_bind hf (fun v1 hv1 hf => ?_)
        refine ja_iald (pc := 26) (by decide +kernel) (fk_6_2 h0) hv1 ?_
        refine ja_goto (pc := 27) (off := 4) 31 (by decide +kernel) (by decide) ?_
        exact ja_ret (pc := 31) (some (.int v1)) .ireturn (by decide +kernel) rfl (by cases hf; rfl)
def f_SheetParser_isLetter (x0 : Int32) (sg : ja_S) : Option (Int32 × ja_S) := (if x0 < (97 : Int32) then some ((0 : Int32), sg) else (if (122 : Int32) < x0 then some ((0 : Int32), sg) else some ((1 : Int32), sg)))
set_option maxRecDepth 4000 in
theorem c_SheetParser_isLetter (l : Launch) (x : ja_X) (x0 : Int32) {sg : ja_S} {w : Int32 × ja_S}  (hf : f_SheetParser_isLetter x0 sg = some w) : ja_Ct l x y_SheetParser_isLetter M_SheetParser_isLetter [.int x0] ja_L0 sg (some (.int w.1), ja_L0, w.2) := by
  refine ja_mk ⟨by decide, rfl, rfl⟩ (Nat.le_of_ble_eq_true rfl) (lv := [(0, .int x0)]) rfl (fun C hl hx _ _ _ _ => ?_)
  subst hl; subst hx
  unfold f_SheetParser_isLetter at hf
  refine ja_iload_n (pc := 0) (f := 0) (i := 0) 0 (by decide +kernel) rfl rfl ?_
  refine ja_bipush (pc := 1) (n := 97) (v := 97) (by decide +kernel) (by decide +kernel) ?_
  refine ja_icmp_lt (pc := 3) (off := 13) 16 (by decide +kernel) (by decide) hf (fun hf => ?_) (fun hf => ?_)
  · refine ja_iconst (pc := 16) (n := 0) (v := 0) (by decide +kernel) (by decide +kernel) ?_
    exact ja_ret (pc := 17) (some (.int (0 : Int32))) .ireturn (by decide +kernel) rfl (by cases hf; rfl)
  · refine ja_iload_n (pc := 6) (f := 0) (i := 0) 0 (by decide +kernel) rfl rfl ?_
    refine ja_bipush (pc := 7) (n := 122) (v := 122) (by decide +kernel) (by decide +kernel) ?_
    refine ja_icmp_gt (pc := 9) (off := 7) 16 (by decide +kernel) (by decide) hf (fun hf => ?_) (fun hf => ?_)
    · refine ja_iconst (pc := 16) (n := 0) (v := 0) (by decide +kernel) (by decide +kernel) ?_
      exact ja_ret (pc := 17) (some (.int (0 : Int32))) .ireturn (by decide +kernel) rfl (by cases hf; rfl)
    · refine ja_iconst (pc := 12) (n := 1) (v := 1) (by decide +kernel) (by decide +kernel) ?_
      refine ja_goto (pc := 13) (off := 4) 17 (by decide +kernel) (by decide) ?_
      exact ja_ret (pc := 17) (some (.int (1 : Int32))) .ireturn (by decide +kernel) rfl (by cases hf; rfl)
def f_SheetParser_isDigit (x0 : Int32) (sg : ja_S) : Option (Int32 × ja_S) := (if x0 < (48 : Int32) then some ((0 : Int32), sg) else (if (57 : Int32) < x0 then some ((0 : Int32), sg) else some ((1 : Int32), sg)))
set_option maxRecDepth 4000 in
theorem c_SheetParser_isDigit (l : Launch) (x : ja_X) (x0 : Int32) {sg : ja_S} {w : Int32 × ja_S}  (hf : f_SheetParser_isDigit x0 sg = some w) : ja_Ct l x y_SheetParser_isDigit M_SheetParser_isDigit [.int x0] ja_L0 sg (some (.int w.1), ja_L0, w.2) := by
  refine ja_mk ⟨by decide, rfl, rfl⟩ (Nat.le_of_ble_eq_true rfl) (lv := [(0, .int x0)]) rfl (fun C hl hx _ _ _ _ => ?_)
  subst hl; subst hx
  unfold f_SheetParser_isDigit at hf
  refine ja_iload_n (pc := 0) (f := 0) (i := 0) 0 (by decide +kernel) rfl rfl ?_
  refine ja_bipush (pc := 1) (n := 48) (v := 48) (by decide +kernel) (by decide +kernel) ?_
  refine ja_icmp_lt (pc := 3) (off := 13) 16 (by decide +kernel) (by decide) hf (fun hf => ?_) (fun hf => ?_)
  · refine ja_iconst (pc := 16) (n := 0) (v := 0) (by decide +kernel) (by decide +kernel) ?_
    exact ja_ret (pc := 17) (some (.int (0 : Int32))) .ireturn (by decide +kernel) rfl (by cases hf; rfl)
  · refine ja_iload_n (pc := 6) (f := 0) (i := 0) 0 (by decide +kernel) rfl rfl ?_
    refine ja_bipush (pc := 7) (n := 57) (v := 57) (by decide +kernel) (by decide +kernel) ?_
    refine ja_icmp_gt (pc := 9) (off := 7) 16 (by decide +kernel) (by decide) hf (fun hf => ?_) (fun hf => ?_)
    · refine ja_iconst (pc := 16) (n := 0) (v := 0) (by decide +kernel) (by decide +kernel) ?_
      exact ja_ret (pc := 17) (some (.int (0 : Int32))) .ireturn (by decide +kernel) rfl (by cases hf; rfl)
    · refine ja_iconst (pc := 12) (n := 1) (v := 1) (by decide +kernel) (by decide +kernel) ?_
      refine ja_goto (pc := 13) (off := 4) 17 (by decide +kernel) (by decide) ?_
      exact ja_ret (pc := 17) (some (.int (1 : Int32))) .ireturn (by decide +kernel) rfl (by cases hf; rfl)
def f_SheetParser_step_B133 (k86 : Nat → Int32 → Int32 → ja_S → Option (ja_S)) (x0 : Nat) (x1 : Int32) (x2 : Int32) (sg : ja_S) : Option (ja_S) := (ja_pu sg x0 5 ((sg.1 x0 5) + (1 : Int32))).bind fun s1 => k86 x0 x1 x2 s1
set_option maxRecDepth 4000 in
theorem w_SheetParser_step_B133 (C : ja_C) {w : ja_S} {k86 : Nat → Int32 → Int32 → ja_S → Option (ja_S)} (e86 : ∀ (x0 : Nat) (x1 : Int32) (x2 : Int32) (sg : ja_S), ja_ob ja_L0 6 x0 → k86 x0 x1 x2 sg = some w → ja_J M_SheetParser_step C 86 [(0, .ref x0), (1, .int x1), (2, .int x2)] [] ja_L0 sg (none, ja_L0, w))  (x0 : Nat) (x1 : Int32) (x2 : Int32) (sg : ja_S) (h0 : ja_ob ja_L0 6 x0) (hf : f_SheetParser_step_B133 k86 x0 x1 x2 sg = some w) : ja_J M_SheetParser_step C 133 [(0, .ref x0), (1, .int x1), (2, .int x2)] [] ja_L0 sg (none, ja_L0, w) := by
  unfold f_SheetParser_step_B133 at hf
  refine ja_aload_n (pc := 133) (f := 0) (i := 0) 0 (by decide +kernel) rfl rfl ?_
  refine ja_dup (pc := 134) (by decide +kernel) rfl ?_
  refine ja_geti (pc := 135) (idx := 31) (t := 6) (j := 5) (by decide +kernel) fd_SheetParser_31 h0 ?_
  refine ja_iconst (pc := 138) (n := 1) (v := 1) (by decide +kernel) (by decide +kernel) ?_
  refine ja_iadd (pc := 139) (by decide +kernel) ?_
  refine ja_bind hf (fun s1 hs1 hf => ?_)
  refine ja_puti2 (pc := 140) (idx := 31) (t := 6) (j := 5) (by decide +kernel) fd_SheetParser_31 h0 ⟨rfl, rfl⟩ hs1 ?_
  refine ja_goto (pc := 143) (off := (-57)) 86 (by decide +kernel) (by decide) ?_
  exact e86 x0 x1 x2 s1 h0 hf
def f_SheetParser_step_B115 (k86 : Nat → Int32 → Int32 → ja_S → Option (ja_S)) (x0 : Nat) (x1 : Int32) (x2 : Int32) (sg : ja_S) : Option (ja_S) := (if x2 = 0 then some sg else (f_SheetParser_byteAt x0 (sg.1 x0 5) sg).bind fun v1 => (f_SheetParser_isDigit v1.1 v1.2).bind fun v2 => (if v2.1 = 0 then some v2.2 else f_SheetParser_step_B133 k86 x0 x1 x2 v2.2))
set_option maxRecDepth 4000 in
theorem w_SheetParser_step_B115 (C : ja_C) {w : ja_S} {k86 : Nat → Int32 → Int32 → ja_S → Option (ja_S)} (e86 : ∀ (x0 : Nat) (x1 : Int32) (x2 : Int32) (sg : ja_S), ja_ob ja_L0 6 x0 → k86 x0 x1 x2 sg = some w → ja_J M_SheetParser_step C 86 [(0, .ref x0), (1, .int x1), (2, .int x2)] [] ja_L0 sg (none, ja_L0, w))  (x0 : Nat) (x1 : Int32) (x2 : Int32) (sg : ja_S) (h0 : ja_ob ja_L0 6 x0) (hf : f_SheetParser_step_B115 k86 x0 x1 x2 sg = some w) : ja_J M_SheetParser_step C 115 [(0, .ref x0), (1, .int x1), (2, .int x2)] [] ja_L0 sg (none, ja_L0, w) := by
  unfold f_SheetParser_step_B115 at hf
  refine ja_iload_n (pc := 115) (f := 2) (i := 2) 2 (by decide +kernel) rfl rfl ?_
  refine ja_if_eq (pc := 116) (off := 30) 146 (by decide +kernel) (by decide) hf (fun hf => ?_) (fun hf => ?_)
  · exact ja_ret (pc := 146) none .return_ (by decide +kernel) rfl (by cases hf; rfl)
  · refine ja_aload_n (pc := 119) (f := 0) (i := 0) 0 (by decide +kernel) rfl rfl ?_
    refine ja_aload_n (pc := 120) (f := 0) (i := 0) 0 (by decide +kernel) rfl rfl ?_
    refine ja_geti (pc := 121) (idx := 31) (t := 6) (j := 5) (by decide +kernel) fd_SheetParser_31 h0 ?_
    refine ja_bind hf (fun v1 hv1 hf => ?_)
    refine ja_callVi (pc := 124) (idx := 75) (t := 6) (b := x0) (as := [.int (sg.1 x0 5)]) (st := []) (by decide +kernel) kv_SheetParser_byteAt lk_SheetParser_75 ⟨by decide, by decide⟩ (c_SheetParser_byteAt _ _ x0 (sg.1 x0 5) h0 hv1) h0 rfl (Nat.le_of_ble_eq_true rfl) rfl ?_
    refine ja_bind hf (fun v2 hv2 hf => ?_)
    refine ja_callSi (pc := 127) (idx := 79) (as := [.int v1.1]) (st := []) (by decide +kernel) ks_SheetParser_isDigit lk_SheetParser_79 ⟨by decide, by decide⟩ (c_SheetParser_isDigit _ _ v1.1  hv2) rfl (Nat.le_of_ble_eq_true rfl) rfl ?_
    refine ja_if_eq (pc := 130) (off := 16) 146 (by decide +kernel) (by decide) hf (fun hf => ?_) (fun hf => ?_)
    · exact ja_ret (pc := 146) none .return_ (by decide +kernel) rfl (by cases hf; rfl)
    · exact w_SheetParser_step_B133 C e86 x0 x1 x2 v2.2 h0 hf
def f_SheetParser_step_L86  : Nat → Nat → Int32 → Int32 → ja_S → Option (ja_S)
  | 0, _, _, _, _ => none
  | n + 1, x0, x1, x2, sg => (if (sg.1 x0 3) ≤ (sg.1 x0 5) then some sg else (if x1 = 0 then f_SheetParser_step_B115 (f_SheetParser_step_L86  n) x0 x1 x2 sg else (f_SheetParser_byteAt x0 (sg.1 x0 5) sg).bind fun v1 => (f_SheetParser_isLetter v1.1 v1.2).bind fun v2 => (if v2.1 = 0 then f_SheetParser_step_B115 (f_SheetParser_step_L86  n) x0 x1 x2 v2.2 else f_SheetParser_step_B133 (f_SheetParser_step_L86  n) x0 x1 x2 v2.2)))
set_option maxRecDepth 4000 in
theorem w_SheetParser_step_L86 (C : ja_C) {w : ja_S}    (n : Nat) : ∀ (x0 : Nat) (x1 : Int32) (x2 : Int32) (sg : ja_S), ja_ob ja_L0 6 x0 → f_SheetParser_step_L86  n x0 x1 x2 sg = some w → ja_J M_SheetParser_step C 86 [(0, .ref x0), (1, .int x1), (2, .int x2)] [] ja_L0 sg (none, ja_L0, w) := by
  induction n with
  | zero => intro _ _ _ _ _ hf; exact absurd (show (none : Option _) = some w from hf) (by simp)
  | succ n ih =>
    intro x0 x1 x2 sg h0 hf
    unfold f_SheetParser_step_L86 at hf
    refine ja_aload_n (pc := 86) (f := 0) (i := 0) 0 (by decide +kernel) rfl rfl ?_
    refine ja_geti (pc := 87) (idx := 31) (t := 6) (j := 5) (by decide +kernel) fd_SheetParser_31 h0 ?_
    refine ja_aload_n (pc := 90) (f := 0) (i := 0) 0 (by decide +kernel) rfl rfl ?_
    refine ja_geti (pc := 91) (idx := 25) (t := 6) (j := 3) (by decide +kernel) fd_SheetParser_25 h0 ?_
    refine ja_icmp_ge (pc := 94) (off := 52) 146 (by decide +kernel) (by decide) hf (fun hf => ?_) (fun hf => ?_)
    · exact ja_ret (pc := 146) none .return_ (by decide +kernel) rfl (by cases hf; rfl)
    · refine ja_iload_n (pc := 97) (f := 1) (i := 1) 1 (by decide +kernel) rfl rfl ?_
      refine ja_if_eq (pc := 98) (off := 17) 115 (by decide +kernel) (by decide) hf (fun hf => ?_) (fun hf => ?_)
      · exact w_SheetParser_step_B115 C ih x0 x1 x2 sg h0 hf
      · refine ja_aload_n (pc := 101) (f := 0) (i := 0) 0 (by decide +kernel) rfl rfl ?_
        refine ja_aload_n (pc := 102) (f := 0) (i := 0) 0 (by decide +kernel) rfl rfl ?_
        refine ja_geti (pc := 103) (idx := 31) (t := 6) (j := 5) (by decide +kernel) fd_SheetParser_31 h0 ?_
        refine ja_bind hf (fun v1 hv1 hf => ?_)
        refine ja_callVi (pc := 106) (idx := 75) (t := 6) (b := x0) (as := [.int (sg.1 x0 5)]) (st := []) (by decide +kernel) kv_SheetParser_byteAt lk_SheetParser_75 ⟨by decide, by decide⟩ (c_SheetParser_byteAt _ _ x0 (sg.1 x0 5) h0 hv1) h0 rfl (Nat.le_of_ble_eq_true rfl) rfl ?_
        refine ja_bind hf (fun v2 hv2 hf => ?_)
        refine ja_callSi (pc := 109) (idx := 154) (as := [.int v1.1]) (st := []) (by decide +kernel) ks_SheetParser_isLetter lk_SheetParser_154 ⟨by decide, by decide⟩ (c_SheetParser_isLetter _ _ v1.1  hv2) rfl (Nat.le_of_ble_eq_true rfl) rfl ?_
        refine ja_if_ne (pc := 112) (off := 21) 133 (by decide +kernel) (by decide) hf (fun hf => ?_) (fun hf => ?_)
        · exact w_SheetParser_step_B133 C ih x0 x1 x2 v2.2 h0 hf
        · exact w_SheetParser_step_B115 C ih x0 x1 x2 v2.2 h0 hf
def f_SheetParser_step_B45  (x0 : Nat) (sg : ja_S) : Option (ja_S) := (f_SheetParser_byteAt x0 (sg.1 x0 4) sg).bind fun v1 => (f_SheetParser_isLetter v1.1 v1.2).bind fun v2 => (f_SheetParser_byteAt x0 (v2.2.1 x0 4) v2.2).bind fun v3 => (f_SheetParser_isDigit v3.1 v3.2).bind fun v4 => (ja_pu v4.2 x0 5 (if (v4.2.1 x0 3) < ((v4.2.1 x0 4) + (1 : Int32)) then v4.2.1 x0 3 else (v4.2.1 x0 4) + (1 : Int32))).bind fun s5 => f_SheetParser_step_L86  ja_FU x0 v2.1 v4.1 s5
set_option maxRecDepth 4000 in
theorem w_SheetParser_step_B45 (C : ja_C) {w : ja_S}    (x0 : Nat) (sg : ja_S) (h0 : ja_ob ja_L0 6 x0) (hf : f_SheetParser_step_B45  x0 sg = some w) : ja_J M_SheetParser_step C 45 [(0, .ref x0)] [] ja_L0 sg (none, ja_L0, w) := by
  unfold f_SheetParser_step_B45 at hf
  refine ja_aload_n (pc := 45) (f := 0) (i := 0) 0 (by decide +kernel) rfl rfl ?_
  refine ja_aload_n (pc := 46) (f := 0) (i := 0) 0 (by decide +kernel) rfl rfl ?_
  refine ja_geti (pc := 47) (idx := 28) (t := 6) (j := 4) (by decide +kernel) fd_SheetParser_28 h0 ?_
  refine ja_bind hf (fun v1 hv1 hf => ?_)
  refine ja_callVi (pc := 50) (idx := 75) (t := 6) (b := x0) (as := [.int (sg.1 x0 4)]) (st := []) (by decide +kernel) kv_SheetParser_byteAt lk_SheetParser_75 ⟨by decide, by decide⟩ (c_SheetParser_byteAt _ _ x0 (sg.1 x0 4) h0 hv1) h0 rfl (Nat.le_of_ble_eq_true rfl) rfl ?_
  refine ja_bind hf (fun v2 hv2 hf => ?_)
  refine ja_callSi (pc := 53) (idx := 154) (as := [.int v1.1]) (st := []) (by decide +kernel) ks_SheetParser_isLetter lk_SheetParser_154 ⟨by decide, by decide⟩ (c_SheetParser_isLetter _ _ v1.1  hv2) rfl (Nat.le_of_ble_eq_true rfl) rfl ?_
  refine ja_istore_n (pc := 56) (f := 1) (i := 1) (lv' := [(1, .int v2.1), (0, .ref x0)]) (by decide +kernel) rfl (by decide) rfl ?_
  refine ja_aload_n (pc := 57) (f := 0) (i := 0) 1 (by decide +kernel) rfl rfl ?_
  refine ja_aload_n (pc := 58) (f := 0) (i := 0) 1 (by decide +kernel) rfl rfl ?_
  refine ja_geti (pc := 59) (idx := 28) (t := 6) (j := 4) (by decide +kernel) fd_SheetParser_28 h0 ?_
  refine ja_bind hf (fun v3 hv3 hf => ?_)
  refine ja_callVi (pc := 62) (idx := 75) (t := 6) (b := x0) (as := [.int (v2.2.1 x0 4)]) (st := []) (by decide +kernel) kv_SheetParser_byteAt lk_SheetParser_75 ⟨by decide, by decide⟩ (c_SheetParser_byteAt _ _ x0 (v2.2.1 x0 4) h0 hv3) h0 rfl (Nat.le_of_ble_eq_true rfl) rfl ?_
  refine ja_bind hf (fun v4 hv4 hf => ?_)
  refine ja_callSi (pc := 65) (idx := 79) (as := [.int v3.1]) (st := []) (by decide +kernel) ks_SheetParser_isDigit lk_SheetParser_79 ⟨by decide, by decide⟩ (c_SheetParser_isDigit _ _ v3.1  hv4) rfl (Nat.le_of_ble_eq_true rfl) rfl ?_
  refine ja_istore_n (pc := 68) (f := 2) (i := 2) (lv' := [(2, .int v4.1), (1, .int v2.1), (0, .ref x0)]) (by decide +kernel) rfl (by decide) rfl ?_
  refine ja_aload_n (pc := 69) (f := 0) (i := 0) 2 (by decide +kernel) rfl rfl ?_
  refine ja_aload_n (pc := 70) (f := 0) (i := 0) 2 (by decide +kernel) rfl rfl ?_
  refine ja_geti (pc := 71) (idx := 28) (t := 6) (j := 4) (by decide +kernel) fd_SheetParser_28 h0 ?_
  refine ja_iconst (pc := 74) (n := 1) (v := 1) (by decide +kernel) (by decide +kernel) ?_
  refine ja_iadd (pc := 75) (by decide +kernel) ?_
  refine ja_aload_n (pc := 76) (f := 0) (i := 0) 2 (by decide +kernel) rfl rfl ?_
  refine ja_geti (pc := 77) (idx := 25) (t := 6) (j := 3) (by decide +kernel) fd_SheetParser_25 h0 ?_
  refine ja_min (pc := 80) (idx := 34) (by decide +kernel) km_SheetParser_34 ⟨by decide, by decide⟩ (Nat.le_of_ble_eq_true rfl) ?_
  refine ja_bind hf (fun s5 hs5 hf => ?_)
  refine ja_puti2 (pc := 83) (idx := 31) (t := 6) (j := 5) (by decide +kernel) fd_SheetParser_31 h0 ⟨rfl, rfl⟩ hs5 ?_
  refine ja_lv [2, 1, 0] rfl ?_
  exact w_SheetParser_step_L86 C  ja_FU x0 v2.1 v4.1 s5 h0 hf
def f_SheetParser_step_L8  : Nat → Nat → ja_S → Option (ja_S)
  | 0, _, _ => none
  | n + 1, x0, sg => (if (sg.1 x0 3) ≤ (sg.1 x0 4) then f_SheetParser_step_B45  x0 sg else (f_SheetParser_byteAt x0 (sg.1 x0 4) sg).bind fun v1 => (if v1.1 = (32 : Int32) then (ja_pu v1.2 x0 4 ((v1.2.1 x0 4) + (1 : Int32))).bind fun s2 => f_SheetParser_step_L8  n x0 s2 else f_SheetParser_step_B45  x0 v1.2))
set_option maxRecDepth 4000 in
theorem w_SheetParser_step_L8 (C : ja_C) {w : ja_S}    (n : Nat) : ∀ (x0 : Nat) (sg : ja_S), ja_ob ja_L0 6 x0 → f_SheetParser_step_L8  n x0 sg = some w → ja_J M_SheetParser_step C 8 [(0, .ref x0)] [] ja_L0 sg (none, ja_L0, w) := by
  induction n with
  | zero => intro _ _ _ hf; exact absurd (show (none : Option _) = some w from hf) (by simp)
  | succ n ih =>
    intro x0 sg h0 hf
    unfold f_SheetParser_step_L8 at hf
    refine ja_aload_n (pc := 8) (f := 0) (i := 0) 0 (by decide +kernel) rfl rfl ?_
    refine ja_geti (pc := 9) (idx := 28) (t := 6) (j := 4) (by decide +kernel) fd_SheetParser_28 h0 ?_
    refine ja_aload_n (pc := 12) (f := 0) (i := 0) 0 (by decide +kernel) rfl rfl ?_
    refine ja_geti (pc := 13) (idx := 25) (t := 6) (j := 3) (by decide +kernel) fd_SheetParser_25 h0 ?_
    refine ja_icmp_ge (pc := 16) (off := 29) 45 (by decide +kernel) (by decide) hf (fun hf => ?_) (fun hf => ?_)
    · exact w_SheetParser_step_B45 C  x0 sg h0 hf
    · refine ja_aload_n (pc := 19) (f := 0) (i := 0) 0 (by decide +kernel) rfl rfl ?_
      refine ja_aload_n (pc := 20) (f := 0) (i := 0) 0 (by decide +kernel) rfl rfl ?_
      refine ja_geti (pc := 21) (idx := 28) (t := 6) (j := 4) (by decide +kernel) fd_SheetParser_28 h0 ?_
      refine ja_bind hf (fun v1 hv1 hf => ?_)
      refine ja_callVi (pc := 24) (idx := 75) (t := 6) (b := x0) (as := [.int (sg.1 x0 4)]) (st := []) (by decide +kernel) kv_SheetParser_byteAt lk_SheetParser_75 ⟨by decide, by decide⟩ (c_SheetParser_byteAt _ _ x0 (sg.1 x0 4) h0 hv1) h0 rfl (Nat.le_of_ble_eq_true rfl) rfl ?_
      refine ja_bipush (pc := 27) (n := 32) (v := 32) (by decide +kernel) (by decide +kernel) ?_
      refine ja_icmp_ne (pc := 29) (off := 16) 45 (by decide +kernel) (by decide) hf (fun hf => ?_) (fun hf => ?_)
      · exact w_SheetParser_step_B45 C  x0 v1.2 h0 hf
      · refine ja_aload_n (pc := 32) (f := 0) (i := 0) 0 (by decide +kernel) rfl rfl ?_
        refine ja_dup (pc := 33) (by decide +kernel) rfl ?_
        refine ja_geti (pc := 34) (idx := 28) (t := 6) (j := 4) (by decide +kernel) fd_SheetParser_28 h0 ?_
        refine ja_iconst (pc := 37) (n := 1) (v := 1) (by decide +kernel) (by decide +kernel) ?_
        refine ja_iadd (pc := 38) (by decide +kernel) ?_
        refine ja_bind hf (fun s2 hs2 hf => ?_)
        refine ja_puti2 (pc := 39) (idx := 28) (t := 6) (j := 4) (by decide +kernel) fd_SheetParser_28 h0 ⟨rfl, rfl⟩ hs2 ?_
        refine ja_goto (pc := 42) (off := (-34)) 8 (by decide +kernel) (by decide) ?_
        exact ih x0 s2 h0 hf
def f_SheetParser_step (x0 : Nat) (sg : ja_S) : Option (ja_S) := (ja_pu sg x0 4 (sg.1 x0 5)).bind fun s1 => f_SheetParser_step_L8  ja_FU x0 s1
set_option maxRecDepth 4000 in
theorem c_SheetParser_step (l : Launch) (x : ja_X) (x0 : Nat) {sg : ja_S} {w : ja_S} (h0 : ja_ob ja_L0 6 x0) (hf : f_SheetParser_step x0 sg = some w) : ja_Ct l x y_SheetParser_step M_SheetParser_step [.ref x0] ja_L0 sg (none, ja_L0, w) := by
  refine ja_mk ⟨by decide, rfl, rfl⟩ (Nat.le_of_ble_eq_true rfl) (lv := [(0, .ref x0)]) rfl (fun C hl hx _ _ _ _ => ?_)
  subst hl; subst hx
  unfold f_SheetParser_step at hf
  refine ja_aload_n (pc := 0) (f := 0) (i := 0) 0 (by decide +kernel) rfl rfl ?_
  refine ja_aload_n (pc := 1) (f := 0) (i := 0) 0 (by decide +kernel) rfl rfl ?_
  refine ja_geti (pc := 2) (idx := 31) (t := 6) (j := 5) (by decide +kernel) fd_SheetParser_31 h0 ?_
  refine ja_bind hf (fun s1 hs1 hf => ?_)
  refine ja_puti2 (pc := 5) (idx := 28) (t := 6) (j := 4) (by decide +kernel) fd_SheetParser_28 h0 ⟨rfl, rfl⟩ hs1 ?_
  exact w_SheetParser_step_L8 C  ja_FU x0 s1 h0 hf
def f_SheetParser_fail (x0 : Nat) (x1 : Int32) (sg : ja_S) : Option (Int32 × ja_S) := (ja_pu sg x0 0 x1).bind fun s1 => (ja_pu s1 x0 1 (s1.1 x0 4)).bind fun s2 => some ((0 : Int32), s2)
set_option maxRecDepth 4000 in
theorem c_SheetParser_fail (l : Launch) (x : ja_X) (x0 : Nat) (x1 : Int32) {sg : ja_S} {w : Int32 × ja_S} (h0 : ja_ob ja_L0 6 x0) (hf : f_SheetParser_fail x0 x1 sg = some w) : ja_Ct l x y_SheetParser_fail M_SheetParser_fail [.ref x0, .int x1] ja_L0 sg (some (.int w.1), ja_L0, w.2) := by
  refine ja_mk ⟨by decide, rfl, rfl⟩ (Nat.le_of_ble_eq_true rfl) (lv := [(0, .ref x0), (1, .int x1)]) rfl (fun C hl hx _ _ _ _ => ?_)
  subst hl; subst hx
  unfold f_SheetParser_fail at hf
  refine ja_aload_n (pc := 0) (f := 0) (i := 0) 0 (by decide +kernel) rfl rfl ?_
  refine ja_iload_n (pc := 1) (f := 1) (i := 1) 1 (by decide +kernel) rfl rfl ?_
  refine ja_bind hf (fun s1 hs1 hf => ?_)
  refine ja_puti2 (pc := 2) (idx := 15) (t := 6) (j := 0) (by decide +kernel) fd_SheetParser_15 h0 ⟨rfl, rfl⟩ hs1 ?_
  refine ja_aload_n (pc := 5) (f := 0) (i := 0) 0 (by decide +kernel) rfl rfl ?_
  refine ja_aload_n (pc := 6) (f := 0) (i := 0) 0 (by decide +kernel) rfl rfl ?_
  refine ja_geti (pc := 7) (idx := 28) (t := 6) (j := 4) (by decide +kernel) fd_SheetParser_28 h0 ?_
  refine ja_bind hf (fun s2 hs2 hf => ?_)
  refine ja_puti2 (pc := 10) (idx := 18) (t := 6) (j := 1) (by decide +kernel) fd_SheetParser_18 h0 ⟨rfl, rfl⟩ hs2 ?_
  refine ja_iconst (pc := 13) (n := 0) (v := 0) (by decide +kernel) (by decide +kernel) ?_
  exact ja_ret (pc := 14) (some (.int (0 : Int32))) .ireturn (by decide +kernel) rfl (by cases hf; rfl)
def f_SheetParser_numberHere_B94  (x0 : Nat) (sg : ja_S) : Option (Int32 × ja_S) := (f_SheetParser_fail x0 (2 : Int32) sg).bind fun v1 => some ((-1 : Int32), v1.2)
set_option maxRecDepth 4000 in
theorem w_SheetParser_numberHere_B94 (C : ja_C) {w : Int32 × ja_S}    (x0 : Nat) (sg : ja_S) (h0 : ja_ob ja_L0 6 x0) (hf : f_SheetParser_numberHere_B94  x0 sg = some w) : ja_J M_SheetParser_numberHere C 94 [(0, .ref x0)] [] ja_L0 sg (some (.int w.1), ja_L0, w.2) := by
  unfold f_SheetParser_numberHere_B94 at hf
  refine ja_aload_n (pc := 94) (f := 0) (i := 0) 0 (by decide +kernel) rfl rfl ?_
  refine ja_iconst (pc := 95) (n := 2) (v := 2) (by decide +kernel) (by decide +kernel) ?_
  refine ja_bind hf (fun v1 hv1 hf => ?_)
  refine ja_callVi (pc := 96) (idx := 60) (t := 6) (b := x0) (as := [.int (2 : Int32)]) (st := []) (by decide +kernel) kv_SheetParser_fail lk_SheetParser_60 ⟨by decide, by decide⟩ (c_SheetParser_fail _ _ x0 (2 : Int32) h0 hv1) h0 rfl (Nat.le_of_ble_eq_true rfl) rfl ?_
  refine ja_pop (pc := 99) (by decide +kernel) rfl ?_
  refine ja_iconst (pc := 100) (n := (-1)) (v := (-1)) (by decide +kernel) (by decide +kernel) ?_
  exact ja_ret (pc := 101) (some (.int (-1 : Int32))) .ireturn (by decide +kernel) rfl (by cases hf; rfl)
def f_SheetParser_numberHere_B71  (x0 : Nat) (x1 : Int32) (x2 : Int32) (x3 : Int32) (sg : ja_S) : Option (Int32 × ja_S) := (if (4 : Int32) < ((sg.1 x0 5) - (sg.1 x0 4)) then f_SheetParser_numberHere_B94  x0 sg else (if x3 < x1 then f_SheetParser_numberHere_B94  x0 sg else (if x3 ≤ x2 then some (x3, sg) else f_SheetParser_numberHere_B94  x0 sg)))
set_option maxRecDepth 4000 in
theorem w_SheetParser_numberHere_B71 (C : ja_C) {w : Int32 × ja_S}    (x0 : Nat) (x1 : Int32) (x2 : Int32) (x3 : Int32) (sg : ja_S) (h0 : ja_ob ja_L0 6 x0) (hf : f_SheetParser_numberHere_B71  x0 x1 x2 x3 sg = some w) : ja_J M_SheetParser_numberHere C 71 [(0, .ref x0), (1, .int x1), (2, .int x2), (3, .int x3)] [] ja_L0 sg (some (.int w.1), ja_L0, w.2) := by
  unfold f_SheetParser_numberHere_B71 at hf
  refine ja_aload_n (pc := 71) (f := 0) (i := 0) 0 (by decide +kernel) rfl rfl ?_
  refine ja_geti (pc := 72) (idx := 31) (t := 6) (j := 5) (by decide +kernel) fd_SheetParser_31 h0 ?_
  refine ja_aload_n (pc := 75) (f := 0) (i := 0) 0 (by decide +kernel) rfl rfl ?_
  refine ja_geti (pc := 76) (idx := 28) (t := 6) (j := 4) (by decide +kernel) fd_SheetParser_28 h0 ?_
  refine ja_isub (pc := 79) (by decide +kernel) ?_
  refine ja_iconst (pc := 80) (n := 4) (v := 4) (by decide +kernel) (by decide +kernel) ?_
  refine ja_icmp_gt (pc := 81) (off := 13) 94 (by decide +kernel) (by decide) hf (fun hf => ?_) (fun hf => ?_)
  · refine ja_lv [0] rfl ?_
    exact w_SheetParser_numberHere_B94 C  x0 sg h0 hf
  · refine ja_iload_n (pc := 84) (f := 3) (i := 3) 3 (by decide +kernel) rfl rfl ?_
    refine ja_iload_n (pc := 85) (f := 1) (i := 1) 1 (by decide +kernel) rfl rfl ?_
    refine ja_icmp_lt (pc := 86) (off := 8) 94 (by decide +kernel) (by decide) hf (fun hf => ?_) (fun hf => ?_)
    · refine ja_lv [0] rfl ?_
      exact w_SheetParser_numberHere_B94 C  x0 sg h0 hf
    · refine ja_iload_n (pc := 89) (f := 3) (i := 3) 3 (by decide +kernel) rfl rfl ?_
      refine ja_iload_n (pc := 90) (f := 2) (i := 2) 2 (by decide +kernel) rfl rfl ?_
      refine ja_icmp_le (pc := 91) (off := 11) 102 (by decide +kernel) (by decide) hf (fun hf => ?_) (fun hf => ?_)
      · refine ja_iload_n (pc := 102) (f := 3) (i := 3) 3 (by decide +kernel) rfl rfl ?_
        exact ja_ret (pc := 103) (some (.int x3)) .ireturn (by decide +kernel) rfl (by cases hf; rfl)
      · refine ja_lv [0] rfl ?_
        exact w_SheetParser_numberHere_B94 C  x0 sg h0 hf
def f_SheetParser_numberHere_L30  : Nat → Nat → Int32 → Int32 → Int32 → Int32 → ja_S → Option (Int32 × ja_S)
  | 0, _, _, _, _, _, _ => none
  | n + 1, x0, x1, x2, x3, x4, sg => (if (sg.1 x0 5) ≤ x4 then f_SheetParser_numberHere_B71  x0 x1 x2 x3 sg else (if ((sg.1 x0 4) + (4 : Int32)) ≤ x4 then f_SheetParser_numberHere_B71  x0 x1 x2 x3 sg else (f_SheetParser_byteAt x0 x4 sg).bind fun v1 => f_SheetParser_numberHere_L30  n x0 x1 x2 ((((10 : Int32) * x3) + v1.1) - (48 : Int32)) (x4 + 1) v1.2))
set_option maxRecDepth 4000 in
theorem w_SheetParser_numberHere_L30 (C : ja_C) {w : Int32 × ja_S}    (n : Nat) : ∀ (x0 : Nat) (x1 : Int32) (x2 : Int32) (x3 : Int32) (x4 : Int32) (sg : ja_S), ja_ob ja_L0 6 x0 → f_SheetParser_numberHere_L30  n x0 x1 x2 x3 x4 sg = some w → ja_J M_SheetParser_numberHere C 30 [(0, .ref x0), (1, .int x1), (2, .int x2), (3, .int x3), (4, .int x4)] [] ja_L0 sg (some (.int w.1), ja_L0, w.2) := by
  induction n with
  | zero => intro _ _ _ _ _ _ _ hf; exact absurd (show (none : Option _) = some w from hf) (by simp)
  | succ n ih =>
    intro x0 x1 x2 x3 x4 sg h0 hf
    unfold f_SheetParser_numberHere_L30 at hf
    refine ja_iload (pc := 30) (i := 4) 4 (by decide +kernel) rfl ?_
    refine ja_aload_n (pc := 32) (f := 0) (i := 0) 0 (by decide +kernel) rfl rfl ?_
    refine ja_geti (pc := 33) (idx := 31) (t := 6) (j := 5) (by decide +kernel) fd_SheetParser_31 h0 ?_
    refine ja_icmp_ge (pc := 36) (off := 35) 71 (by decide +kernel) (by decide) hf (fun hf => ?_) (fun hf => ?_)
    · refine ja_lv [0, 1, 2, 3] rfl ?_
      exact w_SheetParser_numberHere_B71 C  x0 x1 x2 x3 sg h0 hf
    · refine ja_iload (pc := 39) (i := 4) 4 (by decide +kernel) rfl ?_
      refine ja_aload_n (pc := 41) (f := 0) (i := 0) 0 (by decide +kernel) rfl rfl ?_
      refine ja_geti (pc := 42) (idx := 28) (t := 6) (j := 4) (by decide +kernel) fd_SheetParser_28 h0 ?_
      refine ja_iconst (pc := 45) (n := 4) (v := 4) (by decide +kernel) (by decide +kernel) ?_
      refine ja_iadd (pc := 46) (by decide +kernel) ?_
      refine ja_icmp_ge (pc := 47) (off := 24) 71 (by decide +kernel) (by decide) hf (fun hf => ?_) (fun hf => ?_)
      · refine ja_lv [0, 1, 2, 3] rfl ?_
        exact w_SheetParser_numberHere_B71 C  x0 x1 x2 x3 sg h0 hf
      · refine ja_bipush (pc := 50) (n := 10) (v := 10) (by decide +kernel) (by decide +kernel) ?_
        refine ja_iload_n (pc := 52) (f := 3) (i := 3) 3 (by decide +kernel) rfl rfl ?_
        refine ja_imul (pc := 53) (by decide +kernel) ?_
        refine ja_aload_n (pc := 54) (f := 0) (i := 0) 0 (by decide +kernel) rfl rfl ?_
        refine ja_iload (pc := 55) (i := 4) 4 (by decide +kernel) rfl ?_
        refine ja_bind hf (fun v1 hv1 hf => ?_)
        refine ja_callVi (pc := 57) (idx := 75) (t := 6) (b := x0) (as := [.int x4]) (st := [.int ((10 : Int32) * x3)]) (by decide +kernel) kv_SheetParser_byteAt lk_SheetParser_75 ⟨by decide, by decide⟩ (c_SheetParser_byteAt _ _ x0 x4 h0 hv1) h0 rfl (Nat.le_of_ble_eq_true rfl) rfl ?_
        refine ja_iadd (pc := 60) (by decide +kernel) ?_
        refine ja_bipush (pc := 61) (n := 48) (v := 48) (by decide +kernel) (by decide +kernel) ?_
        refine ja_isub (pc := 63) (by decide +kernel) ?_
        refine ja_istore_n (pc := 64) (f := 3) (i := 3) (lv' := [(3, .int ((((10 : Int32) * x3) + v1.1) - (48 : Int32))), (0, .ref x0), (1, .int x1), (2, .int x2), (4, .int x4)]) (by decide +kernel) rfl (by decide) rfl ?_
        refine ja_iinc (pc := 65) (i := 4) (n := 1) (v := x4 + 1) (lv' := [(4, .int (x4 + 1)), (3, .int ((((10 : Int32) * x3) + v1.1) - (48 : Int32))), (0, .ref x0), (1, .int x1), (2, .int x2)]) 4 (by decide +kernel) rfl rfl (by decide) rfl ?_
        refine ja_goto (pc := 68) (off := (-38)) 30 (by decide +kernel) (by decide) ?_
        refine ja_lv [2, 3, 4, 1, 0] rfl ?_
        exact ih x0 x1 x2 ((((10 : Int32) * x3) + v1.1) - (48 : Int32)) (x4 + 1) v1.2 h0 hf
def f_SheetParser_numberHere (x0 : Nat) (x1 : Int32) (x2 : Int32) (sg : ja_S) : Option (Int32 × ja_S) := (f_SheetParser_byteAt x0 (sg.1 x0 4) sg).bind fun v1 => (f_SheetParser_isDigit v1.1 v1.2).bind fun v2 => (if v2.1 = 0 then (f_SheetParser_fail x0 (1 : Int32) v2.2).bind fun v3 => some ((-1 : Int32), v3.2) else f_SheetParser_numberHere_L30  ja_FU x0 x1 x2 (0 : Int32) (v2.2.1 x0 4) v2.2)
set_option maxRecDepth 4000 in
theorem c_SheetParser_numberHere (l : Launch) (x : ja_X) (x0 : Nat) (x1 : Int32) (x2 : Int32) {sg : ja_S} {w : Int32 × ja_S} (h0 : ja_ob ja_L0 6 x0) (hf : f_SheetParser_numberHere x0 x1 x2 sg = some w) : ja_Ct l x y_SheetParser_numberHere M_SheetParser_numberHere [.ref x0, .int x1, .int x2] ja_L0 sg (some (.int w.1), ja_L0, w.2) := by
  refine ja_mk ⟨by decide, rfl, rfl⟩ (Nat.le_of_ble_eq_true rfl) (lv := [(0, .ref x0), (1, .int x1), (2, .int x2)]) rfl (fun C hl hx _ _ _ _ => ?_)
  subst hl; subst hx
  unfold f_SheetParser_numberHere at hf
  refine ja_aload_n (pc := 0) (f := 0) (i := 0) 0 (by decide +kernel) rfl rfl ?_
  refine ja_aload_n (pc := 1) (f := 0) (i := 0) 0 (by decide +kernel) rfl rfl ?_
  refine ja_geti (pc := 2) (idx := 28) (t := 6) (j := 4) (by decide +kernel) fd_SheetParser_28 h0 ?_
  refine ja_bind hf (fun v1 hv1 hf => ?_)
  refine ja_callVi (pc := 5) (idx := 75) (t := 6) (b := x0) (as := [.int (sg.1 x0 4)]) (st := []) (by decide +kernel) kv_SheetParser_byteAt lk_SheetParser_75 ⟨by decide, by decide⟩ (c_SheetParser_byteAt _ _ x0 (sg.1 x0 4) h0 hv1) h0 rfl (Nat.le_of_ble_eq_true rfl) rfl ?_
  refine ja_bind hf (fun v2 hv2 hf => ?_)
  refine ja_callSi (pc := 8) (idx := 79) (as := [.int v1.1]) (st := []) (by decide +kernel) ks_SheetParser_isDigit lk_SheetParser_79 ⟨by decide, by decide⟩ (c_SheetParser_isDigit _ _ v1.1  hv2) rfl (Nat.le_of_ble_eq_true rfl) rfl ?_
  refine ja_if_ne (pc := 11) (off := 11) 22 (by decide +kernel) (by decide) hf (fun hf => ?_) (fun hf => ?_)
  · refine ja_iconst (pc := 22) (n := 0) (v := 0) (by decide +kernel) (by decide +kernel) ?_
    refine ja_istore_n (pc := 23) (f := 3) (i := 3) (lv' := [(3, .int (0 : Int32)), (0, .ref x0), (1, .int x1), (2, .int x2)]) (by decide +kernel) rfl (by decide) rfl ?_
    refine ja_aload_n (pc := 24) (f := 0) (i := 0) 1 (by decide +kernel) rfl rfl ?_
    refine ja_geti (pc := 25) (idx := 28) (t := 6) (j := 4) (by decide +kernel) fd_SheetParser_28 h0 ?_
    refine ja_istore (pc := 28) (i := 4) (lv' := [(4, .int (v2.2.1 x0 4)), (3, .int (0 : Int32)), (0, .ref x0), (1, .int x1), (2, .int x2)]) (by decide +kernel) (by decide) rfl ?_
    refine ja_lv [2, 3, 4, 1, 0] rfl ?_
    exact w_SheetParser_numberHere_L30 C  ja_FU x0 x1 x2 (0 : Int32) (v2.2.1 x0 4) v2.2 h0 hf
  · refine ja_aload_n (pc := 14) (f := 0) (i := 0) 0 (by decide +kernel) rfl rfl ?_
    refine ja_iconst (pc := 15) (n := 1) (v := 1) (by decide +kernel) (by decide +kernel) ?_
    refine ja_bind hf (fun v3 hv3 hf => ?_)
    refine ja_callVi (pc := 16) (idx := 60) (t := 6) (b := x0) (as := [.int (1 : Int32)]) (st := []) (by decide +kernel) kv_SheetParser_fail lk_SheetParser_60 ⟨by decide, by decide⟩ (c_SheetParser_fail _ _ x0 (1 : Int32) h0 hv3) h0 rfl (Nat.le_of_ble_eq_true rfl) rfl ?_
    refine ja_pop (pc := 19) (by decide +kernel) rfl ?_
    refine ja_iconst (pc := 20) (n := (-1)) (v := (-1)) (by decide +kernel) (by decide +kernel) ?_
    exact ja_ret (pc := 21) (some (.int (-1 : Int32))) .ireturn (by decide +kernel) rfl (by cases hf; rfl)
def f_Sheet_wipe (x0 : Nat) (x1 : Int32) (sg : ja_S) : Option (ja_S) := (ja_pu sg x0 0 x1).bind fun s1 => (ja_pu s1 x0 1 (0 : Int32)).bind fun s2 => (ja_pu s2 x0 3 (0 : Int32)).bind fun s3 => (ja_pu s3 x0 5 (0 : Int32)).bind fun s4 => (ja_pu s4 x0 8 (0 : Int32)).bind fun s5 => some s5
set_option maxRecDepth 4000 in
theorem c_Sheet_wipe (l : Launch) (x : ja_X) (x0 : Nat) (x1 : Int32) {sg : ja_S} {w : ja_S} (h0 : ja_ob ja_L0 5 x0) (hf : f_Sheet_wipe x0 x1 sg = some w) : ja_Ct l x y_Sheet_wipe M_Sheet_wipe [.ref x0, .int x1] ja_L0 sg (none, ja_L0, w) := by
  refine ja_mk ⟨by decide, rfl, rfl⟩ (Nat.le_of_ble_eq_true rfl) (lv := [(0, .ref x0), (1, .int x1)]) rfl (fun C hl hx _ _ _ _ => ?_)
  subst hl; subst hx
  unfold f_Sheet_wipe at hf
  refine ja_aload_n (pc := 0) (f := 0) (i := 0) 0 (by decide +kernel) rfl rfl ?_
  refine ja_iload_n (pc := 1) (f := 1) (i := 1) 1 (by decide +kernel) rfl rfl ?_
  refine ja_bind hf (fun s1 hs1 hf => ?_)
  refine ja_puti2 (pc := 2) (idx := 9) (t := 5) (j := 0) (by decide +kernel) fd_Sheet_9 h0 ⟨rfl, rfl⟩ hs1 ?_
  refine ja_aload_n (pc := 5) (f := 0) (i := 0) 0 (by decide +kernel) rfl rfl ?_
  refine ja_iconst (pc := 6) (n := 0) (v := 0) (by decide +kernel) (by decide +kernel) ?_
  refine ja_bind hf (fun s2 hs2 hf => ?_)
  refine ja_puti2 (pc := 7) (idx := 15) (t := 5) (j := 1) (by decide +kernel) fd_Sheet_15 h0 ⟨rfl, rfl⟩ hs2 ?_
  refine ja_aload_n (pc := 10) (f := 0) (i := 0) 0 (by decide +kernel) rfl rfl ?_
  refine ja_iconst (pc := 11) (n := 0) (v := 0) (by decide +kernel) (by decide +kernel) ?_
  refine ja_bind hf (fun s3 hs3 hf => ?_)
  refine ja_puti2 (pc := 12) (idx := 22) (t := 5) (j := 3) (by decide +kernel) fd_Sheet_22 h0 ⟨rfl, rfl⟩ hs3 ?_
  refine ja_aload_n (pc := 15) (f := 0) (i := 0) 0 (by decide +kernel) rfl rfl ?_
  refine ja_iconst (pc := 16) (n := 0) (v := 0) (by decide +kernel) (by decide +kernel) ?_
  refine ja_bind hf (fun s4 hs4 hf => ?_)
  refine ja_puti2 (pc := 17) (idx := 28) (t := 5) (j := 5) (by decide +kernel) fd_Sheet_28 h0 ⟨rfl, rfl⟩ hs4 ?_
  refine ja_aload_n (pc := 20) (f := 0) (i := 0) 0 (by decide +kernel) rfl rfl ?_
  refine ja_iconst (pc := 21) (n := 0) (v := 0) (by decide +kernel) (by decide +kernel) ?_
  refine ja_bind hf (fun s5 hs5 hf => ?_)
  refine ja_puti2 (pc := 22) (idx := 37) (t := 5) (j := 8) (by decide +kernel) fd_Sheet_37 h0 ⟨rfl, rfl⟩ hs5 ?_
  exact ja_ret (pc := 25) none .return_ (by decide +kernel) rfl (by cases hf; rfl)
def f_Rule_pack (x0 : Int32) (x1 : Int32) (x2 : Int32) (x3 : Int32) (sg : ja_S) : Option (Int32 × ja_S) := some ((((x0 <<< ((16 : Int32) &&& 31)) ||| (x1 <<< ((12 : Int32) &&& 31))) ||| (x2 <<< ((8 : Int32) &&& 31))) ||| (x3 + (1 : Int32)), sg)
set_option maxRecDepth 4000 in
theorem c_Rule_pack (l : Launch) (x : ja_X) (x0 : Int32) (x1 : Int32) (x2 : Int32) (x3 : Int32) {sg : ja_S} {w : Int32 × ja_S}  (hf : f_Rule_pack x0 x1 x2 x3 sg = some w) : ja_Ct l x y_Rule_pack M_Rule_pack [.int x0, .int x1, .int x2, .int x3] ja_L0 sg (some (.int w.1), ja_L0, w.2) := by
  refine ja_mk ⟨by decide, rfl, rfl⟩ (Nat.le_of_ble_eq_true rfl) (lv := [(0, .int x0), (1, .int x1), (2, .int x2), (3, .int x3)]) rfl (fun C hl hx _ _ _ _ => ?_)
  subst hl; subst hx
  unfold f_Rule_pack at hf
  refine ja_iload_n (pc := 0) (f := 0) (i := 0) 0 (by decide +kernel) rfl rfl ?_
  refine ja_bipush (pc := 1) (n := 16) (v := 16) (by decide +kernel) (by decide +kernel) ?_
  refine ja_ishl (pc := 3) (by decide +kernel) ?_
  refine ja_iload_n (pc := 4) (f := 1) (i := 1) 1 (by decide +kernel) rfl rfl ?_
  refine ja_bipush (pc := 5) (n := 12) (v := 12) (by decide +kernel) (by decide +kernel) ?_
  refine ja_ishl (pc := 7) (by decide +kernel) ?_
  refine ja_ior (pc := 8) (by decide +kernel) ?_
  refine ja_iload_n (pc := 9) (f := 2) (i := 2) 2 (by decide +kernel) rfl rfl ?_
  refine ja_bipush (pc := 10) (n := 8) (v := 8) (by decide +kernel) (by decide +kernel) ?_
  refine ja_ishl (pc := 12) (by decide +kernel) ?_
  refine ja_ior (pc := 13) (by decide +kernel) ?_
  refine ja_iload_n (pc := 14) (f := 3) (i := 3) 3 (by decide +kernel) rfl rfl ?_
  refine ja_iconst (pc := 15) (n := 1) (v := 1) (by decide +kernel) (by decide +kernel) ?_
  refine ja_iadd (pc := 16) (by decide +kernel) ?_
  refine ja_ior (pc := 17) (by decide +kernel) ?_
  exact ja_ret (pc := 18) (some (.int ((((x0 <<< ((16 : Int32) &&& 31)) ||| (x1 <<< ((12 : Int32) &&& 31))) ||| (x2 <<< ((8 : Int32) &&& 31))) ||| (x3 + (1 : Int32))))) .ireturn (by decide +kernel) rfl (by cases hf; rfl)
def f_Sheet_insertRule (x0 : Nat) (x1 : Int32) (x2 : Int32) (sg : ja_S) : Option (ja_S) := (if x1 < 0 then some sg else (if (sg.1 x0 3) < x1 then some sg else (if (sg.1 x0 3) < (24 : Int32) then (ja_cpi ja_L0 sg (ja_q x0 2) x1 (ja_q x0 2) (x1 + (1 : Int32)) ((sg.1 x0 3) - x1)).bind fun s1 => (ja_st ja_L0 s1 (ja_q x0 2) x1 x2).bind fun s2 => (ja_pu s2 x0 3 ((s2.1 x0 3) + (1 : Int32))).bind fun s3 => some s3 else some sg)))
set_option maxRecDepth 4000 in
theorem c_Sheet_insertRule (l : Launch) (x : ja_X) (x0 : Nat) (x1 : Int32) (x2 : Int32) {sg : ja_S} {w : ja_S} (h0 : ja_ob ja_L0 5 x0) (hf : f_Sheet_insertRule x0 x1 x2 sg = some w) : ja_Ct l x y_Sheet_insertRule M_Sheet_insertRule [.ref x0, .int x1, .int x2] ja_L0 sg (none, ja_L0, w) := by
  refine ja_mk ⟨by decide, rfl, rfl⟩ (Nat.le_of_ble_eq_true rfl) (lv := [(0, .ref x0), (1, .int x1), (2, .int x2)]) rfl (fun C hl hx _ _ _ _ => ?_)
  subst hl; subst hx
  unfold f_Sheet_insertRule at hf
  refine ja_iload_n (pc := 0) (f := 1) (i := 1) 1 (by decide +kernel) rfl rfl ?_
  refine ja_if_lt (pc := 1) (off := 20) 21 (by decide +kernel) (by decide) hf (fun hf => ?_) (fun hf => ?_)
  · exact ja_ret (pc := 21) none .return_ (by decide +kernel) rfl (by cases hf; rfl)
  · refine ja_iload_n (pc := 4) (f := 1) (i := 1) 1 (by decide +kernel) rfl rfl ?_
    refine ja_aload_n (pc := 5) (f := 0) (i := 0) 0 (by decide +kernel) rfl rfl ?_
    refine ja_geti (pc := 6) (idx := 22) (t := 5) (j := 3) (by decide +kernel) fd_Sheet_22 h0 ?_
    refine ja_icmp_gt (pc := 9) (off := 12) 21 (by decide +kernel) (by decide) hf (fun hf => ?_) (fun hf => ?_)
    · exact ja_ret (pc := 21) none .return_ (by decide +kernel) rfl (by cases hf; rfl)
    · refine ja_aload_n (pc := 12) (f := 0) (i := 0) 0 (by decide +kernel) rfl rfl ?_
      refine ja_geti (pc := 13) (idx := 22) (t := 5) (j := 3) (by decide +kernel) fd_Sheet_22 h0 ?_
      refine ja_bipush (pc := 16) (n := 24) (v := 24) (by decide +kernel) (by decide +kernel) ?_
      refine ja_icmp_lt (pc := 18) (off := 4) 22 (by decide +kernel) (by decide) hf (fun hf => ?_) (fun hf => ?_)
      · refine ja_aload_n (pc := 22) (f := 0) (i := 0) 0 (by decide +kernel) rfl rfl ?_
        refine ja_getr (pc := 23) (idx := 18) (t := 5) (j := 2) (by decide +kernel) fd_Sheet_18 h0 (fr_5_2 h0) ?_
        refine ja_iload_n (pc := 26) (f := 1) (i := 1) 1 (by decide +kernel) rfl rfl ?_
        refine ja_aload_n (pc := 27) (f := 0) (i := 0) 0 (by decide +kernel) rfl rfl ?_
        refine ja_getr (pc := 28) (idx := 18) (t := 5) (j := 2) (by decide +kernel) fd_Sheet_18 h0 (fr_5_2 h0) ?_
        refine ja_iload_n (pc := 31) (f := 1) (i := 1) 1 (by decide +kernel) rfl rfl ?_
        refine ja_iconst (pc := 32) (n := 1) (v := 1) (by decide +kernel) (by decide +kernel) ?_
        refine ja_iadd (pc := 33) (by decide +kernel) ?_
        refine ja_aload_n (pc := 34) (f := 0) (i := 0) 0 (by decide +kernel) rfl rfl ?_
        refine ja_geti (pc := 35) (idx := 22) (t := 5) (j := 3) (by decide +kernel) fd_Sheet_22 h0 ?_
        refine ja_iload_n (pc := 38) (f := 1) (i := 1) 1 (by decide +kernel) rfl rfl ?_
        refine ja_isub (pc := 39) (by decide +kernel) ?_
        refine ja_bind hf (fun s1 hs1 hf => ?_)
        refine ja_cpyi (pc := 40) (idx := 40) (by decide +kernel) kc_Sheet_40 ⟨by decide, by decide⟩ (fk_5_2 h0) (fk_5_2 h0) (Nat.le_of_ble_eq_true rfl) hs1 ?_
        refine ja_aload_n (pc := 43) (f := 0) (i := 0) 0 (by decide +kernel) rfl rfl ?_
        refine ja_getr (pc := 44) (idx := 18) (t := 5) (j := 2) (by decide +kernel) fd_Sheet_18 h0 (fr_5_2 h0) ?_
        refine ja_iload_n (pc := 47) (f := 1) (i := 1) 1 (by decide +kernel) rfl rfl ?_
        refine ja_iload_n (pc := 48) (f := 2) (i := 2) 2 (by decide +kernel) rfl rfl ?_
        refine ja_bind hf (fun s2 hs2 hf => ?_)
        refine ja_iast (pc := 49) (by decide +kernel) (fk_5_2 h0) hs2 ?_
        refine ja_aload_n (pc := 50) (f := 0) (i := 0) 0 (by decide +kernel) rfl rfl ?_
        refine ja_dup (pc := 51) (by decide +kernel) rfl ?_
        refine ja_geti (pc := 52) (idx := 22) (t := 5) (j := 3) (by decide +kernel) fd_Sheet_22 h0 ?_
        refine ja_iconst (pc := 55) (n := 1) (v := 1) (by decide +kernel) (by decide +kernel) ?_
        refine ja_iadd (pc := 56) (by decide +kernel) ?_
        refine ja_bind hf (fun s3 hs3 hf => ?_)
        refine ja_puti2 (pc := 57) (idx := 22) (t := 5) (j := 3) (by decide +kernel) fd_Sheet_22 h0 ⟨rfl, rfl⟩ hs3 ?_
        exact ja_ret (pc := 60) none .return_ (by decide +kernel) rfl (by cases hf; rfl)
      · exact ja_ret (pc := 21) none .return_ (by decide +kernel) rfl (by cases hf; rfl)
def f_Sheet_insertRoute (x0 : Nat) (x1 : Int32) (sg : ja_S) : Option (ja_S) := (if (8 : Int32) ≤ (sg.1 x0 5) then some sg else (ja_st ja_L0 sg (ja_q x0 4) (sg.1 x0 5) x1).bind fun s1 => (ja_pu s1 x0 5 ((s1.1 x0 5) + (1 : Int32))).bind fun s2 => some s2)
set_option maxRecDepth 4000 in
theorem c_Sheet_insertRoute (l : Launch) (x : ja_X) (x0 : Nat) (x1 : Int32) {sg : ja_S} {w : ja_S} (h0 : ja_ob ja_L0 5 x0) (hf : f_Sheet_insertRoute x0 x1 sg = some w) : ja_Ct l x y_Sheet_insertRoute M_Sheet_insertRoute [.ref x0, .int x1] ja_L0 sg (none, ja_L0, w) := by
  refine ja_mk ⟨by decide, rfl, rfl⟩ (Nat.le_of_ble_eq_true rfl) (lv := [(0, .ref x0), (1, .int x1)]) rfl (fun C hl hx _ _ _ _ => ?_)
  subst hl; subst hx
  unfold f_Sheet_insertRoute at hf
  refine ja_aload_n (pc := 0) (f := 0) (i := 0) 0 (by decide +kernel) rfl rfl ?_
  refine ja_geti (pc := 1) (idx := 28) (t := 5) (j := 5) (by decide +kernel) fd_Sheet_28 h0 ?_
  refine ja_bipush (pc := 4) (n := 8) (v := 8) (by decide +kernel) (by decide +kernel) ?_
  refine ja_icmp_ge (pc := 6) (off := 23) 29 (by decide +kernel) (by decide) hf (fun hf => ?_) (fun hf => ?_)
  · exact ja_ret (pc := 29) none .return_ (by decide +kernel) rfl (by cases hf; rfl)
  · refine ja_aload_n (pc := 9) (f := 0) (i := 0) 0 (by decide +kernel) rfl rfl ?_
    refine ja_getr (pc := 10) (idx := 25) (t := 5) (j := 4) (by decide +kernel) fd_Sheet_25 h0 (fr_5_4 h0) ?_
    refine ja_aload_n (pc := 13) (f := 0) (i := 0) 0 (by decide +kernel) rfl rfl ?_
    refine ja_geti (pc := 14) (idx := 28) (t := 5) (j := 5) (by decide +kernel) fd_Sheet_28 h0 ?_
    refine ja_iload_n (pc := 17) (f := 1) (i := 1) 1 (by decide +kernel) rfl rfl ?_
    refine ja_bind hf (fun s1 hs1 hf => ?_)
    refine ja_iast (pc := 18) (by decide +kernel) (fk_5_4 h0) hs1 ?_
    refine ja_aload_n (pc := 19) (f := 0) (i := 0) 0 (by decide +kernel) rfl rfl ?_
    refine ja_dup (pc := 20) (by decide +kernel) rfl ?_
    refine ja_geti (pc := 21) (idx := 28) (t := 5) (j := 5) (by decide +kernel) fd_Sheet_28 h0 ?_
    refine ja_iconst (pc := 24) (n := 1) (v := 1) (by decide +kernel) (by decide +kernel) ?_
    refine ja_iadd (pc := 25) (by decide +kernel) ?_
    refine ja_bind hf (fun s2 hs2 hf => ?_)
    refine ja_puti2 (pc := 26) (idx := 28) (t := 5) (j := 5) (by decide +kernel) fd_Sheet_28 h0 ⟨rfl, rfl⟩ hs2 ?_
    exact ja_ret (pc := 29) none .return_ (by decide +kernel) rfl (by cases hf; rfl)
def f_SheetParser_readRoute_B86  (x1 : Nat) (x2 : Int32) (sg : ja_S) : Option (Int32 × ja_S) := (f_Sheet_insertRoute x1 x2 sg).bind fun v1 => some ((1 : Int32), v1)
set_option maxRecDepth 4000 in
theorem w_SheetParser_readRoute_B86 (C : ja_C) {w : Int32 × ja_S}    (x1 : Nat) (x2 : Int32) (sg : ja_S) (h1 : ja_ob ja_L0 5 x1) (hf : f_SheetParser_readRoute_B86  x1 x2 sg = some w) : ja_J M_SheetParser_readRoute C 86 [(1, .ref x1), (2, .int x2)] [] ja_L0 sg (some (.int w.1), ja_L0, w.2) := by
  unfold f_SheetParser_readRoute_B86 at hf
  refine ja_aload_n (pc := 86) (f := 1) (i := 1) 0 (by decide +kernel) rfl rfl ?_
  refine ja_iload_n (pc := 87) (f := 2) (i := 2) 1 (by decide +kernel) rfl rfl ?_
  refine ja_bind hf (fun v1 hv1 hf => ?_)
  refine ja_callVv (pc := 88) (idx := 136) (t := 5) (b := x1) (as := [.int x2]) (st := []) (by decide +kernel) kv_Sheet_insertRoute lk_SheetParser_136 ⟨by decide, by decide⟩ (c_Sheet_insertRoute _ _ x1 x2 h1 hv1) h1 rfl (Nat.le_of_ble_eq_true rfl) rfl ?_
  refine ja_iconst (pc := 91) (n := 1) (v := 1) (by decide +kernel) (by decide +kernel) ?_
  exact ja_ret (pc := 92) (some (.int (1 : Int32))) .ireturn (by decide +kernel) rfl (by cases hf; rfl)
def f_SheetParser_readRoute_B32 (k8 : Nat → Nat → Int32 → Int32 → ja_S → Option (Int32 × ja_S)) (x0 : Nat) (x1 : Nat) (x2 : Int32) (x3 : Int32) (sg : ja_S) : Option (Int32 × ja_S) := (f_SheetParser_numberHere x0 (0 : Int32) ((sg.1 x1 0) - (1 : Int32)) sg).bind fun v1 => (if v1.1 = (-1 : Int32) then some ((0 : Int32), v1.2) else (if ((x2 >>> (v1.1 &&& 31)) &&& (1 : Int32)) = (1 : Int32) then (f_SheetParser_fail x0 (3 : Int32) v1.2).bind fun v3 => ja_rb v3.1 v3.2 else (f_SheetParser_step x0 v1.2).bind fun v2 => k8 x0 x1 (x2 ||| ((1 : Int32) <<< (v1.1 &&& 31))) (x3 + 1) v2))
set_option maxRecDepth 4000 in
theorem w_SheetParser_readRoute_B32 (C : ja_C) {w : Int32 × ja_S} {k8 : Nat → Nat → Int32 → Int32 → ja_S → Option (Int32 × ja_S)} (e8 : ∀ (x0 : Nat) (x1 : Nat) (x2 : Int32) (x3 : Int32) (sg : ja_S), ja_ob ja_L0 6 x0 → ja_ob ja_L0 5 x1 → k8 x0 x1 x2 x3 sg = some w → ja_J M_SheetParser_readRoute C 8 [(0, .ref x0), (1, .ref x1), (2, .int x2), (3, .int x3)] [] ja_L0 sg (some (.int w.1), ja_L0, w.2))  (x0 : Nat) (x1 : Nat) (x2 : Int32) (x3 : Int32) (sg : ja_S) (h0 : ja_ob ja_L0 6 x0) (h1 : ja_ob ja_L0 5 x1) (hf : f_SheetParser_readRoute_B32 k8 x0 x1 x2 x3 sg = some w) : ja_J M_SheetParser_readRoute C 32 [(0, .ref x0), (1, .ref x1), (2, .int x2), (3, .int x3)] [] ja_L0 sg (some (.int w.1), ja_L0, w.2) := by
  unfold f_SheetParser_readRoute_B32 at hf
  refine ja_aload_n (pc := 32) (f := 0) (i := 0) 0 (by decide +kernel) rfl rfl ?_
  refine ja_iconst (pc := 33) (n := 0) (v := 0) (by decide +kernel) (by decide +kernel) ?_
  refine ja_aload_n (pc := 34) (f := 1) (i := 1) 1 (by decide +kernel) rfl rfl ?_
  refine ja_geti (pc := 35) (idx := 101) (t := 5) (j := 0) (by decide +kernel) fd_SheetParser_101 h1 ?_
  refine ja_iconst (pc := 38) (n := 1) (v := 1) (by decide +kernel) (by decide +kernel) ?_
  refine ja_isub (pc := 39) (by decide +kernel) ?_
  refine ja_bind hf (fun v1 hv1 hf => ?_)
  refine ja_callVi (pc := 40) (idx := 64) (t := 6) (b := x0) (as := [.int (0 : Int32), .int ((sg.1 x1 0) - (1 : Int32))]) (st := []) (by decide +kernel) kv_SheetParser_numberHere lk_SheetParser_64 ⟨by decide, by decide⟩ (c_SheetParser_numberHere _ _ x0 (0 : Int32) ((sg.1 x1 0) - (1 : Int32)) h0 hv1) h0 rfl (Nat.le_of_ble_eq_true rfl) rfl ?_
  refine ja_istore (pc := 43) (i := 4) (lv' := [(4, .int v1.1), (0, .ref x0), (1, .ref x1), (2, .int x2), (3, .int x3)]) (by decide +kernel) (by decide) rfl ?_
  refine ja_iload (pc := 45) (i := 4) 0 (by decide +kernel) rfl ?_
  refine ja_iconst (pc := 47) (n := (-1)) (v := (-1)) (by decide +kernel) (by decide +kernel) ?_
  refine ja_icmp_ne (pc := 48) (off := 5) 53 (by decide +kernel) (by decide) hf (fun hf => ?_) (fun hf => ?_)
  · refine ja_iload_n (pc := 53) (f := 2) (i := 2) 3 (by decide +kernel) rfl rfl ?_
    refine ja_iload (pc := 54) (i := 4) 0 (by decide +kernel) rfl ?_
    refine ja_ishr (pc := 56) (by decide +kernel) ?_
    refine ja_iconst (pc := 57) (n := 1) (v := 1) (by decide +kernel) (by decide +kernel) ?_
    refine ja_iand (pc := 58) (by decide +kernel) ?_
    refine ja_iconst (pc := 59) (n := 1) (v := 1) (by decide +kernel) (by decide +kernel) ?_
    refine ja_icmp_ne (pc := 60) (off := 9) 69 (by decide +kernel) (by decide) hf (fun hf => ?_) (fun hf => ?_)
    · refine ja_iload_n (pc := 69) (f := 2) (i := 2) 3 (by decide +kernel) rfl rfl ?_
      refine ja_iconst (pc := 70) (n := 1) (v := 1) (by decide +kernel) (by decide +kernel) ?_
      refine ja_iload (pc := 71) (i := 4) 0 (by decide +kernel) rfl ?_
      refine ja_ishl (pc := 73) (by decide +kernel) ?_
      refine ja_ior (pc := 74) (by decide +kernel) ?_
      refine ja_istore_n (pc := 75) (f := 2) (i := 2) (lv' := [(2, .int (x2 ||| ((1 : Int32) <<< (v1.1 &&& 31)))), (4, .int v1.1), (0, .ref x0), (1, .ref x1), (3, .int x3)]) (by decide +kernel) rfl (by decide) rfl ?_
      refine ja_aload_n (pc := 76) (f := 0) (i := 0) 2 (by decide +kernel) rfl rfl ?_
      refine ja_bind hf (fun v2 hv2 hf => ?_)
      refine ja_callVv (pc := 77) (idx := 40) (t := 6) (b := x0) (as := []) (st := []) (by decide +kernel) kv_SheetParser_step lk_SheetParser_40 ⟨by decide, by decide⟩ (c_SheetParser_step _ _ x0 h0 hv2) h0 rfl (Nat.le_of_ble_eq_true rfl) rfl ?_
      refine ja_iinc (pc := 80) (i := 3) (n := 1) (v := x3 + 1) (lv' := [(3, .int (x3 + 1)), (2, .int (x2 ||| ((1 : Int32) <<< (v1.1 &&& 31)))), (4, .int v1.1), (0, .ref x0), (1, .ref x1)]) 4 (by decide +kernel) rfl rfl (by decide) rfl ?_
      refine ja_goto (pc := 83) (off := (-75)) 8 (by decide +kernel) (by decide) ?_
      refine ja_lv [3, 4, 1, 0] rfl ?_
      exact e8 x0 x1 (x2 ||| ((1 : Int32) <<< (v1.1 &&& 31))) (x3 + 1) v2 h0 h1 hf
    · refine ja_aload_n (pc := 63) (f := 0) (i := 0) 1 (by decide +kernel) rfl rfl ?_
      refine ja_iconst (pc := 64) (n := 3) (v := 3) (by decide +kernel) (by decide +kernel) ?_
      refine ja_bind hf (fun v3 hv3 hf => ?_)
      refine ja_callVi (pc := 65) (idx := 60) (t := 6) (b := x0) (as := [.int (3 : Int32)]) (st := []) (by decide +kernel) kv_SheetParser_fail lk_SheetParser_60 ⟨by decide, by decide⟩ (c_SheetParser_fail _ _ x0 (3 : Int32) h0 hv3) h0 rfl (Nat.le_of_ble_eq_true rfl) rfl ?_
      obtain ⟨hrb, hw⟩ := ja_ite hf
      exact ja_ret (pc := 68) (some (.int v3.1)) .ireturn (by decide +kernel) (ja_ri_b hrb) (by cases hw; rfl)
  · refine ja_iconst (pc := 51) (n := 0) (v := 0) (by decide +kernel) (by decide +kernel) ?_
    exact ja_ret (pc := 52) (some (.int (0 : Int32))) .ireturn (by decide +kernel) rfl (by cases hf; rfl)
def f_SheetParser_readRoute_L8  : Nat → Nat → Nat → Int32 → Int32 → ja_S → Option (Int32 × ja_S)
  | 0, _, _, _, _, _ => none
  | n + 1, x0, x1, x2, x3, sg => (if (12 : Int32) < x3 then f_SheetParser_readRoute_B86  x1 x2 sg else (if x3 = 0 then f_SheetParser_readRoute_B32 (f_SheetParser_readRoute_L8  n) x0 x1 x2 x3 sg else (f_SheetParser_byteAt x0 (sg.1 x0 4) sg).bind fun v1 => (f_SheetParser_isDigit v1.1 v1.2).bind fun v2 => (if v2.1 = 0 then f_SheetParser_readRoute_B86  x1 x2 v2.2 else f_SheetParser_readRoute_B32 (f_SheetParser_readRoute_L8  n) x0 x1 x2 x3 v2.2)))
set_option maxRecDepth 4000 in
theorem w_SheetParser_readRoute_L8 (C : ja_C) {w : Int32 × ja_S}    (n : Nat) : ∀ (x0 : Nat) (x1 : Nat) (x2 : Int32) (x3 : Int32) (sg : ja_S), ja_ob ja_L0 6 x0 → ja_ob ja_L0 5 x1 → f_SheetParser_readRoute_L8  n x0 x1 x2 x3 sg = some w → ja_J M_SheetParser_readRoute C 8 [(0, .ref x0), (1, .ref x1), (2, .int x2), (3, .int x3)] [] ja_L0 sg (some (.int w.1), ja_L0, w.2) := by
  induction n with
  | zero => intro _ _ _ _ _ _ _ hf; exact absurd (show (none : Option _) = some w from hf) (by simp)
  | succ n ih =>
    intro x0 x1 x2 x3 sg h0 h1 hf
    unfold f_SheetParser_readRoute_L8 at hf
    refine ja_iload_n (pc := 8) (f := 3) (i := 3) 3 (by decide +kernel) rfl rfl ?_
    refine ja_bipush (pc := 9) (n := 12) (v := 12) (by decide +kernel) (by decide +kernel) ?_
    refine ja_icmp_gt (pc := 11) (off := 75) 86 (by decide +kernel) (by decide) hf (fun hf => ?_) (fun hf => ?_)
    · refine ja_lv [1, 2] rfl ?_
      exact w_SheetParser_readRoute_B86 C  x1 x2 sg h1 hf
    · refine ja_iload_n (pc := 14) (f := 3) (i := 3) 3 (by decide +kernel) rfl rfl ?_
      refine ja_if_eq (pc := 15) (off := 17) 32 (by decide +kernel) (by decide) hf (fun hf => ?_) (fun hf => ?_)
      · exact w_SheetParser_readRoute_B32 C ih x0 x1 x2 x3 sg h0 h1 hf
      · refine ja_aload_n (pc := 18) (f := 0) (i := 0) 0 (by decide +kernel) rfl rfl ?_
        refine ja_aload_n (pc := 19) (f := 0) (i := 0) 0 (by decide +kernel) rfl rfl ?_
        refine ja_geti (pc := 20) (idx := 28) (t := 6) (j := 4) (by decide +kernel) fd_SheetParser_28 h0 ?_
        refine ja_bind hf (fun v1 hv1 hf => ?_)
        refine ja_callVi (pc := 23) (idx := 75) (t := 6) (b := x0) (as := [.int (sg.1 x0 4)]) (st := []) (by decide +kernel) kv_SheetParser_byteAt lk_SheetParser_75 ⟨by decide, by decide⟩ (c_SheetParser_byteAt _ _ x0 (sg.1 x0 4) h0 hv1) h0 rfl (Nat.le_of_ble_eq_true rfl) rfl ?_
        refine ja_bind hf (fun v2 hv2 hf => ?_)
        refine ja_callSi (pc := 26) (idx := 79) (as := [.int v1.1]) (st := []) (by decide +kernel) ks_SheetParser_isDigit lk_SheetParser_79 ⟨by decide, by decide⟩ (c_SheetParser_isDigit _ _ v1.1  hv2) rfl (Nat.le_of_ble_eq_true rfl) rfl ?_
        refine ja_if_eq (pc := 29) (off := 57) 86 (by decide +kernel) (by decide) hf (fun hf => ?_) (fun hf => ?_)
        · refine ja_lv [1, 2] rfl ?_
          exact w_SheetParser_readRoute_B86 C  x1 x2 v2.2 h1 hf
        · exact w_SheetParser_readRoute_B32 C ih x0 x1 x2 x3 v2.2 h0 h1 hf
def f_SheetParser_readRoute (x0 : Nat) (x1 : Nat) (sg : ja_S) : Option (Int32 × ja_S) := (f_SheetParser_step x0 sg).bind fun v1 => f_SheetParser_readRoute_L8  ja_FU x0 x1 (0 : Int32) (0 : Int32) v1
set_option maxRecDepth 4000 in
theorem c_SheetParser_readRoute (l : Launch) (x : ja_X) (x0 : Nat) (x1 : Nat) {sg : ja_S} {w : Int32 × ja_S} (h0 : ja_ob ja_L0 6 x0) (h1 : ja_ob ja_L0 5 x1) (hf : f_SheetParser_readRoute x0 x1 sg = some w) : ja_Ct l x y_SheetParser_readRoute M_SheetParser_readRoute [.ref x0, .ref x1] ja_L0 sg (some (.int w.1), ja_L0, w.2) := by
  refine ja_mk ⟨by decide, rfl, rfl⟩ (Nat.le_of_ble_eq_true rfl) (lv := [(0, .ref x0), (1, .ref x1)]) rfl (fun C hl hx _ _ _ _ => ?_)
  subst hl; subst hx
  unfold f_SheetParser_readRoute at hf
  refine ja_aload_n (pc := 0) (f := 0) (i := 0) 0 (by decide +kernel) rfl rfl ?_
  refine ja_bind hf (fun v1 hv1 hf => ?_)
  refine ja_callVv (pc := 1) (idx := 40) (t := 6) (b := x0) (as := []) (st := []) (by decide +kernel) kv_SheetParser_step lk_SheetParser_40 ⟨by decide, by decide⟩ (c_SheetParser_step _ _ x0 h0 hv1) h0 rfl (Nat.le_of_ble_eq_true rfl) rfl ?_
  refine ja_iconst (pc := 4) (n := 0) (v := 0) (by decide +kernel) (by decide +kernel) ?_
  refine ja_istore_n (pc := 5) (f := 2) (i := 2) (lv' := [(2, .int (0 : Int32)), (0, .ref x0), (1, .ref x1)]) (by decide +kernel) rfl (by decide) rfl ?_
  refine ja_iconst (pc := 6) (n := 0) (v := 0) (by decide +kernel) (by decide +kernel) ?_
  refine ja_istore_n (pc := 7) (f := 3) (i := 3) (lv' := [(3, .int (0 : Int32)), (2, .int (0 : Int32)), (0, .ref x0), (1, .ref x1)]) (by decide +kernel) rfl (by decide) rfl ?_
  refine ja_lv [2, 3, 1, 0] rfl ?_
  exact w_SheetParser_readRoute_L8 C  ja_FU x0 x1 (0 : Int32) (0 : Int32) v1 h0 h1 hf
def f_Sheet_declaresConflict_B30 (k2 : Nat → Int32 → Int32 → Int32 → ja_S → Option (Int32 × ja_S)) (x0 : Nat) (x1 : Int32) (x2 : Int32) (x3 : Int32) (sg : ja_S) : Option (Int32 × ja_S) := (ja_ld ja_L0 sg (ja_q x0 6) x3).bind fun v1 => (if v1 = x2 then (ja_ld ja_L0 sg (ja_q x0 7) x3).bind fun v2 => (if v2 = x1 then some ((1 : Int32), sg) else k2 x0 x1 x2 (x3 + 1) sg) else k2 x0 x1 x2 (x3 + 1) sg)
set_option maxRecDepth 4000 in
theorem w_Sheet_declaresConflict_B30 (C : ja_C) {w : Int32 × ja_S} {k2 : Nat → Int32 → Int32 → Int32 → ja_S → Option (Int32 × ja_S)} (e2 : ∀ (x0 : Nat) (x1 : Int32) (x2 : Int32) (x3 : Int32) (sg : ja_S), ja_ob ja_L0 5 x0 → k2 x0 x1 x2 x3 sg = some w → ja_J M_Sheet_declaresConflict C 2 [(0, .ref x0), (1, .int x1), (2, .int x2), (3, .int x3)] [] ja_L0 sg (some (.int w.1), ja_L0, w.2))  (x0 : Nat) (x1 : Int32) (x2 : Int32) (x3 : Int32) (sg : ja_S) (h0 : ja_ob ja_L0 5 x0) (hf : f_Sheet_declaresConflict_B30 k2 x0 x1 x2 x3 sg = some w) : ja_J M_Sheet_declaresConflict C 30 [(0, .ref x0), (1, .int x1), (2, .int x2), (3, .int x3)] [] ja_L0 sg (some (.int w.1), ja_L0, w.2) := by
  unfold f_Sheet_declaresConflict_B30 at hf
  refine ja_aload_n (pc := 30) (f := 0) (i := 0) 0 (by decide +kernel) rfl rfl ?_
  refine ja_getr (pc := 31) (idx := 31) (t := 5) (j := 6) (by decide +kernel) fd_Sheet_31 h0 (fr_5_6 h0) ?_
  refine ja_iload_n (pc := 34) (f := 3) (i := 3) 3 (by decide +kernel) rfl rfl ?_
  refine ja_bind hf (fun v1 hv1 hf => ?_)
  refine ja_iald (pc := 35) (by decide +kernel) (fk_5_6 h0) hv1 ?_
  refine ja_iload_n (pc := 36) (f := 2) (i := 2) 2 (by decide +kernel) rfl rfl ?_
  refine ja_icmp_ne (pc := 37) (off := 15) 52 (by decide +kernel) (by decide) hf (fun hf => ?_) (fun hf => ?_)
  · refine ja_iinc (pc := 52) (i := 3) (n := 1) (v := x3 + 1) (lv' := [(3, .int (x3 + 1)), (0, .ref x0), (1, .int x1), (2, .int x2)]) 3 (by decide +kernel) rfl rfl (by decide) rfl ?_
    refine ja_goto (pc := 55) (off := (-53)) 2 (by decide +kernel) (by decide) ?_
    refine ja_lv [1, 2, 3, 0] rfl ?_
    exact e2 x0 x1 x2 (x3 + 1) sg h0 hf
  · refine ja_aload_n (pc := 40) (f := 0) (i := 0) 0 (by decide +kernel) rfl rfl ?_
    refine ja_getr (pc := 41) (idx := 34) (t := 5) (j := 7) (by decide +kernel) fd_Sheet_34 h0 (fr_5_7 h0) ?_
    refine ja_iload_n (pc := 44) (f := 3) (i := 3) 3 (by decide +kernel) rfl rfl ?_
    refine ja_bind hf (fun v2 hv2 hf => ?_)
    refine ja_iald (pc := 45) (by decide +kernel) (fk_5_7 h0) hv2 ?_
    refine ja_iload_n (pc := 46) (f := 1) (i := 1) 1 (by decide +kernel) rfl rfl ?_
    refine ja_icmp_ne (pc := 47) (off := 5) 52 (by decide +kernel) (by decide) hf (fun hf => ?_) (fun hf => ?_)
    · refine ja_iinc (pc := 52) (i := 3) (n := 1) (v := x3 + 1) (lv' := [(3, .int (x3 + 1)), (0, .ref x0), (1, .int x1), (2, .int x2)]) 3 (by decide +kernel) rfl rfl (by decide) rfl ?_
      refine ja_goto (pc := 55) (off := (-53)) 2 (by decide +kernel) (by decide) ?_
      refine ja_lv [1, 2, 3, 0] rfl ?_
      exact e2 x0 x1 x2 (x3 + 1) sg h0 hf
    · refine ja_iconst (pc := 50) (n := 1) (v := 1) (by decide +kernel) (by decide +kernel) ?_
      exact ja_ret (pc := 51) (some (.int (1 : Int32))) .ireturn (by decide +kernel) rfl (by cases hf; rfl)
def f_Sheet_declaresConflict_L2  : Nat → Nat → Int32 → Int32 → Int32 → ja_S → Option (Int32 × ja_S)
  | 0, _, _, _, _, _ => none
  | n + 1, x0, x1, x2, x3, sg => (if (sg.1 x0 8) ≤ x3 then some ((0 : Int32), sg) else (ja_ld ja_L0 sg (ja_q x0 6) x3).bind fun v1 => (if v1 = x1 then (ja_ld ja_L0 sg (ja_q x0 7) x3).bind fun v2 => (if v2 = x2 then some ((1 : Int32), sg) else f_Sheet_declaresConflict_B30 (f_Sheet_declaresConflict_L2  n) x0 x1 x2 x3 sg) else f_Sheet_declaresConflict_B30 (f_Sheet_declaresConflict_L2  n) x0 x1 x2 x3 sg))
set_option maxRecDepth 4000 in
theorem w_Sheet_declaresConflict_L2 (C : ja_C) {w : Int32 × ja_S}    (n : Nat) : ∀ (x0 : Nat) (x1 : Int32) (x2 : Int32) (x3 : Int32) (sg : ja_S), ja_ob ja_L0 5 x0 → f_Sheet_declaresConflict_L2  n x0 x1 x2 x3 sg = some w → ja_J M_Sheet_declaresConflict C 2 [(0, .ref x0), (1, .int x1), (2, .int x2), (3, .int x3)] [] ja_L0 sg (some (.int w.1), ja_L0, w.2) := by
  induction n with
  | zero => intro _ _ _ _ _ _ hf; exact absurd (show (none : Option _) = some w from hf) (by simp)
  | succ n ih =>
    intro x0 x1 x2 x3 sg h0 hf
    unfold f_Sheet_declaresConflict_L2 at hf
    refine ja_iload_n (pc := 2) (f := 3) (i := 3) 3 (by decide +kernel) rfl rfl ?_
    refine ja_aload_n (pc := 3) (f := 0) (i := 0) 0 (by decide +kernel) rfl rfl ?_
    refine ja_geti (pc := 4) (idx := 37) (t := 5) (j := 8) (by decide +kernel) fd_Sheet_37 h0 ?_
    refine ja_icmp_ge (pc := 7) (off := 51) 58 (by decide +kernel) (by decide) hf (fun hf => ?_) (fun hf => ?_)
    · refine ja_iconst (pc := 58) (n := 0) (v := 0) (by decide +kernel) (by decide +kernel) ?_
      exact ja_ret (pc := 59) (some (.int (0 : Int32))) .ireturn (by decide +kernel) rfl (by cases hf; rfl)
    · refine ja_aload_n (pc := 10) (f := 0) (i := 0) 0 (by decide +kernel) rfl rfl ?_
      refine ja_getr (pc := 11) (idx := 31) (t := 5) (j := 6) (by decide +kernel) fd_Sheet_31 h0 (fr_5_6 h0) ?_
      refine ja_iload_n (pc := 14) (f := 3) (i := 3) 3 (by decide +kernel) rfl rfl ?_
      refine ja_bind hf (fun v1 hv1 hf => ?_)
      refine ja_iald (pc := 15) (by decide +kernel) (fk_5_6 h0) hv1 ?_
      refine ja_iload_n (pc := 16) (f := 1) (i := 1) 1 (by decide +kernel) rfl rfl ?_
      refine ja_icmp_ne (pc := 17) (off := 13) 30 (by decide +kernel) (by decide) hf (fun hf => ?_) (fun hf => ?_)
      · exact w_Sheet_declaresConflict_B30 C ih x0 x1 x2 x3 sg h0 hf
      · refine ja_aload_n (pc := 20) (f := 0) (i := 0) 0 (by decide +kernel) rfl rfl ?_
        refine ja_getr (pc := 21) (idx := 34) (t := 5) (j := 7) (by decide +kernel) fd_Sheet_34 h0 (fr_5_7 h0) ?_
        refine ja_iload_n (pc := 24) (f := 3) (i := 3) 3 (by decide +kernel) rfl rfl ?_
        refine ja_bind hf (fun v2 hv2 hf => ?_)
        refine ja_iald (pc := 25) (by decide +kernel) (fk_5_7 h0) hv2 ?_
        refine ja_iload_n (pc := 26) (f := 2) (i := 2) 2 (by decide +kernel) rfl rfl ?_
        refine ja_icmp_eq (pc := 27) (off := 23) 50 (by decide +kernel) (by decide) hf (fun hf => ?_) (fun hf => ?_)
        · refine ja_iconst (pc := 50) (n := 1) (v := 1) (by decide +kernel) (by decide +kernel) ?_
          exact ja_ret (pc := 51) (some (.int (1 : Int32))) .ireturn (by decide +kernel) rfl (by cases hf; rfl)
        · exact w_Sheet_declaresConflict_B30 C ih x0 x1 x2 x3 sg h0 hf
def f_Sheet_declaresConflict (x0 : Nat) (x1 : Int32) (x2 : Int32) (sg : ja_S) : Option (Int32 × ja_S) := f_Sheet_declaresConflict_L2  ja_FU x0 x1 x2 (0 : Int32) sg
set_option maxRecDepth 4000 in
theorem c_Sheet_declaresConflict (l : Launch) (x : ja_X) (x0 : Nat) (x1 : Int32) (x2 : Int32) {sg : ja_S} {w : Int32 × ja_S} (h0 : ja_ob ja_L0 5 x0) (hf : f_Sheet_declaresConflict x0 x1 x2 sg = some w) : ja_Ct l x y_Sheet_declaresConflict M_Sheet_declaresConflict [.ref x0, .int x1, .int x2] ja_L0 sg (some (.int w.1), ja_L0, w.2) := by
  refine ja_mk ⟨by decide, rfl, rfl⟩ (Nat.le_of_ble_eq_true rfl) (lv := [(0, .ref x0), (1, .int x1), (2, .int x2)]) rfl (fun C hl hx _ _ _ _ => ?_)
  subst hl; subst hx
  unfold f_Sheet_declaresConflict at hf
  refine ja_iconst (pc := 0) (n := 0) (v := 0) (by decide +kernel) (by decide +kernel) ?_
  refine ja_istore_n (pc := 1) (f := 3) (i := 3) (lv' := [(3, .int (0 : Int32)), (0, .ref x0), (1, .int x1), (2, .int x2)]) (by decide +kernel) rfl (by decide) rfl ?_
  refine ja_lv [1, 2, 3, 0] rfl ?_
  exact w_Sheet_declaresConflict_L2 C  ja_FU x0 x1 x2 (0 : Int32) sg h0 hf
def f_Sheet_insertConflict (x0 : Nat) (x1 : Int32) (x2 : Int32) (sg : ja_S) : Option (ja_S) := (if (8 : Int32) ≤ (sg.1 x0 8) then some sg else (ja_st ja_L0 sg (ja_q x0 6) (sg.1 x0 8) x1).bind fun s1 => (ja_st ja_L0 s1 (ja_q x0 7) (s1.1 x0 8) x2).bind fun s2 => (ja_pu s2 x0 8 ((s2.1 x0 8) + (1 : Int32))).bind fun s3 => some s3)
set_option maxRecDepth 4000 in
theorem c_Sheet_insertConflict (l : Launch) (x : ja_X) (x0 : Nat) (x1 : Int32) (x2 : Int32) {sg : ja_S} {w : ja_S} (h0 : ja_ob ja_L0 5 x0) (hf : f_Sheet_insertConflict x0 x1 x2 sg = some w) : ja_Ct l x y_Sheet_insertConflict M_Sheet_insertConflict [.ref x0, .int x1, .int x2] ja_L0 sg (none, ja_L0, w) := by
  refine ja_mk ⟨by decide, rfl, rfl⟩ (Nat.le_of_ble_eq_true rfl) (lv := [(0, .ref x0), (1, .int x1), (2, .int x2)]) rfl (fun C hl hx _ _ _ _ => ?_)
  subst hl; subst hx
  unfold f_Sheet_insertConflict at hf
  refine ja_aload_n (pc := 0) (f := 0) (i := 0) 0 (by decide +kernel) rfl rfl ?_
  refine ja_geti (pc := 1) (idx := 37) (t := 5) (j := 8) (by decide +kernel) fd_Sheet_37 h0 ?_
  refine ja_bipush (pc := 4) (n := 8) (v := 8) (by decide +kernel) (by decide +kernel) ?_
  refine ja_icmp_ge (pc := 6) (off := 33) 39 (by decide +kernel) (by decide) hf (fun hf => ?_) (fun hf => ?_)
  · exact ja_ret (pc := 39) none .return_ (by decide +kernel) rfl (by cases hf; rfl)
  · refine ja_aload_n (pc := 9) (f := 0) (i := 0) 0 (by decide +kernel) rfl rfl ?_
    refine ja_getr (pc := 10) (idx := 31) (t := 5) (j := 6) (by decide +kernel) fd_Sheet_31 h0 (fr_5_6 h0) ?_
    refine ja_aload_n (pc := 13) (f := 0) (i := 0) 0 (by decide +kernel) rfl rfl ?_
    refine ja_geti (pc := 14) (idx := 37) (t := 5) (j := 8) (by decide +kernel) fd_Sheet_37 h0 ?_
    refine ja_iload_n (pc := 17) (f := 1) (i := 1) 1 (by decide +kernel) rfl rfl ?_
    refine ja_bind hf (fun s1 hs1 hf => ?_)
    refine ja_iast (pc := 18) (by decide +kernel) (fk_5_6 h0) hs1 ?_
    refine ja_aload_n (pc := 19) (f := 0) (i := 0) 0 (by decide +kernel) rfl rfl ?_
    refine ja_getr (pc := 20) (idx := 34) (t := 5) (j := 7) (by decide +kernel) fd_Sheet_34 h0 (fr_5_7 h0) ?_
    refine ja_aload_n (pc := 23) (f := 0) (i := 0) 0 (by decide +kernel) rfl rfl ?_
    refine ja_geti (pc := 24) (idx := 37) (t := 5) (j := 8) (by decide +kernel) fd_Sheet_37 h0 ?_
    refine ja_iload_n (pc := 27) (f := 2) (i := 2) 2 (by decide +kernel) rfl rfl ?_
    refine ja_bind hf (fun s2 hs2 hf => ?_)
    refine ja_iast (pc := 28) (by decide +kernel) (fk_5_7 h0) hs2 ?_
    refine ja_aload_n (pc := 29) (f := 0) (i := 0) 0 (by decide +kernel) rfl rfl ?_
    refine ja_dup (pc := 30) (by decide +kernel) rfl ?_
    refine ja_geti (pc := 31) (idx := 37) (t := 5) (j := 8) (by decide +kernel) fd_Sheet_37 h0 ?_
    refine ja_iconst (pc := 34) (n := 1) (v := 1) (by decide +kernel) (by decide +kernel) ?_
    refine ja_iadd (pc := 35) (by decide +kernel) ?_
    refine ja_bind hf (fun s3 hs3 hf => ?_)
    refine ja_puti2 (pc := 36) (idx := 37) (t := 5) (j := 8) (by decide +kernel) fd_Sheet_37 h0 ⟨rfl, rfl⟩ hs3 ?_
    exact ja_ret (pc := 39) none .return_ (by decide +kernel) rfl (by cases hf; rfl)
def f_SheetParser_readConflict_B60  (x0 : Nat) (sg : ja_S) : Option (Int32 × ja_S) := (f_SheetParser_fail x0 (3 : Int32) sg).bind fun v1 => ja_rb v1.1 v1.2
set_option maxRecDepth 4000 in
theorem w_SheetParser_readConflict_B60 (C : ja_C) {w : Int32 × ja_S}    (x0 : Nat) (sg : ja_S) (h0 : ja_ob ja_L0 6 x0) (hf : f_SheetParser_readConflict_B60  x0 sg = some w) : ja_J M_SheetParser_readConflict C 60 [(0, .ref x0)] [] ja_L0 sg (some (.int w.1), ja_L0, w.2) := by
  unfold f_SheetParser_readConflict_B60 at hf
  refine ja_aload_n (pc := 60) (f := 0) (i := 0) 0 (by decide +kernel) rfl rfl ?_
  refine ja_iconst (pc := 61) (n := 3) (v := 3) (by decide +kernel) (by decide +kernel) ?_
  refine ja_bind hf (fun v1 hv1 hf => ?_)
  refine ja_callVi (pc := 62) (idx := 60) (t := 6) (b := x0) (as := [.int (3 : Int32)]) (st := []) (by decide +kernel) kv_SheetParser_fail lk_SheetParser_60 ⟨by decide, by decide⟩ (c_SheetParser_fail _ _ x0 (3 : Int32) h0 hv1) h0 rfl (Nat.le_of_ble_eq_true rfl) rfl ?_
  obtain ⟨hrb, hw⟩ := ja_ite hf
  exact ja_ret (pc := 65) (some (.int v1.1)) .ireturn (by decide +kernel) (ja_ri_b hrb) (by cases hw; rfl)
def f_SheetParser_readConflict (x0 : Nat) (x1 : Nat) (sg : ja_S) : Option (Int32 × ja_S) := (f_SheetParser_step x0 sg).bind fun v1 => (f_SheetParser_numberHere x0 (0 : Int32) ((v1.1 x1 5) - (1 : Int32)) v1).bind fun v2 => (if v2.1 = (-1 : Int32) then some ((0 : Int32), v2.2) else (f_SheetParser_step x0 v2.2).bind fun v3 => (f_SheetParser_numberHere x0 (0 : Int32) ((v3.1 x1 5) - (1 : Int32)) v3).bind fun v4 => (if v4.1 = (-1 : Int32) then some ((0 : Int32), v4.2) else (if v4.1 = v2.1 then f_SheetParser_readConflict_B60  x0 v4.2 else (f_Sheet_declaresConflict x1 v2.1 v4.1 v4.2).bind fun v5 => (if v5.1 = 0 then (f_SheetParser_step x0 v5.2).bind fun v6 => (f_Sheet_insertConflict x1 v2.1 v4.1 v6).bind fun v7 => some ((1 : Int32), v7) else f_SheetParser_readConflict_B60  x0 v5.2))))
set_option maxRecDepth 4000 in
theorem c_SheetParser_readConflict (l : Launch) (x : ja_X) (x0 : Nat) (x1 : Nat) {sg : ja_S} {w : Int32 × ja_S} (h0 : ja_ob ja_L0 6 x0) (h1 : ja_ob ja_L0 5 x1) (hf : f_SheetParser_readConflict x0 x1 sg = some w) : ja_Ct l x y_SheetParser_readConflict M_SheetParser_readConflict [.ref x0, .ref x1] ja_L0 sg (some (.int w.1), ja_L0, w.2) := by
  refine ja_mk ⟨by decide, rfl, rfl⟩ (Nat.le_of_ble_eq_true rfl) (lv := [(0, .ref x0), (1, .ref x1)]) rfl (fun C hl hx _ _ _ _ => ?_)
  subst hl; subst hx
  unfold f_SheetParser_readConflict at hf
  refine ja_aload_n (pc := 0) (f := 0) (i := 0) 0 (by decide +kernel) rfl rfl ?_
  refine ja_bind hf (fun v1 hv1 hf => ?_)
  refine ja_callVv (pc := 1) (idx := 40) (t := 6) (b := x0) (as := []) (st := []) (by decide +kernel) kv_SheetParser_step lk_SheetParser_40 ⟨by decide, by decide⟩ (c_SheetParser_step _ _ x0 h0 hv1) h0 rfl (Nat.le_of_ble_eq_true rfl) rfl ?_
  refine ja_aload_n (pc := 4) (f := 0) (i := 0) 0 (by decide +kernel) rfl rfl ?_
  refine ja_iconst (pc := 5) (n := 0) (v := 0) (by decide +kernel) (by decide +kernel) ?_
  refine ja_aload_n (pc := 6) (f := 1) (i := 1) 1 (by decide +kernel) rfl rfl ?_
  refine ja_geti (pc := 7) (idx := 87) (t := 5) (j := 5) (by decide +kernel) fd_SheetParser_87 h1 ?_
  refine ja_iconst (pc := 10) (n := 1) (v := 1) (by decide +kernel) (by decide +kernel) ?_
  refine ja_isub (pc := 11) (by decide +kernel) ?_
  refine ja_bind hf (fun v2 hv2 hf => ?_)
  refine ja_callVi (pc := 12) (idx := 64) (t := 6) (b := x0) (as := [.int (0 : Int32), .int ((v1.1 x1 5) - (1 : Int32))]) (st := []) (by decide +kernel) kv_SheetParser_numberHere lk_SheetParser_64 ⟨by decide, by decide⟩ (c_SheetParser_numberHere _ _ x0 (0 : Int32) ((v1.1 x1 5) - (1 : Int32)) h0 hv2) h0 rfl (Nat.le_of_ble_eq_true rfl) rfl ?_
  refine ja_istore_n (pc := 15) (f := 2) (i := 2) (lv' := [(2, .int v2.1), (0, .ref x0), (1, .ref x1)]) (by decide +kernel) rfl (by decide) rfl ?_
  refine ja_iload_n (pc := 16) (f := 2) (i := 2) 0 (by decide +kernel) rfl rfl ?_
  refine ja_iconst (pc := 17) (n := (-1)) (v := (-1)) (by decide +kernel) (by decide +kernel) ?_
  refine ja_icmp_ne (pc := 18) (off := 5) 23 (by decide +kernel) (by decide) hf (fun hf => ?_) (fun hf => ?_)
  · refine ja_aload_n (pc := 23) (f := 0) (i := 0) 1 (by decide +kernel) rfl rfl ?_
    refine ja_bind hf (fun v3 hv3 hf => ?_)
    refine ja_callVv (pc := 24) (idx := 40) (t := 6) (b := x0) (as := []) (st := []) (by decide +kernel) kv_SheetParser_step lk_SheetParser_40 ⟨by decide, by decide⟩ (c_SheetParser_step _ _ x0 h0 hv3) h0 rfl (Nat.le_of_ble_eq_true rfl) rfl ?_
    refine ja_aload_n (pc := 27) (f := 0) (i := 0) 1 (by decide +kernel) rfl rfl ?_
    refine ja_iconst (pc := 28) (n := 0) (v := 0) (by decide +kernel) (by decide +kernel) ?_
    refine ja_aload_n (pc := 29) (f := 1) (i := 1) 2 (by decide +kernel) rfl rfl ?_
    refine ja_geti (pc := 30) (idx := 87) (t := 5) (j := 5) (by decide +kernel) fd_SheetParser_87 h1 ?_
    refine ja_iconst (pc := 33) (n := 1) (v := 1) (by decide +kernel) (by decide +kernel) ?_
    refine ja_isub (pc := 34) (by decide +kernel) ?_
    refine ja_bind hf (fun v4 hv4 hf => ?_)
    refine ja_callVi (pc := 35) (idx := 64) (t := 6) (b := x0) (as := [.int (0 : Int32), .int ((v3.1 x1 5) - (1 : Int32))]) (st := []) (by decide +kernel) kv_SheetParser_numberHere lk_SheetParser_64 ⟨by decide, by decide⟩ (c_SheetParser_numberHere _ _ x0 (0 : Int32) ((v3.1 x1 5) - (1 : Int32)) h0 hv4) h0 rfl (Nat.le_of_ble_eq_true rfl) rfl ?_
    refine ja_istore_n (pc := 38) (f := 3) (i := 3) (lv' := [(3, .int v4.1), (2, .int v2.1), (0, .ref x0), (1, .ref x1)]) (by decide +kernel) rfl (by decide) rfl ?_
    refine ja_iload_n (pc := 39) (f := 3) (i := 3) 0 (by decide +kernel) rfl rfl ?_
    refine ja_iconst (pc := 40) (n := (-1)) (v := (-1)) (by decide +kernel) (by decide +kernel) ?_
    refine ja_icmp_ne (pc := 41) (off := 5) 46 (by decide +kernel) (by decide) hf (fun hf => ?_) (fun hf => ?_)
    · refine ja_iload_n (pc := 46) (f := 3) (i := 3) 0 (by decide +kernel) rfl rfl ?_
      refine ja_iload_n (pc := 47) (f := 2) (i := 2) 1 (by decide +kernel) rfl rfl ?_
      refine ja_icmp_eq (pc := 48) (off := 12) 60 (by decide +kernel) (by decide) hf (fun hf => ?_) (fun hf => ?_)
      · refine ja_lv [2] rfl ?_
        exact w_SheetParser_readConflict_B60 C  x0 v4.2 h0 hf
      · refine ja_aload_n (pc := 51) (f := 1) (i := 1) 3 (by decide +kernel) rfl rfl ?_
        refine ja_iload_n (pc := 52) (f := 2) (i := 2) 1 (by decide +kernel) rfl rfl ?_
        refine ja_iload_n (pc := 53) (f := 3) (i := 3) 0 (by decide +kernel) rfl rfl ?_
        refine ja_bind hf (fun v5 hv5 hf => ?_)
        refine ja_callVi (pc := 54) (idx := 139) (t := 5) (b := x1) (as := [.int v2.1, .int v4.1]) (st := []) (by decide +kernel) kv_Sheet_declaresConflict lk_SheetParser_139 ⟨by decide, by decide⟩ (c_Sheet_declaresConflict _ _ x1 v2.1 v4.1 h1 hv5) h1 rfl (Nat.le_of_ble_eq_true rfl) rfl ?_
        refine ja_if_eq (pc := 57) (off := 9) 66 (by decide +kernel) (by decide) hf (fun hf => ?_) (fun hf => ?_)
        · refine ja_aload_n (pc := 66) (f := 0) (i := 0) 2 (by decide +kernel) rfl rfl ?_
          refine ja_bind hf (fun v6 hv6 hf => ?_)
          refine ja_callVv (pc := 67) (idx := 40) (t := 6) (b := x0) (as := []) (st := []) (by decide +kernel) kv_SheetParser_step lk_SheetParser_40 ⟨by decide, by decide⟩ (c_SheetParser_step _ _ x0 h0 hv6) h0 rfl (Nat.le_of_ble_eq_true rfl) rfl ?_
          refine ja_aload_n (pc := 70) (f := 1) (i := 1) 3 (by decide +kernel) rfl rfl ?_
          refine ja_iload_n (pc := 71) (f := 2) (i := 2) 1 (by decide +kernel) rfl rfl ?_
          refine ja_iload_n (pc := 72) (f := 3) (i := 3) 0 (by decide +kernel) rfl rfl ?_
          refine ja_bind hf (fun v7 hv7 hf => ?_)
          refine ja_callVv (pc := 73) (idx := 143) (t := 5) (b := x1) (as := [.int v2.1, .int v4.1]) (st := []) (by decide +kernel) kv_Sheet_insertConflict lk_SheetParser_143 ⟨by decide, by decide⟩ (c_Sheet_insertConflict _ _ x1 v2.1 v4.1 h1 hv7) h1 rfl (Nat.le_of_ble_eq_true rfl) rfl ?_
          refine ja_iconst (pc := 76) (n := 1) (v := 1) (by decide +kernel) (by decide +kernel) ?_
          exact ja_ret (pc := 77) (some (.int (1 : Int32))) .ireturn (by decide +kernel) rfl (by cases hf; rfl)
        · refine ja_lv [2] rfl ?_
          exact w_SheetParser_readConflict_B60 C  x0 v5.2 h0 hf
    · refine ja_iconst (pc := 44) (n := 0) (v := 0) (by decide +kernel) (by decide +kernel) ?_
      exact ja_ret (pc := 45) (some (.int (0 : Int32))) .ireturn (by decide +kernel) rfl (by cases hf; rfl)
  · refine ja_iconst (pc := 21) (n := 0) (v := 0) (by decide +kernel) (by decide +kernel) ?_
    exact ja_ret (pc := 22) (some (.int (0 : Int32))) .ireturn (by decide +kernel) rfl (by cases hf; rfl)
def f_Sheet_copyFrom (x0 : Nat) (x1 : Nat) (sg : ja_S) : Option (ja_S) := (ja_pu sg x0 0 (sg.1 x1 0)).bind fun s1 => (ja_pu s1 x0 1 (s1.1 x1 1)).bind fun s2 => (ja_pu s2 x0 3 (s2.1 x1 3)).bind fun s3 => (ja_pu s3 x0 5 (s3.1 x1 5)).bind fun s4 => (ja_pu s4 x0 8 (s4.1 x1 8)).bind fun s5 => (ja_cpi ja_L0 s5 (ja_q x1 2) (0 : Int32) (ja_q x0 2) (0 : Int32) (24 : Int32)).bind fun s6 => (ja_cpi ja_L0 s6 (ja_q x1 4) (0 : Int32) (ja_q x0 4) (0 : Int32) (8 : Int32)).bind fun s7 => (ja_cpi ja_L0 s7 (ja_q x1 6) (0 : Int32) (ja_q x0 6) (0 : Int32) (8 : Int32)).bind fun s8 => (ja_cpi ja_L0 s8 (ja_q x1 7) (0 : Int32) (ja_q x0 7) (0 : Int32) (8 : Int32)).bind fun s9 => some s9
set_option maxRecDepth 4000 in
theorem c_Sheet_copyFrom (l : Launch) (x : ja_X) (x0 : Nat) (x1 : Nat) {sg : ja_S} {w : ja_S} (h0 : ja_ob ja_L0 5 x0) (h1 : ja_ob ja_L0 5 x1) (hf : f_Sheet_copyFrom x0 x1 sg = some w) : ja_Ct l x y_Sheet_copyFrom M_Sheet_copyFrom [.ref x0, .ref x1] ja_L0 sg (none, ja_L0, w) := by
  refine ja_mk ⟨by decide, rfl, rfl⟩ (Nat.le_of_ble_eq_true rfl) (lv := [(0, .ref x0), (1, .ref x1)]) rfl (fun C hl hx _ _ _ _ => ?_)
  subst hl; subst hx
  unfold f_Sheet_copyFrom at hf
  refine ja_aload_n (pc := 0) (f := 0) (i := 0) 0 (by decide +kernel) rfl rfl ?_
  refine ja_aload_n (pc := 1) (f := 1) (i := 1) 1 (by decide +kernel) rfl rfl ?_
  refine ja_geti (pc := 2) (idx := 9) (t := 5) (j := 0) (by decide +kernel) fd_Sheet_9 h1 ?_
  refine ja_bind hf (fun s1 hs1 hf => ?_)
  refine ja_puti2 (pc := 5) (idx := 9) (t := 5) (j := 0) (by decide +kernel) fd_Sheet_9 h0 ⟨rfl, rfl⟩ hs1 ?_
  refine ja_aload_n (pc := 8) (f := 0) (i := 0) 0 (by decide +kernel) rfl rfl ?_
  refine ja_aload_n (pc := 9) (f := 1) (i := 1) 1 (by decide +kernel) rfl rfl ?_
  refine ja_geti (pc := 10) (idx := 15) (t := 5) (j := 1) (by decide +kernel) fd_Sheet_15 h1 ?_
  refine ja_bind hf (fun s2 hs2 hf => ?_)
  refine ja_puti2 (pc := 13) (idx := 15) (t := 5) (j := 1) (by decide +kernel) fd_Sheet_15 h0 ⟨rfl, rfl⟩ hs2 ?_
  refine ja_aload_n (pc := 16) (f := 0) (i := 0) 0 (by decide +kernel) rfl rfl ?_
  refine ja_aload_n (pc := 17) (f := 1) (i := 1) 1 (by decide +kernel) rfl rfl ?_
  refine ja_geti (pc := 18) (idx := 22) (t := 5) (j := 3) (by decide +kernel) fd_Sheet_22 h1 ?_
  refine ja_bind hf (fun s3 hs3 hf => ?_)
  refine ja_puti2 (pc := 21) (idx := 22) (t := 5) (j := 3) (by decide +kernel) fd_Sheet_22 h0 ⟨rfl, rfl⟩ hs3 ?_
  refine ja_aload_n (pc := 24) (f := 0) (i := 0) 0 (by decide +kernel) rfl rfl ?_
  refine ja_aload_n (pc := 25) (f := 1) (i := 1) 1 (by decide +kernel) rfl rfl ?_
  refine ja_geti (pc := 26) (idx := 28) (t := 5) (j := 5) (by decide +kernel) fd_Sheet_28 h1 ?_
  refine ja_bind hf (fun s4 hs4 hf => ?_)
  refine ja_puti2 (pc := 29) (idx := 28) (t := 5) (j := 5) (by decide +kernel) fd_Sheet_28 h0 ⟨rfl, rfl⟩ hs4 ?_
  refine ja_aload_n (pc := 32) (f := 0) (i := 0) 0 (by decide +kernel) rfl rfl ?_
  refine ja_aload_n (pc := 33) (f := 1) (i := 1) 1 (by decide +kernel) rfl rfl ?_
  refine ja_geti (pc := 34) (idx := 37) (t := 5) (j := 8) (by decide +kernel) fd_Sheet_37 h1 ?_
  refine ja_bind hf (fun s5 hs5 hf => ?_)
  refine ja_puti2 (pc := 37) (idx := 37) (t := 5) (j := 8) (by decide +kernel) fd_Sheet_37 h0 ⟨rfl, rfl⟩ hs5 ?_
  refine ja_aload_n (pc := 40) (f := 1) (i := 1) 1 (by decide +kernel) rfl rfl ?_
  refine ja_getr (pc := 41) (idx := 18) (t := 5) (j := 2) (by decide +kernel) fd_Sheet_18 h1 (fr_5_2 h1) ?_
  refine ja_iconst (pc := 44) (n := 0) (v := 0) (by decide +kernel) (by decide +kernel) ?_
  refine ja_aload_n (pc := 45) (f := 0) (i := 0) 0 (by decide +kernel) rfl rfl ?_
  refine ja_getr (pc := 46) (idx := 18) (t := 5) (j := 2) (by decide +kernel) fd_Sheet_18 h0 (fr_5_2 h0) ?_
  refine ja_iconst (pc := 49) (n := 0) (v := 0) (by decide +kernel) (by decide +kernel) ?_
  refine ja_bipush (pc := 50) (n := 24) (v := 24) (by decide +kernel) (by decide +kernel) ?_
  refine ja_bind hf (fun s6 hs6 hf => ?_)
  refine ja_cpyi (pc := 52) (idx := 40) (by decide +kernel) kc_Sheet_40 ⟨by decide, by decide⟩ (fk_5_2 h1) (fk_5_2 h0) (Nat.le_of_ble_eq_true rfl) hs6 ?_
  refine ja_aload_n (pc := 55) (f := 1) (i := 1) 1 (by decide +kernel) rfl rfl ?_
  refine ja_getr (pc := 56) (idx := 25) (t := 5) (j := 4) (by decide +kernel) fd_Sheet_25 h1 (fr_5_4 h1) ?_
  refine ja_iconst (pc := 59) (n := 0) (v := 0) (by decide +kernel) (by decide +kernel) ?_
  refine ja_aload_n (pc := 60) (f := 0) (i := 0) 0 (by decide +kernel) rfl rfl ?_
  refine ja_getr (pc := 61) (idx := 25) (t := 5) (j := 4) (by decide +kernel) fd_Sheet_25 h0 (fr_5_4 h0) ?_
  refine ja_iconst (pc := 64) (n := 0) (v := 0) (by decide +kernel) (by decide +kernel) ?_
  refine ja_bipush (pc := 65) (n := 8) (v := 8) (by decide +kernel) (by decide +kernel) ?_
  refine ja_bind hf (fun s7 hs7 hf => ?_)
  refine ja_cpyi (pc := 67) (idx := 40) (by decide +kernel) kc_Sheet_40 ⟨by decide, by decide⟩ (fk_5_4 h1) (fk_5_4 h0) (Nat.le_of_ble_eq_true rfl) hs7 ?_
  refine ja_aload_n (pc := 70) (f := 1) (i := 1) 1 (by decide +kernel) rfl rfl ?_
  refine ja_getr (pc := 71) (idx := 31) (t := 5) (j := 6) (by decide +kernel) fd_Sheet_31 h1 (fr_5_6 h1) ?_
  refine ja_iconst (pc := 74) (n := 0) (v := 0) (by decide +kernel) (by decide +kernel) ?_
  refine ja_aload_n (pc := 75) (f := 0) (i := 0) 0 (by decide +kernel) rfl rfl ?_
  refine ja_getr (pc := 76) (idx := 31) (t := 5) (j := 6) (by decide +kernel) fd_Sheet_31 h0 (fr_5_6 h0) ?_
  refine ja_iconst (pc := 79) (n := 0) (v := 0) (by decide +kernel) (by decide +kernel) ?_
  refine ja_bipush (pc := 80) (n := 8) (v := 8) (by decide +kernel) (by decide +kernel) ?_
  refine ja_bind hf (fun s8 hs8 hf => ?_)
  refine ja_cpyi (pc := 82) (idx := 40) (by decide +kernel) kc_Sheet_40 ⟨by decide, by decide⟩ (fk_5_6 h1) (fk_5_6 h0) (Nat.le_of_ble_eq_true rfl) hs8 ?_
  refine ja_aload_n (pc := 85) (f := 1) (i := 1) 1 (by decide +kernel) rfl rfl ?_
  refine ja_getr (pc := 86) (idx := 34) (t := 5) (j := 7) (by decide +kernel) fd_Sheet_34 h1 (fr_5_7 h1) ?_
  refine ja_iconst (pc := 89) (n := 0) (v := 0) (by decide +kernel) (by decide +kernel) ?_
  refine ja_aload_n (pc := 90) (f := 0) (i := 0) 0 (by decide +kernel) rfl rfl ?_
  refine ja_getr (pc := 91) (idx := 34) (t := 5) (j := 7) (by decide +kernel) fd_Sheet_34 h0 (fr_5_7 h0) ?_
  refine ja_iconst (pc := 94) (n := 0) (v := 0) (by decide +kernel) (by decide +kernel) ?_
  refine ja_bipush (pc := 95) (n := 8) (v := 8) (by decide +kernel) (by decide +kernel) ?_
  refine ja_bind hf (fun s9 hs9 hf => ?_)
  refine ja_cpyi (pc := 97) (idx := 40) (by decide +kernel) kc_Sheet_40 ⟨by decide, by decide⟩ (fk_5_7 h1) (fk_5_7 h0) (Nat.le_of_ble_eq_true rfl) hs9 ?_
  exact ja_ret (pc := 100) none .return_ (by decide +kernel) rfl (by cases hf; rfl)
def f_History_clear (x0 : Nat) (sg : ja_S) : Option (ja_S) := (ja_pu sg x0 0 (0 : Int32)).bind fun s1 => some s1
set_option maxRecDepth 4000 in
theorem c_History_clear (l : Launch) (x : ja_X) (x0 : Nat) {sg : ja_S} {w : ja_S} (h0 : ja_ob ja_L0 0 x0) (hf : f_History_clear x0 sg = some w) : ja_Ct l x y_History_clear M_History_clear [.ref x0] ja_L0 sg (none, ja_L0, w) := by
  refine ja_mk ⟨by decide, rfl, rfl⟩ (Nat.le_of_ble_eq_true rfl) (lv := [(0, .ref x0)]) rfl (fun C hl hx _ _ _ _ => ?_)
  subst hl; subst hx
  unfold f_History_clear at hf
  refine ja_aload_n (pc := 0) (f := 0) (i := 0) 0 (by decide +kernel) rfl rfl ?_
  refine ja_iconst (pc := 1) (n := 0) (v := 0) (by decide +kernel) (by decide +kernel) ?_
  refine ja_bind hf (fun s1 hs1 hf => ?_)
  refine ja_puti2 (pc := 2) (idx := 9) (t := 0) (j := 0) (by decide +kernel) fd_History_9 h0 ⟨rfl, rfl⟩ hs1 ?_
  exact ja_ret (pc := 5) none .return_ (by decide +kernel) rfl (by cases hf; rfl)
def f_LockPlanner_forget (x0 : Nat) (sg : ja_S) : Option (ja_S) := (ja_pu sg x0 0 (0 : Int32)).bind fun s1 => some s1
set_option maxRecDepth 4000 in
theorem c_LockPlanner_forget (l : Launch) (x : ja_X) (x0 : Nat) {sg : ja_S} {w : ja_S} (h0 : ja_ob ja_L0 1 x0) (hf : f_LockPlanner_forget x0 sg = some w) : ja_Ct l x y_LockPlanner_forget M_LockPlanner_forget [.ref x0] ja_L0 sg (none, ja_L0, w) := by
  refine ja_mk ⟨by decide, rfl, rfl⟩ (Nat.le_of_ble_eq_true rfl) (lv := [(0, .ref x0)]) rfl (fun C hl hx _ _ _ _ => ?_)
  subst hl; subst hx
  unfold f_LockPlanner_forget at hf
  refine ja_aload_n (pc := 0) (f := 0) (i := 0) 0 (by decide +kernel) rfl rfl ?_
  refine ja_iconst (pc := 1) (n := 0) (v := 0) (by decide +kernel) (by decide +kernel) ?_
  refine ja_bind hf (fun s1 hs1 hf => ?_)
  refine ja_puti2 (pc := 2) (idx := 22) (t := 1) (j := 0) (by decide +kernel) fd_LockPlanner_22 h0 ⟨rfl, rfl⟩ hs1 ?_
  exact ja_ret (pc := 5) none .return_ (by decide +kernel) rfl (by cases hf; rfl)
