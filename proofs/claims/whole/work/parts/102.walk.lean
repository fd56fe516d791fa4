def f_History_takeLatest (x0 : Nat) (sg : ja_S) : Option (Int32 × ja_S) := (if 0 < (sg.1 x0 0) then (ja_pu sg x0 0 ((sg.1 x0 0) - (1 : Int32))).bind fun s1 => (ja_ld ja_L0 s1 (ja_q x0 4) (s1.1 x0 0)).bind fun v2 => (ja_pu s1 x0 1 v2).bind fun s3 => (ja_ld ja_L0 s3 (ja_q x0 5) (s3.1 x0 0)).bind fun v4 => (ja_pu s3 x0 2 v4).bind fun s5 => (ja_ld ja_L0 s5 (ja_q x0 6) (s5.1 x0 0)).bind fun v6 => (ja_pu s5 x0 3 v6).bind fun s7 => some ((1 : Int32), s7) else some ((0 : Int32), sg))
set_option maxRecDepth 4000 in
theorem c_History_takeLatest (l : Launch) (x : ja_X) (x0 : Nat) {sg : ja_S} {w : Int32 × ja_S} (h0 : ja_ob ja_L0 0 x0) (hf : f_History_takeLatest x0 sg = some w) : ja_Ct l x y_History_takeLatest M_History_takeLatest [.ref x0] ja_L0 sg (some (.int w.1), ja_L0, w.2) := by
  refine ja_mk ⟨by decide, rfl, rfl⟩ (Nat.le_of_ble_eq_true rfl) (lv := [(0, .ref x0)]) rfl (fun C hl hx _ _ _ _ => ?_)
  subst hl; subst hx
  unfold f_History_takeLatest at hf
  refine ja_aload_n (pc := 0) (f := 0) (i := 0) 0 (by decide +kernel) rfl rfl ?_
  refine ja_geti (pc := 1) (idx := 9) (t := 0) (j := 0) (by decide +kernel) fd_History_9 h0 ?_
  refine ja_if_gt (pc := 4) (off := 5) 9 (by decide +kernel) (by decide) hf (fun hf => ?_) (fun hf => ?_)
  · refine ja_aload_n (pc := 9) (f := 0) (i := 0) 0 (by decide +kernel) rfl rfl ?_
    refine ja_dup (pc := 10) (by decide +kernel) rfl ?_
    refine ja_geti (pc := 11) (idx := 9) (t := 0) (j := 0) (by decide +kernel) fd_History_9 h0 ?_
    refine ja_iconst (pc := 14) (n := 1) (v := 1) (by decide +kernel) (by decide +kernel) ?_
    refine ja_isub (pc := 15) (by decide +kernel) ?_
    refine ja_bind hf (fun s1 hs1 hf => ?_)
    refine ja_puti2 (pc := 16) (idx := 9) (t := 0) (j := 0) (by decide +kernel) fd_History_9 h0 ⟨rfl, rfl⟩ hs1 ?_
    refine ja_aload_n (pc := 19) (f := 0) (i := 0) 0 (by decide +kernel) rfl rfl ?_
    refine ja_aload_n (pc := 20) (f := 0) (i := 0) 0 (by decide +kernel) rfl rfl ?_
    refine ja_getr (pc := 21) (idx := 24) (t := 0) (j := 4) (by decide +kernel) fd_History_24 h0 (fr_0_4 h0) ?_
    refine ja_aload_n (pc := 24) (f := 0) (i := 0) 0 (by decide +kernel) rfl rfl ?_
    refine ja_geti (pc := 25) (idx := 9) (t := 0) (j := 0) (by decide +kernel) fd_History_9 h0 ?_
    refine ja_bind hf (fun v2 hv2 hf => ?_)
    refine ja_iald (pc := 28) (by decide +kernel) (fk_0_4 h0) hv2 ?_
    refine ja_bind hf (fun s3 hs3 hf => ?_)
    refine ja_puti2 (pc := 29) (idx := 15) (t := 0) (j := 1) (by decide +kernel) fd_History_15 h0 ⟨rfl, rfl⟩ hs3 ?_
    refine ja_aload_n (pc := 32) (f := 0) (i := 0) 0 (by decide +kernel) rfl rfl ?_
    refine ja_aload_n (pc := 33) (f := 0) (i := 0) 0 (by decide +kernel) rfl rfl ?_
    refine ja_getr (pc := 34) (idx := 28) (t := 0) (j := 5) (by decide +kernel) fd_History_28 h0 (fr_0_5 h0) ?_
    refine ja_aload_n (pc := 37) (f := 0) (i := 0) 0 (by decide +kernel) rfl rfl ?_
    refine ja_geti (pc := 38) (idx := 9) (t := 0) (j := 0) (by decide +kernel) fd_History_9 h0 ?_
    refine ja_bind hf (fun v4 hv4 hf => ?_)
    refine ja_iald (pc := 41) (by decide +kernel) (fk_0_5 h0) hv4 ?_
    refine ja_bind hf (fun s5 hs5 hf => ?_)
    refine ja_puti2 (pc := 42) (idx := 18) (t := 0) (j := 2) (by decide +kernel) fd_History_18 h0 ⟨rfl, rfl⟩ hs5 ?_
    refine ja_aload_n (pc := 45) (f := 0) (i := 0) 0 (by decide +kernel) rfl rfl ?_
    refine ja_aload_n (pc := 46) (f := 0) (i := 0) 0 (by decide +kernel) rfl rfl ?_
    refine ja_getr (pc := 47) (idx := 31) (t := 0) (j := 6) (by decide +kernel) fd_History_31 h0 (fr_0_6 h0) ?_
    refine ja_aload_n (pc := 50) (f := 0) (i := 0) 0 (by decide +kernel) rfl rfl ?_
    refine ja_geti (pc := 51) (idx := 9) (t := 0) (j := 0) (by decide +kernel) fd_History_9 h0 ?_
    refine ja_bind hf (fun v6 hv6 hf => ?_)
    refine ja_iald (pc := 54) (by decide +kernel) (fk_0_6 h0) hv6 ?_
    refine ja_bind hf (fun s7 hs7 hf => ?_)
    refine ja_puti2 (pc := 55) (idx := 21) (t := 0) (j := 3) (by decide +kernel) fd_History_21 h0 ⟨rfl, rfl⟩ hs7 ?_
    refine ja_iconst (pc := 58) (n := 1) (v := 1) (by decide +kernel) (by decide +kernel) ?_
    exact ja_ret (pc := 59) (some (.int (1 : Int32))) .ireturn (by decide +kernel) rfl (by cases hf; rfl)
  · refine ja_iconst (pc := 7) (n := 0) (v := 0) (by decide +kernel) (by decide +kernel) ?_
    exact ja_ret (pc := 8) (some (.int (0 : Int32))) .ireturn (by decide +kernel) rfl (by cases hf; rfl)
def f_Frame_undo_B98  (x0 : Nat) (sg : ja_S) : Option (Int32 × ja_S) := (f_Frame_forgetFindings x0 sg).bind fun v1 => some (v1.1 (ja_q x0 5) 0, v1)
set_option maxRecDepth 4000 in
theorem w_Frame_undo_B98 (C : ja_C) {w : Int32 × ja_S}    (x0 : Nat) (sg : ja_S) (h0 : ja_ob ja_L0 7 x0) (hf : f_Frame_undo_B98  x0 sg = some w) : ja_J M_Frame_undo C 98 [(0, .ref x0)] [] ja_L0 sg (some (.int w.1), ja_L0, w.2) := by
  unfold f_Frame_undo_B98 at hf
  refine ja_aload_n (pc := 98) (f := 0) (i := 0) 0 (by decide +kernel) rfl rfl ?_
  refine ja_bind hf (fun v1 hv1 hf => ?_)
  refine ja_callVv (pc := 99) (idx := 92) (t := 7) (b := x0) (as := []) (st := []) (by decide +kernel) kv_Frame_forgetFindings lk_Frame_92 ⟨by decide, by decide⟩ (c_Frame_forgetFindings _ _ x0 h0 hv1) h0 rfl (Nat.le_of_ble_eq_true rfl) rfl ?_
  refine ja_aload_n (pc := 102) (f := 0) (i := 0) 0 (by decide +kernel) rfl rfl ?_
  refine ja_getr (pc := 103) (idx := 29) (t := 7) (j := 5) (by decide +kernel) fd_Frame_29 h0 (fr_7_5 h0) ?_
  refine ja_geti (pc := 106) (idx := 178) (t := 0) (j := 0) (by decide +kernel) fd_Frame_178 (fk_7_5 h0) ?_
  exact ja_ret (pc := 109) (some (.int (v1.1 (ja_q x0 5) 0))) .ireturn (by decide +kernel) rfl (by cases hf; rfl)
def f_Frame_undo (x0 : Nat) (sg : ja_S) : Option (Int32 × ja_S) := (f_History_takeLatest (ja_q x0 5) sg).bind fun v1 => (if v1.1 = 0 then some ((-5 : Int32), v1.2) else (if (v1.2.1 (ja_q x0 5) 1) = 0 then (ja_pu v1.2 x0 6 ((v1.2.1 x0 6) ^^^ ((1 : Int32) <<< ((v1.2.1 (ja_q x0 5) 2) &&& 31)))).bind fun s4 => some (s4.1 (ja_q x0 5) 0, s4) else (if (v1.2.1 (ja_q x0 5) 1) = (1 : Int32) then (f_Sheet_dropRule (ja_q x0 3) (v1.2.1 (ja_q x0 5) 2) v1.2).bind fun v3 => f_Frame_undo_B98  x0 v3 else (f_Sheet_insertRule (ja_q x0 3) (v1.2.1 (ja_q x0 5) 2) (v1.2.1 (ja_q x0 5) 3) v1.2).bind fun v2 => f_Frame_undo_B98  x0 v2)))
set_option maxRecDepth 4000 in
theorem c_Frame_undo (l : Launch) (x : ja_X) (x0 : Nat) {sg : ja_S} {w : Int32 × ja_S} (h0 : ja_ob ja_L0 7 x0) (hf : f_Frame_undo x0 sg = some w) : ja_Ct l x y_Frame_undo M_Frame_undo [.ref x0] ja_L0 sg (some (.int w.1), ja_L0, w.2) := by
  refine ja_mk ⟨by decide, rfl, rfl⟩ (Nat.le_of_ble_eq_true rfl) (lv := [(0, .ref x0)]) rfl (fun C hl hx _ _ _ _ => ?_)
  subst hl; subst hx
  unfold f_Frame_undo at hf
  refine ja_aload_n (pc := 0) (f := 0) (i := 0) 0 (by decide +kernel) rfl rfl ?_
  refine ja_getr (pc := 1) (idx := 29) (t := 7) (j := 5) (by decide +kernel) fd_Frame_29 h0 (fr_7_5 h0) ?_
  refine ja_bind hf (fun v1 hv1 hf => ?_)
  refine ja_callVi (pc := 4) (idx := 168) (t := 0) (b := (ja_q x0 5)) (as := []) (st := []) (by decide +kernel) kv_History_takeLatest lk_Frame_168 ⟨by decide, by decide⟩ (c_History_takeLatest _ _ (ja_q x0 5) (fk_7_5 h0) hv1) (fk_7_5 h0) rfl (Nat.le_of_ble_eq_true rfl) rfl ?_
  refine ja_if_ne (pc := 7) (off := 6) 13 (by decide +kernel) (by decide) hf (fun hf => ?_) (fun hf => ?_)
  · refine ja_aload_n (pc := 13) (f := 0) (i := 0) 0 (by decide +kernel) rfl rfl ?_
    refine ja_getr (pc := 14) (idx := 29) (t := 7) (j := 5) (by decide +kernel) fd_Frame_29 h0 (fr_7_5 h0) ?_
    refine ja_geti (pc := 17) (idx := 172) (t := 0) (j := 1) (by decide +kernel) fd_Frame_172 (fk_7_5 h0) ?_
    refine ja_if_ne (pc := 20) (off := 29) 49 (by decide +kernel) (by decide) hf (fun hf => ?_) (fun hf => ?_)
    · refine ja_aload_n (pc := 49) (f := 0) (i := 0) 0 (by decide +kernel) rfl rfl ?_
      refine ja_getr (pc := 50) (idx := 29) (t := 7) (j := 5) (by decide +kernel) fd_Frame_29 h0 (fr_7_5 h0) ?_
      refine ja_geti (pc := 53) (idx := 172) (t := 0) (j := 1) (by decide +kernel) fd_Frame_172 (fk_7_5 h0) ?_
      refine ja_iconst (pc := 56) (n := 1) (v := 1) (by decide +kernel) (by decide +kernel) ?_
      refine ja_icmp_ne (pc := 57) (off := 20) 77 (by decide +kernel) (by decide) hf (fun hf => ?_) (fun hf => ?_)
      · refine ja_aload_n (pc := 77) (f := 0) (i := 0) 0 (by decide +kernel) rfl rfl ?_
        refine ja_getr (pc := 78) (idx := 19) (t := 7) (j := 3) (by decide +kernel) fd_Frame_19 h0 (fr_7_3 h0) ?_
        refine ja_aload_n (pc := 81) (f := 0) (i := 0) 0 (by decide +kernel) rfl rfl ?_
        refine ja_getr (pc := 82) (idx := 29) (t := 7) (j := 5) (by decide +kernel) fd_Frame_29 h0 (fr_7_5 h0) ?_
        refine ja_geti (pc := 85) (idx := 175) (t := 0) (j := 2) (by decide +kernel) fd_Frame_175 (fk_7_5 h0) ?_
        refine ja_aload_n (pc := 88) (f := 0) (i := 0) 0 (by decide +kernel) rfl rfl ?_
        refine ja_getr (pc := 89) (idx := 29) (t := 7) (j := 5) (by decide +kernel) fd_Frame_29 h0 (fr_7_5 h0) ?_
        refine ja_geti (pc := 92) (idx := 181) (t := 0) (j := 3) (by decide +kernel) fd_Frame_181 (fk_7_5 h0) ?_
        refine ja_bind hf (fun v2 hv2 hf => ?_)
        refine ja_callVv (pc := 95) (idx := 161) (t := 5) (b := (ja_q x0 3)) (as := [.int (v1.2.1 (ja_q x0 5) 2), .int (v1.2.1 (ja_q x0 5) 3)]) (st := []) (by decide +kernel) kv_Sheet_insertRule lk_Frame_161 ⟨by decide, by decide⟩ (c_Sheet_insertRule _ _ (ja_q x0 3) (v1.2.1 (ja_q x0 5) 2) (v1.2.1 (ja_q x0 5) 3) (fk_7_3 h0) hv2) (fk_7_3 h0) rfl (Nat.le_of_ble_eq_true rfl) rfl ?_
        exact w_Frame_undo_B98 C  x0 v2 h0 hf
      · refine ja_aload_n (pc := 60) (f := 0) (i := 0) 0 (by decide +kernel) rfl rfl ?_
        refine ja_getr (pc := 61) (idx := 19) (t := 7) (j := 3) (by decide +kernel) fd_Frame_19 h0 (fr_7_3 h0) ?_
        refine ja_aload_n (pc := 64) (f := 0) (i := 0) 0 (by decide +kernel) rfl rfl ?_
        refine ja_getr (pc := 65) (idx := 29) (t := 7) (j := 5) (by decide +kernel) fd_Frame_29 h0 (fr_7_5 h0) ?_
        refine ja_geti (pc := 68) (idx := 175) (t := 0) (j := 2) (by decide +kernel) fd_Frame_175 (fk_7_5 h0) ?_
        refine ja_bind hf (fun v3 hv3 hf => ?_)
        refine ja_callVv (pc := 71) (idx := 165) (t := 5) (b := (ja_q x0 3)) (as := [.int (v1.2.1 (ja_q x0 5) 2)]) (st := []) (by decide +kernel) kv_Sheet_dropRule lk_Frame_165 ⟨by decide, by decide⟩ (c_Sheet_dropRule _ _ (ja_q x0 3) (v1.2.1 (ja_q x0 5) 2) (fk_7_3 h0) hv3) (fk_7_3 h0) rfl (Nat.le_of_ble_eq_true rfl) rfl ?_
        refine ja_goto (pc := 74) (off := 24) 98 (by decide +kernel) (by decide) ?_
        exact w_Frame_undo_B98 C  x0 v3 h0 hf
    · refine ja_aload_n (pc := 23) (f := 0) (i := 0) 0 (by decide +kernel) rfl rfl ?_
      refine ja_dup (pc := 24) (by decide +kernel) rfl ?_
      refine ja_geti (pc := 25) (idx := 33) (t := 7) (j := 6) (by decide +kernel) fd_Frame_33 h0 ?_
      refine ja_iconst (pc := 28) (n := 1) (v := 1) (by decide +kernel) (by decide +kernel) ?_
      refine ja_aload_n (pc := 29) (f := 0) (i := 0) 0 (by decide +kernel) rfl rfl ?_
      refine ja_getr (pc := 30) (idx := 29) (t := 7) (j := 5) (by decide +kernel) fd_Frame_29 h0 (fr_7_5 h0) ?_
      refine ja_geti (pc := 33) (idx := 175) (t := 0) (j := 2) (by decide +kernel) fd_Frame_175 (fk_7_5 h0) ?_
      refine ja_ishl (pc := 36) (by decide +kernel) ?_
      refine ja_ixor (pc := 37) (by decide +kernel) ?_
      refine ja_bind hf (fun s4 hs4 hf => ?_)
      refine ja_puti2 (pc := 38) (idx := 33) (t := 7) (j := 6) (by decide +kernel) fd_Frame_33 h0 ⟨rfl, rfl⟩ hs4 ?_
      refine ja_aload_n (pc := 41) (f := 0) (i := 0) 0 (by decide +kernel) rfl rfl ?_
      refine ja_getr (pc := 42) (idx := 29) (t := 7) (j := 5) (by decide +kernel) fd_Frame_29 h0 (fr_7_5 h0) ?_
      refine ja_geti (pc := 45) (idx := 178) (t := 0) (j := 0) (by decide +kernel) fd_Frame_178 (fk_7_5 h0) ?_
      exact ja_ret (pc := 48) (some (.int (s4.1 (ja_q x0 5) 0))) .ireturn (by decide +kernel) rfl (by cases hf; rfl)
  · refine ja_bipush (pc := 10) (n := (-5)) (v := (-5)) (by decide +kernel) (by decide +kernel) ?_
    exact ja_ret (pc := 12) (some (.int (-5 : Int32))) .ireturn (by decide +kernel) rfl (by cases hf; rfl)
def f_Sheet_allLevers (x0 : Nat) (sg : ja_S) : Option (Int32 × ja_S) := some (((1 : Int32) <<< ((sg.1 x0 0) &&& 31)) - (1 : Int32), sg)
set_option maxRecDepth 4000 in
theorem c_Sheet_allLevers (l : Launch) (x : ja_X) (x0 : Nat) {sg : ja_S} {w : Int32 × ja_S} (h0 : ja_ob ja_L0 5 x0) (hf : f_Sheet_allLevers x0 sg = some w) : ja_Ct l x y_Sheet_allLevers M_Sheet_allLevers [.ref x0] ja_L0 sg (some (.int w.1), ja_L0, w.2) := by
  refine ja_mk ⟨by decide, rfl, rfl⟩ (Nat.le_of_ble_eq_true rfl) (lv := [(0, .ref x0)]) rfl (fun C hl hx _ _ _ _ => ?_)
  subst hl; subst hx
  unfold f_Sheet_allLevers at hf
  refine ja_iconst (pc := 0) (n := 1) (v := 1) (by decide +kernel) (by decide +kernel) ?_
  refine ja_aload_n (pc := 1) (f := 0) (i := 0) 0 (by decide +kernel) rfl rfl ?_
  refine ja_geti (pc := 2) (idx := 9) (t := 5) (j := 0) (by decide +kernel) fd_Sheet_9 h0 ?_
  refine ja_ishl (pc := 5) (by decide +kernel) ?_
  refine ja_iconst (pc := 6) (n := 1) (v := 1) (by decide +kernel) (by decide +kernel) ?_
  refine ja_isub (pc := 7) (by decide +kernel) ?_
  exact ja_ret (pc := 8) (some (.int (((1 : Int32) <<< ((sg.1 x0 0) &&& 31)) - (1 : Int32)))) .ireturn (by decide +kernel) rfl (by cases hf; rfl)
def f_Sheet_hasState (x0 : Nat) (x1 : Int32) (sg : ja_S) : Option (Int32 × ja_S) := (if x1 < 0 then some ((0 : Int32), sg) else (f_Sheet_allLevers x0 sg).bind fun v1 => (if v1.1 < x1 then some ((0 : Int32), v1.2) else some ((1 : Int32), v1.2)))
set_option maxRecDepth 4000 in
theorem c_Sheet_hasState (l : Launch) (x : ja_X) (x0 : Nat) (x1 : Int32) {sg : ja_S} {w : Int32 × ja_S} (h0 : ja_ob ja_L0 5 x0) (hf : f_Sheet_hasState x0 x1 sg = some w) : ja_Ct l x y_Sheet_hasState M_Sheet_hasState [.ref x0, .int x1] ja_L0 sg (some (.int w.1), ja_L0, w.2) := by
  refine ja_mk ⟨by decide, rfl, rfl⟩ (Nat.le_of_ble_eq_true rfl) (lv := [(0, .ref x0), (1, .int x1)]) rfl (fun C hl hx _ _ _ _ => ?_)
  subst hl; subst hx
  unfold f_Sheet_hasState at hf
  refine ja_iload_n (pc := 0) (f := 1) (i := 1) 1 (by decide +kernel) rfl rfl ?_
  refine ja_if_lt (pc := 1) (off := 15) 16 (by decide +kernel) (by decide) hf (fun hf => ?_) (fun hf => ?_)
  · refine ja_iconst (pc := 16) (n := 0) (v := 0) (by decide +kernel) (by decide +kernel) ?_
    exact ja_ret (pc := 17) (some (.int (0 : Int32))) .ireturn (by decide +kernel) rfl (by cases hf; rfl)
  · refine ja_iload_n (pc := 4) (f := 1) (i := 1) 1 (by decide +kernel) rfl rfl ?_
    refine ja_aload_n (pc := 5) (f := 0) (i := 0) 0 (by decide +kernel) rfl rfl ?_
    refine ja_bind hf (fun v1 hv1 hf => ?_)
    refine ja_callVi (pc := 6) (idx := 46) (t := 5) (b := x0) (as := []) (st := [.int x1]) (by decide +kernel) kv_Sheet_allLevers lk_Sheet_46 ⟨by decide, by decide⟩ (c_Sheet_allLevers _ _ x0 h0 hv1) h0 rfl (Nat.le_of_ble_eq_true rfl) rfl ?_
    refine ja_icmp_gt (pc := 9) (off := 7) 16 (by decide +kernel) (by decide) hf (fun hf => ?_) (fun hf => ?_)
    · refine ja_iconst (pc := 16) (n := 0) (v := 0) (by decide +kernel) (by decide +kernel) ?_
      exact ja_ret (pc := 17) (some (.int (0 : Int32))) .ireturn (by decide +kernel) rfl (by cases hf; rfl)
    · refine ja_iconst (pc := 12) (n := 1) (v := 1) (by decide +kernel) (by decide +kernel) ?_
      refine ja_goto (pc := 13) (off := 4) 17 (by decide +kernel) (by decide) ?_
      exact ja_ret (pc := 17) (some (.int (1 : Int32))) .ireturn (by decide +kernel) rfl (by cases hf; rfl)
def f_Sheet_permits_L2  : Nat → Nat → Int32 → Int32 → ja_S → Option (Int32 × ja_S)
  | 0, _, _, _, _ => none
  | n + 1, x0, x1, x2, sg => (if (sg.1 x0 3) ≤ x2 then some ((1 : Int32), sg) else (ja_ld ja_L0 sg (ja_q x0 2) x2).bind fun v1 => (f_Rule_forbids v1 x1 sg).bind fun v2 => (if v2.1 = 0 then f_Sheet_permits_L2  n x0 x1 (x2 + 1) v2.2 else some ((0 : Int32), v2.2)))
set_option maxRecDepth 4000 in
theorem w_Sheet_permits_L2 (C : ja_C) {w : Int32 × ja_S}    (n : Nat) : ∀ (x0 : Nat) (x1 : Int32) (x2 : Int32) (sg : ja_S), ja_ob ja_L0 5 x0 → f_Sheet_permits_L2  n x0 x1 x2 sg = some w → ja_J M_Sheet_permits C 2 [(0, .ref x0), (1, .int x1), (2, .int x2)] [] ja_L0 sg (some (.int w.1), ja_L0, w.2) := by
  induction n with
  | zero => intro _ _ _ _ _ hf; exact absurd (show (none : Option _) = some w from hf) (by simp)
  | succ n ih =>
    intro x0 x1 x2 sg h0 hf
    unfold f_Sheet_permits_L2 at hf
    refine ja_iload_n (pc := 2) (f := 2) (i := 2) 2 (by decide +kernel) rfl rfl ?_
    refine ja_aload_n (pc := 3) (f := 0) (i := 0) 0 (by decide +kernel) rfl rfl ?_
    refine ja_geti (pc := 4) (idx := 22) (t := 5) (j := 3) (by decide +kernel) fd_Sheet_22 h0 ?_
    refine ja_icmp_ge (pc := 7) (off := 24) 31 (by decide +kernel) (by decide) hf (fun hf => ?_) (fun hf => ?_)
    · refine ja_iconst (pc := 31) (n := 1) (v := 1) (by decide +kernel) (by decide +kernel) ?_
      exact ja_ret (pc := 32) (some (.int (1 : Int32))) .ireturn (by decide +kernel) rfl (by cases hf; rfl)
    · refine ja_aload_n (pc := 10) (f := 0) (i := 0) 0 (by decide +kernel) rfl rfl ?_
      refine ja_getr (pc := 11) (idx := 18) (t := 5) (j := 2) (by decide +kernel) fd_Sheet_18 h0 (fr_5_2 h0) ?_
      refine ja_iload_n (pc := 14) (f := 2) (i := 2) 2 (by decide +kernel) rfl rfl ?_
      refine ja_bind hf (fun v1 hv1 hf => ?_)
      refine ja_iald (pc := 15) (by decide +kernel) (fk_5_2 h0) hv1 ?_
      refine ja_iload_n (pc := 16) (f := 1) (i := 1) 1 (by decide +kernel) rfl rfl ?_
      refine ja_bind hf (fun v2 hv2 hf => ?_)
      refine ja_callSi (pc := 17) (idx := 60) (as := [.int v1, .int x1]) (st := []) (by decide +kernel) ks_Rule_forbids lk_Sheet_60 ⟨by decide, by decide⟩ (c_Rule_forbids _ _ v1 x1  hv2) rfl (Nat.le_of_ble_eq_true rfl) rfl ?_
      refine ja_if_eq (pc := 20) (off := 5) 25 (by decide +kernel) (by decide) hf (fun hf => ?_) (fun hf => ?_)
      · refine ja_iinc (pc := 25) (i := 2) (n := 1) (v := x2 + 1) (lv' := [(2, .int (x2 + 1)), (0, .ref x0), (1, .int x1)]) 2 (by decide +kernel) rfl rfl (by decide) rfl ?_
        refine ja_goto (pc := 28) (off := (-26)) 2 (by decide +kernel) (by decide) ?_
        refine ja_lv [1, 2, 0] rfl ?_
        exact ih x0 x1 (x2 + 1) v2.2 h0 hf
      · refine ja_iconst (pc := 23) (n := 0) (v := 0) (by decide +kernel) (by decide +kernel) ?_
        exact ja_ret (pc := 24) (some (.int (0 : Int32))) .ireturn (by decide +kernel) rfl (by cases hf; rfl)
def f_Sheet_permits (x0 : Nat) (x1 : Int32) (sg : ja_S) : Option (Int32 × ja_S) := f_Sheet_permits_L2  ja_FU x0 x1 (0 : Int32) sg
set_option maxRecDepth 4000 in
theorem c_Sheet_permits (l : Launch) (x : ja_X) (x0 : Nat) (x1 : Int32) {sg : ja_S} {w : Int32 × ja_S} (h0 : ja_ob ja_L0 5 x0) (hf : f_Sheet_permits x0 x1 sg = some w) : ja_Ct l x y_Sheet_permits M_Sheet_permits [.ref x0, .int x1] ja_L0 sg (some (.int w.1), ja_L0, w.2) := by
  refine ja_mk ⟨by decide, rfl, rfl⟩ (Nat.le_of_ble_eq_true rfl) (lv := [(0, .ref x0), (1, .int x1)]) rfl (fun C hl hx _ _ _ _ => ?_)
  subst hl; subst hx
  unfold f_Sheet_permits at hf
  refine ja_iconst (pc := 0) (n := 0) (v := 0) (by decide +kernel) (by decide +kernel) ?_
  refine ja_istore_n (pc := 1) (f := 2) (i := 2) (lv' := [(2, .int (0 : Int32)), (0, .ref x0), (1, .int x1)]) (by decide +kernel) rfl (by decide) rfl ?_
  refine ja_lv [1, 2, 0] rfl ?_
  exact w_Sheet_permits_L2 C  ja_FU x0 x1 (0 : Int32) sg h0 hf
def f_Frame_isLegal (x0 : Nat) (x1 : Int32) (sg : ja_S) : Option (Int32 × ja_S) := (f_Sheet_hasState (ja_q x0 3) x1 sg).bind fun v1 => (if v1.1 = 0 then some ((-3 : Int32), v1.2) else (f_Sheet_permits (ja_q x0 3) x1 v1.2).bind fun v2 => (if v2.1 = 0 then some ((0 : Int32), v2.2) else some ((1 : Int32), v2.2)))
set_option maxRecDepth 4000 in
theorem c_Frame_isLegal (l : Launch) (x : ja_X) (x0 : Nat) (x1 : Int32) {sg : ja_S} {w : Int32 × ja_S} (h0 : ja_ob ja_L0 7 x0) (hf : f_Frame_isLegal x0 x1 sg = some w) : ja_Ct l x y_Frame_isLegal M_Frame_isLegal [.ref x0, .int x1] ja_L0 sg (some (.int w.1), ja_L0, w.2) := by
  refine ja_mk ⟨by decide, rfl, rfl⟩ (Nat.le_of_ble_eq_true rfl) (lv := [(0, .ref x0), (1, .int x1)]) rfl (fun C hl hx _ _ _ _ => ?_)
  subst hl; subst hx
  unfold f_Frame_isLegal at hf
  refine ja_aload_n (pc := 0) (f := 0) (i := 0) 0 (by decide +kernel) rfl rfl ?_
  refine ja_getr (pc := 1) (idx := 19) (t := 7) (j := 3) (by decide +kernel) fd_Frame_19 h0 (fr_7_3 h0) ?_
  refine ja_iload_n (pc := 4) (f := 1) (i := 1) 1 (by decide +kernel) rfl rfl ?_
  refine ja_bind hf (fun v1 hv1 hf => ?_)
  refine ja_callVi (pc := 5) (idx := 184) (t := 5) (b := (ja_q x0 3)) (as := [.int x1]) (st := []) (by decide +kernel) kv_Sheet_hasState lk_Frame_184 ⟨by decide, by decide⟩ (c_Sheet_hasState _ _ (ja_q x0 3) x1 (fk_7_3 h0) hv1) (fk_7_3 h0) rfl (Nat.le_of_ble_eq_true rfl) rfl ?_
  refine ja_if_ne (pc := 8) (off := 6) 14 (by decide +kernel) (by decide) hf (fun hf => ?_) (fun hf => ?_)
  · refine ja_aload_n (pc := 14) (f := 0) (i := 0) 0 (by decide +kernel) rfl rfl ?_
    refine ja_getr (pc := 15) (idx := 19) (t := 7) (j := 3) (by decide +kernel) fd_Frame_19 h0 (fr_7_3 h0) ?_
    refine ja_iload_n (pc := 18) (f := 1) (i := 1) 1 (by decide +kernel) rfl rfl ?_
    refine ja_bind hf (fun v2 hv2 hf => ?_)
    refine ja_callVi (pc := 19) (idx := 187) (t := 5) (b := (ja_q x0 3)) (as := [.int x1]) (st := []) (by decide +kernel) kv_Sheet_permits lk_Frame_187 ⟨by decide, by decide⟩ (c_Sheet_permits _ _ (ja_q x0 3) x1 (fk_7_3 h0) hv2) (fk_7_3 h0) rfl (Nat.le_of_ble_eq_true rfl) rfl ?_
    refine ja_if_eq (pc := 22) (off := 7) 29 (by decide +kernel) (by decide) hf (fun hf => ?_) (fun hf => ?_)
    · refine ja_iconst (pc := 29) (n := 0) (v := 0) (by decide +kernel) (by decide +kernel) ?_
      exact ja_ret (pc := 30) (some (.int (0 : Int32))) .ireturn (by decide +kernel) rfl (by cases hf; rfl)
    · refine ja_iconst (pc := 25) (n := 1) (v := 1) (by decide +kernel) (by decide +kernel) ?_
      refine ja_goto (pc := 26) (off := 4) 30 (by decide +kernel) (by decide) ?_
      exact ja_ret (pc := 30) (some (.int (1 : Int32))) .ireturn (by decide +kernel) rfl (by cases hf; rfl)
  · refine ja_bipush (pc := 11) (n := (-3)) (v := (-3)) (by decide +kernel) (by decide +kernel) ?_
    exact ja_ret (pc := 13) (some (.int (-3 : Int32))) .ireturn (by decide +kernel) rfl (by cases hf; rfl)
def f_Frame_blockingRule (x0 : Nat) (x1 : Int32) (x2 : Int32) (sg : ja_S) : Option (Int32 × ja_S) := (f_Sheet_hasLever (ja_q x0 3) x2 sg).bind fun v1 => (if v1.1 = 0 then some ((-2 : Int32), v1.2) else (f_Sheet_hasState (ja_q x0 3) x1 v1.2).bind fun v2 => (if v2.1 = 0 then some ((-3 : Int32), v2.2) else (f_Sheet_firstBlocker (ja_q x0 3) x1 x2 v2.2).bind fun v3 => some (v3.1, v3.2)))
set_option maxRecDepth 4000 in
theorem c_Frame_blockingRule (l : Launch) (x : ja_X) (x0 : Nat) (x1 : Int32) (x2 : Int32) {sg : ja_S} {w : Int32 × ja_S} (h0 : ja_ob ja_L0 7 x0) (hf : f_Frame_blockingRule x0 x1 x2 sg = some w) : ja_Ct l x y_Frame_blockingRule M_Frame_blockingRule [.ref x0, .int x1, .int x2] ja_L0 sg (some (.int w.1), ja_L0, w.2) := by
  refine ja_mk ⟨by decide, rfl, rfl⟩ (Nat.le_of_ble_eq_true rfl) (lv := [(0, .ref x0), (1, .int x1), (2, .int x2)]) rfl (fun C hl hx _ _ _ _ => ?_)
  subst hl; subst hx
  unfold f_Frame_blockingRule at hf
  refine ja_aload_n (pc := 0) (f := 0) (i := 0) 0 (by decide +kernel) rfl rfl ?_
  refine ja_getr (pc := 1) (idx := 19) (t := 7) (j := 3) (by decide +kernel) fd_Frame_19 h0 (fr_7_3 h0) ?_
  refine ja_iload_n (pc := 4) (f := 2) (i := 2) 2 (by decide +kernel) rfl rfl ?_
  refine ja_bind hf (fun v1 hv1 hf => ?_)
  refine ja_callVi (pc := 5) (idx := 143) (t := 5) (b := (ja_q x0 3)) (as := [.int x2]) (st := []) (by decide +kernel) kv_Sheet_hasLever lk_Frame_143 ⟨by decide, by decide⟩ (c_Sheet_hasLever _ _ (ja_q x0 3) x2 (fk_7_3 h0) hv1) (fk_7_3 h0) rfl (Nat.le_of_ble_eq_true rfl) rfl ?_
  refine ja_if_ne (pc := 8) (off := 6) 14 (by decide +kernel) (by decide) hf (fun hf => ?_) (fun hf => ?_)
  · refine ja_aload_n (pc := 14) (f := 0) (i := 0) 0 (by decide +kernel) rfl rfl ?_
    refine ja_getr (pc := 15) (idx := 19) (t := 7) (j := 3) (by decide +kernel) fd_Frame_19 h0 (fr_7_3 h0) ?_
    refine ja_iload_n (pc := 18) (f := 1) (i := 1) 1 (by decide +kernel) rfl rfl ?_
    refine ja_bind hf (fun v2 hv2 hf => ?_)
    refine ja_callVi (pc := 19) (idx := 184) (t := 5) (b := (ja_q x0 3)) (as := [.int x1]) (st := []) (by decide +kernel) kv_Sheet_hasState lk_Frame_184 ⟨by decide, by decide⟩ (c_Sheet_hasState _ _ (ja_q x0 3) x1 (fk_7_3 h0) hv2) (fk_7_3 h0) rfl (Nat.le_of_ble_eq_true rfl) rfl ?_
    refine ja_if_ne (pc := 22) (off := 6) 28 (by decide +kernel) (by decide) hf (fun hf => ?_) (fun hf => ?_)
    · refine ja_aload_n (pc := 28) (f := 0) (i := 0) 0 (by decide +kernel) rfl rfl ?_
      refine ja_getr (pc := 29) (idx := 19) (t := 7) (j := 3) (by decide +kernel) fd_Frame_19 h0 (fr_7_3 h0) ?_
      refine ja_iload_n (pc := 32) (f := 1) (i := 1) 1 (by decide +kernel) rfl rfl ?_
      refine ja_iload_n (pc := 33) (f := 2) (i := 2) 2 (by decide +kernel) rfl rfl ?_
      refine ja_bind hf (fun v3 hv3 hf => ?_)
      refine ja_callVi (pc := 34) (idx := 146) (t := 5) (b := (ja_q x0 3)) (as := [.int x1, .int x2]) (st := []) (by decide +kernel) kv_Sheet_firstBlocker lk_Frame_146 ⟨by decide, by decide⟩ (c_Sheet_firstBlocker _ _ (ja_q x0 3) x1 x2 (fk_7_3 h0) hv3) (fk_7_3 h0) rfl (Nat.le_of_ble_eq_true rfl) rfl ?_
      exact ja_ret (pc := 37) (some (.int v3.1)) .ireturn (by decide +kernel) rfl (by cases hf; rfl)
    · refine ja_bipush (pc := 25) (n := (-3)) (v := (-3)) (by decide +kernel) (by decide +kernel) ?_
      exact ja_ret (pc := 27) (some (.int (-3 : Int32))) .ireturn (by decide +kernel) rfl (by cases hf; rfl)
  · refine ja_bipush (pc := 11) (n := (-2)) (v := (-2)) (by decide +kernel) (by decide +kernel) ?_
    exact ja_ret (pc := 13) (some (.int (-2 : Int32))) .ireturn (by decide +kernel) rfl (by cases hf; rfl)
def f_Frame_freeLevers_L18  : Nat → Nat → Int32 → Int32 → Int32 → ja_S → Option (Int32 × ja_S)
  | 0, _, _, _, _, _ => none
  | n + 1, x0, x1, x2, x3, sg => (if (sg.1 (ja_q x0 3) 0) ≤ x3 then some (x2, sg) else (f_Sheet_firstBlocker (ja_q x0 3) x1 x3 sg).bind fun v1 => (if v1.1 = (-1 : Int32) then f_Frame_freeLevers_L18  n x0 x1 (x2 ||| ((1 : Int32) <<< (x3 &&& 31))) (x3 + 1) v1.2 else f_Frame_freeLevers_L18  n x0 x1 x2 (x3 + 1) v1.2))
set_option maxRecDepth 4000 in
theorem w_Frame_freeLevers_L18 (C : ja_C) {w : Int32 × ja_S}    (n : Nat) : ∀ (x0 : Nat) (x1 : Int32) (x2 : Int32) (x3 : Int32) (sg : ja_S), ja_ob ja_L0 7 x0 → f_Frame_freeLevers_L18  n x0 x1 x2 x3 sg = some w → ja_J M_Frame_freeLevers C 18 [(0, .ref x0), (1, .int x1), (2, .int x2), (3, .int x3)] [] ja_L0 sg (some (.int w.1), ja_L0, w.2) := by
  induction n with
  | zero => intro _ _ _ _ _ _ hf; exact absurd (show (none : Option _) = some w from hf) (by simp)
  | succ n ih =>
    intro x0 x1 x2 x3 sg h0 hf
    unfold f_Frame_freeLevers_L18 at hf
    refine ja_iload_n (pc := 18) (f := 3) (i := 3) 3 (by decide +kernel) rfl rfl ?_
    refine ja_aload_n (pc := 19) (f := 0) (i := 0) 0 (by decide +kernel) rfl rfl ?_
    refine ja_getr (pc := 20) (idx := 19) (t := 7) (j := 3) (by decide +kernel) fd_Frame_19 h0 (fr_7_3 h0) ?_
    refine ja_geti (pc := 23) (idx := 107) (t := 5) (j := 0) (by decide +kernel) fd_Frame_107 (fk_7_3 h0) ?_
    refine ja_icmp_ge (pc := 26) (off := 28) 54 (by decide +kernel) (by decide) hf (fun hf => ?_) (fun hf => ?_)
    · refine ja_iload_n (pc := 54) (f := 2) (i := 2) 2 (by decide +kernel) rfl rfl ?_
      exact ja_ret (pc := 55) (some (.int x2)) .ireturn (by decide +kernel) rfl (by cases hf; rfl)
    · refine ja_aload_n (pc := 29) (f := 0) (i := 0) 0 (by decide +kernel) rfl rfl ?_
      refine ja_getr (pc := 30) (idx := 19) (t := 7) (j := 3) (by decide +kernel) fd_Frame_19 h0 (fr_7_3 h0) ?_
      refine ja_iload_n (pc := 33) (f := 1) (i := 1) 1 (by decide +kernel) rfl rfl ?_
      refine ja_iload_n (pc := 34) (f := 3) (i := 3) 3 (by decide +kernel) rfl rfl ?_
      refine ja_bind hf (fun v1 hv1 hf => ?_)
      refine ja_callVi (pc := 35) (idx := 146) (t := 5) (b := (ja_q x0 3)) (as := [.int x1, .int x3]) (st := []) (by decide +kernel) kv_Sheet_firstBlocker lk_Frame_146 ⟨by decide, by decide⟩ (c_Sheet_firstBlocker _ _ (ja_q x0 3) x1 x3 (fk_7_3 h0) hv1) (fk_7_3 h0) rfl (Nat.le_of_ble_eq_true rfl) rfl ?_
      refine ja_iconst (pc := 38) (n := (-1)) (v := (-1)) (by decide +kernel) (by decide +kernel) ?_
      refine ja_icmp_ne (pc := 39) (off := 9) 48 (by decide +kernel) (by decide) hf (fun hf => ?_) (fun hf => ?_)
      · refine ja_iinc (pc := 48) (i := 3) (n := 1) (v := x3 + 1) (lv' := [(3, .int (x3 + 1)), (0, .ref x0), (1, .int x1), (2, .int x2)]) 3 (by decide +kernel) rfl rfl (by decide) rfl ?_
        refine ja_goto (pc := 51) (off := (-33)) 18 (by decide +kernel) (by decide) ?_
        refine ja_lv [1, 2, 3, 0] rfl ?_
        exact ih x0 x1 x2 (x3 + 1) v1.2 h0 hf
      · refine ja_iload_n (pc := 42) (f := 2) (i := 2) 2 (by decide +kernel) rfl rfl ?_
        refine ja_iconst (pc := 43) (n := 1) (v := 1) (by decide +kernel) (by decide +kernel) ?_
        refine ja_iload_n (pc := 44) (f := 3) (i := 3) 3 (by decide +kernel) rfl rfl ?_
        refine ja_ishl (pc := 45) (by decide +kernel) ?_
        refine ja_ior (pc := 46) (by decide +kernel) ?_
        refine ja_istore_n (pc := 47) (f := 2) (i := 2) (lv' := [(2, .int (x2 ||| ((1 : Int32) <<< (x3 &&& 31)))), (0, .ref x0), (1, .int x1), (3, .int x3)]) (by decide +kernel) rfl (by decide) rfl ?_
        refine ja_iinc (pc := 48) (i := 3) (n := 1) (v := x3 + 1) (lv' := [(3, .int (x3 + 1)), (2, .int (x2 ||| ((1 : Int32) <<< (x3 &&& 31)))), (0, .ref x0), (1, .int x1)]) 3 (by decide +kernel) rfl rfl (by decide) rfl ?_
        refine ja_goto (pc := 51) (off := (-33)) 18 (by decide +kernel) (by decide) ?_
        refine ja_lv [2, 3, 1, 0] rfl ?_
        exact ih x0 x1 (x2 ||| ((1 : Int32) <<< (x3 &&& 31))) (x3 + 1) v1.2 h0 hf
def f_Frame_freeLevers (x0 : Nat) (x1 : Int32) (sg : ja_S) : Option (Int32 × ja_S) := (f_Sheet_hasState (ja_q x0 3) x1 sg).bind fun v1 => (if v1.1 = 0 then some ((-3 : Int32), v1.2) else f_Frame_freeLevers_L18  ja_FU x0 x1 (0 : Int32) (0 : Int32) v1.2)
set_option maxRecDepth 4000 in
theorem c_Frame_freeLevers (l : Launch) (x : ja_X) (x0 : Nat) (x1 : Int32) {sg : ja_S} {w : Int32 × ja_S} (h0 : ja_ob ja_L0 7 x0) (hf : f_Frame_freeLevers x0 x1 sg = some w) : ja_Ct l x y_Frame_freeLevers M_Frame_freeLevers [.ref x0, .int x1] ja_L0 sg (some (.int w.1), ja_L0, w.2) := by
  refine ja_mk ⟨by decide, rfl, rfl⟩ (Nat.le_of_ble_eq_true rfl) (lv := [(0, .ref x0), (1, .int x1)]) rfl (fun C hl hx _ _ _ _ => ?_)
  subst hl; subst hx
  unfold f_Frame_freeLevers at hf
  refine ja_aload_n (pc := 0) (f := 0) (i := 0) 0 (by decide +kernel) rfl rfl ?_
  refine ja_getr (pc := 1) (idx := 19) (t := 7) (j := 3) (by decide +kernel) fd_Frame_19 h0 (fr_7_3 h0) ?_
  refine ja_iload_n (pc := 4) (f := 1) (i := 1) 1 (by decide +kernel) rfl rfl ?_
  refine ja_bind hf (fun v1 hv1 hf => ?_)
  refine ja_callVi (pc := 5) (idx := 184) (t := 5) (b := (ja_q x0 3)) (as := [.int x1]) (st := []) (by decide +kernel) kv_Sheet_hasState lk_Frame_184 ⟨by decide, by decide⟩ (c_Sheet_hasState _ _ (ja_q x0 3) x1 (fk_7_3 h0) hv1) (fk_7_3 h0) rfl (Nat.le_of_ble_eq_true rfl) rfl ?_
  refine ja_if_ne (pc := 8) (off := 6) 14 (by decide +kernel) (by decide) hf (fun hf => ?_) (fun hf => ?_)
  · refine ja_iconst (pc := 14) (n := 0) (v := 0) (by decide +kernel) (by decide +kernel) ?_
    refine ja_istore_n (pc := 15) (f := 2) (i := 2) (lv' := [(2, .int (0 : Int32)), (0, .ref x0), (1, .int x1)]) (by decide +kernel) rfl (by decide) rfl ?_
    refine ja_iconst (pc := 16) (n := 0) (v := 0) (by decide +kernel) (by decide +kernel) ?_
    refine ja_istore_n (pc := 17) (f := 3) (i := 3) (lv' := [(3, .int (0 : Int32)), (2, .int (0 : Int32)), (0, .ref x0), (1, .int x1)]) (by decide +kernel) rfl (by decide) rfl ?_
    refine ja_lv [2, 3, 1, 0] rfl ?_
    exact w_Frame_freeLevers_L18 C  ja_FU x0 x1 (0 : Int32) (0 : Int32) v1.2 h0 hf
  · refine ja_bipush (pc := 11) (n := (-3)) (v := (-3)) (by decide +kernel) (by decide +kernel) ?_
    exact ja_ret (pc := 13) (some (.int (-3 : Int32))) .ireturn (by decide +kernel) rfl (by cases hf; rfl)
def f_Sheet_allRules (x0 : Nat) (sg : ja_S) : Option (Int32 × ja_S) := some (((1 : Int32) <<< ((sg.1 x0 3) &&& 31)) - (1 : Int32), sg)
set_option maxRecDepth 4000 in
theorem c_Sheet_allRules (l : Launch) (x : ja_X) (x0 : Nat) {sg : ja_S} {w : Int32 × ja_S} (h0 : ja_ob ja_L0 5 x0) (hf : f_Sheet_allRules x0 sg = some w) : ja_Ct l x y_Sheet_allRules M_Sheet_allRules [.ref x0] ja_L0 sg (some (.int w.1), ja_L0, w.2) := by
  refine ja_mk ⟨by decide, rfl, rfl⟩ (Nat.le_of_ble_eq_true rfl) (lv := [(0, .ref x0)]) rfl (fun C hl hx _ _ _ _ => ?_)
  subst hl; subst hx
  unfold f_Sheet_allRules at hf
  refine ja_iconst (pc := 0) (n := 1) (v := 1) (by decide +kernel) (by decide +kernel) ?_
  refine ja_aload_n (pc := 1) (f := 0) (i := 0) 0 (by decide +kernel) rfl rfl ?_
  refine ja_geti (pc := 2) (idx := 22) (t := 5) (j := 3) (by decide +kernel) fd_Sheet_22 h0 ?_
  refine ja_ishl (pc := 5) (by decide +kernel) ?_
  refine ja_iconst (pc := 6) (n := 1) (v := 1) (by decide +kernel) (by decide +kernel) ?_
  refine ja_isub (pc := 7) (by decide +kernel) ?_
  exact ja_ret (pc := 8) (some (.int (((1 : Int32) <<< ((sg.1 x0 3) &&& 31)) - (1 : Int32)))) .ireturn (by decide +kernel) rfl (by cases hf; rfl)
def f_Arrays_fillJ_L6  : Nat → Nat → Int64 → Int32 → Int32 → ja_S → Option (ja_S)
  | 0, _, _, _, _, _ => none
  | n + 1, x0, x1, x3, x4, sg => (if x4 ≤ x3 then some sg else (ja_stl ja_L0 sg x0 x3 x1).bind fun s1 => f_Arrays_fillJ_L6  n x0 x1 (x3 + 1) x4 s1)
set_option maxRecDepth 4000 in
theorem w_Arrays_fillJ_L6 (C : ja_C) {w : ja_S}    (n : Nat) : ∀ (x0 : Nat) (x1 : Int64) (x3 : Int32) (x4 : Int32) (sg : ja_S), ja_al ja_L0 x0 → f_Arrays_fillJ_L6  n x0 x1 x3 x4 sg = some w → ja_J M_Arrays_fillJ C 6 [(0, .ref x0), (1, .long x1), (3, .int x3), (4, .int x4)] [] ja_L0 sg (none, ja_L0, w) := by
  induction n with
  | zero => intro _ _ _ _ _ _ hf; exact absurd (show (none : Option _) = some w from hf) (by simp)
  | succ n ih =>
    intro x0 x1 x3 x4 sg h0 hf
    unfold f_Arrays_fillJ_L6 at hf
    refine ja_iload_n (pc := 6) (f := 3) (i := 3) 2 (by decide +kernel) rfl rfl ?_
    refine ja_iload (pc := 7) (i := 4) 3 (by decide +kernel) rfl ?_
    refine ja_icmp_ge (pc := 9) (off := 13) 22 (by decide +kernel) (by decide) hf (fun hf => ?_) (fun hf => ?_)
    · exact ja_ret (pc := 22) none .return_ (by decide +kernel) rfl (by cases hf; rfl)
    · refine ja_aload_n (pc := 12) (f := 0) (i := 0) 0 (by decide +kernel) rfl rfl ?_
      refine ja_iload_n (pc := 13) (f := 3) (i := 3) 2 (by decide +kernel) rfl rfl ?_
      refine ja_lload_n (pc := 14) (f := 1) (i := 1) 1 (by decide +kernel) rfl rfl ?_
      refine ja_bind hf (fun s1 hs1 hf => ?_)
      refine ja_last (pc := 15) (by decide +kernel) h0 hs1 ?_
      refine ja_iinc (pc := 16) (i := 3) (n := 1) (v := x3 + 1) (lv' := [(3, .int (x3 + 1)), (0, .ref x0), (1, .long x1), (4, .int x4)]) 2 (by decide +kernel) rfl rfl (by decide) rfl ?_
      refine ja_goto (pc := 19) (off := (-13)) 6 (by decide +kernel) (by decide) ?_
      refine ja_lv [1, 2, 0, 3] rfl ?_
      exact ih x0 x1 (x3 + 1) x4 s1 h0 hf
def f_Arrays_fillJ (x0 : Nat) (x1 : Int64) (sg : ja_S) : Option (ja_S) := f_Arrays_fillJ_L6  ja_FU x0 x1 (0 : Int32) (Int32.ofNat (ja_len ja_L0 x0)) sg
set_option maxRecDepth 4000 in
theorem c_Arrays_fillJ (l : Launch) (x : ja_X) (x0 : Nat) (x1 : Int64) {sg : ja_S} {w : ja_S} (h0 : ja_al ja_L0 x0) (hf : f_Arrays_fillJ x0 x1 sg = some w) : ja_Ct l x y_Arrays_fillJ M_Arrays_fillJ [.ref x0, .long x1] ja_L0 sg (none, ja_L0, w) := by
  refine ja_mk ⟨by decide, rfl, rfl⟩ (Nat.le_of_ble_eq_true rfl) (lv := [(0, .ref x0), (1, .long x1)]) rfl (fun C hl hx _ _ _ _ => ?_)
  subst hl; subst hx
  unfold f_Arrays_fillJ at hf
  refine ja_iconst (pc := 0) (n := 0) (v := 0) (by decide +kernel) (by decide +kernel) ?_
  refine ja_istore_n (pc := 1) (f := 3) (i := 3) (lv' := [(3, .int (0 : Int32)), (0, .ref x0), (1, .long x1)]) (by decide +kernel) rfl (by decide) rfl ?_
  refine ja_aload_n (pc := 2) (f := 0) (i := 0) 1 (by decide +kernel) rfl rfl ?_
  refine ja_alen (pc := 3) (by decide +kernel) (Or.inr h0) ?_
  refine ja_istore (pc := 4) (i := 4) (lv' := [(4, .int (Int32.ofNat (ja_len ja_L0 x0))), (3, .int (0 : Int32)), (0, .ref x0), (1, .long x1)]) (by decide +kernel) (by decide) rfl ?_
  refine ja_lv [2, 3, 1, 0] rfl ?_
  exact w_Arrays_fillJ_L6 C  ja_FU x0 x1 (0 : Int32) (Int32.ofNat (ja_len ja_L0 x0)) sg h0 hf
def f_Locking_statesInWord_B33 (k7 : Int32 → Int32 → Int64 → Int32 → ja_S → Option (Int64 × ja_S)) (x0 : Int32) (x1 : Int32) (x2 : Int64) (x4 : Int32) (sg : ja_S) : Option (Int64 × ja_S) := (if ((x1 >>> (x4 &&& 31)) &&& (1 : Int32)) = (1 : Int32) then (ja_ldt x4).bind fun v1 => k7 x0 x1 (x2 &&& (v1 ^^^ (-1 : Int64))) (x4 + 1) sg else k7 x0 x1 x2 (x4 + 1) sg)
set_option maxRecDepth 4000 in
theorem w_Locking_statesInWord_B33 (C : ja_C) {w : Int64 × ja_S} {k7 : Int32 → Int32 → Int64 → Int32 → ja_S → Option (Int64 × ja_S)} (e7 : ∀ (x0 : Int32) (x1 : Int32) (x2 : Int64) (x4 : Int32) (sg : ja_S), k7 x0 x1 x2 x4 sg = some w → ja_J M_Locking_statesInWord C 7 [(0, .int x0), (1, .int x1), (2, .long x2), (4, .int x4)] [] ja_L0 sg (some (.long w.1), ja_L0, w.2))  (x0 : Int32) (x1 : Int32) (x2 : Int64) (x4 : Int32) (sg : ja_S)  (hf : f_Locking_statesInWord_B33 k7 x0 x1 x2 x4 sg = some w) : ja_J M_Locking_statesInWord C 33 [(0, .int x0), (1, .int x1), (2, .long x2), (4, .int x4)] [] ja_L0 sg (some (.long w.1), ja_L0, w.2) := by
  unfold f_Locking_statesInWord_B33 at hf
  refine ja_iload_n (pc := 33) (f := 1) (i := 1) 1 (by decide +kernel) rfl rfl ?_
  refine ja_iload (pc := 34) (i := 4) 3 (by decide +kernel) rfl ?_
  refine ja_ishr (pc := 36) (by decide +kernel) ?_
  refine ja_iconst (pc := 37) (n := 1) (v := 1) (by decide +kernel) (by decide +kernel) ?_
  refine ja_iand (pc := 38) (by decide +kernel) ?_
  refine ja_iconst (pc := 39) (n := 1) (v := 1) (by decide +kernel) (by decide +kernel) ?_
  refine ja_icmp_ne (pc := 40) (off := 16) 56 (by decide +kernel) (by decide) hf (fun hf => ?_) (fun hf => ?_)
  · refine ja_iinc (pc := 56) (i := 4) (n := 1) (v := x4 + 1) (lv' := [(4, .int (x4 + 1)), (0, .int x0), (1, .int x1), (2, .long x2)]) 3 (by decide +kernel) rfl rfl (by decide) rfl ?_
    refine ja_goto (pc := 59) (off := (-52)) 7 (by decide +kernel) (by decide) ?_
    refine ja_lv [1, 2, 3, 0] rfl ?_
    exact e7 x0 x1 x2 (x4 + 1) sg  hf
  · refine ja_lload_n (pc := 43) (f := 2) (i := 2) 2 (by decide +kernel) rfl rfl ?_
    refine ja_gets (pc := 44) (idx := 72) (by decide +kernel) sl_Locking_72 ?_
    refine ja_iload (pc := 47) (i := 4) 3 (by decide +kernel) rfl ?_
    refine ja_bind hf (fun v1 hv1 hf => ?_)
    refine ja_tald (pc := 49) (by decide +kernel) hv1 ?_
    refine ja_ldc2 (pc := 50) (idx := 70) (v := (-1)) (by decide +kernel) cl_Locking_70 ?_
    refine ja_lxor (pc := 53) (by decide +kernel) ?_
    refine ja_land (pc := 54) (by decide +kernel) ?_
    refine ja_lstore_n (pc := 55) (f := 2) (i := 2) (lv' := [(2, .long (x2 &&& (v1 ^^^ (-1 : Int64)))), (0, .int x0), (1, .int x1), (4, .int x4)]) (by decide +kernel) rfl (by decide) rfl ?_
    refine ja_iinc (pc := 56) (i := 4) (n := 1) (v := x4 + 1) (lv' := [(4, .int (x4 + 1)), (2, .long (x2 &&& (v1 ^^^ (-1 : Int64)))), (0, .int x0), (1, .int x1)]) 3 (by decide +kernel) rfl rfl (by decide) rfl ?_
    refine ja_goto (pc := 59) (off := (-52)) 7 (by decide +kernel) (by decide) ?_
    refine ja_lv [2, 3, 1, 0] rfl ?_
    exact e7 x0 x1 (x2 &&& (v1 ^^^ (-1 : Int64))) (x4 + 1) sg  hf
def f_Locking_statesInWord_L7  : Nat → Int32 → Int32 → Int64 → Int32 → ja_S → Option (Int64 × ja_S)
  | 0, _, _, _, _, _ => none
  | n + 1, x0, x1, x2, x4, sg => (if (6 : Int32) ≤ x4 then some (x2, sg) else (if ((x0 >>> (x4 &&& 31)) &&& (1 : Int32)) = (1 : Int32) then (ja_ldt x4).bind fun v1 => f_Locking_statesInWord_B33 (f_Locking_statesInWord_L7  n) x0 x1 (x2 &&& v1) x4 sg else f_Locking_statesInWord_B33 (f_Locking_statesInWord_L7  n) x0 x1 x2 x4 sg))
set_option maxRecDepth 4000 in
theorem w_Locking_statesInWord_L7 (C : ja_C) {w : Int64 × ja_S}    (n : Nat) : ∀ (x0 : Int32) (x1 : Int32) (x2 : Int64) (x4 : Int32) (sg : ja_S), f_Locking_statesInWord_L7  n x0 x1 x2 x4 sg = some w → ja_J M_Locking_statesInWord C 7 [(0, .int x0), (1, .int x1), (2, .long x2), (4, .int x4)] [] ja_L0 sg (some (.long w.1), ja_L0, w.2) := by
  induction n with
  | zero => intro _ _ _ _ _ hf; exact absurd (show (none : Option _) = some w from hf) (by simp)
  | succ n ih =>
    intro x0 x1 x2 x4 sg  hf
    unfold f_Locking_statesInWord_L7 at hf
    refine ja_iload (pc := 7) (i := 4) 3 (by decide +kernel) rfl ?_
    refine ja_bipush (pc := 9) (n := 6) (v := 6) (by decide +kernel) (by decide +kernel) ?_
    refine ja_icmp_ge (pc := 11) (off := 51) 62 (by decide +kernel) (by decide) hf (fun hf => ?_) (fun hf => ?_)
    · refine ja_lload_n (pc := 62) (f := 2) (i := 2) 2 (by decide +kernel) rfl rfl ?_
      exact ja_ret (pc := 63) (some (.long x2)) .lreturn (by decide +kernel) rfl (by cases hf; rfl)
    · refine ja_iload_n (pc := 14) (f := 0) (i := 0) 0 (by decide +kernel) rfl rfl ?_
      refine ja_iload (pc := 15) (i := 4) 3 (by decide +kernel) rfl ?_
      refine ja_ishr (pc := 17) (by decide +kernel) ?_
      refine ja_iconst (pc := 18) (n := 1) (v := 1) (by decide +kernel) (by decide +kernel) ?_
      refine ja_iand (pc := 19) (by decide +kernel) ?_
      refine ja_iconst (pc := 20) (n := 1) (v := 1) (by decide +kernel) (by decide +kernel) ?_
      refine ja_icmp_ne (pc := 21) (off := 12) 33 (by decide +kernel) (by decide) hf (fun hf => ?_) (fun hf => ?_)
      · exact w_Locking_statesInWord_B33 C ih x0 x1 x2 x4 sg  hf
      · refine ja_lload_n (pc := 24) (f := 2) (i := 2) 2 (by decide +kernel) rfl rfl ?_
        refine ja_gets (pc := 25) (idx := 72) (by decide +kernel) sl_Locking_72 ?_
        refine ja_iload (pc := 28) (i := 4) 3 (by decide +kernel) rfl ?_
        refine ja_bind hf (fun v1 hv1 hf => ?_)
        refine ja_tald (pc := 30) (by decide +kernel) hv1 ?_
        refine ja_land (pc := 31) (by decide +kernel) ?_
        refine ja_lstore_n (pc := 32) (f := 2) (i := 2) (lv' := [(2, .long (x2 &&& v1)), (0, .int x0), (1, .int x1), (4, .int x4)]) (by decide +kernel) rfl (by decide) rfl ?_
        refine ja_lv [1, 2, 0, 3] rfl ?_
        exact w_Locking_statesInWord_B33 C ih x0 x1 (x2 &&& v1) x4 sg  hf
def f_Locking_statesInWord (x0 : Int32) (x1 : Int32) (sg : ja_S) : Option (Int64 × ja_S) := f_Locking_statesInWord_L7  ja_FU x0 x1 (-1 : Int64) (0 : Int32) sg
set_option maxRecDepth 4000 in
theorem c_Locking_statesInWord (l : Launch) (x : ja_X) (x0 : Int32) (x1 : Int32) {sg : ja_S} {w : Int64 × ja_S}  (hf : f_Locking_statesInWord x0 x1 sg = some w) : ja_Ct l x y_Locking_statesInWord M_Locking_statesInWord [.int x0, .int x1] ja_L0 sg (some (.long w.1), ja_L0, w.2) := by
  refine ja_mk ⟨by decide, rfl, rfl⟩ (Nat.le_of_ble_eq_true rfl) (lv := [(0, .int x0), (1, .int x1)]) rfl (fun C hl hx _ _ _ _ => ?_)
  subst hl; subst hx
  unfold f_Locking_statesInWord at hf
  refine ja_ldc2 (pc := 0) (idx := 70) (v := (-1)) (by decide +kernel) cl_Locking_70 ?_
  refine ja_lstore_n (pc := 3) (f := 2) (i := 2) (lv' := [(2, .long (-1 : Int64)), (0, .int x0), (1, .int x1)]) (by decide +kernel) rfl (by decide) rfl ?_
  refine ja_iconst (pc := 4) (n := 0) (v := 0) (by decide +kernel) (by decide +kernel) ?_
  refine ja_istore (pc := 5) (i := 4) (lv' := [(4, .int (0 : Int32)), (2, .long (-1 : Int64)), (0, .int x0), (1, .int x1)]) (by decide +kernel) (by decide) rfl ?_
  refine ja_lv [2, 3, 1, 0] rfl ?_
  exact w_Locking_statesInWord_L7 C  ja_FU x0 x1 (-1 : Int64) (0 : Int32) sg  hf
def f_Locking_addStates_L22  : Nat → Nat → Int32 → Int64 → Int32 → Int32 → Int32 → ja_S → Option (ja_S)
  | 0, _, _, _, _, _, _, _ => none
  | n + 1, x0, x1, x4, x6, x7, x8, sg => (if (64 : Int32) ≤ x8 then some sg else (if (Int32.ofNat (ja_len ja_L0 x0)) ≤ (x1 + x8) then some sg else (if (x8 &&& x6) = x6 then (if (x8 &&& x7) = 0 then (ja_ldl ja_L0 sg x0 (x1 + x8)).bind fun v1 => (ja_stl ja_L0 sg x0 (x1 + x8) (v1 ||| x4)).bind fun s2 => f_Locking_addStates_L22  n x0 x1 x4 x6 x7 (x8 + 1) s2 else f_Locking_addStates_L22  n x0 x1 x4 x6 x7 (x8 + 1) sg) else f_Locking_addStates_L22  n x0 x1 x4 x6 x7 (x8 + 1) sg)))
set_option maxRecDepth 4000 in
theorem w_Locking_addStates_L22 (C : ja_C) {w : ja_S}    (n : Nat) : ∀ (x0 : Nat) (x1 : Int32) (x4 : Int64) (x6 : Int32) (x7 : Int32) (x8 : Int32) (sg : ja_S), ja_al ja_L0 x0 → f_Locking_addStates_L22  n x0 x1 x4 x6 x7 x8 sg = some w → ja_J M_Locking_addStates C 22 [(0, .ref x0), (1, .int x1), (4, .long x4), (6, .int x6), (7, .int x7), (8, .int x8)] [] ja_L0 sg (none, ja_L0, w) := by
  induction n with
  | zero => intro _ _ _ _ _ _ _ _ hf; exact absurd (show (none : Option _) = some w from hf) (by simp)
  | succ n ih =>
    intro x0 x1 x4 x6 x7 x8 sg h0 hf
    unfold f_Locking_addStates_L22 at hf
    refine ja_iload (pc := 22) (i := 8) 5 (by decide +kernel) rfl ?_
    refine ja_bipush (pc := 24) (n := 64) (v := 64) (by decide +kernel) (by decide +kernel) ?_
    refine ja_icmp_ge (pc := 26) (off := 47) 73 (by decide +kernel) (by decide) hf (fun hf => ?_) (fun hf => ?_)
    · exact ja_ret (pc := 73) none .return_ (by decide +kernel) rfl (by cases hf; rfl)
    · refine ja_iload_n (pc := 29) (f := 1) (i := 1) 1 (by decide +kernel) rfl rfl ?_
      refine ja_iload (pc := 30) (i := 8) 5 (by decide +kernel) rfl ?_
      refine ja_iadd (pc := 32) (by decide +kernel) ?_
      refine ja_aload_n (pc := 33) (f := 0) (i := 0) 0 (by decide +kernel) rfl rfl ?_
      refine ja_alen (pc := 34) (by decide +kernel) (Or.inr h0) ?_
      refine ja_icmp_ge (pc := 35) (off := 38) 73 (by decide +kernel) (by decide) hf (fun hf => ?_) (fun hf => ?_)
      · exact ja_ret (pc := 73) none .return_ (by decide +kernel) rfl (by cases hf; rfl)
      · refine ja_iload (pc := 38) (i := 8) 5 (by decide +kernel) rfl ?_
        refine ja_iload (pc := 40) (i := 6) 3 (by decide +kernel) rfl ?_
        refine ja_iand (pc := 42) (by decide +kernel) ?_
        refine ja_iload (pc := 43) (i := 6) 3 (by decide +kernel) rfl ?_
        refine ja_icmp_ne (pc := 45) (off := 22) 67 (by decide +kernel) (by decide) hf (fun hf => ?_) (fun hf => ?_)
        · refine ja_iinc (pc := 67) (i := 8) (n := 1) (v := x8 + 1) (lv' := [(8, .int (x8 + 1)), (0, .ref x0), (1, .int x1), (4, .long x4), (6, .int x6), (7, .int x7)]) 5 (by decide +kernel) rfl rfl (by decide) rfl ?_
          refine ja_goto (pc := 70) (off := (-48)) 22 (by decide +kernel) (by decide) ?_
          refine ja_lv [1, 2, 3, 4, 5, 0] rfl ?_
          exact ih x0 x1 x4 x6 x7 (x8 + 1) sg h0 hf
        · refine ja_iload (pc := 48) (i := 8) 5 (by decide +kernel) rfl ?_
          refine ja_iload (pc := 50) (i := 7) 4 (by decide +kernel) rfl ?_
          refine ja_iand (pc := 52) (by decide +kernel) ?_
          refine ja_if_ne (pc := 53) (off := 14) 67 (by decide +kernel) (by decide) hf (fun hf => ?_) (fun hf => ?_)
          · refine ja_iinc (pc := 67) (i := 8) (n := 1) (v := x8 + 1) (lv' := [(8, .int (x8 + 1)), (0, .ref x0), (1, .int x1), (4, .long x4), (6, .int x6), (7, .int x7)]) 5 (by decide +kernel) rfl rfl (by decide) rfl ?_
            refine ja_goto (pc := 70) (off := (-48)) 22 (by decide +kernel) (by decide) ?_
            refine ja_lv [1, 2, 3, 4, 5, 0] rfl ?_
            exact ih x0 x1 x4 x6 x7 (x8 + 1) sg h0 hf
          · refine ja_aload_n (pc := 56) (f := 0) (i := 0) 0 (by decide +kernel) rfl rfl ?_
            refine ja_iload_n (pc := 57) (f := 1) (i := 1) 1 (by decide +kernel) rfl rfl ?_
            refine ja_iload (pc := 58) (i := 8) 5 (by decide +kernel) rfl ?_
            refine ja_iadd (pc := 60) (by decide +kernel) ?_
            refine ja_dup2 (pc := 61) (by decide +kernel) rfl rfl ?_
            refine ja_bind hf (fun v1 hv1 hf => ?_)
            refine ja_lald (pc := 62) (by decide +kernel) h0 hv1 ?_
            refine ja_lload (pc := 63) (i := 4) 2 (by decide +kernel) rfl ?_
            refine ja_lor (pc := 65) (by decide +kernel) ?_
            refine ja_bind hf (fun s2 hs2 hf => ?_)
            refine ja_last (pc := 66) (by decide +kernel) h0 hs2 ?_
            refine ja_iinc (pc := 67) (i := 8) (n := 1) (v := x8 + 1) (lv' := [(8, .int (x8 + 1)), (0, .ref x0), (1, .int x1), (4, .long x4), (6, .int x6), (7, .int x7)]) 5 (by decide +kernel) rfl rfl (by decide) rfl ?_
            refine ja_goto (pc := 70) (off := (-48)) 22 (by decide +kernel) (by decide) ?_
            refine ja_lv [1, 2, 3, 4, 5, 0] rfl ?_
            exact ih x0 x1 x4 x6 x7 (x8 + 1) s2 h0 hf
def f_Locking_addStates (x0 : Nat) (x1 : Int32) (x2 : Int32) (x3 : Int32) (sg : ja_S) : Option (ja_S) := (f_Locking_statesInWord x2 x3 sg).bind fun v1 => f_Locking_addStates_L22  ja_FU x0 x1 v1.1 (x2 >>> ((6 : Int32) &&& 31)) (x3 >>> ((6 : Int32) &&& 31)) (0 : Int32) v1.2
set_option maxRecDepth 4000 in
theorem c_Locking_addStates (l : Launch) (x : ja_X) (x0 : Nat) (x1 : Int32) (x2 : Int32) (x3 : Int32) {sg : ja_S} {w : ja_S} (h0 : ja_al ja_L0 x0) (hf : f_Locking_addStates x0 x1 x2 x3 sg = some w) : ja_Ct l x y_Locking_addStates M_Locking_addStates [.ref x0, .int x1, .int x2, .int x3] ja_L0 sg (none, ja_L0, w) := by
  refine ja_mk ⟨by decide, rfl, rfl⟩ (Nat.le_of_ble_eq_true rfl) (lv := [(0, .ref x0), (1, .int x1), (2, .int x2), (3, .int x3)]) rfl (fun C hl hx _ _ _ _ => ?_)
  subst hl; subst hx
  unfold f_Locking_addStates at hf
  refine ja_iload_n (pc := 0) (f := 2) (i := 2) 2 (by decide +kernel) rfl rfl ?_
  refine ja_iload_n (pc := 1) (f := 3) (i := 3) 3 (by decide +kernel) rfl rfl ?_
  refine ja_bind hf (fun v1 hv1 hf => ?_)
  refine ja_callSl (pc := 2) (idx := 66) (as := [.int x2, .int x3]) (st := []) (by decide +kernel) ks_Locking_statesInWord lk_Locking_66 ⟨by decide, by decide⟩ (c_Locking_statesInWord _ _ x2 x3  hv1) rfl (Nat.le_of_ble_eq_true rfl) rfl ?_
  refine ja_lstore (pc := 5) (i := 4) (lv' := [(4, .long v1.1), (0, .ref x0), (1, .int x1), (2, .int x2), (3, .int x3)]) (by decide +kernel) (by decide) rfl ?_
  refine ja_iload_n (pc := 7) (f := 2) (i := 2) 3 (by decide +kernel) rfl rfl ?_
  refine ja_bipush (pc := 8) (n := 6) (v := 6) (by decide +kernel) (by decide +kernel) ?_
  refine ja_ishr (pc := 10) (by decide +kernel) ?_
  refine ja_istore (pc := 11) (i := 6) (lv' := [(6, .int (x2 >>> ((6 : Int32) &&& 31))), (4, .long v1.1), (0, .ref x0), (1, .int x1), (2, .int x2), (3, .int x3)]) (by decide +kernel) (by decide) rfl ?_
  refine ja_iload_n (pc := 13) (f := 3) (i := 3) 5 (by decide +kernel) rfl rfl ?_
  refine ja_bipush (pc := 14) (n := 6) (v := 6) (by decide +kernel) (by decide +kernel) ?_
  refine ja_ishr (pc := 16) (by decide +kernel) ?_
  refine ja_istore (pc := 17) (i := 7) (lv' := [(7, .int (x3 >>> ((6 : Int32) &&& 31))), (6, .int (x2 >>> ((6 : Int32) &&& 31))), (4, .long v1.1), (0, .ref x0), (1, .int x1), (2, .int x2), (3, .int x3)]) (by decide +kernel) (by decide) rfl ?_
  refine ja_iconst (pc := 19) (n := 0) (v := 0) (by decide +kernel) (by decide +kernel) ?_
  refine ja_istore (pc := 20) (i := 8) (lv' := [(8, .int (0 : Int32)), (7, .int (x3 >>> ((6 : Int32) &&& 31))), (6, .int (x2 >>> ((6 : Int32) &&& 31))), (4, .long v1.1), (0, .ref x0), (1, .int x1), (2, .int x2), (3, .int x3)]) (by decide +kernel) (by decide) rfl ?_
  refine ja_lv [4, 5, 3, 2, 1, 0] rfl ?_
  exact w_Locking_addStates_L22 C  ja_FU x0 x1 v1.1 (x2 >>> ((6 : Int32) &&& 31)) (x3 >>> ((6 : Int32) &&& 31)) (0 : Int32) v1.2 h0 hf
def f_Locking_enforce (x0 : Nat) (x1 : Int32) (sg : ja_S) : Option (ja_S) := (f_Rule_reversedLevers x1 sg).bind fun v1 => (f_Rule_normalLevers x1 v1.2).bind fun v2 => (f_Rule_kind x1 v2.2).bind fun v3 => (if v3.1 = (2 : Int32) then (f_Rule_leverA x1 v3.2).bind fun v4 => (f_Rule_leverB x1 v4.2).bind fun v5 => (if v4.1 = v5.1 then some v5.2 else (f_Rule_leverB x1 v5.2).bind fun v6 => (f_Locking_addStates (ja_q x0 1) (v6.1 * (64 : Int32)) v1.1 v2.1 v6.2).bind fun v7 => some v7) else (f_Locking_addStates (ja_q x0 0) (0 : Int32) v1.1 v2.1 v3.2).bind fun v8 => some v8)
set_option maxRecDepth 4000 in
theorem c_Locking_enforce (l : Launch) (x : ja_X) (x0 : Nat) (x1 : Int32) {sg : ja_S} {w : ja_S} (h0 : ja_ob ja_L0 2 x0) (hf : f_Locking_enforce x0 x1 sg = some w) : ja_Ct l x y_Locking_enforce M_Locking_enforce [.ref x0, .int x1] ja_L0 sg (none, ja_L0, w) := by
  refine ja_mk ⟨by decide, rfl, rfl⟩ (Nat.le_of_ble_eq_true rfl) (lv := [(0, .ref x0), (1, .int x1)]) rfl (fun C hl hx _ _ _ _ => ?_)
  subst hl; subst hx
  unfold f_Locking_enforce at hf
  refine ja_iload_n (pc := 0) (f := 1) (i := 1) 1 (by decide +kernel) rfl rfl ?_
  refine ja_bind hf (fun v1 hv1 hf => ?_)
  refine ja_callSi (pc := 1) (idx := 44) (as := [.int x1]) (st := []) (by decide +kernel) ks_Rule_reversedLevers lk_Locking_44 ⟨by decide, by decide⟩ (c_Rule_reversedLevers _ _ x1  hv1) rfl (Nat.le_of_ble_eq_true rfl) rfl ?_
  refine ja_istore_n (pc := 4) (f := 2) (i := 2) (lv' := [(2, .int v1.1), (0, .ref x0), (1, .int x1)]) (by decide +kernel) rfl (by decide) rfl ?_
  refine ja_iload_n (pc := 5) (f := 1) (i := 1) 2 (by decide +kernel) rfl rfl ?_
  refine ja_bind hf (fun v2 hv2 hf => ?_)
  refine ja_callSi (pc := 6) (idx := 50) (as := [.int x1]) (st := []) (by decide +kernel) ks_Rule_normalLevers lk_Locking_50 ⟨by decide, by decide⟩ (c_Rule_normalLevers _ _ x1  hv2) rfl (Nat.le_of_ble_eq_true rfl) rfl ?_
  refine ja_istore_n (pc := 9) (f := 3) (i := 3) (lv' := [(3, .int v2.1), (2, .int v1.1), (0, .ref x0), (1, .int x1)]) (by decide +kernel) rfl (by decide) rfl ?_
  refine ja_iload_n (pc := 10) (f := 1) (i := 1) 3 (by decide +kernel) rfl rfl ?_
  refine ja_bind hf (fun v3 hv3 hf => ?_)
  refine ja_callSi (pc := 11) (idx := 53) (as := [.int x1]) (st := []) (by decide +kernel) ks_Rule_kind lk_Locking_53 ⟨by decide, by decide⟩ (c_Rule_kind _ _ x1  hv3) rfl (Nat.le_of_ble_eq_true rfl) rfl ?_
  refine ja_iconst (pc := 14) (n := 2) (v := 2) (by decide +kernel) (by decide +kernel) ?_
  refine ja_icmp_eq (pc := 15) (off := 16) 31 (by decide +kernel) (by decide) hf (fun hf => ?_) (fun hf => ?_)
  · refine ja_iload_n (pc := 31) (f := 1) (i := 1) 3 (by decide +kernel) rfl rfl ?_
    refine ja_bind hf (fun v4 hv4 hf => ?_)
    refine ja_callSi (pc := 32) (idx := 60) (as := [.int x1]) (st := []) (by decide +kernel) ks_Rule_leverA lk_Locking_60 ⟨by decide, by decide⟩ (c_Rule_leverA _ _ x1  hv4) rfl (Nat.le_of_ble_eq_true rfl) rfl ?_
    refine ja_iload_n (pc := 35) (f := 1) (i := 1) 3 (by decide +kernel) rfl rfl ?_
    refine ja_bind hf (fun v5 hv5 hf => ?_)
    refine ja_callSi (pc := 36) (idx := 63) (as := [.int x1]) (st := [.int v4.1]) (by decide +kernel) ks_Rule_leverB lk_Locking_63 ⟨by decide, by decide⟩ (c_Rule_leverB _ _ x1  hv5) rfl (Nat.le_of_ble_eq_true rfl) rfl ?_
    refine ja_icmp_eq (pc := 39) (off := 19) 58 (by decide +kernel) (by decide) hf (fun hf => ?_) (fun hf => ?_)
    · exact ja_ret (pc := 58) none .return_ (by decide +kernel) rfl (by cases hf; rfl)
    · refine ja_aload_n (pc := 42) (f := 0) (i := 0) 2 (by decide +kernel) rfl rfl ?_
      refine ja_getr (pc := 43) (idx := 15) (t := 2) (j := 1) (by decide +kernel) fd_Locking_15 h0 (fr_2_1 h0) ?_
      refine ja_iload_n (pc := 46) (f := 1) (i := 1) 3 (by decide +kernel) rfl rfl ?_
      refine ja_bind hf (fun v6 hv6 hf => ?_)
      refine ja_callSi (pc := 47) (idx := 63) (as := [.int x1]) (st := [.ref (ja_q x0 1)]) (by decide +kernel) ks_Rule_leverB lk_Locking_63 ⟨by decide, by decide⟩ (c_Rule_leverB _ _ x1  hv6) rfl (Nat.le_of_ble_eq_true rfl) rfl ?_
      refine ja_bipush (pc := 50) (n := 64) (v := 64) (by decide +kernel) (by decide +kernel) ?_
      refine ja_imul (pc := 52) (by decide +kernel) ?_
      refine ja_iload_n (pc := 53) (f := 2) (i := 2) 1 (by decide +kernel) rfl rfl ?_
      refine ja_iload_n (pc := 54) (f := 3) (i := 3) 0 (by decide +kernel) rfl rfl ?_
      refine ja_bind hf (fun v7 hv7 hf => ?_)
      refine ja_callSv (pc := 55) (idx := 56) (as := [.ref (ja_q x0 1), .int (v6.1 * (64 : Int32)), .int v1.1, .int v2.1]) (st := []) (by decide +kernel) ks_Locking_addStates lk_Locking_56 ⟨by decide, by decide⟩ (c_Locking_addStates _ _ (ja_q x0 1) (v6.1 * (64 : Int32)) v1.1 v2.1 (fk_2_1 h0) hv7) rfl (Nat.le_of_ble_eq_true rfl) rfl ?_
      exact ja_ret (pc := 58) none .return_ (by decide +kernel) rfl (by cases hf; rfl)
  · refine ja_aload_n (pc := 18) (f := 0) (i := 0) 2 (by decide +kernel) rfl rfl ?_
    refine ja_getr (pc := 19) (idx := 11) (t := 2) (j := 0) (by decide +kernel) fd_Locking_11 h0 (fr_2_0 h0) ?_
    refine ja_iconst (pc := 22) (n := 0) (v := 0) (by decide +kernel) (by decide +kernel) ?_
    refine ja_iload_n (pc := 23) (f := 2) (i := 2) 1 (by decide +kernel) rfl rfl ?_
    refine ja_iload_n (pc := 24) (f := 3) (i := 3) 0 (by decide +kernel) rfl rfl ?_
    refine ja_bind hf (fun v8 hv8 hf => ?_)
    refine ja_callSv (pc := 25) (idx := 56) (as := [.ref (ja_q x0 0), .int (0 : Int32), .int v1.1, .int v2.1]) (st := []) (by decide +kernel) ks_Locking_addStates lk_Locking_56 ⟨by decide, by decide⟩ (c_Locking_addStates _ _ (ja_q x0 0) (0 : Int32) v1.1 v2.1 (fk_2_0 h0) hv8) rfl (Nat.le_of_ble_eq_true rfl) rfl ?_
    refine ja_goto (pc := 28) (off := 30) 58 (by decide +kernel) (by decide) ?_
    exact ja_ret (pc := 58) none .return_ (by decide +kernel) rfl (by cases hf; rfl)
def f_Locking_enforceAll_L18  : Nat → Nat → Nat → Int32 → Int32 → ja_S → Option (ja_S)
  | 0, _, _, _, _, _ => none
  | n + 1, x0, x1, x2, x3, sg => (if (sg.1 x1 3) ≤ x3 then some sg else (if ((x2 >>> (x3 &&& 31)) &&& (1 : Int32)) = (1 : Int32) then (ja_ld ja_L0 sg (ja_q x1 2) x3).bind fun v1 => (f_Locking_enforce x0 v1 sg).bind fun v2 => f_Locking_enforceAll_L18  n x0 x1 x2 (x3 + 1) v2 else f_Locking_enforceAll_L18  n x0 x1 x2 (x3 + 1) sg))
set_option maxRecDepth 4000 in
theorem w_Locking_enforceAll_L18 (C : ja_C) {w : ja_S}    (n : Nat) : ∀ (x0 : Nat) (x1 : Nat) (x2 : Int32) (x3 : Int32) (sg : ja_S), ja_ob ja_L0 2 x0 → ja_ob ja_L0 5 x1 → f_Locking_enforceAll_L18  n x0 x1 x2 x3 sg = some w → ja_J M_Locking_enforceAll C 18 [(0, .ref x0), (1, .ref x1), (2, .int x2), (3, .int x3)] [] ja_L0 sg (none, ja_L0, w) := by
  induction n with
  | zero => intro _ _ _ _ _ _ _ hf; exact absurd (show (none : Option _) = some w from hf) (by simp)
  | succ n ih =>
    intro x0 x1 x2 x3 sg h0 h1 hf
    unfold f_Locking_enforceAll_L18 at hf
    refine ja_iload_n (pc := 18) (f := 3) (i := 3) 3 (by decide +kernel) rfl rfl ?_
    refine ja_aload_n (pc := 19) (f := 1) (i := 1) 1 (by decide +kernel) rfl rfl ?_
    refine ja_geti (pc := 20) (idx := 30) (t := 5) (j := 3) (by decide +kernel) fd_Locking_30 h1 ?_
    refine ja_icmp_ge (pc := 23) (off := 28) 51 (by decide +kernel) (by decide) hf (fun hf => ?_) (fun hf => ?_)
    · exact ja_ret (pc := 51) none .return_ (by decide +kernel) rfl (by cases hf; rfl)
    · refine ja_iload_n (pc := 26) (f := 2) (i := 2) 2 (by decide +kernel) rfl rfl ?_
      refine ja_iload_n (pc := 27) (f := 3) (i := 3) 3 (by decide +kernel) rfl rfl ?_
      refine ja_ishr (pc := 28) (by decide +kernel) ?_
      refine ja_iconst (pc := 29) (n := 1) (v := 1) (by decide +kernel) (by decide +kernel) ?_
      refine ja_iand (pc := 30) (by decide +kernel) ?_
      refine ja_iconst (pc := 31) (n := 1) (v := 1) (by decide +kernel) (by decide +kernel) ?_
      refine ja_icmp_ne (pc := 32) (off := 13) 45 (by decide +kernel) (by decide) hf (fun hf => ?_) (fun hf => ?_)
      · refine ja_iinc (pc := 45) (i := 3) (n := 1) (v := x3 + 1) (lv' := [(3, .int (x3 + 1)), (0, .ref x0), (1, .ref x1), (2, .int x2)]) 3 (by decide +kernel) rfl rfl (by decide) rfl ?_
        refine ja_goto (pc := 48) (off := (-30)) 18 (by decide +kernel) (by decide) ?_
        refine ja_lv [1, 2, 3, 0] rfl ?_
        exact ih x0 x1 x2 (x3 + 1) sg h0 h1 hf
      · refine ja_aload_n (pc := 35) (f := 0) (i := 0) 0 (by decide +kernel) rfl rfl ?_
        refine ja_aload_n (pc := 36) (f := 1) (i := 1) 1 (by decide +kernel) rfl rfl ?_
        refine ja_getr (pc := 37) (idx := 36) (t := 5) (j := 2) (by decide +kernel) fd_Locking_36 h1 (fr_5_2 h1) ?_
        refine ja_iload_n (pc := 40) (f := 3) (i := 3) 3 (by decide +kernel) rfl rfl ?_
        refine ja_bind hf (fun v1 hv1 hf => ?_)
        refine ja_iald (pc := 41) (by decide +kernel) (fk_5_2 h1) hv1 ?_
        refine ja_bind hf (fun v2 hv2 hf => ?_)
        refine ja_callVv (pc := 42) (idx := 40) (t := 2) (b := x0) (as := [.int v1]) (st := []) (by decide +kernel) kv_Locking_enforce lk_Locking_40 ⟨by decide, by decide⟩ (c_Locking_enforce _ _ x0 v1 h0 hv2) h0 rfl (Nat.le_of_ble_eq_true rfl) rfl ?_
        refine ja_iinc (pc := 45) (i := 3) (n := 1) (v := x3 + 1) (lv' := [(3, .int (x3 + 1)), (0, .ref x0), (1, .ref x1), (2, .int x2)]) 3 (by decide +kernel) rfl rfl (by decide) rfl ?_
        refine ja_goto (pc := 48) (off := (-30)) 18 (by decide +kernel) (by decide) ?_
        refine ja_lv [1, 2, 3, 0] rfl ?_
        exact ih x0 x1 x2 (x3 + 1) v2 h0 h1 hf
def f_Locking_enforceAll (x0 : Nat) (x1 : Nat) (x2 : Int32) (sg : ja_S) : Option (ja_S) := (f_Arrays_fillJ (ja_q x0 0) (0 : Int64) sg).bind fun v1 => (f_Arrays_fillJ (ja_q x0 1) (0 : Int64) v1).bind fun v2 => f_Locking_enforceAll_L18  ja_FU x0 x1 x2 (0 : Int32) v2
set_option maxRecDepth 4000 in
theorem c_Locking_enforceAll (l : Launch) (x : ja_X) (x0 : Nat) (x1 : Nat) (x2 : Int32) {sg : ja_S} {w : ja_S} (h0 : ja_ob ja_L0 2 x0) (h1 : ja_ob ja_L0 5 x1) (hf : f_Locking_enforceAll x0 x1 x2 sg = some w) : ja_Ct l x y_Locking_enforceAll M_Locking_enforceAll [.ref x0, .ref x1, .int x2] ja_L0 sg (none, ja_L0, w) := by
  refine ja_mk ⟨by decide, rfl, rfl⟩ (Nat.le_of_ble_eq_true rfl) (lv := [(0, .ref x0), (1, .ref x1), (2, .int x2)]) rfl (fun C hl hx _ _ _ _ => ?_)
  subst hl; subst hx
  unfold f_Locking_enforceAll at hf
  refine ja_aload_n (pc := 0) (f := 0) (i := 0) 0 (by decide +kernel) rfl rfl ?_
  refine ja_getr (pc := 1) (idx := 11) (t := 2) (j := 0) (by decide +kernel) fd_Locking_11 h0 (fr_2_0 h0) ?_
  refine ja_lconst (pc := 4) (n := 0) (v := 0) (by decide +kernel) (by decide +kernel) ?_
  refine ja_bind hf (fun v1 hv1 hf => ?_)
  refine ja_callSv (pc := 5) (idx := 24) (as := [.ref (ja_q x0 0), .long (0 : Int64)]) (st := []) (by decide +kernel) ks_Arrays_fillJ lk_Locking_24 ⟨by decide, by decide⟩ (c_Arrays_fillJ _ _ (ja_q x0 0) (0 : Int64) (fk_2_0 h0) hv1) rfl (Nat.le_of_ble_eq_true rfl) rfl ?_
  refine ja_aload_n (pc := 8) (f := 0) (i := 0) 0 (by decide +kernel) rfl rfl ?_
  refine ja_getr (pc := 9) (idx := 15) (t := 2) (j := 1) (by decide +kernel) fd_Locking_15 h0 (fr_2_1 h0) ?_
  refine ja_lconst (pc := 12) (n := 0) (v := 0) (by decide +kernel) (by decide +kernel) ?_
  refine ja_bind hf (fun v2 hv2 hf => ?_)
  refine ja_callSv (pc := 13) (idx := 24) (as := [.ref (ja_q x0 1), .long (0 : Int64)]) (st := []) (by decide +kernel) ks_Arrays_fillJ lk_Locking_24 ⟨by decide, by decide⟩ (c_Arrays_fillJ _ _ (ja_q x0 1) (0 : Int64) (fk_2_1 h0) hv2) rfl (Nat.le_of_ble_eq_true rfl) rfl ?_
  refine ja_iconst (pc := 16) (n := 0) (v := 0) (by decide +kernel) (by decide +kernel) ?_
  refine ja_istore_n (pc := 17) (f := 3) (i := 3) (lv' := [(3, .int (0 : Int32)), (0, .ref x0), (1, .ref x1), (2, .int x2)]) (by decide +kernel) rfl (by decide) rfl ?_
  refine ja_lv [1, 2, 3, 0] rfl ?_
  exact w_Locking_enforceAll_L18 C  ja_FU x0 x1 x2 (0 : Int32) v2 h0 h1 hf
def f_Sheet_movableLevers (x0 : Nat) (sg : ja_S) : Option (Int32 × ja_S) := (f_Sheet_allLevers x0 sg).bind fun v1 => some (v1.1 &&& ((v1.2.1 x0 1) ^^^ (-1 : Int32)), v1.2)
set_option maxRecDepth 4000 in
theorem c_Sheet_movableLevers (l : Launch) (x : ja_X) (x0 : Nat) {sg : ja_S} {w : Int32 × ja_S} (h0 : ja_ob ja_L0 5 x0) (hf : f_Sheet_movableLevers x0 sg = some w) : ja_Ct l x y_Sheet_movableLevers M_Sheet_movableLevers [.ref x0] ja_L0 sg (some (.int w.1), ja_L0, w.2) := by
  refine ja_mk ⟨by decide, rfl, rfl⟩ (Nat.le_of_ble_eq_true rfl) (lv := [(0, .ref x0)]) rfl (fun C hl hx _ _ _ _ => ?_)
  subst hl; subst hx
  unfold f_Sheet_movableLevers at hf
  refine ja_aload_n (pc := 0) (f := 0) (i := 0) 0 (by decide +kernel) rfl rfl ?_
  refine ja_bind hf (fun v1 hv1 hf => ?_)
  refine ja_callVi (pc := 1) (idx := 46) (t := 5) (b := x0) (as := []) (st := []) (by decide +kernel) kv_Sheet_allLevers lk_Sheet_46 ⟨by decide, by decide⟩ (c_Sheet_allLevers _ _ x0 h0 hv1) h0 rfl (Nat.le_of_ble_eq_true rfl) rfl ?_
  refine ja_aload_n (pc := 4) (f := 0) (i := 0) 0 (by decide +kernel) rfl rfl ?_
  refine ja_geti (pc := 5) (idx := 15) (t := 5) (j := 1) (by decide +kernel) fd_Sheet_15 h0 ?_
  refine ja_iconst (pc := 8) (n := (-1)) (v := (-1)) (by decide +kernel) (by decide +kernel) ?_
  refine ja_ixor (pc := 9) (by decide +kernel) ?_
  refine ja_iand (pc := 10) (by decide +kernel) ?_
  exact ja_ret (pc := 11) (some (.int (v1.1 &&& ((v1.2.1 x0 1) ^^^ (-1 : Int32))))) .ireturn (by decide +kernel) rfl (by cases hf; rfl)
def f_Search_forget_L2  : Nat → Nat → Int32 → ja_S → Option (ja_S)
  | 0, _, _, _ => none
  | n + 1, x0, x1, sg => (if (sg.1 x0 1) ≤ x1 then (ja_pu sg x0 1 (0 : Int32)).bind fun s1 => some s1 else (ja_ld ja_L0 sg (ja_q x0 3) x1).bind fun v2 => (ja_st ja_L0 sg (ja_q x0 4) v2 (-1 : Int32)).bind fun s3 => f_Search_forget_L2  n x0 (x1 + 1) s3)
set_option maxRecDepth 4000 in
theorem w_Search_forget_L2 (C : ja_C) {w : ja_S}    (n : Nat) : ∀ (x0 : Nat) (x1 : Int32) (sg : ja_S), ja_ob ja_L0 4 x0 → f_Search_forget_L2  n x0 x1 sg = some w → ja_J M_Search_forget C 2 [(0, .ref x0), (1, .int x1)] [] ja_L0 sg (none, ja_L0, w) := by
  induction n with
  | zero => intro _ _ _ _ hf; exact absurd (show (none : Option _) = some w from hf) (by simp)
  | succ n ih =>
    intro x0 x1 sg h0 hf
    unfold f_Search_forget_L2 at hf
    refine ja_iload_n (pc := 2) (f := 1) (i := 1) 1 (by decide +kernel) rfl rfl ?_
    refine ja_aload_n (pc := 3) (f := 0) (i := 0) 0 (by decide +kernel) rfl rfl ?_
    refine ja_geti (pc := 4) (idx := 18) (t := 4) (j := 1) (by decide +kernel) fd_Search_18 h0 ?_
    refine ja_icmp_ge (pc := 7) (off := 21) 28 (by decide +kernel) (by decide) hf (fun hf => ?_) (fun hf => ?_)
    · refine ja_aload_n (pc := 28) (f := 0) (i := 0) 0 (by decide +kernel) rfl rfl ?_
      refine ja_iconst (pc := 29) (n := 0) (v := 0) (by decide +kernel) (by decide +kernel) ?_
      refine ja_bind hf (fun s1 hs1 hf => ?_)
      refine ja_puti2 (pc := 30) (idx := 18) (t := 4) (j := 1) (by decide +kernel) fd_Search_18 h0 ⟨rfl, rfl⟩ hs1 ?_
      exact ja_ret (pc := 33) none .return_ (by decide +kernel) rfl (by cases hf; rfl)
    · refine ja_aload_n (pc := 10) (f := 0) (i := 0) 0 (by decide +kernel) rfl rfl ?_
      refine ja_getr (pc := 11) (idx := 29) (t := 4) (j := 4) (by decide +kernel) fd_Search_29 h0 (fr_4_4 h0) ?_
      refine ja_aload_n (pc := 14) (f := 0) (i := 0) 0 (by decide +kernel) rfl rfl ?_
      refine ja_getr (pc := 15) (idx := 25) (t := 4) (j := 3) (by decide +kernel) fd_Search_25 h0 (fr_4_3 h0) ?_
      refine ja_iload_n (pc := 18) (f := 1) (i := 1) 1 (by decide +kernel) rfl rfl ?_
      refine ja_bind hf (fun v2 hv2 hf => ?_)
      refine ja_iald (pc := 19) (by decide +kernel) (fk_4_3 h0) hv2 ?_
      refine ja_iconst (pc := 20) (n := (-1)) (v := (-1)) (by decide +kernel) (by decide +kernel) ?_
      refine ja_bind hf (fun s3 hs3 hf => ?_)
      refine ja_iast (pc := 21) (by decide +kernel) (fk_4_4 h0) hs3 ?_
      refine ja_iinc (pc := 22) (i := 1) (n := 1) (v := x1 + 1) (lv' := [(1, .int (x1 + 1)), (0, .ref x0)]) 1 (by decide +kernel) rfl rfl (by decide) rfl ?_
      refine ja_goto (pc := 25) (off := (-23)) 2 (by decide +kernel) (by decide) ?_
      refine ja_lv [1, 0] rfl ?_
      exact ih x0 (x1 + 1) s3 h0 hf
def f_Search_forget (x0 : Nat) (sg : ja_S) : Option (ja_S) := f_Search_forget_L2  ja_FU x0 (0 : Int32) sg
set_option maxRecDepth 4000 in
theorem c_Search_forget (l : Launch) (x : ja_X) (x0 : Nat) {sg : ja_S} {w : ja_S} (h0 : ja_ob ja_L0 4 x0) (hf : f_Search_forget x0 sg = some w) : ja_Ct l x y_Search_forget M_Search_forget [.ref x0] ja_L0 sg (none, ja_L0, w) := by
  refine ja_mk ⟨by decide, rfl, rfl⟩ (Nat.le_of_ble_eq_true rfl) (lv := [(0, .ref x0)]) rfl (fun C hl hx _ _ _ _ => ?_)
  subst hl; subst hx
  unfold f_Search_forget at hf
  refine ja_iconst (pc := 0) (n := 0) (v := 0) (by decide +kernel) (by decide +kernel) ?_
  refine ja_istore_n (pc := 1) (f := 1) (i := 1) (lv' := [(1, .int (0 : Int32)), (0, .ref x0)]) (by decide +kernel) rfl (by decide) rfl ?_
  refine ja_lv [1, 0] rfl ?_
  exact w_Search_forget_L2 C  ja_FU x0 (0 : Int32) sg h0 hf
def f_Search_enter (x0 : Nat) (x1 : Int32) (x2 : Int32) (sg : ja_S) : Option (ja_S) := (if x1 < 0 then some sg else (if (4096 : Int32) ≤ x1 then some sg else (if (4096 : Int32) ≤ (sg.1 x0 1) then some sg else (ja_st ja_L0 sg (ja_q x0 3) (sg.1 x0 1) x1).bind fun s1 => (ja_pu s1 x0 1 ((s1.1 x0 1) + (1 : Int32))).bind fun s2 => (ja_st ja_L0 s2 (ja_q x0 4) x1 x2).bind fun s3 => some s3)))
set_option maxRecDepth 4000 in
theorem c_Search_enter (l : Launch) (x : ja_X) (x0 : Nat) (x1 : Int32) (x2 : Int32) {sg : ja_S} {w : ja_S} (h0 : ja_ob ja_L0 4 x0) (hf : f_Search_enter x0 x1 x2 sg = some w) : ja_Ct l x y_Search_enter M_Search_enter [.ref x0, .int x1, .int x2] ja_L0 sg (none, ja_L0, w) := by
  refine ja_mk ⟨by decide, rfl, rfl⟩ (Nat.le_of_ble_eq_true rfl) (lv := [(0, .ref x0), (1, .int x1), (2, .int x2)]) rfl (fun C hl hx _ _ _ _ => ?_)
  subst hl; subst hx
  unfold f_Search_enter at hf
  refine ja_iload_n (pc := 0) (f := 1) (i := 1) 1 (by decide +kernel) rfl rfl ?_
  refine ja_if_lt (pc := 1) (off := 47) 48 (by decide +kernel) (by decide) hf (fun hf => ?_) (fun hf => ?_)
  · exact ja_ret (pc := 48) none .return_ (by decide +kernel) rfl (by cases hf; rfl)
  · refine ja_iload_n (pc := 4) (f := 1) (i := 1) 1 (by decide +kernel) rfl rfl ?_
    refine ja_sipush (pc := 5) (n := 4096) (v := 4096) (by decide +kernel) (by decide +kernel) ?_
    refine ja_icmp_ge (pc := 8) (off := 40) 48 (by decide +kernel) (by decide) hf (fun hf => ?_) (fun hf => ?_)
    · exact ja_ret (pc := 48) none .return_ (by decide +kernel) rfl (by cases hf; rfl)
    · refine ja_aload_n (pc := 11) (f := 0) (i := 0) 0 (by decide +kernel) rfl rfl ?_
      refine ja_geti (pc := 12) (idx := 18) (t := 4) (j := 1) (by decide +kernel) fd_Search_18 h0 ?_
      refine ja_sipush (pc := 15) (n := 4096) (v := 4096) (by decide +kernel) (by decide +kernel) ?_
      refine ja_icmp_ge (pc := 18) (off := 30) 48 (by decide +kernel) (by decide) hf (fun hf => ?_) (fun hf => ?_)
      · exact ja_ret (pc := 48) none .return_ (by decide +kernel) rfl (by cases hf; rfl)
      · refine ja_aload_n (pc := 21) (f := 0) (i := 0) 0 (by decide +kernel) rfl rfl ?_
        refine ja_getr (pc := 22) (idx := 25) (t := 4) (j := 3) (by decide +kernel) fd_Search_25 h0 (fr_4_3 h0) ?_
        refine ja_aload_n (pc := 25) (f := 0) (i := 0) 0 (by decide +kernel) rfl rfl ?_
        refine ja_geti (pc := 26) (idx := 18) (t := 4) (j := 1) (by decide +kernel) fd_Search_18 h0 ?_
        refine ja_iload_n (pc := 29) (f := 1) (i := 1) 1 (by decide +kernel) rfl rfl ?_
        refine ja_bind hf (fun s1 hs1 hf => ?_)
        refine ja_iast (pc := 30) (by decide +kernel) (fk_4_3 h0) hs1 ?_
        refine ja_aload_n (pc := 31) (f := 0) (i := 0) 0 (by decide +kernel) rfl rfl ?_
        refine ja_dup (pc := 32) (by decide +kernel) rfl ?_
        refine ja_geti (pc := 33) (idx := 18) (t := 4) (j := 1) (by decide +kernel) fd_Search_18 h0 ?_
        refine ja_iconst (pc := 36) (n := 1) (v := 1) (by decide +kernel) (by decide +kernel) ?_
        refine ja_iadd (pc := 37) (by decide +kernel) ?_
        refine ja_bind hf (fun s2 hs2 hf => ?_)
        refine ja_puti2 (pc := 38) (idx := 18) (t := 4) (j := 1) (by decide +kernel) fd_Search_18 h0 ⟨rfl, rfl⟩ hs2 ?_
        refine ja_aload_n (pc := 41) (f := 0) (i := 0) 0 (by decide +kernel) rfl rfl ?_
        refine ja_getr (pc := 42) (idx := 29) (t := 4) (j := 4) (by decide +kernel) fd_Search_29 h0 (fr_4_4 h0) ?_
        refine ja_iload_n (pc := 45) (f := 1) (i := 1) 1 (by decide +kernel) rfl rfl ?_
        refine ja_iload_n (pc := 46) (f := 2) (i := 2) 2 (by decide +kernel) rfl rfl ?_
        refine ja_bind hf (fun s3 hs3 hf => ?_)
        refine ja_iast (pc := 47) (by decide +kernel) (fk_4_4 h0) hs3 ?_
        exact ja_ret (pc := 48) none .return_ (by decide +kernel) rfl (by cases hf; rfl)
def f_Search_reached (x0 : Nat) (x1 : Int32) (sg : ja_S) : Option (Int32 × ja_S) := (if x1 < 0 then some ((0 : Int32), sg) else (if (4096 : Int32) ≤ x1 then some ((0 : Int32), sg) else (ja_ld ja_L0 sg (ja_q x0 4) x1).bind fun v1 => (if v1 = (-1 : Int32) then some ((0 : Int32), sg) else some ((1 : Int32), sg))))
set_option maxRecDepth 4000 in
theorem c_Search_reached (l : Launch) (x : ja_X) (x0 : Nat) (x1 : Int32) {sg : ja_S} {w : Int32 × ja_S} (h0 : ja_ob ja_L0 4 x0) (hf : f_Search_reached x0 x1 sg = some w) : ja_Ct l x y_Search_reached M_Search_reached [.ref x0, .int x1] ja_L0 sg (some (.int w.1), ja_L0, w.2) := by
  refine ja_mk ⟨by decide, rfl, rfl⟩ (Nat.le_of_ble_eq_true rfl) (lv := [(0, .ref x0), (1, .int x1)]) rfl (fun C hl hx _ _ _ _ => ?_)
  subst hl; subst hx
  unfold f_Search_reached at hf
  refine ja_iload_n (pc := 0) (f := 1) (i := 1) 1 (by decide +kernel) rfl rfl ?_
  refine ja_if_lt (pc := 1) (off := 24) 25 (by decide +kernel) (by decide) hf (fun hf => ?_) (fun hf => ?_)
  · refine ja_iconst (pc := 25) (n := 0) (v := 0) (by decide +kernel) (by decide +kernel) ?_
    exact ja_ret (pc := 26) (some (.int (0 : Int32))) .ireturn (by decide +kernel) rfl (by cases hf; rfl)
  · refine ja_iload_n (pc := 4) (f := 1) (i := 1) 1 (by decide +kernel) rfl rfl ?_
    refine ja_sipush (pc := 5) (n := 4096) (v := 4096) (by decide +kernel) (by decide +kernel) ?_
    refine ja_icmp_ge (pc := 8) (off := 17) 25 (by decide +kernel) (by decide) hf (fun hf => ?_) (fun hf => ?_)
    · refine ja_iconst (pc := 25) (n := 0) (v := 0) (by decide +kernel) (by decide +kernel) ?_
      exact ja_ret (pc := 26) (some (.int (0 : Int32))) .ireturn (by decide +kernel) rfl (by cases hf; rfl)
    · refine ja_aload_n (pc := 11) (f := 0) (i := 0) 0 (by decide +kernel) rfl rfl ?_
      refine ja_getr (pc := 12) (idx := 29) (t := 4) (j := 4) (by decide +kernel) fd_Search_29 h0 (fr_4_4 h0) ?_
      refine ja_iload_n (pc := 15) (f := 1) (i := 1) 1 (by decide +kernel) rfl rfl ?_
      refine ja_bind hf (fun v1 hv1 hf => ?_)
      refine ja_iald (pc := 16) (by decide +kernel) (fk_4_4 h0) hv1 ?_
      refine ja_iconst (pc := 17) (n := (-1)) (v := (-1)) (by decide +kernel) (by decide +kernel) ?_
      refine ja_icmp_eq (pc := 18) (off := 7) 25 (by decide +kernel) (by decide) hf (fun hf => ?_) (fun hf => ?_)
      · refine ja_iconst (pc := 25) (n := 0) (v := 0) (by decide +kernel) (by decide +kernel) ?_
        exact ja_ret (pc := 26) (some (.int (0 : Int32))) .ireturn (by decide +kernel) rfl (by cases hf; rfl)
      · refine ja_iconst (pc := 21) (n := 1) (v := 1) (by decide +kernel) (by decide +kernel) ?_
        refine ja_goto (pc := 22) (off := 4) 26 (by decide +kernel) (by decide) ?_
        exact ja_ret (pc := 26) (some (.int (1 : Int32))) .ireturn (by decide +kernel) rfl (by cases hf; rfl)
def f_Locking_allows (x0 : Nat) (x1 : Int32) (x2 : Int32) (sg : ja_S) : Option (Int32 × ja_S) := (if x1 < 0 then some ((0 : Int32), sg) else (if (4096 : Int32) ≤ x1 then some ((0 : Int32), sg) else (if x2 < 0 then some ((0 : Int32), sg) else (if x2 < (12 : Int32) then (ja_ldl ja_L0 sg (ja_q x0 0) ((x1 ^^^ ((1 : Int32) <<< (x2 &&& 31))) / (64 : Int32))).bind fun v1 => (ja_ldl ja_L0 sg (ja_q x0 1) ((x2 * (64 : Int32)) + (x1 / (64 : Int32)))).bind fun v2 => (if (lg_cmp ((((v1 : Int64).toUInt64 >>> (((x1 ^^^ ((1 : Int32) <<< (x2 &&& 31))) - (x1 ^^^ ((1 : Int32) <<< (x2 &&& 31))) / (64 : Int32) * (64 : Int32) : Int32).toInt64.toUInt64 &&& Int64.toUInt64 63)).toInt64) &&& (1 : Int64)) (0 : Int64)) = 0 then (if (lg_cmp ((((v2 : Int64).toUInt64 >>> ((x1 - x1 / (64 : Int32) * (64 : Int32) : Int32).toInt64.toUInt64 &&& Int64.toUInt64 63)).toInt64) &&& (1 : Int64)) (0 : Int64)) = 0 then some ((1 : Int32), sg) else some ((0 : Int32), sg)) else some ((0 : Int32), sg)) else some ((0 : Int32), sg)))))
set_option maxRecDepth 4000 in
theorem c_Locking_allows (l : Launch) (x : ja_X) (x0 : Nat) (x1 : Int32) (x2 : Int32) {sg : ja_S} {w : Int32 × ja_S} (h0 : ja_ob ja_L0 2 x0) (hf : f_Locking_allows x0 x1 x2 sg = some w) : ja_Ct l x y_Locking_allows M_Locking_allows [.ref x0, .int x1, .int x2] ja_L0 sg (some (.int w.1), ja_L0, w.2) := by
  refine ja_mk ⟨by decide, rfl, rfl⟩ (Nat.le_of_ble_eq_true rfl) (lv := [(0, .ref x0), (1, .int x1), (2, .int x2)]) rfl (fun C hl hx _ _ _ _ => ?_)
  subst hl; subst hx
  unfold f_Locking_allows at hf
  refine ja_iload_n (pc := 0) (f := 1) (i := 1) 1 (by decide +kernel) rfl rfl ?_
  refine ja_if_lt (pc := 1) (off := 20) 21 (by decide +kernel) (by decide) hf (fun hf => ?_) (fun hf => ?_)
  · refine ja_iconst (pc := 21) (n := 0) (v := 0) (by decide +kernel) (by decide +kernel) ?_
    exact ja_ret (pc := 22) (some (.int (0 : Int32))) .ireturn (by decide +kernel) rfl (by cases hf; rfl)
  · refine ja_iload_n (pc := 4) (f := 1) (i := 1) 1 (by decide +kernel) rfl rfl ?_
    refine ja_sipush (pc := 5) (n := 4096) (v := 4096) (by decide +kernel) (by decide +kernel) ?_
    refine ja_icmp_ge (pc := 8) (off := 13) 21 (by decide +kernel) (by decide) hf (fun hf => ?_) (fun hf => ?_)
    · refine ja_iconst (pc := 21) (n := 0) (v := 0) (by decide +kernel) (by decide +kernel) ?_
      exact ja_ret (pc := 22) (some (.int (0 : Int32))) .ireturn (by decide +kernel) rfl (by cases hf; rfl)
    · refine ja_iload_n (pc := 11) (f := 2) (i := 2) 2 (by decide +kernel) rfl rfl ?_
      refine ja_if_lt (pc := 12) (off := 9) 21 (by decide +kernel) (by decide) hf (fun hf => ?_) (fun hf => ?_)
      · refine ja_iconst (pc := 21) (n := 0) (v := 0) (by decide +kernel) (by decide +kernel) ?_
        exact ja_ret (pc := 22) (some (.int (0 : Int32))) .ireturn (by decide +kernel) rfl (by cases hf; rfl)
      · refine ja_iload_n (pc := 15) (f := 2) (i := 2) 2 (by decide +kernel) rfl rfl ?_
        refine ja_bipush (pc := 16) (n := 12) (v := 12) (by decide +kernel) (by decide +kernel) ?_
        refine ja_icmp_lt (pc := 18) (off := 5) 23 (by decide +kernel) (by decide) hf (fun hf => ?_) (fun hf => ?_)
        · refine ja_iload_n (pc := 23) (f := 1) (i := 1) 1 (by decide +kernel) rfl rfl ?_
          refine ja_iconst (pc := 24) (n := 1) (v := 1) (by decide +kernel) (by decide +kernel) ?_
          refine ja_iload_n (pc := 25) (f := 2) (i := 2) 2 (by decide +kernel) rfl rfl ?_
          refine ja_ishl (pc := 26) (by decide +kernel) ?_
          refine ja_ixor (pc := 27) (by decide +kernel) ?_
          refine ja_istore_n (pc := 28) (f := 3) (i := 3) (lv' := [(3, .int (x1 ^^^ ((1 : Int32) <<< (x2 &&& 31)))), (0, .ref x0), (1, .int x1), (2, .int x2)]) (by decide +kernel) rfl (by decide) rfl ?_
          refine ja_aload_n (pc := 29) (f := 0) (i := 0) 1 (by decide +kernel) rfl rfl ?_
          refine ja_getr (pc := 30) (idx := 11) (t := 2) (j := 0) (by decide +kernel) fd_Locking_11 h0 (fr_2_0 h0) ?_
          refine ja_iload_n (pc := 33) (f := 3) (i := 3) 0 (by decide +kernel) rfl rfl ?_
          refine ja_bipush (pc := 34) (n := 64) (v := 64) (by decide +kernel) (by decide +kernel) ?_
          refine ja_idiv (pc := 36) (by decide +kernel) (by decide) ?_
          refine ja_bind hf (fun v1 hv1 hf => ?_)
          refine ja_lald (pc := 37) (by decide +kernel) (fk_2_0 h0) hv1 ?_
          refine ja_lstore (pc := 38) (i := 4) (lv' := [(4, .long v1), (3, .int (x1 ^^^ ((1 : Int32) <<< (x2 &&& 31)))), (0, .ref x0), (1, .int x1), (2, .int x2)]) (by decide +kernel) (by decide) rfl ?_
          refine ja_aload_n (pc := 40) (f := 0) (i := 0) 2 (by decide +kernel) rfl rfl ?_
          refine ja_getr (pc := 41) (idx := 15) (t := 2) (j := 1) (by decide +kernel) fd_Locking_15 h0 (fr_2_1 h0) ?_
          refine ja_iload_n (pc := 44) (f := 2) (i := 2) 4 (by decide +kernel) rfl rfl ?_
          refine ja_bipush (pc := 45) (n := 64) (v := 64) (by decide +kernel) (by decide +kernel) ?_
          refine ja_imul (pc := 47) (by decide +kernel) ?_
          refine ja_iload_n (pc := 48) (f := 1) (i := 1) 3 (by decide +kernel) rfl rfl ?_
          refine ja_bipush (pc := 49) (n := 64) (v := 64) (by decide +kernel) (by decide +kernel) ?_
          refine ja_idiv (pc := 51) (by decide +kernel) (by decide) ?_
          refine ja_iadd (pc := 52) (by decide +kernel) ?_
          refine ja_bind hf (fun v2 hv2 hf => ?_)
          refine ja_lald (pc := 53) (by decide +kernel) (fk_2_1 h0) hv2 ?_
          refine ja_lstore (pc := 54) (i := 6) (lv' := [(6, .long v2), (4, .long v1), (3, .int (x1 ^^^ ((1 : Int32) <<< (x2 &&& 31)))), (0, .ref x0), (1, .int x1), (2, .int x2)]) (by decide +kernel) (by decide) rfl ?_
          refine ja_lload (pc := 56) (i := 4) 1 (by decide +kernel) rfl ?_
          refine ja_iload_n (pc := 58) (f := 3) (i := 3) 2 (by decide +kernel) rfl rfl ?_
          refine ja_bipush (pc := 59) (n := 64) (v := 64) (by decide +kernel) (by decide +kernel) ?_
          refine ja_irem (pc := 61) (by decide +kernel) (by decide) ?_
          refine ja_lushr (pc := 62) (by decide +kernel) ?_
          refine ja_lconst (pc := 63) (n := 1) (v := 1) (by decide +kernel) (by decide +kernel) ?_
          refine ja_land (pc := 64) (by decide +kernel) ?_
          refine ja_lconst (pc := 65) (n := 0) (v := 0) (by decide +kernel) (by decide +kernel) ?_
          refine ja_lcmp (pc := 66) (by decide +kernel) ?_
          refine ja_if_ne (pc := 67) (off := 21) 88 (by decide +kernel) (by decide) hf (fun hf => ?_) (fun hf => ?_)
          · refine ja_iconst (pc := 88) (n := 0) (v := 0) (by decide +kernel) (by decide +kernel) ?_
            exact ja_ret (pc := 89) (some (.int (0 : Int32))) .ireturn (by decide +kernel) rfl (by cases hf; rfl)
          · refine ja_lload (pc := 70) (i := 6) 0 (by decide +kernel) rfl ?_
            refine ja_iload_n (pc := 72) (f := 1) (i := 1) 4 (by decide +kernel) rfl rfl ?_
            refine ja_bipush (pc := 73) (n := 64) (v := 64) (by decide +kernel) (by decide +kernel) ?_
            refine ja_irem (pc := 75) (by decide +kernel) (by decide) ?_
            refine ja_lushr (pc := 76) (by decide +kernel) ?_
            refine ja_lconst (pc := 77) (n := 1) (v := 1) (by decide +kernel) (by decide +kernel) ?_
            refine ja_land (pc := 78) (by decide +kernel) ?_
            refine ja_lconst (pc := 79) (n := 0) (v := 0) (by decide +kernel) (by decide +kernel) ?_
            refine ja_lcmp (pc := 80) (by decide +kernel) ?_
            refine ja_if_ne (pc := 81) (off := 7) 88 (by decide +kernel) (by decide) hf (fun hf => ?_) (fun hf => ?_)
            · refine ja_iconst (pc := 88) (n := 0) (v := 0) (by decide +kernel) (by decide +kernel) ?_
              exact ja_ret (pc := 89) (some (.int (0 : Int32))) .ireturn (by decide +kernel) rfl (by cases hf; rfl)
            · refine ja_iconst (pc := 84) (n := 1) (v := 1) (by decide +kernel) (by decide +kernel) ?_
              refine ja_goto (pc := 85) (off := 4) 89 (by decide +kernel) (by decide) ?_
              exact ja_ret (pc := 89) (some (.int (1 : Int32))) .ireturn (by decide +kernel) rfl (by cases hf; rfl)
        · refine ja_iconst (pc := 21) (n := 0) (v := 0) (by decide +kernel) (by decide +kernel) ?_
          exact ja_ret (pc := 22) (some (.int (0 : Int32))) .ireturn (by decide +kernel) rfl (by cases hf; rfl)
def f_Search_movesTo (x0 : Nat) (x1 : Int32) (sg : ja_S) : Option (Int32 × ja_S) := (f_Search_reached x0 x1 sg).bind fun v1 => (if v1.1 = 0 then some ((-1 : Int32), v1.2) else (ja_ld ja_L0 v1.2 (ja_q x0 4) x1).bind fun v2 => some (v2 / (16 : Int32), v1.2))
set_option maxRecDepth 4000 in
theorem c_Search_movesTo (l : Launch) (x : ja_X) (x0 : Nat) (x1 : Int32) {sg : ja_S} {w : Int32 × ja_S} (h0 : ja_ob ja_L0 4 x0) (hf : f_Search_movesTo x0 x1 sg = some w) : ja_Ct l x y_Search_movesTo M_Search_movesTo [.ref x0, .int x1] ja_L0 sg (some (.int w.1), ja_L0, w.2) := by
  refine ja_mk ⟨by decide, rfl, rfl⟩ (Nat.le_of_ble_eq_true rfl) (lv := [(0, .ref x0), (1, .int x1)]) rfl (fun C hl hx _ _ _ _ => ?_)
  subst hl; subst hx
  unfold f_Search_movesTo at hf
  refine ja_aload_n (pc := 0) (f := 0) (i := 0) 0 (by decide +kernel) rfl rfl ?_
  refine ja_iload_n (pc := 1) (f := 1) (i := 1) 1 (by decide +kernel) rfl rfl ?_
  refine ja_bind hf (fun v1 hv1 hf => ?_)
  refine ja_callVi (pc := 2) (idx := 45) (t := 4) (b := x0) (as := [.int x1]) (st := []) (by decide +kernel) kv_Search_reached lk_Search_45 ⟨by decide, by decide⟩ (c_Search_reached _ _ x0 x1 h0 hv1) h0 rfl (Nat.le_of_ble_eq_true rfl) rfl ?_
  refine ja_if_eq (pc := 5) (off := 15) 20 (by decide +kernel) (by decide) hf (fun hf => ?_) (fun hf => ?_)
  · refine ja_iconst (pc := 20) (n := (-1)) (v := (-1)) (by decide +kernel) (by decide +kernel) ?_
    exact ja_ret (pc := 21) (some (.int (-1 : Int32))) .ireturn (by decide +kernel) rfl (by cases hf; rfl)
  · refine ja_aload_n (pc := 8) (f := 0) (i := 0) 0 (by decide +kernel) rfl rfl ?_
    refine ja_getr (pc := 9) (idx := 29) (t := 4) (j := 4) (by decide +kernel) fd_Search_29 h0 (fr_4_4 h0) ?_
    refine ja_iload_n (pc := 12) (f := 1) (i := 1) 1 (by decide +kernel) rfl rfl ?_
    refine ja_bind hf (fun v2 hv2 hf => ?_)
    refine ja_iald (pc := 13) (by decide +kernel) (fk_4_4 h0) hv2 ?_
    refine ja_bipush (pc := 14) (n := 16) (v := 16) (by decide +kernel) (by decide +kernel) ?_
    refine ja_idiv (pc := 16) (by decide +kernel) (by decide) ?_
    refine ja_goto (pc := 17) (off := 4) 21 (by decide +kernel) (by decide) ?_
    exact ja_ret (pc := 21) (some (.int (v2 / (16 : Int32)))) .ireturn (by decide +kernel) rfl (by cases hf; rfl)
def f_Search_explore_L43 (k17 : Nat → Int32 → ja_S → Option (ja_S)) : Nat → Nat → Int32 → Int32 → Int32 → ja_S → Option (ja_S)
  | 0, _, _, _, _, _ => none
  | n + 1, x0, x3, x4, x5, sg => (if (12 : Int32) ≤ x5 then k17 x0 (x3 + 1) sg else (if ((sg.1 x0 2) >>> (x5 &&& 31)) = 0 then k17 x0 (x3 + 1) sg else (if (((sg.1 x0 2) >>> (x5 &&& 31)) &&& (1 : Int32)) = (1 : Int32) then (f_Search_reached x0 (x4 ^^^ ((1 : Int32) <<< (x5 &&& 31))) sg).bind fun v1 => (if v1.1 = 0 then (f_Locking_allows (ja_q x0 0) x4 x5 v1.2).bind fun v2 => (if v2.1 = 0 then f_Search_explore_L43 k17 n x0 x3 x4 (x5 + 1) v2.2 else (f_Search_movesTo x0 x4 v2.2).bind fun v3 => (f_Search_enter x0 (x4 ^^^ ((1 : Int32) <<< (x5 &&& 31))) (((16 : Int32) * (v3.1 + (1 : Int32))) + x5) v3.2).bind fun v4 => f_Search_explore_L43 k17 n x0 x3 x4 (x5 + 1) v4) else f_Search_explore_L43 k17 n x0 x3 x4 (x5 + 1) v1.2) else f_Search_explore_L43 k17 n x0 x3 x4 (x5 + 1) sg)))
set_option maxRecDepth 4000 in
theorem w_Search_explore_L43 (C : ja_C) {w : ja_S} {k17 : Nat → Int32 → ja_S → Option (ja_S)} (e17 : ∀ (x0 : Nat) (x3 : Int32) (sg : ja_S), ja_ob ja_L0 4 x0 → k17 x0 x3 sg = some w → ja_J M_Search_explore C 17 [(0, .ref x0), (3, .int x3)] [] ja_L0 sg (none, ja_L0, w))  (n : Nat) : ∀ (x0 : Nat) (x3 : Int32) (x4 : Int32) (x5 : Int32) (sg : ja_S), ja_ob ja_L0 4 x0 → f_Search_explore_L43 k17 n x0 x3 x4 x5 sg = some w → ja_J M_Search_explore C 43 [(0, .ref x0), (3, .int x3), (4, .int x4), (5, .int x5)] [] ja_L0 sg (none, ja_L0, w) := by
  induction n with
  | zero => intro _ _ _ _ _ _ hf; exact absurd (show (none : Option _) = some w from hf) (by simp)
  | succ n ih =>
    intro x0 x3 x4 x5 sg h0 hf
    unfold f_Search_explore_L43 at hf
    refine ja_iload (pc := 43) (i := 5) 3 (by decide +kernel) rfl ?_
    refine ja_bipush (pc := 45) (n := 12) (v := 12) (by decide +kernel) (by decide +kernel) ?_
    refine ja_icmp_ge (pc := 47) (off := 84) 131 (by decide +kernel) (by decide) hf (fun hf => ?_) (fun hf => ?_)
    · refine ja_iinc (pc := 131) (i := 3) (n := 1) (v := x3 + 1) (lv' := [(3, .int (x3 + 1)), (0, .ref x0), (4, .int x4), (5, .int x5)]) 1 (by decide +kernel) rfl rfl (by decide) rfl ?_
      refine ja_goto (pc := 134) (off := (-117)) 17 (by decide +kernel) (by decide) ?_
      refine ja_lv [1, 0] rfl ?_
      exact e17 x0 (x3 + 1) sg h0 hf
    · refine ja_aload_n (pc := 50) (f := 0) (i := 0) 0 (by decide +kernel) rfl rfl ?_
      refine ja_geti (pc := 51) (idx := 22) (t := 4) (j := 2) (by decide +kernel) fd_Search_22 h0 ?_
      refine ja_iload (pc := 54) (i := 5) 3 (by decide +kernel) rfl ?_
      refine ja_ishr (pc := 56) (by decide +kernel) ?_
      refine ja_if_eq (pc := 57) (off := 74) 131 (by decide +kernel) (by decide) hf (fun hf => ?_) (fun hf => ?_)
      · refine ja_iinc (pc := 131) (i := 3) (n := 1) (v := x3 + 1) (lv' := [(3, .int (x3 + 1)), (0, .ref x0), (4, .int x4), (5, .int x5)]) 1 (by decide +kernel) rfl rfl (by decide) rfl ?_
        refine ja_goto (pc := 134) (off := (-117)) 17 (by decide +kernel) (by decide) ?_
        refine ja_lv [1, 0] rfl ?_
        exact e17 x0 (x3 + 1) sg h0 hf
      · refine ja_iload (pc := 60) (i := 4) 2 (by decide +kernel) rfl ?_
        refine ja_iconst (pc := 62) (n := 1) (v := 1) (by decide +kernel) (by decide +kernel) ?_
        refine ja_iload (pc := 63) (i := 5) 3 (by decide +kernel) rfl ?_
        refine ja_ishl (pc := 65) (by decide +kernel) ?_
        refine ja_ixor (pc := 66) (by decide +kernel) ?_
        refine ja_istore (pc := 67) (i := 6) (lv' := [(6, .int (x4 ^^^ ((1 : Int32) <<< (x5 &&& 31)))), (0, .ref x0), (3, .int x3), (4, .int x4), (5, .int x5)]) (by decide +kernel) (by decide) rfl ?_
        refine ja_aload_n (pc := 69) (f := 0) (i := 0) 1 (by decide +kernel) rfl rfl ?_
        refine ja_geti (pc := 70) (idx := 22) (t := 4) (j := 2) (by decide +kernel) fd_Search_22 h0 ?_
        refine ja_iload (pc := 73) (i := 5) 4 (by decide +kernel) rfl ?_
        refine ja_ishr (pc := 75) (by decide +kernel) ?_
        refine ja_iconst (pc := 76) (n := 1) (v := 1) (by decide +kernel) (by decide +kernel) ?_
        refine ja_iand (pc := 77) (by decide +kernel) ?_
        refine ja_iconst (pc := 78) (n := 1) (v := 1) (by decide +kernel) (by decide +kernel) ?_
        refine ja_icmp_ne (pc := 79) (off := 46) 125 (by decide +kernel) (by decide) hf (fun hf => ?_) (fun hf => ?_)
        · refine ja_iinc (pc := 125) (i := 5) (n := 1) (v := x5 + 1) (lv' := [(5, .int (x5 + 1)), (6, .int (x4 ^^^ ((1 : Int32) <<< (x5 &&& 31)))), (0, .ref x0), (3, .int x3), (4, .int x4)]) 4 (by decide +kernel) rfl rfl (by decide) rfl ?_
          refine ja_goto (pc := 128) (off := (-85)) 43 (by decide +kernel) (by decide) ?_
          refine ja_lv [2, 3, 4, 0] rfl ?_
          exact ih x0 x3 x4 (x5 + 1) sg h0 hf
        · refine ja_aload_n (pc := 82) (f := 0) (i := 0) 1 (by decide +kernel) rfl rfl ?_
          refine ja_iload (pc := 83) (i := 6) 0 (by decide +kernel) rfl ?_
          refine ja_bind hf (fun v1 hv1 hf => ?_)
          refine ja_callVi (pc := 85) (idx := 45) (t := 4) (b := x0) (as := [.int (x4 ^^^ ((1 : Int32) <<< (x5 &&& 31)))]) (st := []) (by decide +kernel) kv_Search_reached lk_Search_45 ⟨by decide, by decide⟩ (c_Search_reached _ _ x0 (x4 ^^^ ((1 : Int32) <<< (x5 &&& 31))) h0 hv1) h0 rfl (Nat.le_of_ble_eq_true rfl) rfl ?_
          refine ja_if_ne (pc := 88) (off := 37) 125 (by decide +kernel) (by decide) hf (fun hf => ?_) (fun hf => ?_)
          · refine ja_iinc (pc := 125) (i := 5) (n := 1) (v := x5 + 1) (lv' := [(5, .int (x5 + 1)), (6, .int (x4 ^^^ ((1 : Int32) <<< (x5 &&& 31)))), (0, .ref x0), (3, .int x3), (4, .int x4)]) 4 (by decide +kernel) rfl rfl (by decide) rfl ?_
            refine ja_goto (pc := 128) (off := (-85)) 43 (by decide +kernel) (by decide) ?_
            refine ja_lv [2, 3, 4, 0] rfl ?_
            exact ih x0 x3 x4 (x5 + 1) v1.2 h0 hf
          · refine ja_aload_n (pc := 91) (f := 0) (i := 0) 1 (by decide +kernel) rfl rfl ?_
            refine ja_getr (pc := 92) (idx := 12) (t := 4) (j := 0) (by decide +kernel) fd_Search_12 h0 (fr_4_0 h0) ?_
            refine ja_iload (pc := 95) (i := 4) 3 (by decide +kernel) rfl ?_
            refine ja_iload (pc := 97) (i := 5) 4 (by decide +kernel) rfl ?_
            refine ja_bind hf (fun v2 hv2 hf => ?_)
            refine ja_callVi (pc := 99) (idx := 49) (t := 2) (b := (ja_q x0 0)) (as := [.int x4, .int x5]) (st := []) (by decide +kernel) kv_Locking_allows lk_Search_49 ⟨by decide, by decide⟩ (c_Locking_allows _ _ (ja_q x0 0) x4 x5 (fk_4_0 h0) hv2) (fk_4_0 h0) rfl (Nat.le_of_ble_eq_true rfl) rfl ?_
            refine ja_if_eq (pc := 102) (off := 23) 125 (by decide +kernel) (by decide) hf (fun hf => ?_) (fun hf => ?_)
            · refine ja_iinc (pc := 125) (i := 5) (n := 1) (v := x5 + 1) (lv' := [(5, .int (x5 + 1)), (6, .int (x4 ^^^ ((1 : Int32) <<< (x5 &&& 31)))), (0, .ref x0), (3, .int x3), (4, .int x4)]) 4 (by decide +kernel) rfl rfl (by decide) rfl ?_
              refine ja_goto (pc := 128) (off := (-85)) 43 (by decide +kernel) (by decide) ?_
              refine ja_lv [2, 3, 4, 0] rfl ?_
              exact ih x0 x3 x4 (x5 + 1) v2.2 h0 hf
            · refine ja_aload_n (pc := 105) (f := 0) (i := 0) 1 (by decide +kernel) rfl rfl ?_
              refine ja_iload (pc := 106) (i := 6) 0 (by decide +kernel) rfl ?_
              refine ja_bipush (pc := 108) (n := 16) (v := 16) (by decide +kernel) (by decide +kernel) ?_
              refine ja_aload_n (pc := 110) (f := 0) (i := 0) 1 (by decide +kernel) rfl rfl ?_
              refine ja_iload (pc := 111) (i := 4) 3 (by decide +kernel) rfl ?_
              refine ja_bind hf (fun v3 hv3 hf => ?_)
              refine ja_callVi (pc := 113) (idx := 53) (t := 4) (b := x0) (as := [.int x4]) (st := [.int (16 : Int32), .int (x4 ^^^ ((1 : Int32) <<< (x5 &&& 31))), .ref x0]) (by decide +kernel) kv_Search_movesTo lk_Search_53 ⟨by decide, by decide⟩ (c_Search_movesTo _ _ x0 x4 h0 hv3) h0 rfl (Nat.le_of_ble_eq_true rfl) rfl ?_
              refine ja_iconst (pc := 116) (n := 1) (v := 1) (by decide +kernel) (by decide +kernel) ?_
              refine ja_iadd (pc := 117) (by decide +kernel) ?_
              refine ja_imul (pc := 118) (by decide +kernel) ?_
              refine ja_iload (pc := 119) (i := 5) 4 (by decide +kernel) rfl ?_
              refine ja_iadd (pc := 121) (by decide +kernel) ?_
              refine ja_bind hf (fun v4 hv4 hf => ?_)
              refine ja_callVv (pc := 122) (idx := 41) (t := 4) (b := x0) (as := [.int (x4 ^^^ ((1 : Int32) <<< (x5 &&& 31))), .int (((16 : Int32) * (v3.1 + (1 : Int32))) + x5)]) (st := []) (by decide +kernel) kv_Search_enter lk_Search_41 ⟨by decide, by decide⟩ (c_Search_enter _ _ x0 (x4 ^^^ ((1 : Int32) <<< (x5 &&& 31))) (((16 : Int32) * (v3.1 + (1 : Int32))) + x5) h0 hv4) h0 rfl (Nat.le_of_ble_eq_true rfl) rfl ?_
              refine ja_iinc (pc := 125) (i := 5) (n := 1) (v := x5 + 1) (lv' := [(5, .int (x5 + 1)), (6, .int (x4 ^^^ ((1 : Int32) <<< (x5 &&& 31)))), (0, .ref x0), (3, .int x3), (4, .int x4)]) 4 (by decide +kernel) rfl rfl (by decide) rfl ?_
              refine ja_goto (pc := 128) (off := (-85)) 43 (by decide +kernel) (by decide) ?_
              refine ja_lv [2, 3, 4, 0] rfl ?_
              exact ih x0 x3 x4 (x5 + 1) v4 h0 hf
def f_Search_explore_L17  : Nat → Nat → Int32 → ja_S → Option (ja_S)
  | 0, _, _, _ => none
  | n + 1, x0, x3, sg => (if (sg.1 x0 1) ≤ x3 then some sg else (if (4096 : Int32) ≤ x3 then some sg else (ja_ld ja_L0 sg (ja_q x0 3) x3).bind fun v1 => f_Search_explore_L43 (f_Search_explore_L17  n) ja_FU x0 x3 v1 (0 : Int32) sg))
set_option maxRecDepth 4000 in
theorem w_Search_explore_L17 (C : ja_C) {w : ja_S}    (n : Nat) : ∀ (x0 : Nat) (x3 : Int32) (sg : ja_S), ja_ob ja_L0 4 x0 → f_Search_explore_L17  n x0 x3 sg = some w → ja_J M_Search_explore C 17 [(0, .ref x0), (3, .int x3)] [] ja_L0 sg (none, ja_L0, w) := by
  induction n with
  | zero => intro _ _ _ _ hf; exact absurd (show (none : Option _) = some w from hf) (by simp)
  | succ n ih =>
    intro x0 x3 sg h0 hf
    unfold f_Search_explore_L17 at hf
    refine ja_iload_n (pc := 17) (f := 3) (i := 3) 1 (by decide +kernel) rfl rfl ?_
    refine ja_aload_n (pc := 18) (f := 0) (i := 0) 0 (by decide +kernel) rfl rfl ?_
    refine ja_geti (pc := 19) (idx := 18) (t := 4) (j := 1) (by decide +kernel) fd_Search_18 h0 ?_
    refine ja_icmp_ge (pc := 22) (off := 115) 137 (by decide +kernel) (by decide) hf (fun hf => ?_) (fun hf => ?_)
    · exact ja_ret (pc := 137) none .return_ (by decide +kernel) rfl (by cases hf; rfl)
    · refine ja_iload_n (pc := 25) (f := 3) (i := 3) 1 (by decide +kernel) rfl rfl ?_
      refine ja_sipush (pc := 26) (n := 4096) (v := 4096) (by decide +kernel) (by decide +kernel) ?_
      refine ja_icmp_ge (pc := 29) (off := 108) 137 (by decide +kernel) (by decide) hf (fun hf => ?_) (fun hf => ?_)
      · exact ja_ret (pc := 137) none .return_ (by decide +kernel) rfl (by cases hf; rfl)
      · refine ja_aload_n (pc := 32) (f := 0) (i := 0) 0 (by decide +kernel) rfl rfl ?_
        refine ja_getr (pc := 33) (idx := 25) (t := 4) (j := 3) (by decide +kernel) fd_Search_25 h0 (fr_4_3 h0) ?_
        refine ja_iload_n (pc := 36) (f := 3) (i := 3) 1 (by decide +kernel) rfl rfl ?_
        refine ja_bind hf (fun v1 hv1 hf => ?_)
        refine ja_iald (pc := 37) (by decide +kernel) (fk_4_3 h0) hv1 ?_
        refine ja_istore (pc := 38) (i := 4) (lv' := [(4, .int v1), (0, .ref x0), (3, .int x3)]) (by decide +kernel) (by decide) rfl ?_
        refine ja_iconst (pc := 40) (n := 0) (v := 0) (by decide +kernel) (by decide +kernel) ?_
        refine ja_istore (pc := 41) (i := 5) (lv' := [(5, .int (0 : Int32)), (4, .int v1), (0, .ref x0), (3, .int x3)]) (by decide +kernel) (by decide) rfl ?_
        refine ja_lv [2, 3, 1, 0] rfl ?_
        exact w_Search_explore_L43 C ih ja_FU x0 x3 v1 (0 : Int32) sg h0 hf
def f_Search_explore (x0 : Nat) (x1 : Int32) (x2 : Int32) (sg : ja_S) : Option (ja_S) := (f_Search_forget x0 sg).bind fun v1 => (ja_pu v1 x0 2 x2).bind fun s2 => (f_Search_enter x0 x1 (0 : Int32) s2).bind fun v3 => f_Search_explore_L17  ja_FU x0 (0 : Int32) v3
set_option maxRecDepth 4000 in
theorem c_Search_explore (l : Launch) (x : ja_X) (x0 : Nat) (x1 : Int32) (x2 : Int32) {sg : ja_S} {w : ja_S} (h0 : ja_ob ja_L0 4 x0) (hf : f_Search_explore x0 x1 x2 sg = some w) : ja_Ct l x y_Search_explore M_Search_explore [.ref x0, .int x1, .int x2] ja_L0 sg (none, ja_L0, w) := by
  refine ja_mk ⟨by decide, rfl, rfl⟩ (Nat.le_of_ble_eq_true rfl) (lv := [(0, .ref x0), (1, .int x1), (2, .int x2)]) rfl (fun C hl hx _ _ _ _ => ?_)
  subst hl; subst hx
  unfold f_Search_explore at hf
  refine ja_aload_n (pc := 0) (f := 0) (i := 0) 0 (by decide +kernel) rfl rfl ?_
  refine ja_bind hf (fun v1 hv1 hf => ?_)
  refine ja_callVv (pc := 1) (idx := 38) (t := 4) (b := x0) (as := []) (st := []) (by decide +kernel) kv_Search_forget lk_Search_38 ⟨by decide, by decide⟩ (c_Search_forget _ _ x0 h0 hv1) h0 rfl (Nat.le_of_ble_eq_true rfl) rfl ?_
  refine ja_aload_n (pc := 4) (f := 0) (i := 0) 0 (by decide +kernel) rfl rfl ?_
  refine ja_iload_n (pc := 5) (f := 2) (i := 2) 2 (by decide +kernel) rfl rfl ?_
  refine ja_bind hf (fun s2 hs2 hf => ?_)
  refine ja_puti2 (pc := 6) (idx := 22) (t := 4) (j := 2) (by decide +kernel) fd_Search_22 h0 ⟨rfl, rfl⟩ hs2 ?_
  refine ja_aload_n (pc := 9) (f := 0) (i := 0) 0 (by decide +kernel) rfl rfl ?_
  refine ja_iload_n (pc := 10) (f := 1) (i := 1) 1 (by decide +kernel) rfl rfl ?_
  refine ja_iconst (pc := 11) (n := 0) (v := 0) (by decide +kernel) (by decide +kernel) ?_
  refine ja_bind hf (fun v3 hv3 hf => ?_)
  refine ja_callVv (pc := 12) (idx := 41) (t := 4) (b := x0) (as := [.int x1, .int (0 : Int32)]) (st := []) (by decide +kernel) kv_Search_enter lk_Search_41 ⟨by decide, by decide⟩ (c_Search_enter _ _ x0 x1 (0 : Int32) h0 hv3) h0 rfl (Nat.le_of_ble_eq_true rfl) rfl ?_
  refine ja_iconst (pc := 15) (n := 0) (v := 0) (by decide +kernel) (by decide +kernel) ?_
  refine ja_istore_n (pc := 16) (f := 3) (i := 3) (lv' := [(3, .int (0 : Int32)), (0, .ref x0), (1, .int x1), (2, .int x2)]) (by decide +kernel) rfl (by decide) rfl ?_
  refine ja_lv [1, 0] rfl ?_
  exact w_Search_explore_L17 C  ja_FU x0 (0 : Int32) v3 h0 hf
