def f_SheetParser_atText_L20  : Nat → Nat → Nat → Int32 → ja_S → Option (Int32 × ja_S)
  | 0, _, _, _, _ => none
  | n + 1, x0, x1, x2, sg => (f_String_length x1 sg).bind fun v1 => (if v1.1 ≤ x2 then some ((1 : Int32), v1.2) else (f_SheetParser_byteAt x0 ((v1.2.1 x0 4) + x2) v1.2).bind fun v2 => (f_String_charAt x1 x2 v2.2).bind fun v3 => (if v2.1 = v3.1 then f_SheetParser_atText_L20  n x0 x1 (x2 + 1) v3.2 else some ((0 : Int32), v3.2)))
set_option maxRecDepth 4000 in
theorem w_SheetParser_atText_L20 (C : ja_C) {w : Int32 × ja_S}    (n : Nat) : ∀ (x0 : Nat) (x1 : Nat) (x2 : Int32) (sg : ja_S), ja_ob ja_L0 6 x0 → ja_is x1 → f_SheetParser_atText_L20  n x0 x1 x2 sg = some w → ja_J M_SheetParser_atText C 20 [(0, .ref x0), (1, .ref x1), (2, .int x2)] [] ja_L0 sg (some (.int w.1), ja_L0, w.2) := by
  induction n with
  | zero => intro _ _ _ _ _ _ hf; exact absurd (show (none : Option _) = some w from hf) (by simp)
  | succ n ih =>
    intro x0 x1 x2 sg h0 h1 hf
    unfold f_SheetParser_atText_L20 at hf
    refine ja_iload_n (pc := 20) (f := 2) (i := 2) 2 (by decide +kernel) rfl rfl ?_
    refine ja_aload_n (pc := 21) (f := 1) (i := 1) 1 (by decide +kernel) rfl rfl ?_
    refine ja_bind hf (fun v1 hv1 hf => ?_)
    refine ja_callTi (pc := 22) (idx := 146) (b := x1) (as := []) (st := [.int x2]) (by decide +kernel) kv_String_length lk_SheetParser_146 ⟨by decide, by decide⟩ (c_String_length _ _ x1 h1 hv1) h1 rfl (Nat.le_of_ble_eq_true rfl) rfl ?_
    refine ja_icmp_ge (pc := 25) (off := 29) 54 (by decide +kernel) (by decide) hf (fun hf => ?_) (fun hf => ?_)
    · refine ja_iconst (pc := 54) (n := 1) (v := 1) (by decide +kernel) (by decide +kernel) ?_
      exact ja_ret (pc := 55) (some (.int (1 : Int32))) .ireturn (by decide +kernel) rfl (by cases hf; rfl)
    · refine ja_aload_n (pc := 28) (f := 0) (i := 0) 0 (by decide +kernel) rfl rfl ?_
      refine ja_aload_n (pc := 29) (f := 0) (i := 0) 0 (by decide +kernel) rfl rfl ?_
      refine ja_geti (pc := 30) (idx := 28) (t := 6) (j := 4) (by decide +kernel) fd_SheetParser_28 h0 ?_
      refine ja_iload_n (pc := 33) (f := 2) (i := 2) 2 (by decide +kernel) rfl rfl ?_
      refine ja_iadd (pc := 34) (by decide +kernel) ?_
      refine ja_bind hf (fun v2 hv2 hf => ?_)
      refine ja_callVi (pc := 35) (idx := 75) (t := 6) (b := x0) (as := [.int ((v1.2.1 x0 4) + x2)]) (st := []) (by decide +kernel) kv_SheetParser_byteAt lk_SheetParser_75 ⟨by decide, by decide⟩ (c_SheetParser_byteAt _ _ x0 ((v1.2.1 x0 4) + x2) h0 hv2) h0 rfl (Nat.le_of_ble_eq_true rfl) rfl ?_
      refine ja_aload_n (pc := 38) (f := 1) (i := 1) 1 (by decide +kernel) rfl rfl ?_
      refine ja_iload_n (pc := 39) (f := 2) (i := 2) 2 (by decide +kernel) rfl rfl ?_
      refine ja_bind hf (fun v3 hv3 hf => ?_)
      refine ja_callTi (pc := 40) (idx := 150) (b := x1) (as := [.int x2]) (st := [.int v2.1]) (by decide +kernel) kv_String_charAt lk_SheetParser_150 ⟨by decide, by decide⟩ (c_String_charAt _ _ x1 x2 h1 hv3) h1 rfl (Nat.le_of_ble_eq_true rfl) rfl ?_
      refine ja_icmp_eq (pc := 43) (off := 5) 48 (by decide +kernel) (by decide) hf (fun hf => ?_) (fun hf => ?_)
      · refine ja_iinc (pc := 48) (i := 2) (n := 1) (v := x2 + 1) (lv' := [(2, .int (x2 + 1)), (0, .ref x0), (1, .ref x1)]) 2 (by decide +kernel) rfl rfl (by decide) rfl ?_
        refine ja_goto (pc := 51) (off := (-31)) 20 (by decide +kernel) (by decide) ?_
        refine ja_lv [1, 2, 0] rfl ?_
        exact ih x0 x1 (x2 + 1) v3.2 h0 h1 hf
      · refine ja_iconst (pc := 46) (n := 0) (v := 0) (by decide +kernel) (by decide +kernel) ?_
        exact ja_ret (pc := 47) (some (.int (0 : Int32))) .ireturn (by decide +kernel) rfl (by cases hf; rfl)
def f_SheetParser_atText (x0 : Nat) (x1 : Nat) (sg : ja_S) : Option (Int32 × ja_S) := (f_String_length x1 sg).bind fun v1 => (if ((sg.1 x0 5) - (sg.1 x0 4)) = v1.1 then f_SheetParser_atText_L20  ja_FU x0 x1 (0 : Int32) v1.2 else some ((0 : Int32), v1.2))
set_option maxRecDepth 4000 in
theorem c_SheetParser_atText (l : Launch) (x : ja_X) (x0 : Nat) (x1 : Nat) {sg : ja_S} {w : Int32 × ja_S} (h0 : ja_ob ja_L0 6 x0) (h1 : ja_is x1) (hf : f_SheetParser_atText x0 x1 sg = some w) : ja_Ct l x y_SheetParser_atText M_SheetParser_atText [.ref x0, .ref x1] ja_L0 sg (some (.int w.1), ja_L0, w.2) := by
  refine ja_mk ⟨by decide, rfl, rfl⟩ (Nat.le_of_ble_eq_true rfl) (lv := [(0, .ref x0), (1, .ref x1)]) rfl (fun C hl hx _ _ _ _ => ?_)
  subst hl; subst hx
  unfold f_SheetParser_atText at hf
  refine ja_aload_n (pc := 0) (f := 0) (i := 0) 0 (by decide +kernel) rfl rfl ?_
  refine ja_geti (pc := 1) (idx := 31) (t := 6) (j := 5) (by decide +kernel) fd_SheetParser_31 h0 ?_
  refine ja_aload_n (pc := 4) (f := 0) (i := 0) 0 (by decide +kernel) rfl rfl ?_
  refine ja_geti (pc := 5) (idx := 28) (t := 6) (j := 4) (by decide +kernel) fd_SheetParser_28 h0 ?_
  refine ja_isub (pc := 8) (by decide +kernel) ?_
  refine ja_aload_n (pc := 9) (f := 1) (i := 1) 1 (by decide +kernel) rfl rfl ?_
  refine ja_bind hf (fun v1 hv1 hf => ?_)
  refine ja_callTi (pc := 10) (idx := 146) (b := x1) (as := []) (st := [.int ((sg.1 x0 5) - (sg.1 x0 4))]) (by decide +kernel) kv_String_length lk_SheetParser_146 ⟨by decide, by decide⟩ (c_String_length _ _ x1 h1 hv1) h1 rfl (Nat.le_of_ble_eq_true rfl) rfl ?_
  refine ja_icmp_eq (pc := 13) (off := 5) 18 (by decide +kernel) (by decide) hf (fun hf => ?_) (fun hf => ?_)
  · refine ja_iconst (pc := 18) (n := 0) (v := 0) (by decide +kernel) (by decide +kernel) ?_
    refine ja_istore_n (pc := 19) (f := 2) (i := 2) (lv' := [(2, .int (0 : Int32)), (0, .ref x0), (1, .ref x1)]) (by decide +kernel) rfl (by decide) rfl ?_
    refine ja_lv [1, 2, 0] rfl ?_
    exact w_SheetParser_atText_L20 C  ja_FU x0 x1 (0 : Int32) v1.2 h0 h1 hf
  · refine ja_iconst (pc := 16) (n := 0) (v := 0) (by decide +kernel) (by decide +kernel) ?_
    exact ja_ret (pc := 17) (some (.int (0 : Int32))) .ireturn (by decide +kernel) rfl (by cases hf; rfl)
def f_SheetParser_readSemicolon (x0 : Nat) (sg : ja_S) : Option (Int32 × ja_S) := (f_SheetParser_atText x0 (1000 + 1) sg).bind fun v1 => (if v1.1 = 0 then (f_SheetParser_fail x0 (1 : Int32) v1.2).bind fun v3 => ja_rb v3.1 v3.2 else (f_SheetParser_step x0 v1.2).bind fun v2 => some ((1 : Int32), v2))
set_option maxRecDepth 4000 in
theorem c_SheetParser_readSemicolon (l : Launch) (x : ja_X) (x0 : Nat) {sg : ja_S} {w : Int32 × ja_S} (h0 : ja_ob ja_L0 6 x0) (hf : f_SheetParser_readSemicolon x0 sg = some w) : ja_Ct l x y_SheetParser_readSemicolon M_SheetParser_readSemicolon [.ref x0] ja_L0 sg (some (.int w.1), ja_L0, w.2) := by
  refine ja_mk ⟨by decide, rfl, rfl⟩ (Nat.le_of_ble_eq_true rfl) (lv := [(0, .ref x0)]) rfl (fun C hl hx _ _ _ _ => ?_)
  subst hl; subst hx
  unfold f_SheetParser_readSemicolon at hf
  refine ja_aload_n (pc := 0) (f := 0) (i := 0) 0 (by decide +kernel) rfl rfl ?_
  refine ja_ldcs (pc := 1) (idx := 73) 1 (by decide) (by decide +kernel) ⟨rfl, rfl⟩ ?_
  refine ja_bind hf (fun v1 hv1 hf => ?_)
  refine ja_callVi (pc := 3) (idx := 56) (t := 6) (b := x0) (as := [.ref (1000 + 1)]) (st := []) (by decide +kernel) kv_SheetParser_atText lk_SheetParser_56 ⟨by decide, by decide⟩ (c_SheetParser_atText _ _ x0 (1000 + 1) h0 (ja_is_mk 1 (by decide)) hv1) h0 rfl (Nat.le_of_ble_eq_true rfl) rfl ?_
  refine ja_if_ne (pc := 6) (off := 9) 15 (by decide +kernel) (by decide) hf (fun hf => ?_) (fun hf => ?_)
  · refine ja_aload_n (pc := 15) (f := 0) (i := 0) 0 (by decide +kernel) rfl rfl ?_
    refine ja_bind hf (fun v2 hv2 hf => ?_)
    refine ja_callVv (pc := 16) (idx := 40) (t := 6) (b := x0) (as := []) (st := []) (by decide +kernel) kv_SheetParser_step lk_SheetParser_40 ⟨by decide, by decide⟩ (c_SheetParser_step _ _ x0 h0 hv2) h0 rfl (Nat.le_of_ble_eq_true rfl) rfl ?_
    refine ja_iconst (pc := 19) (n := 1) (v := 1) (by decide +kernel) (by decide +kernel) ?_
    exact ja_ret (pc := 20) (some (.int (1 : Int32))) .ireturn (by decide +kernel) rfl (by cases hf; rfl)
  · refine ja_aload_n (pc := 9) (f := 0) (i := 0) 0 (by decide +kernel) rfl rfl ?_
    refine ja_iconst (pc := 10) (n := 1) (v := 1) (by decide +kernel) (by decide +kernel) ?_
    refine ja_bind hf (fun v3 hv3 hf => ?_)
    refine ja_callVi (pc := 11) (idx := 60) (t := 6) (b := x0) (as := [.int (1 : Int32)]) (st := []) (by decide +kernel) kv_SheetParser_fail lk_SheetParser_60 ⟨by decide, by decide⟩ (c_SheetParser_fail _ _ x0 (1 : Int32) h0 hv3) h0 rfl (Nat.le_of_ble_eq_true rfl) rfl ?_
    obtain ⟨hrb, hw⟩ := ja_ite hf
    exact ja_ret (pc := 14) (some (.int v3.1)) .ireturn (by decide +kernel) (ja_ri_b hrb) (by cases hw; rfl)
def f_SheetParser_readHead (x0 : Nat) (x1 : Nat) (sg : ja_S) : Option (Int32 × ja_S) := (f_SheetParser_atText x0 (1000 + 0) sg).bind fun v1 => (if v1.1 = 0 then (f_SheetParser_fail x0 (1 : Int32) v1.2).bind fun v7 => ja_rb v7.1 v7.2 else (f_SheetParser_step x0 v1.2).bind fun v2 => (f_SheetParser_numberHere x0 (2 : Int32) (12 : Int32) v2).bind fun v3 => (if v3.1 = (-1 : Int32) then some ((0 : Int32), v3.2) else (f_Sheet_wipe x1 v3.1 v3.2).bind fun v4 => (f_SheetParser_step x0 v4).bind fun v5 => (f_SheetParser_readSemicolon x0 v5).bind fun v6 => ja_rb v6.1 v6.2))
set_option maxRecDepth 4000 in
theorem c_SheetParser_readHead (l : Launch) (x : ja_X) (x0 : Nat) (x1 : Nat) {sg : ja_S} {w : Int32 × ja_S} (h0 : ja_ob ja_L0 6 x0) (h1 : ja_ob ja_L0 5 x1) (hf : f_SheetParser_readHead x0 x1 sg = some w) : ja_Ct l x y_SheetParser_readHead M_SheetParser_readHead [.ref x0, .ref x1] ja_L0 sg (some (.int w.1), ja_L0, w.2) := by
  refine ja_mk ⟨by decide, rfl, rfl⟩ (Nat.le_of_ble_eq_true rfl) (lv := [(0, .ref x0), (1, .ref x1)]) rfl (fun C hl hx _ _ _ _ => ?_)
  subst hl; subst hx
  unfold f_SheetParser_readHead at hf
  refine ja_aload_n (pc := 0) (f := 0) (i := 0) 0 (by decide +kernel) rfl rfl ?_
  refine ja_ldcs (pc := 1) (idx := 54) 0 (by decide) (by decide +kernel) ⟨rfl, rfl⟩ ?_
  refine ja_bind hf (fun v1 hv1 hf => ?_)
  refine ja_callVi (pc := 3) (idx := 56) (t := 6) (b := x0) (as := [.ref (1000 + 0)]) (st := []) (by decide +kernel) kv_SheetParser_atText lk_SheetParser_56 ⟨by decide, by decide⟩ (c_SheetParser_atText _ _ x0 (1000 + 0) h0 (ja_is_mk 0 (by decide)) hv1) h0 rfl (Nat.le_of_ble_eq_true rfl) rfl ?_
  refine ja_if_ne (pc := 6) (off := 9) 15 (by decide +kernel) (by decide) hf (fun hf => ?_) (fun hf => ?_)
  · refine ja_aload_n (pc := 15) (f := 0) (i := 0) 0 (by decide +kernel) rfl rfl ?_
    refine ja_bind hf (fun v2 hv2 hf => ?_)
    refine ja_callVv (pc := 16) (idx := 40) (t := 6) (b := x0) (as := []) (st := []) (by decide +kernel) kv_SheetParser_step lk_SheetParser_40 ⟨by decide, by decide⟩ (c_SheetParser_step _ _ x0 h0 hv2) h0 rfl (Nat.le_of_ble_eq_true rfl) rfl ?_
    refine ja_aload_n (pc := 19) (f := 0) (i := 0) 0 (by decide +kernel) rfl rfl ?_
    refine ja_iconst (pc := 20) (n := 2) (v := 2) (by decide +kernel) (by decide +kernel) ?_
    refine ja_bipush (pc := 21) (n := 12) (v := 12) (by decide +kernel) (by decide +kernel) ?_
    refine ja_bind hf (fun v3 hv3 hf => ?_)
    refine ja_callVi (pc := 23) (idx := 64) (t := 6) (b := x0) (as := [.int (2 : Int32), .int (12 : Int32)]) (st := []) (by decide +kernel) kv_SheetParser_numberHere lk_SheetParser_64 ⟨by decide, by decide⟩ (c_SheetParser_numberHere _ _ x0 (2 : Int32) (12 : Int32) h0 hv3) h0 rfl (Nat.le_of_ble_eq_true rfl) rfl ?_
    refine ja_istore_n (pc := 26) (f := 2) (i := 2) (lv' := [(2, .int v3.1), (0, .ref x0), (1, .ref x1)]) (by decide +kernel) rfl (by decide) rfl ?_
    refine ja_iload_n (pc := 27) (f := 2) (i := 2) 0 (by decide +kernel) rfl rfl ?_
    refine ja_iconst (pc := 28) (n := (-1)) (v := (-1)) (by decide +kernel) (by decide +kernel) ?_
    refine ja_icmp_ne (pc := 29) (off := 5) 34 (by decide +kernel) (by decide) hf (fun hf => ?_) (fun hf => ?_)
    · refine ja_aload_n (pc := 34) (f := 1) (i := 1) 2 (by decide +kernel) rfl rfl ?_
      refine ja_iload_n (pc := 35) (f := 2) (i := 2) 0 (by decide +kernel) rfl rfl ?_
      refine ja_bind hf (fun v4 hv4 hf => ?_)
      refine ja_callVv (pc := 36) (idx := 67) (t := 5) (b := x1) (as := [.int v3.1]) (st := []) (by decide +kernel) kv_Sheet_wipe lk_SheetParser_67 ⟨by decide, by decide⟩ (c_Sheet_wipe _ _ x1 v3.1 h1 hv4) h1 rfl (Nat.le_of_ble_eq_true rfl) rfl ?_
      refine ja_aload_n (pc := 39) (f := 0) (i := 0) 1 (by decide +kernel) rfl rfl ?_
      refine ja_bind hf (fun v5 hv5 hf => ?_)
      refine ja_callVv (pc := 40) (idx := 40) (t := 6) (b := x0) (as := []) (st := []) (by decide +kernel) kv_SheetParser_step lk_SheetParser_40 ⟨by decide, by decide⟩ (c_SheetParser_step _ _ x0 h0 hv5) h0 rfl (Nat.le_of_ble_eq_true rfl) rfl ?_
      refine ja_aload_n (pc := 43) (f := 0) (i := 0) 1 (by decide +kernel) rfl rfl ?_
      refine ja_bind hf (fun v6 hv6 hf => ?_)
      refine ja_callVi (pc := 44) (idx := 50) (t := 6) (b := x0) (as := []) (st := []) (by decide +kernel) kv_SheetParser_readSemicolon lk_SheetParser_50 ⟨by decide, by decide⟩ (c_SheetParser_readSemicolon _ _ x0 h0 hv6) h0 rfl (Nat.le_of_ble_eq_true rfl) rfl ?_
      obtain ⟨hrb, hw⟩ := ja_ite hf
      exact ja_ret (pc := 47) (some (.int v6.1)) .ireturn (by decide +kernel) (ja_ri_b hrb) (by cases hw; rfl)
    · refine ja_iconst (pc := 32) (n := 0) (v := 0) (by decide +kernel) (by decide +kernel) ?_
      exact ja_ret (pc := 33) (some (.int (0 : Int32))) .ireturn (by decide +kernel) rfl (by cases hf; rfl)
  · refine ja_aload_n (pc := 9) (f := 0) (i := 0) 0 (by decide +kernel) rfl rfl ?_
    refine ja_iconst (pc := 10) (n := 1) (v := 1) (by decide +kernel) (by decide +kernel) ?_
    refine ja_bind hf (fun v7 hv7 hf => ?_)
    refine ja_callVi (pc := 11) (idx := 60) (t := 6) (b := x0) (as := [.int (1 : Int32)]) (st := []) (by decide +kernel) kv_SheetParser_fail lk_SheetParser_60 ⟨by decide, by decide⟩ (c_SheetParser_fail _ _ x0 (1 : Int32) h0 hv7) h0 rfl (Nat.le_of_ble_eq_true rfl) rfl ?_
    obtain ⟨hrb, hw⟩ := ja_ite hf
    exact ja_ret (pc := 14) (some (.int v7.1)) .ireturn (by decide +kernel) (ja_ri_b hrb) (by cases hw; rfl)
def f_SheetParser_verbHere (x0 : Nat) (sg : ja_S) : Option (Int32 × ja_S) := (f_SheetParser_atText x0 (1000 + 2) sg).bind fun v1 => (if v1.1 = 0 then (f_SheetParser_atText x0 (1000 + 3) v1.2).bind fun v2 => (if v2.1 = 0 then (f_SheetParser_atText x0 (1000 + 4) v2.2).bind fun v3 => (if v3.1 = 0 then some ((-1 : Int32), v3.2) else some ((2 : Int32), v3.2)) else some ((1 : Int32), v2.2)) else some ((0 : Int32), v1.2))
set_option maxRecDepth 4000 in
theorem c_SheetParser_verbHere (l : Launch) (x : ja_X) (x0 : Nat) {sg : ja_S} {w : Int32 × ja_S} (h0 : ja_ob ja_L0 6 x0) (hf : f_SheetParser_verbHere x0 sg = some w) : ja_Ct l x y_SheetParser_verbHere M_SheetParser_verbHere [.ref x0] ja_L0 sg (some (.int w.1), ja_L0, w.2) := by
  refine ja_mk ⟨by decide, rfl, rfl⟩ (Nat.le_of_ble_eq_true rfl) (lv := [(0, .ref x0)]) rfl (fun C hl hx _ _ _ _ => ?_)
  subst hl; subst hx
  unfold f_SheetParser_verbHere at hf
  refine ja_aload_n (pc := 0) (f := 0) (i := 0) 0 (by decide +kernel) rfl rfl ?_
  refine ja_ldcs (pc := 1) (idx := 126) 2 (by decide) (by decide +kernel) ⟨rfl, rfl⟩ ?_
  refine ja_bind hf (fun v1 hv1 hf => ?_)
  refine ja_callVi (pc := 3) (idx := 56) (t := 6) (b := x0) (as := [.ref (1000 + 2)]) (st := []) (by decide +kernel) kv_SheetParser_atText lk_SheetParser_56 ⟨by decide, by decide⟩ (c_SheetParser_atText _ _ x0 (1000 + 2) h0 (ja_is_mk 2 (by decide)) hv1) h0 rfl (Nat.le_of_ble_eq_true rfl) rfl ?_
  refine ja_if_eq (pc := 6) (off := 5) 11 (by decide +kernel) (by decide) hf (fun hf => ?_) (fun hf => ?_)
  · refine ja_aload_n (pc := 11) (f := 0) (i := 0) 0 (by decide +kernel) rfl rfl ?_
    refine ja_ldcs (pc := 12) (idx := 128) 3 (by decide) (by decide +kernel) ⟨rfl, rfl⟩ ?_
    refine ja_bind hf (fun v2 hv2 hf => ?_)
    refine ja_callVi (pc := 14) (idx := 56) (t := 6) (b := x0) (as := [.ref (1000 + 3)]) (st := []) (by decide +kernel) kv_SheetParser_atText lk_SheetParser_56 ⟨by decide, by decide⟩ (c_SheetParser_atText _ _ x0 (1000 + 3) h0 (ja_is_mk 3 (by decide)) hv2) h0 rfl (Nat.le_of_ble_eq_true rfl) rfl ?_
    refine ja_if_eq (pc := 17) (off := 5) 22 (by decide +kernel) (by decide) hf (fun hf => ?_) (fun hf => ?_)
    · refine ja_aload_n (pc := 22) (f := 0) (i := 0) 0 (by decide +kernel) rfl rfl ?_
      refine ja_ldcs (pc := 23) (idx := 130) 4 (by decide) (by decide +kernel) ⟨rfl, rfl⟩ ?_
      refine ja_bind hf (fun v3 hv3 hf => ?_)
      refine ja_callVi (pc := 25) (idx := 56) (t := 6) (b := x0) (as := [.ref (1000 + 4)]) (st := []) (by decide +kernel) kv_SheetParser_atText lk_SheetParser_56 ⟨by decide, by decide⟩ (c_SheetParser_atText _ _ x0 (1000 + 4) h0 (ja_is_mk 4 (by decide)) hv3) h0 rfl (Nat.le_of_ble_eq_true rfl) rfl ?_
      refine ja_if_eq (pc := 28) (off := 7) 35 (by decide +kernel) (by decide) hf (fun hf => ?_) (fun hf => ?_)
      · refine ja_iconst (pc := 35) (n := (-1)) (v := (-1)) (by decide +kernel) (by decide +kernel) ?_
        exact ja_ret (pc := 36) (some (.int (-1 : Int32))) .ireturn (by decide +kernel) rfl (ja_zi hf)
      · refine ja_iconst (pc := 31) (n := 2) (v := 2) (by decide +kernel) (by decide +kernel) ?_
        refine ja_goto (pc := 32) (off := 4) 36 (by decide +kernel) (by decide) ?_
        exact ja_ret (pc := 36) (some (.int (2 : Int32))) .ireturn (by decide +kernel) rfl (ja_zi hf)
    · refine ja_iconst (pc := 20) (n := 1) (v := 1) (by decide +kernel) (by decide +kernel) ?_
      exact ja_ret (pc := 21) (some (.int (1 : Int32))) .ireturn (by decide +kernel) rfl (ja_zi hf)
  · refine ja_iconst (pc := 9) (n := 0) (v := 0) (by decide +kernel) (by decide +kernel) ?_
    exact ja_ret (pc := 10) (some (.int (0 : Int32))) .ireturn (by decide +kernel) rfl (ja_zi hf)
def f_SheetParser_readCondition_B33  (x0 : Nat) (sg : ja_S) : Option (Int32 × ja_S) := (f_SheetParser_fail x0 (3 : Int32) sg).bind fun v1 => some ((-1 : Int32), v1.2)
set_option maxRecDepth 4000 in
theorem w_SheetParser_readCondition_B33 (C : ja_C) {w : Int32 × ja_S}    (x0 : Nat) (sg : ja_S) (h0 : ja_ob ja_L0 6 x0) (hf : f_SheetParser_readCondition_B33  x0 sg = some w) : ja_J M_SheetParser_readCondition C 33 [(0, .ref x0)] [] ja_L0 sg (some (.int w.1), ja_L0, w.2) := by
  unfold f_SheetParser_readCondition_B33 at hf
  refine ja_aload_n (pc := 33) (f := 0) (i := 0) 0 (by decide +kernel) rfl rfl ?_
  refine ja_iconst (pc := 34) (n := 3) (v := 3) (by decide +kernel) (by decide +kernel) ?_
  refine ja_bind hf (fun v1 hv1 hf => ?_)
  refine ja_callVi (pc := 35) (idx := 60) (t := 6) (b := x0) (as := [.int (3 : Int32)]) (st := []) (by decide +kernel) kv_SheetParser_fail lk_SheetParser_60 ⟨by decide, by decide⟩ (c_SheetParser_fail _ _ x0 (3 : Int32) h0 hv1) h0 rfl (Nat.le_of_ble_eq_true rfl) rfl ?_
  refine ja_pop (pc := 38) (by decide +kernel) rfl ?_
  refine ja_iconst (pc := 39) (n := (-1)) (v := (-1)) (by decide +kernel) (by decide +kernel) ?_
  exact ja_ret (pc := 40) (some (.int (-1 : Int32))) .ireturn (by decide +kernel) rfl (ja_zi hf)
def f_SheetParser_readCondition_B75  (x0 : Nat) (x4 : Int32) (x5 : Int32) (sg : ja_S) : Option (Int32 × ja_S) := (f_SheetParser_step x0 sg).bind fun v1 => (if x5 = 0 then some (((2 : Int32) * x4) + (0 : Int32), v1) else some (((2 : Int32) * x4) + (1 : Int32), v1))
set_option maxRecDepth 4000 in
theorem w_SheetParser_readCondition_B75 (C : ja_C) {w : Int32 × ja_S}    (x0 : Nat) (x4 : Int32) (x5 : Int32) (sg : ja_S) (h0 : ja_ob ja_L0 6 x0) (hf : f_SheetParser_readCondition_B75  x0 x4 x5 sg = some w) : ja_J M_SheetParser_readCondition C 75 [(0, .ref x0), (4, .int x4), (5, .int x5)] [] ja_L0 sg (some (.int w.1), ja_L0, w.2) := by
  unfold f_SheetParser_readCondition_B75 at hf
  refine ja_aload_n (pc := 75) (f := 0) (i := 0) 0 (by decide +kernel) rfl rfl ?_
  refine ja_bind hf (fun v1 hv1 hf => ?_)
  refine ja_callVv (pc := 76) (idx := 40) (t := 6) (b := x0) (as := []) (st := []) (by decide +kernel) kv_SheetParser_step lk_SheetParser_40 ⟨by decide, by decide⟩ (c_SheetParser_step _ _ x0 h0 hv1) h0 rfl (Nat.le_of_ble_eq_true rfl) rfl ?_
  refine ja_iconst (pc := 79) (n := 2) (v := 2) (by decide +kernel) (by decide +kernel) ?_
  refine ja_iload (pc := 80) (i := 4) 1 (by decide +kernel) rfl ?_
  refine ja_imul (pc := 82) (by decide +kernel) ?_
  refine ja_iload (pc := 83) (i := 5) 2 (by decide +kernel) rfl ?_
  refine ja_if_eq (pc := 85) (off := 7) 92 (by decide +kernel) (by decide) hf (fun hf => ?_) (fun hf => ?_)
  · refine ja_iconst (pc := 92) (n := 0) (v := 0) (by decide +kernel) (by decide +kernel) ?_
    refine ja_iadd (pc := 93) (by decide +kernel) ?_
    exact ja_ret (pc := 94) (some (.int (((2 : Int32) * x4) + (0 : Int32)))) .ireturn (by decide +kernel) rfl (ja_zi hf)
  · refine ja_iconst (pc := 88) (n := 1) (v := 1) (by decide +kernel) (by decide +kernel) ?_
    refine ja_goto (pc := 89) (off := 4) 93 (by decide +kernel) (by decide) ?_
    refine ja_iadd (pc := 93) (by decide +kernel) ?_
    exact ja_ret (pc := 94) (some (.int (((2 : Int32) * x4) + (1 : Int32)))) .ireturn (by decide +kernel) rfl (ja_zi hf)
def f_SheetParser_readCondition (x0 : Nat) (x1 : Nat) (x2 : Int32) (x3 : Int32) (sg : ja_S) : Option (Int32 × ja_S) := (f_SheetParser_numberHere x0 (0 : Int32) ((sg.1 x1 0) - (1 : Int32)) sg).bind fun v1 => (if v1.1 = (-1 : Int32) then some ((-1 : Int32), v1.2) else (if v1.1 = x2 then f_SheetParser_readCondition_B33  x0 v1.2 else (if v1.1 = x3 then f_SheetParser_readCondition_B33  x0 v1.2 else (f_SheetParser_step x0 v1.2).bind fun v2 => (f_SheetParser_atText x0 (1000 + 6) v2).bind fun v3 => (if v3.1 = 0 then (f_SheetParser_atText x0 (1000 + 7) v3.2).bind fun v4 => (if v4.1 = 0 then (f_SheetParser_fail x0 (1 : Int32) v4.2).bind fun v5 => some ((-1 : Int32), v5.2) else f_SheetParser_readCondition_B75  x0 v1.1 v3.1 v4.2) else f_SheetParser_readCondition_B75  x0 v1.1 v3.1 v3.2))))
set_option maxRecDepth 4000 in
theorem c_SheetParser_readCondition (l : Launch) (x : ja_X) (x0 : Nat) (x1 : Nat) (x2 : Int32) (x3 : Int32) {sg : ja_S} {w : Int32 × ja_S} (h0 : ja_ob ja_L0 6 x0) (h1 : ja_ob ja_L0 5 x1) (hf : f_SheetParser_readCondition x0 x1 x2 x3 sg = some w) : ja_Ct l x y_SheetParser_readCondition M_SheetParser_readCondition [.ref x0, .ref x1, .int x2, .int x3] ja_L0 sg (some (.int w.1), ja_L0, w.2) := by
  refine ja_mk ⟨by decide, rfl, rfl⟩ (Nat.le_of_ble_eq_true rfl) (lv := [(0, .ref x0), (1, .ref x1), (2, .int x2), (3, .int x3)]) rfl (fun C hl hx _ _ _ _ => ?_)
  subst hl; subst hx
  unfold f_SheetParser_readCondition at hf
  refine ja_aload_n (pc := 0) (f := 0) (i := 0) 0 (by decide +kernel) rfl rfl ?_
  refine ja_iconst (pc := 1) (n := 0) (v := 0) (by decide +kernel) (by decide +kernel) ?_
  refine ja_aload_n (pc := 2) (f := 1) (i := 1) 1 (by decide +kernel) rfl rfl ?_
  refine ja_geti (pc := 3) (idx := 101) (t := 5) (j := 0) (by decide +kernel) fd_SheetParser_101 h1 ?_
  refine ja_iconst (pc := 6) (n := 1) (v := 1) (by decide +kernel) (by decide +kernel) ?_
  refine ja_isub (pc := 7) (by decide +kernel) ?_
  refine ja_bind hf (fun v1 hv1 hf => ?_)
  refine ja_callVi (pc := 8) (idx := 64) (t := 6) (b := x0) (as := [.int (0 : Int32), .int ((sg.1 x1 0) - (1 : Int32))]) (st := []) (by decide +kernel) kv_SheetParser_numberHere lk_SheetParser_64 ⟨by decide, by decide⟩ (c_SheetParser_numberHere _ _ x0 (0 : Int32) ((sg.1 x1 0) - (1 : Int32)) h0 hv1) h0 rfl (Nat.le_of_ble_eq_true rfl) rfl ?_
  refine ja_istore (pc := 11) (i := 4) (lv' := [(4, .int v1.1), (0, .ref x0), (1, .ref x1), (2, .int x2), (3, .int x3)]) (by decide +kernel) (by decide) rfl ?_
  refine ja_iload (pc := 13) (i := 4) 0 (by decide +kernel) rfl ?_
  refine ja_iconst (pc := 15) (n := (-1)) (v := (-1)) (by decide +kernel) (by decide +kernel) ?_
  refine ja_icmp_ne (pc := 16) (off := 5) 21 (by decide +kernel) (by decide) hf (fun hf => ?_) (fun hf => ?_)
  · refine ja_iload (pc := 21) (i := 4) 0 (by decide +kernel) rfl ?_
    refine ja_iload_n (pc := 23) (f := 2) (i := 2) 3 (by decide +kernel) rfl rfl ?_
    refine ja_icmp_eq (pc := 24) (off := 9) 33 (by decide +kernel) (by decide) hf (fun hf => ?_) (fun hf => ?_)
    · refine ja_lv [1] rfl ?_
      exact w_SheetParser_readCondition_B33 C  x0 v1.2 h0 hf
    · refine ja_iload (pc := 27) (i := 4) 0 (by decide +kernel) rfl ?_
      refine ja_iload_n (pc := 29) (f := 3) (i := 3) 4 (by decide +kernel) rfl rfl ?_
      refine ja_icmp_ne (pc := 30) (off := 11) 41 (by decide +kernel) (by decide) hf (fun hf => ?_) (fun hf => ?_)
      · refine ja_aload_n (pc := 41) (f := 0) (i := 0) 1 (by decide +kernel) rfl rfl ?_
        refine ja_bind hf (fun v2 hv2 hf => ?_)
        refine ja_callVv (pc := 42) (idx := 40) (t := 6) (b := x0) (as := []) (st := []) (by decide +kernel) kv_SheetParser_step lk_SheetParser_40 ⟨by decide, by decide⟩ (c_SheetParser_step _ _ x0 h0 hv2) h0 rfl (Nat.le_of_ble_eq_true rfl) rfl ?_
        refine ja_aload_n (pc := 45) (f := 0) (i := 0) 1 (by decide +kernel) rfl rfl ?_
        refine ja_ldcs (pc := 46) (idx := 132) 6 (by decide) (by decide +kernel) ⟨rfl, rfl⟩ ?_
        refine ja_bind hf (fun v3 hv3 hf => ?_)
        refine ja_callVi (pc := 48) (idx := 56) (t := 6) (b := x0) (as := [.ref (1000 + 6)]) (st := []) (by decide +kernel) kv_SheetParser_atText lk_SheetParser_56 ⟨by decide, by decide⟩ (c_SheetParser_atText _ _ x0 (1000 + 6) h0 (ja_is_mk 6 (by decide)) hv3) h0 rfl (Nat.le_of_ble_eq_true rfl) rfl ?_
        refine ja_istore (pc := 51) (i := 5) (lv' := [(5, .int v3.1), (4, .int v1.1), (0, .ref x0), (1, .ref x1), (2, .int x2), (3, .int x3)]) (by decide +kernel) (by decide) rfl ?_
        refine ja_iload (pc := 53) (i := 5) 0 (by decide +kernel) rfl ?_
        refine ja_if_ne (pc := 55) (off := 20) 75 (by decide +kernel) (by decide) hf (fun hf => ?_) (fun hf => ?_)
        · refine ja_lv [2, 1, 0] rfl ?_
          exact w_SheetParser_readCondition_B75 C  x0 v1.1 v3.1 v3.2 h0 hf
        · refine ja_aload_n (pc := 58) (f := 0) (i := 0) 2 (by decide +kernel) rfl rfl ?_
          refine ja_ldcs (pc := 59) (idx := 134) 7 (by decide) (by decide +kernel) ⟨rfl, rfl⟩ ?_
          refine ja_bind hf (fun v4 hv4 hf => ?_)
          refine ja_callVi (pc := 61) (idx := 56) (t := 6) (b := x0) (as := [.ref (1000 + 7)]) (st := []) (by decide +kernel) kv_SheetParser_atText lk_SheetParser_56 ⟨by decide, by decide⟩ (c_SheetParser_atText _ _ x0 (1000 + 7) h0 (ja_is_mk 7 (by decide)) hv4) h0 rfl (Nat.le_of_ble_eq_true rfl) rfl ?_
          refine ja_if_ne (pc := 64) (off := 11) 75 (by decide +kernel) (by decide) hf (fun hf => ?_) (fun hf => ?_)
          · refine ja_lv [2, 1, 0] rfl ?_
            exact w_SheetParser_readCondition_B75 C  x0 v1.1 v3.1 v4.2 h0 hf
          · refine ja_aload_n (pc := 67) (f := 0) (i := 0) 2 (by decide +kernel) rfl rfl ?_
            refine ja_iconst (pc := 68) (n := 1) (v := 1) (by decide +kernel) (by decide +kernel) ?_
            refine ja_bind hf (fun v5 hv5 hf => ?_)
            refine ja_callVi (pc := 69) (idx := 60) (t := 6) (b := x0) (as := [.int (1 : Int32)]) (st := []) (by decide +kernel) kv_SheetParser_fail lk_SheetParser_60 ⟨by decide, by decide⟩ (c_SheetParser_fail _ _ x0 (1 : Int32) h0 hv5) h0 rfl (Nat.le_of_ble_eq_true rfl) rfl ?_
            refine ja_pop (pc := 72) (by decide +kernel) rfl ?_
            refine ja_iconst (pc := 73) (n := (-1)) (v := (-1)) (by decide +kernel) (by decide +kernel) ?_
            exact ja_ret (pc := 74) (some (.int (-1 : Int32))) .ireturn (by decide +kernel) rfl (ja_zi hf)
      · refine ja_lv [1] rfl ?_
        exact w_SheetParser_readCondition_B33 C  x0 v1.2 h0 hf
  · refine ja_iconst (pc := 19) (n := (-1)) (v := (-1)) (by decide +kernel) (by decide +kernel) ?_
    exact ja_ret (pc := 20) (some (.int (-1 : Int32))) .ireturn (by decide +kernel) rfl (ja_zi hf)
def f_SheetParser_readRule_B129  (x1 : Nat) (x2 : Int32) (x3 : Int32) (x4 : Int32) (x5 : Int32) (sg : ja_S) : Option (Int32 × ja_S) := (f_Rule_pack x3 x2 x4 x5 sg).bind fun v1 => (f_Sheet_insertRule x1 (sg.1 x1 3) v1.1 v1.2).bind fun v2 => some ((1 : Int32), v2)
set_option maxRecDepth 4000 in
theorem w_SheetParser_readRule_B129 (C : ja_C) {w : Int32 × ja_S}    (x1 : Nat) (x2 : Int32) (x3 : Int32) (x4 : Int32) (x5 : Int32) (sg : ja_S) (h1 : ja_ob ja_L0 5 x1) (hf : f_SheetParser_readRule_B129  x1 x2 x3 x4 x5 sg = some w) : ja_J M_SheetParser_readRule C 129 [(1, .ref x1), (2, .int x2), (3, .int x3), (4, .int x4), (5, .int x5)] [] ja_L0 sg (some (.int w.1), ja_L0, w.2) := by
  unfold f_SheetParser_readRule_B129 at hf
  refine ja_aload_n (pc := 129) (f := 1) (i := 1) 0 (by decide +kernel) rfl rfl ?_
  refine ja_aload_n (pc := 130) (f := 1) (i := 1) 0 (by decide +kernel) rfl rfl ?_
  refine ja_geti (pc := 131) (idx := 103) (t := 5) (j := 3) (by decide +kernel) fd_SheetParser_103 h1 ?_
  refine ja_iload_n (pc := 134) (f := 3) (i := 3) 2 (by decide +kernel) rfl rfl ?_
  refine ja_iload_n (pc := 135) (f := 2) (i := 2) 1 (by decide +kernel) rfl rfl ?_
  refine ja_iload (pc := 136) (i := 4) 3 (by decide +kernel) rfl ?_
  refine ja_iload (pc := 138) (i := 5) 4 (by decide +kernel) rfl ?_
  refine ja_bind hf (fun v1 hv1 hf => ?_)
  refine ja_callSi (pc := 140) (idx := 116) (as := [.int x3, .int x2, .int x4, .int x5]) (st := [.int (sg.1 x1 3), .ref x1]) (by decide +kernel) ks_Rule_pack lk_SheetParser_116 ⟨by decide, by decide⟩ (c_Rule_pack _ _ x3 x2 x4 x5  hv1) rfl (Nat.le_of_ble_eq_true rfl) rfl ?_
  refine ja_bind hf (fun v2 hv2 hf => ?_)
  refine ja_callVv (pc := 143) (idx := 122) (t := 5) (b := x1) (as := [.int (sg.1 x1 3), .int v1.1]) (st := []) (by decide +kernel) kv_Sheet_insertRule lk_SheetParser_122 ⟨by decide, by decide⟩ (c_Sheet_insertRule _ _ x1 (sg.1 x1 3) v1.1 h1 hv2) h1 rfl (Nat.le_of_ble_eq_true rfl) rfl ?_
  refine ja_iconst (pc := 146) (n := 1) (v := 1) (by decide +kernel) (by decide +kernel) ?_
  exact ja_ret (pc := 147) (some (.int (1 : Int32))) .ireturn (by decide +kernel) rfl (by cases hf; rfl)
def f_SheetParser_readRule (x0 : Nat) (x1 : Nat) (sg : ja_S) : Option (Int32 × ja_S) := (f_SheetParser_numberHere x0 (0 : Int32) ((sg.1 x1 0) - (1 : Int32)) sg).bind fun v1 => (if v1.1 = (-1 : Int32) then some ((0 : Int32), v1.2) else (if (v1.2.1 x1 3) < (24 : Int32) then (f_SheetParser_step x0 v1.2).bind fun v2 => (f_SheetParser_verbHere x0 v2).bind fun v3 => (if v3.1 = (-1 : Int32) then (f_SheetParser_fail x0 (1 : Int32) v3.2).bind fun v11 => ja_rb v11.1 v11.2 else (f_SheetParser_step x0 v3.2).bind fun v4 => (f_SheetParser_numberHere x0 (0 : Int32) ((v4.1 x1 0) - (1 : Int32)) v4).bind fun v5 => (if v5.1 = (-1 : Int32) then some ((0 : Int32), v5.2) else (if v5.1 = v1.1 then (f_SheetParser_fail x0 (3 : Int32) v5.2).bind fun v10 => ja_rb v10.1 v10.2 else (f_SheetParser_step x0 v5.2).bind fun v6 => (f_SheetParser_atText x0 (1000 + 5) v6).bind fun v7 => (if v7.1 = 0 then f_SheetParser_readRule_B129  x1 v1.1 v3.1 v5.1 (-1 : Int32) v7.2 else (f_SheetParser_step x0 v7.2).bind fun v8 => (f_SheetParser_readCondition x0 x1 v1.1 v5.1 v8).bind fun v9 => (if v9.1 = (-1 : Int32) then some ((0 : Int32), v9.2) else f_SheetParser_readRule_B129  x1 v1.1 v3.1 v5.1 v9.1 v9.2))))) else (f_SheetParser_fail x0 (4 : Int32) v1.2).bind fun v12 => ja_rb v12.1 v12.2))
set_option maxRecDepth 4000 in
theorem c_SheetParser_readRule (l : Launch) (x : ja_X) (x0 : Nat) (x1 : Nat) {sg : ja_S} {w : Int32 × ja_S} (h0 : ja_ob ja_L0 6 x0) (h1 : ja_ob ja_L0 5 x1) (hf : f_SheetParser_readRule x0 x1 sg = some w) : ja_Ct l x y_SheetParser_readRule M_SheetParser_readRule [.ref x0, .ref x1] ja_L0 sg (some (.int w.1), ja_L0, w.2) := by
  refine ja_mk ⟨by decide, rfl, rfl⟩ (Nat.le_of_ble_eq_true rfl) (lv := [(0, .ref x0), (1, .ref x1)]) rfl (fun C hl hx _ _ _ _ => ?_)
  subst hl; subst hx
  unfold f_SheetParser_readRule at hf
  refine ja_aload_n (pc := 0) (f := 0) (i := 0) 0 (by decide +kernel) rfl rfl ?_
  refine ja_iconst (pc := 1) (n := 0) (v := 0) (by decide +kernel) (by decide +kernel) ?_
  refine ja_aload_n (pc := 2) (f := 1) (i := 1) 1 (by decide +kernel) rfl rfl ?_
  refine ja_geti (pc := 3) (idx := 101) (t := 5) (j := 0) (by decide +kernel) fd_SheetParser_101 h1 ?_
  refine ja_iconst (pc := 6) (n := 1) (v := 1) (by decide +kernel) (by decide +kernel) ?_
  refine ja_isub (pc := 7) (by decide +kernel) ?_
  refine ja_bind hf (fun v1 hv1 hf => ?_)
  refine ja_callVi (pc := 8) (idx := 64) (t := 6) (b := x0) (as := [.int (0 : Int32), .int ((sg.1 x1 0) - (1 : Int32))]) (st := []) (by decide +kernel) kv_SheetParser_numberHere lk_SheetParser_64 ⟨by decide, by decide⟩ (c_SheetParser_numberHere _ _ x0 (0 : Int32) ((sg.1 x1 0) - (1 : Int32)) h0 hv1) h0 rfl (Nat.le_of_ble_eq_true rfl) rfl ?_
  refine ja_istore_n (pc := 11) (f := 2) (i := 2) (lv' := [(2, .int v1.1), (0, .ref x0), (1, .ref x1)]) (by decide +kernel) rfl (by decide) rfl ?_
  refine ja_iload_n (pc := 12) (f := 2) (i := 2) 0 (by decide +kernel) rfl rfl ?_
  refine ja_iconst (pc := 13) (n := (-1)) (v := (-1)) (by decide +kernel) (by decide +kernel) ?_
  refine ja_icmp_ne (pc := 14) (off := 5) 19 (by decide +kernel) (by decide) hf (fun hf => ?_) (fun hf => ?_)
  · refine ja_aload_n (pc := 19) (f := 1) (i := 1) 2 (by decide +kernel) rfl rfl ?_
    refine ja_geti (pc := 20) (idx := 103) (t := 5) (j := 3) (by decide +kernel) fd_SheetParser_103 h1 ?_
    refine ja_bipush (pc := 23) (n := 24) (v := 24) (by decide +kernel) (by decide +kernel) ?_
    refine ja_icmp_lt (pc := 25) (off := 9) 34 (by decide +kernel) (by decide) hf (fun hf => ?_) (fun hf => ?_)
    · refine ja_aload_n (pc := 34) (f := 0) (i := 0) 1 (by decide +kernel) rfl rfl ?_
      refine ja_bind hf (fun v2 hv2 hf => ?_)
      refine ja_callVv (pc := 35) (idx := 40) (t := 6) (b := x0) (as := []) (st := []) (by decide +kernel) kv_SheetParser_step lk_SheetParser_40 ⟨by decide, by decide⟩ (c_SheetParser_step _ _ x0 h0 hv2) h0 rfl (Nat.le_of_ble_eq_true rfl) rfl ?_
      refine ja_aload_n (pc := 38) (f := 0) (i := 0) 1 (by decide +kernel) rfl rfl ?_
      refine ja_bind hf (fun v3 hv3 hf => ?_)
      refine ja_callVi (pc := 39) (idx := 106) (t := 6) (b := x0) (as := []) (st := []) (by decide +kernel) kv_SheetParser_verbHere lk_SheetParser_106 ⟨by decide, by decide⟩ (c_SheetParser_verbHere _ _ x0 h0 hv3) h0 rfl (Nat.le_of_ble_eq_true rfl) rfl ?_
      refine ja_istore_n (pc := 42) (f := 3) (i := 3) (lv' := [(3, .int v3.1), (2, .int v1.1), (0, .ref x0), (1, .ref x1)]) (by decide +kernel) rfl (by decide) rfl ?_
      refine ja_iload_n (pc := 43) (f := 3) (i := 3) 0 (by decide +kernel) rfl rfl ?_
      refine ja_iconst (pc := 44) (n := (-1)) (v := (-1)) (by decide +kernel) (by decide +kernel) ?_
      refine ja_icmp_ne (pc := 45) (off := 9) 54 (by decide +kernel) (by decide) hf (fun hf => ?_) (fun hf => ?_)
      · refine ja_aload_n (pc := 54) (f := 0) (i := 0) 2 (by decide +kernel) rfl rfl ?_
        refine ja_bind hf (fun v4 hv4 hf => ?_)
        refine ja_callVv (pc := 55) (idx := 40) (t := 6) (b := x0) (as := []) (st := []) (by decide +kernel) kv_SheetParser_step lk_SheetParser_40 ⟨by decide, by decide⟩ (c_SheetParser_step _ _ x0 h0 hv4) h0 rfl (Nat.le_of_ble_eq_true rfl) rfl ?_
        refine ja_aload_n (pc := 58) (f := 0) (i := 0) 2 (by decide +kernel) rfl rfl ?_
        refine ja_iconst (pc := 59) (n := 0) (v := 0) (by decide +kernel) (by decide +kernel) ?_
        refine ja_aload_n (pc := 60) (f := 1) (i := 1) 3 (by decide +kernel) rfl rfl ?_
        refine ja_geti (pc := 61) (idx := 101) (t := 5) (j := 0) (by decide +kernel) fd_SheetParser_101 h1 ?_
        refine ja_iconst (pc := 64) (n := 1) (v := 1) (by decide +kernel) (by decide +kernel) ?_
        refine ja_isub (pc := 65) (by decide +kernel) ?_
        refine ja_bind hf (fun v5 hv5 hf => ?_)
        refine ja_callVi (pc := 66) (idx := 64) (t := 6) (b := x0) (as := [.int (0 : Int32), .int ((v4.1 x1 0) - (1 : Int32))]) (st := []) (by decide +kernel) kv_SheetParser_numberHere lk_SheetParser_64 ⟨by decide, by decide⟩ (c_SheetParser_numberHere _ _ x0 (0 : Int32) ((v4.1 x1 0) - (1 : Int32)) h0 hv5) h0 rfl (Nat.le_of_ble_eq_true rfl) rfl ?_
        refine ja_istore (pc := 69) (i := 4) (lv' := [(4, .int v5.1), (3, .int v3.1), (2, .int v1.1), (0, .ref x0), (1, .ref x1)]) (by decide +kernel) (by decide) rfl ?_
        refine ja_iload (pc := 71) (i := 4) 0 (by decide +kernel) rfl ?_
        refine ja_iconst (pc := 73) (n := (-1)) (v := (-1)) (by decide +kernel) (by decide +kernel) ?_
        refine ja_icmp_ne (pc := 74) (off := 5) 79 (by decide +kernel) (by decide) hf (fun hf => ?_) (fun hf => ?_)
        · refine ja_iload (pc := 79) (i := 4) 0 (by decide +kernel) rfl ?_
          refine ja_iload_n (pc := 81) (f := 2) (i := 2) 2 (by decide +kernel) rfl rfl ?_
          refine ja_icmp_ne (pc := 82) (off := 9) 91 (by decide +kernel) (by decide) hf (fun hf => ?_) (fun hf => ?_)
          · refine ja_aload_n (pc := 91) (f := 0) (i := 0) 3 (by decide +kernel) rfl rfl ?_
            refine ja_bind hf (fun v6 hv6 hf => ?_)
            refine ja_callVv (pc := 92) (idx := 40) (t := 6) (b := x0) (as := []) (st := []) (by decide +kernel) kv_SheetParser_step lk_SheetParser_40 ⟨by decide, by decide⟩ (c_SheetParser_step _ _ x0 h0 hv6) h0 rfl (Nat.le_of_ble_eq_true rfl) rfl ?_
            refine ja_iconst (pc := 95) (n := (-1)) (v := (-1)) (by decide +kernel) (by decide +kernel) ?_
            refine ja_istore (pc := 96) (i := 5) (lv' := [(5, .int (-1 : Int32)), (4, .int v5.1), (3, .int v3.1), (2, .int v1.1), (0, .ref x0), (1, .ref x1)]) (by decide +kernel) (by decide) rfl ?_
            refine ja_aload_n (pc := 98) (f := 0) (i := 0) 4 (by decide +kernel) rfl rfl ?_
            refine ja_ldcs (pc := 99) (idx := 110) 5 (by decide) (by decide +kernel) ⟨rfl, rfl⟩ ?_
            refine ja_bind hf (fun v7 hv7 hf => ?_)
            refine ja_callVi (pc := 101) (idx := 56) (t := 6) (b := x0) (as := [.ref (1000 + 5)]) (st := []) (by decide +kernel) kv_SheetParser_atText lk_SheetParser_56 ⟨by decide, by decide⟩ (c_SheetParser_atText _ _ x0 (1000 + 5) h0 (ja_is_mk 5 (by decide)) hv7) h0 rfl (Nat.le_of_ble_eq_true rfl) rfl ?_
            refine ja_if_eq (pc := 104) (off := 25) 129 (by decide +kernel) (by decide) hf (fun hf => ?_) (fun hf => ?_)
            · refine ja_lv [5, 3, 2, 1, 0] rfl ?_
              exact w_SheetParser_readRule_B129 C  x1 v1.1 v3.1 v5.1 (-1 : Int32) v7.2 h1 hf
            · refine ja_aload_n (pc := 107) (f := 0) (i := 0) 4 (by decide +kernel) rfl rfl ?_
              refine ja_bind hf (fun v8 hv8 hf => ?_)
              refine ja_callVv (pc := 108) (idx := 40) (t := 6) (b := x0) (as := []) (st := []) (by decide +kernel) kv_SheetParser_step lk_SheetParser_40 ⟨by decide, by decide⟩ (c_SheetParser_step _ _ x0 h0 hv8) h0 rfl (Nat.le_of_ble_eq_true rfl) rfl ?_
              refine ja_aload_n (pc := 111) (f := 0) (i := 0) 4 (by decide +kernel) rfl rfl ?_
              refine ja_aload_n (pc := 112) (f := 1) (i := 1) 5 (by decide +kernel) rfl rfl ?_
              refine ja_iload_n (pc := 113) (f := 2) (i := 2) 3 (by decide +kernel) rfl rfl ?_
              refine ja_iload (pc := 114) (i := 4) 1 (by decide +kernel) rfl ?_
              refine ja_bind hf (fun v9 hv9 hf => ?_)
              refine ja_callVi (pc := 116) (idx := 112) (t := 6) (b := x0) (as := [.ref x1, .int v1.1, .int v5.1]) (st := []) (by decide +kernel) kv_SheetParser_readCondition lk_SheetParser_112 ⟨by decide, by decide⟩ (c_SheetParser_readCondition _ _ x0 x1 v1.1 v5.1 h0 h1 hv9) h0 rfl (Nat.le_of_ble_eq_true rfl) rfl ?_
              refine ja_istore (pc := 119) (i := 5) (lv' := [(5, .int v9.1), (4, .int v5.1), (3, .int v3.1), (2, .int v1.1), (0, .ref x0), (1, .ref x1)]) (by decide +kernel) (by decide) rfl ?_
              refine ja_iload (pc := 121) (i := 5) 0 (by decide +kernel) rfl ?_
              refine ja_iconst (pc := 123) (n := (-1)) (v := (-1)) (by decide +kernel) (by decide +kernel) ?_
              refine ja_icmp_ne (pc := 124) (off := 5) 129 (by decide +kernel) (by decide) hf (fun hf => ?_) (fun hf => ?_)
              · refine ja_lv [5, 3, 2, 1, 0] rfl ?_
                exact w_SheetParser_readRule_B129 C  x1 v1.1 v3.1 v5.1 v9.1 v9.2 h1 hf
              · refine ja_iconst (pc := 127) (n := 0) (v := 0) (by decide +kernel) (by decide +kernel) ?_
                exact ja_ret (pc := 128) (some (.int (0 : Int32))) .ireturn (by decide +kernel) rfl (by cases hf; rfl)
          · refine ja_aload_n (pc := 85) (f := 0) (i := 0) 3 (by decide +kernel) rfl rfl ?_
            refine ja_iconst (pc := 86) (n := 3) (v := 3) (by decide +kernel) (by decide +kernel) ?_
            refine ja_bind hf (fun v10 hv10 hf => ?_)
            refine ja_callVi (pc := 87) (idx := 60) (t := 6) (b := x0) (as := [.int (3 : Int32)]) (st := []) (by decide +kernel) kv_SheetParser_fail lk_SheetParser_60 ⟨by decide, by decide⟩ (c_SheetParser_fail _ _ x0 (3 : Int32) h0 hv10) h0 rfl (Nat.le_of_ble_eq_true rfl) rfl ?_
            obtain ⟨hrb, hw⟩ := ja_ite hf
            exact ja_ret (pc := 90) (some (.int v10.1)) .ireturn (by decide +kernel) (ja_ri_b hrb) (by cases hw; rfl)
        · refine ja_iconst (pc := 77) (n := 0) (v := 0) (by decide +kernel) (by decide +kernel) ?_
          exact ja_ret (pc := 78) (some (.int (0 : Int32))) .ireturn (by decide +kernel) rfl (by cases hf; rfl)
      · refine ja_aload_n (pc := 48) (f := 0) (i := 0) 2 (by decide +kernel) rfl rfl ?_
        refine ja_iconst (pc := 49) (n := 1) (v := 1) (by decide +kernel) (by decide +kernel) ?_
        refine ja_bind hf (fun v11 hv11 hf => ?_)
        refine ja_callVi (pc := 50) (idx := 60) (t := 6) (b := x0) (as := [.int (1 : Int32)]) (st := []) (by decide +kernel) kv_SheetParser_fail lk_SheetParser_60 ⟨by decide, by decide⟩ (c_SheetParser_fail _ _ x0 (1 : Int32) h0 hv11) h0 rfl (Nat.le_of_ble_eq_true rfl) rfl ?_
        obtain ⟨hrb, hw⟩ := ja_ite hf
        exact ja_ret (pc := 53) (some (.int v11.1)) .ireturn (by decide +kernel) (ja_ri_b hrb) (by cases hw; rfl)
    · refine ja_aload_n (pc := 28) (f := 0) (i := 0) 1 (by decide +kernel) rfl rfl ?_
      refine ja_iconst (pc := 29) (n := 4) (v := 4) (by decide +kernel) (by decide +kernel) ?_
      refine ja_bind hf (fun v12 hv12 hf => ?_)
      refine ja_callVi (pc := 30) (idx := 60) (t := 6) (b := x0) (as := [.int (4 : Int32)]) (st := []) (by decide +kernel) kv_SheetParser_fail lk_SheetParser_60 ⟨by decide, by decide⟩ (c_SheetParser_fail _ _ x0 (4 : Int32) h0 hv12) h0 rfl (Nat.le_of_ble_eq_true rfl) rfl ?_
      obtain ⟨hrb, hw⟩ := ja_ite hf
      exact ja_ret (pc := 33) (some (.int v12.1)) .ireturn (by decide +kernel) (ja_ri_b hrb) (by cases hw; rfl)
  · refine ja_iconst (pc := 17) (n := 0) (v := 0) (by decide +kernel) (by decide +kernel) ?_
    exact ja_ret (pc := 18) (some (.int (0 : Int32))) .ireturn (by decide +kernel) rfl (by cases hf; rfl)
def f_SheetParser_readStatement (x0 : Nat) (x1 : Nat) (sg : ja_S) : Option (Int32 × ja_S) := (f_SheetParser_byteAt x0 (sg.1 x0 4) sg).bind fun v1 => (f_SheetParser_isDigit v1.1 v1.2).bind fun v2 => (if v2.1 = 0 then (f_SheetParser_atText x0 (1000 + 8) v2.2).bind fun v3 => (if v3.1 = 0 then (f_SheetParser_atText x0 (1000 + 9) v3.2).bind fun v4 => (if v4.1 = 0 then (f_SheetParser_fail x0 (1 : Int32) v4.2).bind fun v5 => ja_rb v5.1 v5.2 else (if (8 : Int32) ≤ (v4.2.1 x1 8) then (f_SheetParser_fail x0 (4 : Int32) v4.2).bind fun v6 => ja_rb v6.1 v6.2 else (f_SheetParser_readConflict x0 x1 v4.2).bind fun v7 => ja_rb v7.1 v7.2)) else (if (8 : Int32) ≤ (v3.2.1 x1 5) then (f_SheetParser_fail x0 (4 : Int32) v3.2).bind fun v8 => ja_rb v8.1 v8.2 else (f_SheetParser_readRoute x0 x1 v3.2).bind fun v9 => ja_rb v9.1 v9.2)) else (f_SheetParser_readRule x0 x1 v2.2).bind fun v10 => ja_rb v10.1 v10.2)
set_option maxRecDepth 4000 in
theorem c_SheetParser_readStatement (l : Launch) (x : ja_X) (x0 : Nat) (x1 : Nat) {sg : ja_S} {w : Int32 × ja_S} (h0 : ja_ob ja_L0 6 x0) (h1 : ja_ob ja_L0 5 x1) (hf : f_SheetParser_readStatement x0 x1 sg = some w) : ja_Ct l x y_SheetParser_readStatement M_SheetParser_readStatement [.ref x0, .ref x1] ja_L0 sg (some (.int w.1), ja_L0, w.2) := by
  refine ja_mk ⟨by decide, rfl, rfl⟩ (Nat.le_of_ble_eq_true rfl) (lv := [(0, .ref x0), (1, .ref x1)]) rfl (fun C hl hx _ _ _ _ => ?_)
  subst hl; subst hx
  unfold f_SheetParser_readStatement at hf
  refine ja_aload_n (pc := 0) (f := 0) (i := 0) 0 (by decide +kernel) rfl rfl ?_
  refine ja_aload_n (pc := 1) (f := 0) (i := 0) 0 (by decide +kernel) rfl rfl ?_
  refine ja_geti (pc := 2) (idx := 28) (t := 6) (j := 4) (by decide +kernel) fd_SheetParser_28 h0 ?_
  refine ja_bind hf (fun v1 hv1 hf => ?_)
  refine ja_callVi (pc := 5) (idx := 75) (t := 6) (b := x0) (as := [.int (sg.1 x0 4)]) (st := []) (by decide +kernel) kv_SheetParser_byteAt lk_SheetParser_75 ⟨by decide, by decide⟩ (c_SheetParser_byteAt _ _ x0 (sg.1 x0 4) h0 hv1) h0 rfl (Nat.le_of_ble_eq_true rfl) rfl ?_
  refine ja_bind hf (fun v2 hv2 hf => ?_)
  refine ja_callSi (pc := 8) (idx := 79) (as := [.int v1.1]) (st := []) (by decide +kernel) ks_SheetParser_isDigit lk_SheetParser_79 ⟨by decide, by decide⟩ (c_SheetParser_isDigit _ _ v1.1  hv2) rfl (Nat.le_of_ble_eq_true rfl) rfl ?_
  refine ja_if_eq (pc := 11) (off := 9) 20 (by decide +kernel) (by decide) hf (fun hf => ?_) (fun hf => ?_)
  · refine ja_aload_n (pc := 20) (f := 0) (i := 0) 0 (by decide +kernel) rfl rfl ?_
    refine ja_ldcs (pc := 21) (idx := 85) 8 (by decide) (by decide +kernel) ⟨rfl, rfl⟩ ?_
    refine ja_bind hf (fun v3 hv3 hf => ?_)
    refine ja_callVi (pc := 23) (idx := 56) (t := 6) (b := x0) (as := [.ref (1000 + 8)]) (st := []) (by decide +kernel) kv_SheetParser_atText lk_SheetParser_56 ⟨by decide, by decide⟩ (c_SheetParser_atText _ _ x0 (1000 + 8) h0 (ja_is_mk 8 (by decide)) hv3) h0 rfl (Nat.le_of_ble_eq_true rfl) rfl ?_
    refine ja_if_eq (pc := 26) (off := 26) 52 (by decide +kernel) (by decide) hf (fun hf => ?_) (fun hf => ?_)
    · refine ja_aload_n (pc := 52) (f := 0) (i := 0) 0 (by decide +kernel) rfl rfl ?_
      refine ja_ldcs (pc := 53) (idx := 93) 9 (by decide) (by decide +kernel) ⟨rfl, rfl⟩ ?_
      refine ja_bind hf (fun v4 hv4 hf => ?_)
      refine ja_callVi (pc := 55) (idx := 56) (t := 6) (b := x0) (as := [.ref (1000 + 9)]) (st := []) (by decide +kernel) kv_SheetParser_atText lk_SheetParser_56 ⟨by decide, by decide⟩ (c_SheetParser_atText _ _ x0 (1000 + 9) h0 (ja_is_mk 9 (by decide)) hv4) h0 rfl (Nat.le_of_ble_eq_true rfl) rfl ?_
      refine ja_if_eq (pc := 58) (off := 26) 84 (by decide +kernel) (by decide) hf (fun hf => ?_) (fun hf => ?_)
      · refine ja_aload_n (pc := 84) (f := 0) (i := 0) 0 (by decide +kernel) rfl rfl ?_
        refine ja_iconst (pc := 85) (n := 1) (v := 1) (by decide +kernel) (by decide +kernel) ?_
        refine ja_bind hf (fun v5 hv5 hf => ?_)
        refine ja_callVi (pc := 86) (idx := 60) (t := 6) (b := x0) (as := [.int (1 : Int32)]) (st := []) (by decide +kernel) kv_SheetParser_fail lk_SheetParser_60 ⟨by decide, by decide⟩ (c_SheetParser_fail _ _ x0 (1 : Int32) h0 hv5) h0 rfl (Nat.le_of_ble_eq_true rfl) rfl ?_
        obtain ⟨hrb, hw⟩ := ja_ite hf
        exact ja_ret (pc := 89) (some (.int v5.1)) .ireturn (by decide +kernel) (ja_ri_b hrb) (by cases hw; rfl)
      · refine ja_aload_n (pc := 61) (f := 1) (i := 1) 1 (by decide +kernel) rfl rfl ?_
        refine ja_geti (pc := 62) (idx := 95) (t := 5) (j := 8) (by decide +kernel) fd_SheetParser_95 h1 ?_
        refine ja_bipush (pc := 65) (n := 8) (v := 8) (by decide +kernel) (by decide +kernel) ?_
        refine ja_icmp_ge (pc := 67) (off := 11) 78 (by decide +kernel) (by decide) hf (fun hf => ?_) (fun hf => ?_)
        · refine ja_aload_n (pc := 78) (f := 0) (i := 0) 0 (by decide +kernel) rfl rfl ?_
          refine ja_iconst (pc := 79) (n := 4) (v := 4) (by decide +kernel) (by decide +kernel) ?_
          refine ja_bind hf (fun v6 hv6 hf => ?_)
          refine ja_callVi (pc := 80) (idx := 60) (t := 6) (b := x0) (as := [.int (4 : Int32)]) (st := []) (by decide +kernel) kv_SheetParser_fail lk_SheetParser_60 ⟨by decide, by decide⟩ (c_SheetParser_fail _ _ x0 (4 : Int32) h0 hv6) h0 rfl (Nat.le_of_ble_eq_true rfl) rfl ?_
          obtain ⟨hrb, hw⟩ := ja_ite hf
          exact ja_ret (pc := 83) (some (.int v6.1)) .ireturn (by decide +kernel) (ja_ri_b hrb) (by cases hw; rfl)
        · refine ja_aload_n (pc := 70) (f := 0) (i := 0) 0 (by decide +kernel) rfl rfl ?_
          refine ja_aload_n (pc := 71) (f := 1) (i := 1) 1 (by decide +kernel) rfl rfl ?_
          refine ja_bind hf (fun v7 hv7 hf => ?_)
          refine ja_callVi (pc := 72) (idx := 98) (t := 6) (b := x0) (as := [.ref x1]) (st := []) (by decide +kernel) kv_SheetParser_readConflict lk_SheetParser_98 ⟨by decide, by decide⟩ (c_SheetParser_readConflict _ _ x0 x1 h0 h1 hv7) h0 rfl (Nat.le_of_ble_eq_true rfl) rfl ?_
          refine ja_goto (pc := 75) (off := 8) 83 (by decide +kernel) (by decide) ?_
          obtain ⟨hrb, hw⟩ := ja_ite hf
          exact ja_ret (pc := 83) (some (.int v7.1)) .ireturn (by decide +kernel) (ja_ri_b hrb) (by cases hw; rfl)
    · refine ja_aload_n (pc := 29) (f := 1) (i := 1) 1 (by decide +kernel) rfl rfl ?_
      refine ja_geti (pc := 30) (idx := 87) (t := 5) (j := 5) (by decide +kernel) fd_SheetParser_87 h1 ?_
      refine ja_bipush (pc := 33) (n := 8) (v := 8) (by decide +kernel) (by decide +kernel) ?_
      refine ja_icmp_ge (pc := 35) (off := 11) 46 (by decide +kernel) (by decide) hf (fun hf => ?_) (fun hf => ?_)
      · refine ja_aload_n (pc := 46) (f := 0) (i := 0) 0 (by decide +kernel) rfl rfl ?_
        refine ja_iconst (pc := 47) (n := 4) (v := 4) (by decide +kernel) (by decide +kernel) ?_
        refine ja_bind hf (fun v8 hv8 hf => ?_)
        refine ja_callVi (pc := 48) (idx := 60) (t := 6) (b := x0) (as := [.int (4 : Int32)]) (st := []) (by decide +kernel) kv_SheetParser_fail lk_SheetParser_60 ⟨by decide, by decide⟩ (c_SheetParser_fail _ _ x0 (4 : Int32) h0 hv8) h0 rfl (Nat.le_of_ble_eq_true rfl) rfl ?_
        obtain ⟨hrb, hw⟩ := ja_ite hf
        exact ja_ret (pc := 51) (some (.int v8.1)) .ireturn (by decide +kernel) (ja_ri_b hrb) (by cases hw; rfl)
      · refine ja_aload_n (pc := 38) (f := 0) (i := 0) 0 (by decide +kernel) rfl rfl ?_
        refine ja_aload_n (pc := 39) (f := 1) (i := 1) 1 (by decide +kernel) rfl rfl ?_
        refine ja_bind hf (fun v9 hv9 hf => ?_)
        refine ja_callVi (pc := 40) (idx := 90) (t := 6) (b := x0) (as := [.ref x1]) (st := []) (by decide +kernel) kv_SheetParser_readRoute lk_SheetParser_90 ⟨by decide, by decide⟩ (c_SheetParser_readRoute _ _ x0 x1 h0 h1 hv9) h0 rfl (Nat.le_of_ble_eq_true rfl) rfl ?_
        refine ja_goto (pc := 43) (off := 8) 51 (by decide +kernel) (by decide) ?_
        obtain ⟨hrb, hw⟩ := ja_ite hf
        exact ja_ret (pc := 51) (some (.int v9.1)) .ireturn (by decide +kernel) (ja_ri_b hrb) (by cases hw; rfl)
  · refine ja_aload_n (pc := 14) (f := 0) (i := 0) 0 (by decide +kernel) rfl rfl ?_
    refine ja_aload_n (pc := 15) (f := 1) (i := 1) 1 (by decide +kernel) rfl rfl ?_
    refine ja_bind hf (fun v10 hv10 hf => ?_)
    refine ja_callVi (pc := 16) (idx := 82) (t := 6) (b := x0) (as := [.ref x1]) (st := []) (by decide +kernel) kv_SheetParser_readRule lk_SheetParser_82 ⟨by decide, by decide⟩ (c_SheetParser_readRule _ _ x0 x1 h0 h1 hv10) h0 rfl (Nat.le_of_ble_eq_true rfl) rfl ?_
    obtain ⟨hrb, hw⟩ := ja_ite hf
    exact ja_ret (pc := 19) (some (.int v10.1)) .ireturn (by decide +kernel) (ja_ri_b hrb) (by cases hw; rfl)
def f_SheetParser_read_L45  : Nat → Nat → Nat → Int32 → Int32 → ja_S → Option (Int32 × ja_S)
  | 0, _, _, _, _, _ => none
  | n + 1, x0, x2, x3, x4, sg => (if (900 : Int32) ≤ x4 then ja_rb x3 sg else (if x3 = 0 then ja_rb x3 sg else (if (sg.1 x0 3) ≤ (sg.1 x0 4) then ja_rb x3 sg else (f_SheetParser_readStatement x0 x2 sg).bind fun v1 => (if v1.1 = 0 then f_SheetParser_read_L45  n x0 x2 (0 : Int32) (x4 + 1) v1.2 else (f_SheetParser_readSemicolon x0 v1.2).bind fun v2 => (if v2.1 = 0 then f_SheetParser_read_L45  n x0 x2 (0 : Int32) (x4 + 1) v2.2 else f_SheetParser_read_L45  n x0 x2 (1 : Int32) (x4 + 1) v2.2)))))
set_option maxRecDepth 4000 in
theorem w_SheetParser_read_L45 (C : ja_C) {w : Int32 × ja_S}    (n : Nat) : ∀ (x0 : Nat) (x2 : Nat) (x3 : Int32) (x4 : Int32) (sg : ja_S), ja_ob ja_L0 6 x0 → ja_ob ja_L0 5 x2 → f_SheetParser_read_L45  n x0 x2 x3 x4 sg = some w → ja_J M_SheetParser_read C 45 [(0, .ref x0), (2, .ref x2), (3, .int x3), (4, .int x4)] [] ja_L0 sg (some (.int w.1), ja_L0, w.2) := by
  induction n with
  | zero => intro _ _ _ _ _ _ _ hf; exact absurd (show (none : Option _) = some w from hf) (by simp)
  | succ n ih =>
    intro x0 x2 x3 x4 sg h0 h2 hf
    unfold f_SheetParser_read_L45 at hf
    refine ja_iload (pc := 45) (i := 4) 3 (by decide +kernel) rfl ?_
    refine ja_sipush (pc := 47) (n := 900) (v := 900) (by decide +kernel) (by decide +kernel) ?_
    refine ja_icmp_ge (pc := 50) (off := 45) 95 (by decide +kernel) (by decide) hf (fun hf => ?_) (fun hf => ?_)
    · refine ja_iload_n (pc := 95) (f := 3) (i := 3) 2 (by decide +kernel) rfl rfl ?_
      obtain ⟨hrb, hw⟩ := ja_ite hf
      exact ja_ret (pc := 96) (some (.int x3)) .ireturn (by decide +kernel) (ja_ri_b hrb) (by cases hw; rfl)
    · refine ja_iload_n (pc := 53) (f := 3) (i := 3) 2 (by decide +kernel) rfl rfl ?_
      refine ja_if_eq (pc := 54) (off := 41) 95 (by decide +kernel) (by decide) hf (fun hf => ?_) (fun hf => ?_)
      · refine ja_iload_n (pc := 95) (f := 3) (i := 3) 2 (by decide +kernel) rfl rfl ?_
        obtain ⟨hrb, hw⟩ := ja_ite hf
        exact ja_ret (pc := 96) (some (.int x3)) .ireturn (by decide +kernel) (ja_ri_b hrb) (by cases hw; rfl)
      · refine ja_aload_n (pc := 57) (f := 0) (i := 0) 0 (by decide +kernel) rfl rfl ?_
        refine ja_geti (pc := 58) (idx := 28) (t := 6) (j := 4) (by decide +kernel) fd_SheetParser_28 h0 ?_
        refine ja_aload_n (pc := 61) (f := 0) (i := 0) 0 (by decide +kernel) rfl rfl ?_
        refine ja_geti (pc := 62) (idx := 25) (t := 6) (j := 3) (by decide +kernel) fd_SheetParser_25 h0 ?_
        refine ja_icmp_ge (pc := 65) (off := 30) 95 (by decide +kernel) (by decide) hf (fun hf => ?_) (fun hf => ?_)
        · refine ja_iload_n (pc := 95) (f := 3) (i := 3) 2 (by decide +kernel) rfl rfl ?_
          obtain ⟨hrb, hw⟩ := ja_ite hf
          exact ja_ret (pc := 96) (some (.int x3)) .ireturn (by decide +kernel) (ja_ri_b hrb) (by cases hw; rfl)
        · refine ja_aload_n (pc := 68) (f := 0) (i := 0) 0 (by decide +kernel) rfl rfl ?_
          refine ja_aload_n (pc := 69) (f := 2) (i := 2) 1 (by decide +kernel) rfl rfl ?_
          refine ja_bind hf (fun v1 hv1 hf => ?_)
          refine ja_callVi (pc := 70) (idx := 47) (t := 6) (b := x0) (as := [.ref x2]) (st := []) (by decide +kernel) kv_SheetParser_readStatement lk_SheetParser_47 ⟨by decide, by decide⟩ (c_SheetParser_readStatement _ _ x0 x2 h0 h2 hv1) h0 rfl (Nat.le_of_ble_eq_true rfl) rfl ?_
          refine ja_if_eq (pc := 73) (off := 14) 87 (by decide +kernel) (by decide) hf (fun hf => ?_) (fun hf => ?_)
          · refine ja_iconst (pc := 87) (n := 0) (v := 0) (by decide +kernel) (by decide +kernel) ?_
            refine ja_istore_n (pc := 88) (f := 3) (i := 3) (lv' := [(3, .int (0 : Int32)), (0, .ref x0), (2, .ref x2), (4, .int x4)]) (by decide +kernel) rfl (by decide) rfl ?_
            refine ja_iinc (pc := 89) (i := 4) (n := 1) (v := x4 + 1) (lv' := [(4, .int (x4 + 1)), (3, .int (0 : Int32)), (0, .ref x0), (2, .ref x2)]) 3 (by decide +kernel) rfl rfl (by decide) rfl ?_
            refine ja_goto (pc := 92) (off := (-47)) 45 (by decide +kernel) (by decide) ?_
            refine ja_lv [2, 3, 1, 0] rfl ?_
            exact ih x0 x2 (0 : Int32) (x4 + 1) v1.2 h0 h2 hf
          · refine ja_aload_n (pc := 76) (f := 0) (i := 0) 0 (by decide +kernel) rfl rfl ?_
            refine ja_bind hf (fun v2 hv2 hf => ?_)
            refine ja_callVi (pc := 77) (idx := 50) (t := 6) (b := x0) (as := []) (st := []) (by decide +kernel) kv_SheetParser_readSemicolon lk_SheetParser_50 ⟨by decide, by decide⟩ (c_SheetParser_readSemicolon _ _ x0 h0 hv2) h0 rfl (Nat.le_of_ble_eq_true rfl) rfl ?_
            refine ja_if_eq (pc := 80) (off := 7) 87 (by decide +kernel) (by decide) hf (fun hf => ?_) (fun hf => ?_)
            · refine ja_iconst (pc := 87) (n := 0) (v := 0) (by decide +kernel) (by decide +kernel) ?_
              refine ja_istore_n (pc := 88) (f := 3) (i := 3) (lv' := [(3, .int (0 : Int32)), (0, .ref x0), (2, .ref x2), (4, .int x4)]) (by decide +kernel) rfl (by decide) rfl ?_
              refine ja_iinc (pc := 89) (i := 4) (n := 1) (v := x4 + 1) (lv' := [(4, .int (x4 + 1)), (3, .int (0 : Int32)), (0, .ref x0), (2, .ref x2)]) 3 (by decide +kernel) rfl rfl (by decide) rfl ?_
              refine ja_goto (pc := 92) (off := (-47)) 45 (by decide +kernel) (by decide) ?_
              refine ja_lv [2, 3, 1, 0] rfl ?_
              exact ih x0 x2 (0 : Int32) (x4 + 1) v2.2 h0 h2 hf
            · refine ja_iconst (pc := 83) (n := 1) (v := 1) (by decide +kernel) (by decide +kernel) ?_
              refine ja_goto (pc := 84) (off := 4) 88 (by decide +kernel) (by decide) ?_
              refine ja_istore_n (pc := 88) (f := 3) (i := 3) (lv' := [(3, .int (1 : Int32)), (0, .ref x0), (2, .ref x2), (4, .int x4)]) (by decide +kernel) rfl (by decide) rfl ?_
              refine ja_iinc (pc := 89) (i := 4) (n := 1) (v := x4 + 1) (lv' := [(4, .int (x4 + 1)), (3, .int (1 : Int32)), (0, .ref x0), (2, .ref x2)]) 3 (by decide +kernel) rfl rfl (by decide) rfl ?_
              refine ja_goto (pc := 92) (off := (-47)) 45 (by decide +kernel) (by decide) ?_
              refine ja_lv [2, 3, 1, 0] rfl ?_
              exact ih x0 x2 (1 : Int32) (x4 + 1) v2.2 h0 h2 hf
def f_SheetParser_read (x0 : Nat) (x1 : Int32) (x2 : Nat) (sg : ja_S) : Option (Int32 × ja_S) := (ja_pu sg x0 3 (if (sg.1 x0 6) < x1 then sg.1 x0 6 else x1)).bind fun s1 => (ja_pu s1 x0 6 (0 : Int32)).bind fun s2 => (ja_pu s2 x0 0 (0 : Int32)).bind fun s3 => (ja_pu s3 x0 1 (-1 : Int32)).bind fun s4 => (ja_pu s4 x0 5 (0 : Int32)).bind fun s5 => (f_SheetParser_step x0 s5).bind fun v6 => (f_SheetParser_readHead x0 x2 v6).bind fun v7 => f_SheetParser_read_L45  ja_FU x0 x2 v7.1 (0 : Int32) v7.2
set_option maxRecDepth 4000 in
theorem c_SheetParser_read (l : Launch) (x : ja_X) (x0 : Nat) (x1 : Int32) (x2 : Nat) {sg : ja_S} {w : Int32 × ja_S} (h0 : ja_ob ja_L0 6 x0) (h2 : ja_ob ja_L0 5 x2) (hf : f_SheetParser_read x0 x1 x2 sg = some w) : ja_Ct l x y_SheetParser_read M_SheetParser_read [.ref x0, .int x1, .ref x2] ja_L0 sg (some (.int w.1), ja_L0, w.2) := by
  refine ja_mk ⟨by decide, rfl, rfl⟩ (Nat.le_of_ble_eq_true rfl) (lv := [(0, .ref x0), (1, .int x1), (2, .ref x2)]) rfl (fun C hl hx _ _ _ _ => ?_)
  subst hl; subst hx
  unfold f_SheetParser_read at hf
  refine ja_aload_n (pc := 0) (f := 0) (i := 0) 0 (by decide +kernel) rfl rfl ?_
  refine ja_iload_n (pc := 1) (f := 1) (i := 1) 1 (by decide +kernel) rfl rfl ?_
  refine ja_aload_n (pc := 2) (f := 0) (i := 0) 0 (by decide +kernel) rfl rfl ?_
  refine ja_geti (pc := 3) (idx := 9) (t := 6) (j := 6) (by decide +kernel) fd_SheetParser_9 h0 ?_
  refine ja_min (pc := 6) (idx := 34) (by decide +kernel) km_SheetParser_34 ⟨by decide, by decide⟩ (Nat.le_of_ble_eq_true rfl) ?_
  refine ja_bind hf (fun s1 hs1 hf => ?_)
  refine ja_puti2 (pc := 9) (idx := 25) (t := 6) (j := 3) (by decide +kernel) fd_SheetParser_25 h0 ⟨rfl, rfl⟩ hs1 ?_
  refine ja_aload_n (pc := 12) (f := 0) (i := 0) 0 (by decide +kernel) rfl rfl ?_
  refine ja_iconst (pc := 13) (n := 0) (v := 0) (by decide +kernel) (by decide +kernel) ?_
  refine ja_bind hf (fun s2 hs2 hf => ?_)
  refine ja_puti2 (pc := 14) (idx := 9) (t := 6) (j := 6) (by decide +kernel) fd_SheetParser_9 h0 ⟨rfl, rfl⟩ hs2 ?_
  refine ja_aload_n (pc := 17) (f := 0) (i := 0) 0 (by decide +kernel) rfl rfl ?_
  refine ja_iconst (pc := 18) (n := 0) (v := 0) (by decide +kernel) (by decide +kernel) ?_
  refine ja_bind hf (fun s3 hs3 hf => ?_)
  refine ja_puti2 (pc := 19) (idx := 15) (t := 6) (j := 0) (by decide +kernel) fd_SheetParser_15 h0 ⟨rfl, rfl⟩ hs3 ?_
  refine ja_aload_n (pc := 22) (f := 0) (i := 0) 0 (by decide +kernel) rfl rfl ?_
  refine ja_iconst (pc := 23) (n := (-1)) (v := (-1)) (by decide +kernel) (by decide +kernel) ?_
  refine ja_bind hf (fun s4 hs4 hf => ?_)
  refine ja_puti2 (pc := 24) (idx := 18) (t := 6) (j := 1) (by decide +kernel) fd_SheetParser_18 h0 ⟨rfl, rfl⟩ hs4 ?_
  refine ja_aload_n (pc := 27) (f := 0) (i := 0) 0 (by decide +kernel) rfl rfl ?_
  refine ja_iconst (pc := 28) (n := 0) (v := 0) (by decide +kernel) (by decide +kernel) ?_
  refine ja_bind hf (fun s5 hs5 hf => ?_)
  refine ja_puti2 (pc := 29) (idx := 31) (t := 6) (j := 5) (by decide +kernel) fd_SheetParser_31 h0 ⟨rfl, rfl⟩ hs5 ?_
  refine ja_aload_n (pc := 32) (f := 0) (i := 0) 0 (by decide +kernel) rfl rfl ?_
  refine ja_bind hf (fun v6 hv6 hf => ?_)
  refine ja_callVv (pc := 33) (idx := 40) (t := 6) (b := x0) (as := []) (st := []) (by decide +kernel) kv_SheetParser_step lk_SheetParser_40 ⟨by decide, by decide⟩ (c_SheetParser_step _ _ x0 h0 hv6) h0 rfl (Nat.le_of_ble_eq_true rfl) rfl ?_
  refine ja_aload_n (pc := 36) (f := 0) (i := 0) 0 (by decide +kernel) rfl rfl ?_
  refine ja_aload_n (pc := 37) (f := 2) (i := 2) 2 (by decide +kernel) rfl rfl ?_
  refine ja_bind hf (fun v7 hv7 hf => ?_)
  refine ja_callVi (pc := 38) (idx := 43) (t := 6) (b := x0) (as := [.ref x2]) (st := []) (by decide +kernel) kv_SheetParser_readHead lk_SheetParser_43 ⟨by decide, by decide⟩ (c_SheetParser_readHead _ _ x0 x2 h0 h2 hv7) h0 rfl (Nat.le_of_ble_eq_true rfl) rfl ?_
  refine ja_istore_n (pc := 41) (f := 3) (i := 3) (lv' := [(3, .int v7.1), (0, .ref x0), (1, .int x1), (2, .ref x2)]) (by decide +kernel) rfl (by decide) rfl ?_
  refine ja_iconst (pc := 42) (n := 0) (v := 0) (by decide +kernel) (by decide +kernel) ?_
  refine ja_istore (pc := 43) (i := 4) (lv' := [(4, .int (0 : Int32)), (3, .int v7.1), (0, .ref x0), (1, .int x1), (2, .ref x2)]) (by decide +kernel) (by decide) rfl ?_
  refine ja_lv [2, 4, 1, 0] rfl ?_
  exact w_SheetParser_read_L45 C  ja_FU x0 x2 v7.1 (0 : Int32) v7.2 h0 h2 hf
def f_Frame_parseSheet (x0 : Nat) (x1 : Int32) (sg : ja_S) : Option (Int32 × ja_S) := (if x1 < 0 then some ((-3 : Int32), sg) else (if x1 ≤ (sg.1 (ja_q x0 2) 6) then (f_SheetParser_read (ja_q x0 2) x1 (ja_q x0 4) sg).bind fun v1 => (if v1.1 = 0 then some ((-30 : Int32) - (v1.2.1 (ja_q x0 2) 0), v1.2) else (f_Sheet_copyFrom (ja_q x0 3) (ja_q x0 4) v1.2).bind fun v2 => (ja_pu v2 x0 6 (0 : Int32)).bind fun s3 => (f_History_clear (ja_q x0 5) s3).bind fun v4 => (f_Frame_forgetFindings x0 v4).bind fun v5 => some ((((1 : Int32) + (v5.1 (ja_q x0 3) 3)) + (v5.1 (ja_q x0 3) 5)) + (v5.1 (ja_q x0 3) 8), v5)) else some ((-3 : Int32), sg)))
set_option maxRecDepth 4000 in
theorem c_Frame_parseSheet (l : Launch) (x : ja_X) (x0 : Nat) (x1 : Int32) {sg : ja_S} {w : Int32 × ja_S} (h0 : ja_ob ja_L0 7 x0) (hf : f_Frame_parseSheet x0 x1 sg = some w) : ja_Ct l x y_Frame_parseSheet M_Frame_parseSheet [.ref x0, .int x1] ja_L0 sg (some (.int w.1), ja_L0, w.2) := by
  refine ja_mk ⟨by decide, rfl, rfl⟩ (Nat.le_of_ble_eq_true rfl) (lv := [(0, .ref x0), (1, .int x1)]) rfl (fun C hl hx _ _ _ _ => ?_)
  subst hl; subst hx
  unfold f_Frame_parseSheet at hf
  refine ja_iload_n (pc := 0) (f := 1) (i := 1) 1 (by decide +kernel) rfl rfl ?_
  refine ja_if_lt (pc := 1) (off := 14) 15 (by decide +kernel) (by decide) hf (fun hf => ?_) (fun hf => ?_)
  · refine ja_bipush (pc := 15) (n := (-3)) (v := (-3)) (by decide +kernel) (by decide +kernel) ?_
    exact ja_ret (pc := 17) (some (.int (-3 : Int32))) .ireturn (by decide +kernel) rfl (ja_zi hf)
  · refine ja_iload_n (pc := 4) (f := 1) (i := 1) 1 (by decide +kernel) rfl rfl ?_
    refine ja_aload_n (pc := 5) (f := 0) (i := 0) 0 (by decide +kernel) rfl rfl ?_
    refine ja_getr (pc := 6) (idx := 10) (t := 7) (j := 2) (by decide +kernel) fd_Frame_10 h0 (fr_7_2 h0) ?_
    refine ja_geti (pc := 9) (idx := 71) (t := 6) (j := 6) (by decide +kernel) fd_Frame_71 (fk_7_2 h0) ?_
    refine ja_icmp_le (pc := 12) (off := 6) 18 (by decide +kernel) (by decide) hf (fun hf => ?_) (fun hf => ?_)
    · refine ja_aload_n (pc := 18) (f := 0) (i := 0) 0 (by decide +kernel) rfl rfl ?_
      refine ja_getr (pc := 19) (idx := 10) (t := 7) (j := 2) (by decide +kernel) fd_Frame_10 h0 (fr_7_2 h0) ?_
      refine ja_iload_n (pc := 22) (f := 1) (i := 1) 1 (by decide +kernel) rfl rfl ?_
      refine ja_aload_n (pc := 23) (f := 0) (i := 0) 0 (by decide +kernel) rfl rfl ?_
      refine ja_getr (pc := 24) (idx := 23) (t := 7) (j := 4) (by decide +kernel) fd_Frame_23 h0 (fr_7_4 h0) ?_
      refine ja_bind hf (fun v1 hv1 hf => ?_)
      refine ja_callVi (pc := 27) (idx := 78) (t := 6) (b := (ja_q x0 2)) (as := [.int x1, .ref (ja_q x0 4)]) (st := []) (by decide +kernel) kv_SheetParser_read lk_Frame_78 ⟨by decide, by decide⟩ (c_SheetParser_read _ _ (ja_q x0 2) x1 (ja_q x0 4) (fk_7_2 h0) (fk_7_4 h0) hv1) (fk_7_2 h0) rfl (Nat.le_of_ble_eq_true rfl) rfl ?_
      refine ja_if_ne (pc := 30) (off := 14) 44 (by decide +kernel) (by decide) hf (fun hf => ?_) (fun hf => ?_)
      · refine ja_aload_n (pc := 44) (f := 0) (i := 0) 0 (by decide +kernel) rfl rfl ?_
        refine ja_getr (pc := 45) (idx := 19) (t := 7) (j := 3) (by decide +kernel) fd_Frame_19 h0 (fr_7_3 h0) ?_
        refine ja_aload_n (pc := 48) (f := 0) (i := 0) 0 (by decide +kernel) rfl rfl ?_
        refine ja_getr (pc := 49) (idx := 23) (t := 7) (j := 4) (by decide +kernel) fd_Frame_23 h0 (fr_7_4 h0) ?_
        refine ja_bind hf (fun v2 hv2 hf => ?_)
        refine ja_callVv (pc := 52) (idx := 85) (t := 5) (b := (ja_q x0 3)) (as := [.ref (ja_q x0 4)]) (st := []) (by decide +kernel) kv_Sheet_copyFrom lk_Frame_85 ⟨by decide, by decide⟩ (c_Sheet_copyFrom _ _ (ja_q x0 3) (ja_q x0 4) (fk_7_3 h0) (fk_7_4 h0) hv2) (fk_7_3 h0) rfl (Nat.le_of_ble_eq_true rfl) rfl ?_
        refine ja_aload_n (pc := 55) (f := 0) (i := 0) 0 (by decide +kernel) rfl rfl ?_
        refine ja_iconst (pc := 56) (n := 0) (v := 0) (by decide +kernel) (by decide +kernel) ?_
        refine ja_bind hf (fun s3 hs3 hf => ?_)
        refine ja_puti2 (pc := 57) (idx := 33) (t := 7) (j := 6) (by decide +kernel) fd_Frame_33 h0 ⟨rfl, rfl⟩ hs3 ?_
        refine ja_aload_n (pc := 60) (f := 0) (i := 0) 0 (by decide +kernel) rfl rfl ?_
        refine ja_getr (pc := 61) (idx := 29) (t := 7) (j := 5) (by decide +kernel) fd_Frame_29 h0 (fr_7_5 h0) ?_
        refine ja_bind hf (fun v4 hv4 hf => ?_)
        refine ja_callVv (pc := 64) (idx := 89) (t := 0) (b := (ja_q x0 5)) (as := []) (st := []) (by decide +kernel) kv_History_clear lk_Frame_89 ⟨by decide, by decide⟩ (c_History_clear _ _ (ja_q x0 5) (fk_7_5 h0) hv4) (fk_7_5 h0) rfl (Nat.le_of_ble_eq_true rfl) rfl ?_
        refine ja_aload_n (pc := 67) (f := 0) (i := 0) 0 (by decide +kernel) rfl rfl ?_
        refine ja_bind hf (fun v5 hv5 hf => ?_)
        refine ja_callVv (pc := 68) (idx := 92) (t := 7) (b := x0) (as := []) (st := []) (by decide +kernel) kv_Frame_forgetFindings lk_Frame_92 ⟨by decide, by decide⟩ (c_Frame_forgetFindings _ _ x0 h0 hv5) h0 rfl (Nat.le_of_ble_eq_true rfl) rfl ?_
        refine ja_iconst (pc := 71) (n := 1) (v := 1) (by decide +kernel) (by decide +kernel) ?_
        refine ja_aload_n (pc := 72) (f := 0) (i := 0) 0 (by decide +kernel) rfl rfl ?_
        refine ja_getr (pc := 73) (idx := 19) (t := 7) (j := 3) (by decide +kernel) fd_Frame_19 h0 (fr_7_3 h0) ?_
        refine ja_geti (pc := 76) (idx := 95) (t := 5) (j := 3) (by decide +kernel) fd_Frame_95 (fk_7_3 h0) ?_
        refine ja_iadd (pc := 79) (by decide +kernel) ?_
        refine ja_aload_n (pc := 80) (f := 0) (i := 0) 0 (by decide +kernel) rfl rfl ?_
        refine ja_getr (pc := 81) (idx := 19) (t := 7) (j := 3) (by decide +kernel) fd_Frame_19 h0 (fr_7_3 h0) ?_
        refine ja_geti (pc := 84) (idx := 98) (t := 5) (j := 5) (by decide +kernel) fd_Frame_98 (fk_7_3 h0) ?_
        refine ja_iadd (pc := 87) (by decide +kernel) ?_
        refine ja_aload_n (pc := 88) (f := 0) (i := 0) 0 (by decide +kernel) rfl rfl ?_
        refine ja_getr (pc := 89) (idx := 19) (t := 7) (j := 3) (by decide +kernel) fd_Frame_19 h0 (fr_7_3 h0) ?_
        refine ja_geti (pc := 92) (idx := 101) (t := 5) (j := 8) (by decide +kernel) fd_Frame_101 (fk_7_3 h0) ?_
        refine ja_iadd (pc := 95) (by decide +kernel) ?_
        exact ja_ret (pc := 96) (some (.int ((((1 : Int32) + (v5.1 (ja_q x0 3) 3)) + (v5.1 (ja_q x0 3) 5)) + (v5.1 (ja_q x0 3) 8)))) .ireturn (by decide +kernel) rfl (ja_zi hf)
      · refine ja_bipush (pc := 33) (n := (-30)) (v := (-30)) (by decide +kernel) (by decide +kernel) ?_
        refine ja_aload_n (pc := 35) (f := 0) (i := 0) 0 (by decide +kernel) rfl rfl ?_
        refine ja_getr (pc := 36) (idx := 10) (t := 7) (j := 2) (by decide +kernel) fd_Frame_10 h0 (fr_7_2 h0) ?_
        refine ja_geti (pc := 39) (idx := 82) (t := 6) (j := 0) (by decide +kernel) fd_Frame_82 (fk_7_2 h0) ?_
        refine ja_isub (pc := 42) (by decide +kernel) ?_
        exact ja_ret (pc := 43) (some (.int ((-30 : Int32) - (v1.2.1 (ja_q x0 2) 0)))) .ireturn (by decide +kernel) rfl (ja_zi hf)
    · refine ja_bipush (pc := 15) (n := (-3)) (v := (-3)) (by decide +kernel) (by decide +kernel) ?_
      exact ja_ret (pc := 17) (some (.int (-3 : Int32))) .ireturn (by decide +kernel) rfl (ja_zi hf)
def f_Model_wordHere_B131 (k35 : Nat → Int32 → Int32 → Int32 → ja_S → Option (Int32 × ja_S)) (x0 : Nat) (x1 : Int32) (x2 : Int32) (x4 : Int32) (x5 : Int32) (sg : ja_S) : Option (Int32 × ja_S) := (if x5 = 0 then k35 x0 x1 (x2 + 1) (x4 + (1 : Int32)) sg else some (x2, sg))
set_option maxRecDepth 4000 in
theorem w_Model_wordHere_B131 (C : ja_C) {w : Int32 × ja_S} {k35 : Nat → Int32 → Int32 → Int32 → ja_S → Option (Int32 × ja_S)} (e35 : ∀ (x0 : Nat) (x1 : Int32) (x2 : Int32) (x3 : Int32) (sg : ja_S), ja_ob ja_L0 8 x0 → k35 x0 x1 x2 x3 sg = some w → ja_J M_Model_wordHere C 35 [(0, .ref x0), (1, .int x1), (2, .int x2), (3, .int x3)] [] ja_L0 sg (some (.int w.1), ja_L0, w.2))  (x0 : Nat) (x1 : Int32) (x2 : Int32) (x4 : Int32) (x5 : Int32) (sg : ja_S) (h0 : ja_ob ja_L0 8 x0) (hf : f_Model_wordHere_B131 k35 x0 x1 x2 x4 x5 sg = some w) : ja_J M_Model_wordHere C 131 [(0, .ref x0), (1, .int x1), (2, .int x2), (4, .int x4), (5, .int x5)] [] ja_L0 sg (some (.int w.1), ja_L0, w.2) := by
  unfold f_Model_wordHere_B131 at hf
  refine ja_iload (pc := 131) (i := 5) 4 (by decide +kernel) rfl ?_
  refine ja_if_eq (pc := 133) (off := 5) 138 (by decide +kernel) (by decide) hf (fun hf => ?_) (fun hf => ?_)
  · refine ja_iinc (pc := 138) (i := 2) (n := 1) (v := x2 + 1) (lv' := [(2, .int (x2 + 1)), (0, .ref x0), (1, .int x1), (4, .int x4), (5, .int x5)]) 2 (by decide +kernel) rfl rfl (by decide) rfl ?_
    refine ja_iload (pc := 141) (i := 4) 3 (by decide +kernel) rfl ?_
    refine ja_iconst (pc := 143) (n := 1) (v := 1) (by decide +kernel) (by decide +kernel) ?_
    refine ja_iadd (pc := 144) (by decide +kernel) ?_
    refine ja_istore_n (pc := 145) (f := 3) (i := 3) (lv' := [(3, .int (x4 + (1 : Int32))), (2, .int (x2 + 1)), (0, .ref x0), (1, .int x1), (4, .int x4), (5, .int x5)]) (by decide +kernel) rfl (by decide) rfl ?_
    refine ja_goto (pc := 146) (off := (-111)) 35 (by decide +kernel) (by decide) ?_
    refine ja_lv [2, 3, 1, 0] rfl ?_
    exact e35 x0 x1 (x2 + 1) (x4 + (1 : Int32)) sg h0 hf
  · refine ja_iload_n (pc := 136) (f := 2) (i := 2) 2 (by decide +kernel) rfl rfl ?_
    exact ja_ret (pc := 137) (some (.int x2)) .ireturn (by decide +kernel) rfl (ja_zi hf)
def f_Model_wordHere_L83 (k35 : Nat → Int32 → Int32 → Int32 → ja_S → Option (Int32 × ja_S)) : Nat → Nat → Int32 → Int32 → Int32 → Int32 → Int32 → Int32 → ja_S → Option (Int32 × ja_S)
  | 0, _, _, _, _, _, _, _, _ => none
  | n + 1, x0, x1, x2, x3, x4, x5, x6, sg => (if x1 ≤ x6 then f_Model_wordHere_B131 k35 x0 x1 x2 x4 x5 sg else (if x5 = 0 then f_Model_wordHere_B131 k35 x0 x1 x2 x4 x5 sg else (f_String_charAt (1000 + 10) (x3 + x6) sg).bind fun v1 => (ja_ld ja_L0 v1.2 (ja_q x0 10) ((v1.2.1 x0 13) + x6)).bind fun v2 => (if v1.1 = v2 then f_Model_wordHere_L83 k35 n x0 x1 x2 x3 x4 (1 : Int32) (x6 + 1) v1.2 else f_Model_wordHere_L83 k35 n x0 x1 x2 x3 x4 (0 : Int32) (x6 + 1) v1.2)))
set_option maxRecDepth 4000 in
theorem w_Model_wordHere_L83 (C : ja_C) {w : Int32 × ja_S} {k35 : Nat → Int32 → Int32 → Int32 → ja_S → Option (Int32 × ja_S)} (e35 : ∀ (x0 : Nat) (x1 : Int32) (x2 : Int32) (x3 : Int32) (sg : ja_S), ja_ob ja_L0 8 x0 → k35 x0 x1 x2 x3 sg = some w → ja_J M_Model_wordHere C 35 [(0, .ref x0), (1, .int x1), (2, .int x2), (3, .int x3)] [] ja_L0 sg (some (.int w.1), ja_L0, w.2))  (n : Nat) : ∀ (x0 : Nat) (x1 : Int32) (x2 : Int32) (x3 : Int32) (x4 : Int32) (x5 : Int32) (x6 : Int32) (sg : ja_S), ja_ob ja_L0 8 x0 → f_Model_wordHere_L83 k35 n x0 x1 x2 x3 x4 x5 x6 sg = some w → ja_J M_Model_wordHere C 83 [(0, .ref x0), (1, .int x1), (2, .int x2), (3, .int x3), (4, .int x4), (5, .int x5), (6, .int x6)] [] ja_L0 sg (some (.int w.1), ja_L0, w.2) := by
  induction n with
  | zero => intro _ _ _ _ _ _ _ _ _ hf; exact absurd (show (none : Option _) = some w from hf) (by simp)
  | succ n ih =>
    intro x0 x1 x2 x3 x4 x5 x6 sg h0 hf
    unfold f_Model_wordHere_L83 at hf
    refine ja_iload (pc := 83) (i := 6) 6 (by decide +kernel) rfl ?_
    refine ja_iload_n (pc := 85) (f := 1) (i := 1) 1 (by decide +kernel) rfl rfl ?_
    refine ja_icmp_ge (pc := 86) (off := 45) 131 (by decide +kernel) (by decide) hf (fun hf => ?_) (fun hf => ?_)
    · refine ja_lv [0, 1, 2, 4, 5] rfl ?_
      exact w_Model_wordHere_B131 C e35 x0 x1 x2 x4 x5 sg h0 hf
    · refine ja_iload (pc := 89) (i := 5) 5 (by decide +kernel) rfl ?_
      refine ja_if_eq (pc := 91) (off := 40) 131 (by decide +kernel) (by decide) hf (fun hf => ?_) (fun hf => ?_)
      · refine ja_lv [0, 1, 2, 4, 5] rfl ?_
        exact w_Model_wordHere_B131 C e35 x0 x1 x2 x4 x5 sg h0 hf
      · refine ja_ldcs (pc := 94) (idx := 104) 10 (by decide) (by decide +kernel) ⟨rfl, rfl⟩ ?_
        refine ja_iload_n (pc := 96) (f := 3) (i := 3) 3 (by decide +kernel) rfl rfl ?_
        refine ja_iload (pc := 97) (i := 6) 6 (by decide +kernel) rfl ?_
        refine ja_iadd (pc := 99) (by decide +kernel) ?_
        refine ja_bind hf (fun v1 hv1 hf => ?_)
        refine ja_callTi (pc := 100) (idx := 111) (b := (1000 + 10)) (as := [.int (x3 + x6)]) (st := []) (by decide +kernel) kv_String_charAt lk_Model_111 ⟨by decide, by decide⟩ (c_String_charAt _ _ (1000 + 10) (x3 + x6) (ja_is_mk 10 (by decide)) hv1) (ja_is_mk 10 (by decide)) rfl (Nat.le_of_ble_eq_true rfl) rfl ?_
        refine ja_aload_n (pc := 103) (f := 0) (i := 0) 0 (by decide +kernel) rfl rfl ?_
        refine ja_getr (pc := 104) (idx := 32) (t := 8) (j := 10) (by decide +kernel) fd_Model_32 h0 (fr_8_10 h0) ?_
        refine ja_aload_n (pc := 107) (f := 0) (i := 0) 0 (by decide +kernel) rfl rfl ?_
        refine ja_geti (pc := 108) (idx := 80) (t := 8) (j := 13) (by decide +kernel) fd_Model_80 h0 ?_
        refine ja_iload (pc := 111) (i := 6) 6 (by decide +kernel) rfl ?_
        refine ja_iadd (pc := 113) (by decide +kernel) ?_
        refine ja_bind hf (fun v2 hv2 hf => ?_)
        refine ja_iald (pc := 114) (by decide +kernel) (fk_8_10 h0) hv2 ?_
        refine ja_icmp_ne (pc := 115) (off := 7) 122 (by decide +kernel) (by decide) hf (fun hf => ?_) (fun hf => ?_)
        · refine ja_iconst (pc := 122) (n := 0) (v := 0) (by decide +kernel) (by decide +kernel) ?_
          refine ja_istore (pc := 123) (i := 5) (lv' := [(5, .int (0 : Int32)), (0, .ref x0), (1, .int x1), (2, .int x2), (3, .int x3), (4, .int x4), (6, .int x6)]) (by decide +kernel) (by decide) rfl ?_
          refine ja_iinc (pc := 125) (i := 6) (n := 1) (v := x6 + 1) (lv' := [(6, .int (x6 + 1)), (5, .int (0 : Int32)), (0, .ref x0), (1, .int x1), (2, .int x2), (3, .int x3), (4, .int x4)]) 6 (by decide +kernel) rfl rfl (by decide) rfl ?_
          refine ja_goto (pc := 128) (off := (-45)) 83 (by decide +kernel) (by decide) ?_
          refine ja_lv [2, 3, 4, 5, 6, 1, 0] rfl ?_
          exact ih x0 x1 x2 x3 x4 (0 : Int32) (x6 + 1) v1.2 h0 hf
        · refine ja_iconst (pc := 118) (n := 1) (v := 1) (by decide +kernel) (by decide +kernel) ?_
          refine ja_goto (pc := 119) (off := 4) 123 (by decide +kernel) (by decide) ?_
          refine ja_istore (pc := 123) (i := 5) (lv' := [(5, .int (1 : Int32)), (0, .ref x0), (1, .int x1), (2, .int x2), (3, .int x3), (4, .int x4), (6, .int x6)]) (by decide +kernel) (by decide) rfl ?_
          refine ja_iinc (pc := 125) (i := 6) (n := 1) (v := x6 + 1) (lv' := [(6, .int (x6 + 1)), (5, .int (1 : Int32)), (0, .ref x0), (1, .int x1), (2, .int x2), (3, .int x3), (4, .int x4)]) 6 (by decide +kernel) rfl rfl (by decide) rfl ?_
          refine ja_goto (pc := 128) (off := (-45)) 83 (by decide +kernel) (by decide) ?_
          refine ja_lv [2, 3, 4, 5, 6, 1, 0] rfl ?_
          exact ih x0 x1 x2 x3 x4 (1 : Int32) (x6 + 1) v1.2 h0 hf
def f_Model_wordHere_L47 (k35 : Nat → Int32 → Int32 → Int32 → ja_S → Option (Int32 × ja_S)) : Nat → Nat → Int32 → Int32 → Int32 → Int32 → ja_S → Option (Int32 × ja_S)
  | 0, _, _, _, _, _, _ => none
  | n + 1, x0, x1, x2, x3, x4, sg => (f_String_charAt (1000 + 10) x4 sg).bind fun v1 => (if v1.1 = (32 : Int32) then (if (x4 - x3) = x1 then f_Model_wordHere_L83 k35 ja_FU x0 x1 x2 x3 x4 (1 : Int32) (0 : Int32) v1.2 else f_Model_wordHere_L83 k35 ja_FU x0 x1 x2 x3 x4 (0 : Int32) (0 : Int32) v1.2) else f_Model_wordHere_L47 k35 n x0 x1 x2 x3 (x4 + 1) v1.2)
set_option maxRecDepth 4000 in
theorem w_Model_wordHere_L47 (C : ja_C) {w : Int32 × ja_S} {k35 : Nat → Int32 → Int32 → Int32 → ja_S → Option (Int32 × ja_S)} (e35 : ∀ (x0 : Nat) (x1 : Int32) (x2 : Int32) (x3 : Int32) (sg : ja_S), ja_ob ja_L0 8 x0 → k35 x0 x1 x2 x3 sg = some w → ja_J M_Model_wordHere C 35 [(0, .ref x0), (1, .int x1), (2, .int x2), (3, .int x3)] [] ja_L0 sg (some (.int w.1), ja_L0, w.2))  (n : Nat) : ∀ (x0 : Nat) (x1 : Int32) (x2 : Int32) (x3 : Int32) (x4 : Int32) (sg : ja_S), ja_ob ja_L0 8 x0 → f_Model_wordHere_L47 k35 n x0 x1 x2 x3 x4 sg = some w → ja_J M_Model_wordHere C 47 [(0, .ref x0), (1, .int x1), (2, .int x2), (3, .int x3), (4, .int x4)] [] ja_L0 sg (some (.int w.1), ja_L0, w.2) := by
  induction n with
  | zero => intro _ _ _ _ _ _ _ hf; exact absurd (show (none : Option _) = some w from hf) (by simp)
  | succ n ih =>
    intro x0 x1 x2 x3 x4 sg h0 hf
    unfold f_Model_wordHere_L47 at hf
    refine ja_ldcs (pc := 47) (idx := 104) 10 (by decide) (by decide +kernel) ⟨rfl, rfl⟩ ?_
    refine ja_iload (pc := 49) (i := 4) 4 (by decide +kernel) rfl ?_
    refine ja_bind hf (fun v1 hv1 hf => ?_)
    refine ja_callTi (pc := 51) (idx := 111) (b := (1000 + 10)) (as := [.int x4]) (st := []) (by decide +kernel) kv_String_charAt lk_Model_111 ⟨by decide, by decide⟩ (c_String_charAt _ _ (1000 + 10) x4 (ja_is_mk 10 (by decide)) hv1) (ja_is_mk 10 (by decide)) rfl (Nat.le_of_ble_eq_true rfl) rfl ?_
    refine ja_bipush (pc := 54) (n := 32) (v := 32) (by decide +kernel) (by decide +kernel) ?_
    refine ja_icmp_eq (pc := 56) (off := 9) 65 (by decide +kernel) (by decide) hf (fun hf => ?_) (fun hf => ?_)
    · refine ja_iload (pc := 65) (i := 4) 4 (by decide +kernel) rfl ?_
      refine ja_iload_n (pc := 67) (f := 3) (i := 3) 3 (by decide +kernel) rfl rfl ?_
      refine ja_isub (pc := 68) (by decide +kernel) ?_
      refine ja_iload_n (pc := 69) (f := 1) (i := 1) 1 (by decide +kernel) rfl rfl ?_
      refine ja_icmp_ne (pc := 70) (off := 7) 77 (by decide +kernel) (by decide) hf (fun hf => ?_) (fun hf => ?_)
      · refine ja_iconst (pc := 77) (n := 0) (v := 0) (by decide +kernel) (by decide +kernel) ?_
        refine ja_istore (pc := 78) (i := 5) (lv' := [(5, .int (0 : Int32)), (0, .ref x0), (1, .int x1), (2, .int x2), (3, .int x3), (4, .int x4)]) (by decide +kernel) (by decide) rfl ?_
        refine ja_iconst (pc := 80) (n := 0) (v := 0) (by decide +kernel) (by decide +kernel) ?_
        refine ja_istore (pc := 81) (i := 6) (lv' := [(6, .int (0 : Int32)), (5, .int (0 : Int32)), (0, .ref x0), (1, .int x1), (2, .int x2), (3, .int x3), (4, .int x4)]) (by decide +kernel) (by decide) rfl ?_
        refine ja_lv [2, 3, 4, 5, 6, 1, 0] rfl ?_
        exact w_Model_wordHere_L83 C e35 ja_FU x0 x1 x2 x3 x4 (0 : Int32) (0 : Int32) v1.2 h0 hf
      · refine ja_iconst (pc := 73) (n := 1) (v := 1) (by decide +kernel) (by decide +kernel) ?_
        refine ja_goto (pc := 74) (off := 4) 78 (by decide +kernel) (by decide) ?_
        refine ja_istore (pc := 78) (i := 5) (lv' := [(5, .int (1 : Int32)), (0, .ref x0), (1, .int x1), (2, .int x2), (3, .int x3), (4, .int x4)]) (by decide +kernel) (by decide) rfl ?_
        refine ja_iconst (pc := 80) (n := 0) (v := 0) (by decide +kernel) (by decide +kernel) ?_
        refine ja_istore (pc := 81) (i := 6) (lv' := [(6, .int (0 : Int32)), (5, .int (1 : Int32)), (0, .ref x0), (1, .int x1), (2, .int x2), (3, .int x3), (4, .int x4)]) (by decide +kernel) (by decide) rfl ?_
        refine ja_lv [2, 3, 4, 5, 6, 1, 0] rfl ?_
        exact w_Model_wordHere_L83 C e35 ja_FU x0 x1 x2 x3 x4 (1 : Int32) (0 : Int32) v1.2 h0 hf
    · refine ja_iinc (pc := 59) (i := 4) (n := 1) (v := x4 + 1) (lv' := [(4, .int (x4 + 1)), (0, .ref x0), (1, .int x1), (2, .int x2), (3, .int x3)]) 4 (by decide +kernel) rfl rfl (by decide) rfl ?_
      refine ja_goto (pc := 62) (off := (-15)) 47 (by decide +kernel) (by decide) ?_
      refine ja_lv [1, 2, 3, 4, 0] rfl ?_
      exact ih x0 x1 x2 x3 (x4 + 1) v1.2 h0 hf
def f_Model_wordHere_L35  : Nat → Nat → Int32 → Int32 → Int32 → ja_S → Option (Int32 × ja_S)
  | 0, _, _, _, _, _ => none
  | n + 1, x0, x1, x2, x3, sg => (f_String_length (1000 + 10) sg).bind fun v1 => (if v1.1 ≤ x3 then some ((-1 : Int32), v1.2) else f_Model_wordHere_L47 (f_Model_wordHere_L35  n) ja_FU x0 x1 x2 x3 x3 v1.2)
set_option maxRecDepth 4000 in
theorem w_Model_wordHere_L35 (C : ja_C) {w : Int32 × ja_S}    (n : Nat) : ∀ (x0 : Nat) (x1 : Int32) (x2 : Int32) (x3 : Int32) (sg : ja_S), ja_ob ja_L0 8 x0 → f_Model_wordHere_L35  n x0 x1 x2 x3 sg = some w → ja_J M_Model_wordHere C 35 [(0, .ref x0), (1, .int x1), (2, .int x2), (3, .int x3)] [] ja_L0 sg (some (.int w.1), ja_L0, w.2) := by
  induction n with
  | zero => intro _ _ _ _ _ _ hf; exact absurd (show (none : Option _) = some w from hf) (by simp)
  | succ n ih =>
    intro x0 x1 x2 x3 sg h0 hf
    unfold f_Model_wordHere_L35 at hf
    refine ja_iload_n (pc := 35) (f := 3) (i := 3) 3 (by decide +kernel) rfl rfl ?_
    refine ja_ldcs (pc := 36) (idx := 104) 10 (by decide) (by decide +kernel) ⟨rfl, rfl⟩ ?_
    refine ja_bind hf (fun v1 hv1 hf => ?_)
    refine ja_callTi (pc := 38) (idx := 106) (b := (1000 + 10)) (as := []) (st := [.int x3]) (by decide +kernel) kv_String_length lk_Model_106 ⟨by decide, by decide⟩ (c_String_length _ _ (1000 + 10) (ja_is_mk 10 (by decide)) hv1) (ja_is_mk 10 (by decide)) rfl (Nat.le_of_ble_eq_true rfl) rfl ?_
    refine ja_icmp_ge (pc := 41) (off := 108) 149 (by decide +kernel) (by decide) hf (fun hf => ?_) (fun hf => ?_)
    · refine ja_iconst (pc := 149) (n := (-1)) (v := (-1)) (by decide +kernel) (by decide +kernel) ?_
      exact ja_ret (pc := 150) (some (.int (-1 : Int32))) .ireturn (by decide +kernel) rfl (ja_zi hf)
    · refine ja_iload_n (pc := 44) (f := 3) (i := 3) 3 (by decide +kernel) rfl rfl ?_
      refine ja_istore (pc := 45) (i := 4) (lv' := [(4, .int x3), (0, .ref x0), (1, .int x1), (2, .int x2), (3, .int x3)]) (by decide +kernel) (by decide) rfl ?_
      refine ja_lv [1, 2, 3, 4, 0] rfl ?_
      exact w_Model_wordHere_L47 C ih ja_FU x0 x1 x2 x3 x3 v1.2 h0 hf
def f_Model_wordHere (x0 : Nat) (sg : ja_S) : Option (Int32 × ja_S) := (if (sg.1 x0 14) = 0 then (f_Model_peek x0 sg).bind fun v1 => (f_Model_isIn ((v1.1 : Int32).toInt64) (97 : Int64) (122 : Int64) v1.2).bind fun v2 => (if v2.1 = 0 then some ((-1 : Int32), v2.2) else (f_Model_lettersHere x0 v2.2).bind fun v3 => f_Model_wordHere_L35  ja_FU x0 v3.1 (0 : Int32) (1 : Int32) v3.2) else some ((-1 : Int32), sg))
set_option maxRecDepth 4000 in
theorem c_Model_wordHere (l : Launch) (x : ja_X) (x0 : Nat) {sg : ja_S} {w : Int32 × ja_S} (h0 : ja_ob ja_L0 8 x0) (hf : f_Model_wordHere x0 sg = some w) : ja_Ct l x y_Model_wordHere M_Model_wordHere [.ref x0] ja_L0 sg (some (.int w.1), ja_L0, w.2) := by
  refine ja_mk ⟨by decide, rfl, rfl⟩ (Nat.le_of_ble_eq_true rfl) (lv := [(0, .ref x0)]) rfl (fun C hl hx _ _ _ _ => ?_)
  subst hl; subst hx
  unfold f_Model_wordHere at hf
  refine ja_aload_n (pc := 0) (f := 0) (i := 0) 0 (by decide +kernel) rfl rfl ?_
  refine ja_geti (pc := 1) (idx := 86) (t := 8) (j := 14) (by decide +kernel) fd_Model_86 h0 ?_
  refine ja_if_ne (pc := 4) (off := 20) 24 (by decide +kernel) (by decide) hf (fun hf => ?_) (fun hf => ?_)
  · refine ja_iconst (pc := 24) (n := (-1)) (v := (-1)) (by decide +kernel) (by decide +kernel) ?_
    exact ja_ret (pc := 25) (some (.int (-1 : Int32))) .ireturn (by decide +kernel) rfl (ja_zi hf)
  · refine ja_aload_n (pc := 7) (f := 0) (i := 0) 0 (by decide +kernel) rfl rfl ?_
    refine ja_bind hf (fun v1 hv1 hf => ?_)
    refine ja_callVi (pc := 8) (idx := 97) (t := 8) (b := x0) (as := []) (st := []) (by decide +kernel) kv_Model_peek lk_Model_97 ⟨by decide, by decide⟩ (c_Model_peek _ _ x0 h0 hv1) h0 rfl (Nat.le_of_ble_eq_true rfl) rfl ?_
    refine ja_i2l (pc := 11) (by decide +kernel) ?_
    refine ja_ldc2 (pc := 12) (idx := 89) (v := 97) (by decide +kernel) cl_Model_89 ?_
    refine ja_ldc2 (pc := 15) (idx := 91) (v := 122) (by decide +kernel) cl_Model_91 ?_
    refine ja_bind hf (fun v2 hv2 hf => ?_)
    refine ja_callSi (pc := 18) (idx := 93) (as := [.long ((v1.1 : Int32).toInt64), .long (97 : Int64), .long (122 : Int64)]) (st := []) (by decide +kernel) ks_Model_isIn lk_Model_93 ⟨by decide, by decide⟩ (c_Model_isIn _ _ ((v1.1 : Int32).toInt64) (97 : Int64) (122 : Int64)  hv2) rfl (Nat.le_of_ble_eq_true rfl) rfl ?_
    refine ja_if_ne (pc := 21) (off := 5) 26 (by decide +kernel) (by decide) hf (fun hf => ?_) (fun hf => ?_)
    · refine ja_aload_n (pc := 26) (f := 0) (i := 0) 0 (by decide +kernel) rfl rfl ?_
      refine ja_bind hf (fun v3 hv3 hf => ?_)
      refine ja_callVi (pc := 27) (idx := 101) (t := 8) (b := x0) (as := []) (st := []) (by decide +kernel) kv_Model_lettersHere lk_Model_101 ⟨by decide, by decide⟩ (c_Model_lettersHere _ _ x0 h0 hv3) h0 rfl (Nat.le_of_ble_eq_true rfl) rfl ?_
      refine ja_istore_n (pc := 30) (f := 1) (i := 1) (lv' := [(1, .int v3.1), (0, .ref x0)]) (by decide +kernel) rfl (by decide) rfl ?_
      refine ja_iconst (pc := 31) (n := 0) (v := 0) (by decide +kernel) (by decide +kernel) ?_
      refine ja_istore_n (pc := 32) (f := 2) (i := 2) (lv' := [(2, .int (0 : Int32)), (1, .int v3.1), (0, .ref x0)]) (by decide +kernel) rfl (by decide) rfl ?_
      refine ja_iconst (pc := 33) (n := 1) (v := 1) (by decide +kernel) (by decide +kernel) ?_
      refine ja_istore_n (pc := 34) (f := 3) (i := 3) (lv' := [(3, .int (1 : Int32)), (2, .int (0 : Int32)), (1, .int v3.1), (0, .ref x0)]) (by decide +kernel) rfl (by decide) rfl ?_
      refine ja_lv [3, 2, 1, 0] rfl ?_
      exact w_Model_wordHere_L35 C  ja_FU x0 v3.1 (0 : Int32) (1 : Int32) v3.2 h0 hf
    · refine ja_iconst (pc := 24) (n := (-1)) (v := (-1)) (by decide +kernel) (by decide +kernel) ?_
      exact ja_ret (pc := 25) (some (.int (-1 : Int32))) .ireturn (by decide +kernel) rfl (ja_zi hf)
def f_Model_passes_B53  (x0 : Nat) (x1 : Int32) (x3 : Int32) (sg : ja_S) : Option (Int32 × ja_S) := (if (sg.1 x0 14) = 0 then some (x3, sg) else some (x1, sg))
set_option maxRecDepth 4000 in
theorem w_Model_passes_B53 (C : ja_C) {w : Int32 × ja_S}    (x0 : Nat) (x1 : Int32) (x3 : Int32) (sg : ja_S) (h0 : ja_ob ja_L0 8 x0) (hf : f_Model_passes_B53  x0 x1 x3 sg = some w) : ja_J M_Model_passes C 53 [(0, .ref x0), (1, .int x1), (3, .int x3)] [] ja_L0 sg (some (.int w.1), ja_L0, w.2) := by
  unfold f_Model_passes_B53 at hf
  refine ja_aload_n (pc := 53) (f := 0) (i := 0) 0 (by decide +kernel) rfl rfl ?_
  refine ja_geti (pc := 54) (idx := 86) (t := 8) (j := 14) (by decide +kernel) fd_Model_86 h0 ?_
  refine ja_if_ne (pc := 57) (off := 7) 64 (by decide +kernel) (by decide) hf (fun hf => ?_) (fun hf => ?_)
  · refine ja_iload_n (pc := 64) (f := 1) (i := 1) 1 (by decide +kernel) rfl rfl ?_
    exact ja_ret (pc := 65) (some (.int x1)) .ireturn (by decide +kernel) rfl (ja_zi hf)
  · refine ja_iload_n (pc := 60) (f := 3) (i := 3) 2 (by decide +kernel) rfl rfl ?_
    refine ja_goto (pc := 61) (off := 4) 65 (by decide +kernel) (by decide) ?_
    exact ja_ret (pc := 65) (some (.int x3)) .ireturn (by decide +kernel) rfl (ja_zi hf)
def f_Model_passes_B33  (x0 : Nat) (x1 : Int32) (x3 : Int32) (sg : ja_S) : Option (Int32 × ja_S) := (if (sg.1 x0 14) = 0 then (f_Model_lettersHere x0 sg).bind fun v1 => (ja_pu v1.2 x0 13 ((sg.1 x0 13) + v1.1)).bind fun s2 => f_Model_passes_B53  x0 x1 x3 s2 else f_Model_passes_B53  x0 x1 x3 sg)
set_option maxRecDepth 4000 in
theorem w_Model_passes_B33 (C : ja_C) {w : Int32 × ja_S}    (x0 : Nat) (x1 : Int32) (x3 : Int32) (sg : ja_S) (h0 : ja_ob ja_L0 8 x0) (hf : f_Model_passes_B33  x0 x1 x3 sg = some w) : ja_J M_Model_passes C 33 [(0, .ref x0), (1, .int x1), (3, .int x3)] [] ja_L0 sg (some (.int w.1), ja_L0, w.2) := by
  unfold f_Model_passes_B33 at hf
  refine ja_aload_n (pc := 33) (f := 0) (i := 0) 0 (by decide +kernel) rfl rfl ?_
  refine ja_geti (pc := 34) (idx := 86) (t := 8) (j := 14) (by decide +kernel) fd_Model_86 h0 ?_
  refine ja_if_ne (pc := 37) (off := 16) 53 (by decide +kernel) (by decide) hf (fun hf => ?_) (fun hf => ?_)
  · exact w_Model_passes_B53 C  x0 x1 x3 sg h0 hf
  · refine ja_aload_n (pc := 40) (f := 0) (i := 0) 0 (by decide +kernel) rfl rfl ?_
    refine ja_dup (pc := 41) (by decide +kernel) rfl ?_
    refine ja_geti (pc := 42) (idx := 80) (t := 8) (j := 13) (by decide +kernel) fd_Model_80 h0 ?_
    refine ja_aload_n (pc := 45) (f := 0) (i := 0) 0 (by decide +kernel) rfl rfl ?_
    refine ja_bind hf (fun v1 hv1 hf => ?_)
    refine ja_callVi (pc := 46) (idx := 101) (t := 8) (b := x0) (as := []) (st := [.int (sg.1 x0 13), .ref x0]) (by decide +kernel) kv_Model_lettersHere lk_Model_101 ⟨by decide, by decide⟩ (c_Model_lettersHere _ _ x0 h0 hv1) h0 rfl (Nat.le_of_ble_eq_true rfl) rfl ?_
    refine ja_iadd (pc := 49) (by decide +kernel) ?_
    refine ja_bind hf (fun s2 hs2 hf => ?_)
    refine ja_puti2 (pc := 50) (idx := 80) (t := 8) (j := 13) (by decide +kernel) fd_Model_80 h0 ⟨rfl, rfl⟩ hs2 ?_
    exact w_Model_passes_B53 C  x0 x1 x3 s2 h0 hf
def f_Model_passes (x0 : Nat) (x1 : Int32) (x2 : Int32) (sg : ja_S) : Option (Int32 × ja_S) := (f_Model_wordHere x0 sg).bind fun v1 => (if (v1.2.1 x0 14) = 0 then (f_Model_isIn ((v1.1 : Int32).toInt64) ((x1 : Int32).toInt64) ((x2 : Int32).toInt64) v1.2).bind fun v2 => (if v2.1 = 0 then (f_Model_fails x0 (1 : Int32) (v2.2.1 x0 13) v2.2).bind fun v3 => f_Model_passes_B33  x0 x1 v1.1 v3 else f_Model_passes_B33  x0 x1 v1.1 v2.2) else f_Model_passes_B33  x0 x1 v1.1 v1.2)
set_option maxRecDepth 4000 in
theorem c_Model_passes (l : Launch) (x : ja_X) (x0 : Nat) (x1 : Int32) (x2 : Int32) {sg : ja_S} {w : Int32 × ja_S} (h0 : ja_ob ja_L0 8 x0) (hf : f_Model_passes x0 x1 x2 sg = some w) : ja_Ct l x y_Model_passes M_Model_passes [.ref x0, .int x1, .int x2] ja_L0 sg (some (.int w.1), ja_L0, w.2) := by
  refine ja_mk ⟨by decide, rfl, rfl⟩ (Nat.le_of_ble_eq_true rfl) (lv := [(0, .ref x0), (1, .int x1), (2, .int x2)]) rfl (fun C hl hx _ _ _ _ => ?_)
  subst hl; subst hx
  unfold f_Model_passes at hf
  refine ja_aload_n (pc := 0) (f := 0) (i := 0) 0 (by decide +kernel) rfl rfl ?_
  refine ja_bind hf (fun v1 hv1 hf => ?_)
  refine ja_callVi (pc := 1) (idx := 115) (t := 8) (b := x0) (as := []) (st := []) (by decide +kernel) kv_Model_wordHere lk_Model_115 ⟨by decide, by decide⟩ (c_Model_wordHere _ _ x0 h0 hv1) h0 rfl (Nat.le_of_ble_eq_true rfl) rfl ?_
  refine ja_istore_n (pc := 4) (f := 3) (i := 3) (lv' := [(3, .int v1.1), (0, .ref x0), (1, .int x1), (2, .int x2)]) (by decide +kernel) rfl (by decide) rfl ?_
  refine ja_aload_n (pc := 5) (f := 0) (i := 0) 1 (by decide +kernel) rfl rfl ?_
  refine ja_geti (pc := 6) (idx := 86) (t := 8) (j := 14) (by decide +kernel) fd_Model_86 h0 ?_
  refine ja_if_ne (pc := 9) (off := 24) 33 (by decide +kernel) (by decide) hf (fun hf => ?_) (fun hf => ?_)
  · refine ja_lv [1, 2, 0] rfl ?_
    exact w_Model_passes_B33 C  x0 x1 v1.1 v1.2 h0 hf
  · refine ja_iload_n (pc := 12) (f := 3) (i := 3) 0 (by decide +kernel) rfl rfl ?_
    refine ja_i2l (pc := 13) (by decide +kernel) ?_
    refine ja_iload_n (pc := 14) (f := 1) (i := 1) 2 (by decide +kernel) rfl rfl ?_
    refine ja_i2l (pc := 15) (by decide +kernel) ?_
    refine ja_iload_n (pc := 16) (f := 2) (i := 2) 3 (by decide +kernel) rfl rfl ?_
    refine ja_i2l (pc := 17) (by decide +kernel) ?_
    refine ja_bind hf (fun v2 hv2 hf => ?_)
    refine ja_callSi (pc := 18) (idx := 93) (as := [.long ((v1.1 : Int32).toInt64), .long ((x1 : Int32).toInt64), .long ((x2 : Int32).toInt64)]) (st := []) (by decide +kernel) ks_Model_isIn lk_Model_93 ⟨by decide, by decide⟩ (c_Model_isIn _ _ ((v1.1 : Int32).toInt64) ((x1 : Int32).toInt64) ((x2 : Int32).toInt64)  hv2) rfl (Nat.le_of_ble_eq_true rfl) rfl ?_
    refine ja_if_ne (pc := 21) (off := 12) 33 (by decide +kernel) (by decide) hf (fun hf => ?_) (fun hf => ?_)
    · refine ja_lv [1, 2, 0] rfl ?_
      exact w_Model_passes_B33 C  x0 x1 v1.1 v2.2 h0 hf
    · refine ja_aload_n (pc := 24) (f := 0) (i := 0) 1 (by decide +kernel) rfl rfl ?_
      refine ja_iconst (pc := 25) (n := 1) (v := 1) (by decide +kernel) (by decide +kernel) ?_
      refine ja_aload_n (pc := 26) (f := 0) (i := 0) 1 (by decide +kernel) rfl rfl ?_
      refine ja_geti (pc := 27) (idx := 80) (t := 8) (j := 13) (by decide +kernel) fd_Model_80 h0 ?_
      refine ja_bind hf (fun v3 hv3 hf => ?_)
      refine ja_callVv (pc := 30) (idx := 118) (t := 8) (b := x0) (as := [.int (1 : Int32), .int (v2.2.1 x0 13)]) (st := []) (by decide +kernel) kv_Model_fails lk_Model_118 ⟨by decide, by decide⟩ (c_Model_fails _ _ x0 (1 : Int32) (v2.2.1 x0 13) h0 hv3) h0 rfl (Nat.le_of_ble_eq_true rfl) rfl ?_
      refine ja_lv [1, 2, 0] rfl ?_
      exact w_Model_passes_B33 C  x0 x1 v1.1 v3 h0 hf
def f_Model_ruleLine_B135  (x0 : Nat) (x1 : Int32) (x2 : Int32) (x3 : Int32) (x4 : Int32) (sg : ja_S) : Option (ja_S) := (if (sg.1 x0 14) = 0 then (ja_st ja_L0 sg (ja_q x0 21) ((4 : Int32) * (sg.1 x0 18)) x2).bind fun s1 => (ja_st ja_L0 s1 (ja_q x0 21) (((4 : Int32) * (s1.1 x0 18)) + (1 : Int32)) x1).bind fun s2 => (ja_st ja_L0 s2 (ja_q x0 21) (((4 : Int32) * (s2.1 x0 18)) + (2 : Int32)) x3).bind fun s3 => (ja_st ja_L0 s3 (ja_q x0 21) (((4 : Int32) * (s3.1 x0 18)) + (3 : Int32)) x4).bind fun s4 => (ja_pu s4 x0 18 ((s4.1 x0 18) + (1 : Int32))).bind fun s5 => some s5 else some sg)
set_option maxRecDepth 4000 in
theorem w_Model_ruleLine_B135 (C : ja_C) {w : ja_S}    (x0 : Nat) (x1 : Int32) (x2 : Int32) (x3 : Int32) (x4 : Int32) (sg : ja_S) (h0 : ja_ob ja_L0 8 x0) (hf : f_Model_ruleLine_B135  x0 x1 x2 x3 x4 sg = some w) : ja_J M_Model_ruleLine C 135 [(0, .ref x0), (1, .int x1), (2, .int x2), (3, .int x3), (4, .int x4)] [] ja_L0 sg (none, ja_L0, w) := by
  unfold f_Model_ruleLine_B135 at hf
  refine ja_aload_n (pc := 135) (f := 0) (i := 0) 0 (by decide +kernel) rfl rfl ?_
  refine ja_geti (pc := 136) (idx := 86) (t := 8) (j := 14) (by decide +kernel) fd_Model_86 h0 ?_
  refine ja_if_eq (pc := 139) (off := 4) 143 (by decide +kernel) (by decide) hf (fun hf => ?_) (fun hf => ?_)
  · refine ja_aload_n (pc := 143) (f := 0) (i := 0) 0 (by decide +kernel) rfl rfl ?_
    refine ja_getr (pc := 144) (idx := 38) (t := 8) (j := 21) (by decide +kernel) fd_Model_38 h0 (fr_8_21 h0) ?_
    refine ja_iconst (pc := 147) (n := 4) (v := 4) (by decide +kernel) (by decide +kernel) ?_
    refine ja_aload_n (pc := 148) (f := 0) (i := 0) 0 (by decide +kernel) rfl rfl ?_
    refine ja_geti (pc := 149) (idx := 143) (t := 8) (j := 18) (by decide +kernel) fd_Model_143 h0 ?_
    refine ja_imul (pc := 152) (by decide +kernel) ?_
    refine ja_iload_n (pc := 153) (f := 2) (i := 2) 2 (by decide +kernel) rfl rfl ?_
    refine ja_bind hf (fun s1 hs1 hf => ?_)
    refine ja_iast (pc := 154) (by decide +kernel) (fk_8_21 h0) hs1 ?_
    refine ja_aload_n (pc := 155) (f := 0) (i := 0) 0 (by decide +kernel) rfl rfl ?_
    refine ja_getr (pc := 156) (idx := 38) (t := 8) (j := 21) (by decide +kernel) fd_Model_38 h0 (fr_8_21 h0) ?_
    refine ja_iconst (pc := 159) (n := 4) (v := 4) (by decide +kernel) (by decide +kernel) ?_
    refine ja_aload_n (pc := 160) (f := 0) (i := 0) 0 (by decide +kernel) rfl rfl ?_
    refine ja_geti (pc := 161) (idx := 143) (t := 8) (j := 18) (by decide +kernel) fd_Model_143 h0 ?_
    refine ja_imul (pc := 164) (by decide +kernel) ?_
    refine ja_iconst (pc := 165) (n := 1) (v := 1) (by decide +kernel) (by decide +kernel) ?_
    refine ja_iadd (pc := 166) (by decide +kernel) ?_
    refine ja_iload_n (pc := 167) (f := 1) (i := 1) 1 (by decide +kernel) rfl rfl ?_
    refine ja_bind hf (fun s2 hs2 hf => ?_)
    refine ja_iast (pc := 168) (by decide +kernel) (fk_8_21 h0) hs2 ?_
    refine ja_aload_n (pc := 169) (f := 0) (i := 0) 0 (by decide +kernel) rfl rfl ?_
    refine ja_getr (pc := 170) (idx := 38) (t := 8) (j := 21) (by decide +kernel) fd_Model_38 h0 (fr_8_21 h0) ?_
    refine ja_iconst (pc := 173) (n := 4) (v := 4) (by decide +kernel) (by decide +kernel) ?_
    refine ja_aload_n (pc := 174) (f := 0) (i := 0) 0 (by decide +kernel) rfl rfl ?_
    refine ja_geti (pc := 175) (idx := 143) (t := 8) (j := 18) (by decide +kernel) fd_Model_143 h0 ?_
    refine ja_imul (pc := 178) (by decide +kernel) ?_
    refine ja_iconst (pc := 179) (n := 2) (v := 2) (by decide +kernel) (by decide +kernel) ?_
    refine ja_iadd (pc := 180) (by decide +kernel) ?_
    refine ja_iload_n (pc := 181) (f := 3) (i := 3) 3 (by decide +kernel) rfl rfl ?_
    refine ja_bind hf (fun s3 hs3 hf => ?_)
    refine ja_iast (pc := 182) (by decide +kernel) (fk_8_21 h0) hs3 ?_
    refine ja_aload_n (pc := 183) (f := 0) (i := 0) 0 (by decide +kernel) rfl rfl ?_
    refine ja_getr (pc := 184) (idx := 38) (t := 8) (j := 21) (by decide +kernel) fd_Model_38 h0 (fr_8_21 h0) ?_
    refine ja_iconst (pc := 187) (n := 4) (v := 4) (by decide +kernel) (by decide +kernel) ?_
    refine ja_aload_n (pc := 188) (f := 0) (i := 0) 0 (by decide +kernel) rfl rfl ?_
    refine ja_geti (pc := 189) (idx := 143) (t := 8) (j := 18) (by decide +kernel) fd_Model_143 h0 ?_
    refine ja_imul (pc := 192) (by decide +kernel) ?_
    refine ja_iconst (pc := 193) (n := 3) (v := 3) (by decide +kernel) (by decide +kernel) ?_
    refine ja_iadd (pc := 194) (by decide +kernel) ?_
    refine ja_iload (pc := 195) (i := 4) 4 (by decide +kernel) rfl ?_
    refine ja_bind hf (fun s4 hs4 hf => ?_)
    refine ja_iast (pc := 197) (by decide +kernel) (fk_8_21 h0) hs4 ?_
    refine ja_aload_n (pc := 198) (f := 0) (i := 0) 0 (by decide +kernel) rfl rfl ?_
    refine ja_dup (pc := 199) (by decide +kernel) rfl ?_
    refine ja_geti (pc := 200) (idx := 143) (t := 8) (j := 18) (by decide +kernel) fd_Model_143 h0 ?_
    refine ja_iconst (pc := 203) (n := 1) (v := 1) (by decide +kernel) (by decide +kernel) ?_
    refine ja_iadd (pc := 204) (by decide +kernel) ?_
    refine ja_bind hf (fun s5 hs5 hf => ?_)
    refine ja_puti2 (pc := 205) (idx := 143) (t := 8) (j := 18) (by decide +kernel) fd_Model_143 h0 ⟨rfl, rfl⟩ hs5 ?_
    exact ja_ret (pc := 208) none .return_ (by decide +kernel) rfl (by cases hf; rfl)
  · exact ja_ret (pc := 142) none .return_ (by decide +kernel) rfl (by cases hf; rfl)
def f_Model_ruleLine_B117  (x0 : Nat) (x1 : Int32) (x2 : Int32) (x3 : Int32) (x5 : Int32) (sg : ja_S) : Option (ja_S) := (f_Model_passes x0 (7 : Int32) (8 : Int32) sg).bind fun v1 => f_Model_ruleLine_B135  x0 x1 x2 x3 ((((2 : Int32) * x5) + v1.1) - (7 : Int32)) v1.2
set_option maxRecDepth 4000 in
theorem w_Model_ruleLine_B117 (C : ja_C) {w : ja_S}    (x0 : Nat) (x1 : Int32) (x2 : Int32) (x3 : Int32) (x5 : Int32) (sg : ja_S) (h0 : ja_ob ja_L0 8 x0) (hf : f_Model_ruleLine_B117  x0 x1 x2 x3 x5 sg = some w) : ja_J M_Model_ruleLine C 117 [(0, .ref x0), (1, .int x1), (2, .int x2), (3, .int x3), (5, .int x5)] [] ja_L0 sg (none, ja_L0, w) := by
  unfold f_Model_ruleLine_B117 at hf
  refine ja_iconst (pc := 117) (n := 2) (v := 2) (by decide +kernel) (by decide +kernel) ?_
  refine ja_iload (pc := 118) (i := 5) 4 (by decide +kernel) rfl ?_
  refine ja_imul (pc := 120) (by decide +kernel) ?_
  refine ja_aload_n (pc := 121) (f := 0) (i := 0) 0 (by decide +kernel) rfl rfl ?_
  refine ja_bipush (pc := 122) (n := 7) (v := 7) (by decide +kernel) (by decide +kernel) ?_
  refine ja_bipush (pc := 124) (n := 8) (v := 8) (by decide +kernel) (by decide +kernel) ?_
  refine ja_bind hf (fun v1 hv1 hf => ?_)
  refine ja_callVi (pc := 126) (idx := 146) (t := 8) (b := x0) (as := [.int (7 : Int32), .int (8 : Int32)]) (st := [.int ((2 : Int32) * x5)]) (by decide +kernel) kv_Model_passes lk_Model_146 ⟨by decide, by decide⟩ (c_Model_passes _ _ x0 (7 : Int32) (8 : Int32) h0 hv1) h0 rfl (Nat.le_of_ble_eq_true rfl) rfl ?_
  refine ja_iadd (pc := 129) (by decide +kernel) ?_
  refine ja_bipush (pc := 130) (n := 7) (v := 7) (by decide +kernel) (by decide +kernel) ?_
  refine ja_isub (pc := 132) (by decide +kernel) ?_
  refine ja_istore (pc := 133) (i := 4) (lv' := [(4, .int ((((2 : Int32) * x5) + v1.1) - (7 : Int32))), (0, .ref x0), (1, .int x1), (2, .int x2), (3, .int x3), (5, .int x5)]) (by decide +kernel) (by decide) rfl ?_
  refine ja_lv [1, 2, 3, 4, 0] rfl ?_
  exact w_Model_ruleLine_B135 C  x0 x1 x2 x3 ((((2 : Int32) * x5) + v1.1) - (7 : Int32)) v1.2 h0 hf
def f_Model_ruleLine_B108  (x0 : Nat) (x1 : Int32) (x2 : Int32) (x3 : Int32) (x5 : Int32) (sg : ja_S) : Option (ja_S) := (f_Model_fails x0 (3 : Int32) (sg.1 x0 16) sg).bind fun v1 => f_Model_ruleLine_B117  x0 x1 x2 x3 x5 v1
set_option maxRecDepth 4000 in
theorem w_Model_ruleLine_B108 (C : ja_C) {w : ja_S}    (x0 : Nat) (x1 : Int32) (x2 : Int32) (x3 : Int32) (x5 : Int32) (sg : ja_S) (h0 : ja_ob ja_L0 8 x0) (hf : f_Model_ruleLine_B108  x0 x1 x2 x3 x5 sg = some w) : ja_J M_Model_ruleLine C 108 [(0, .ref x0), (1, .int x1), (2, .int x2), (3, .int x3), (5, .int x5)] [] ja_L0 sg (none, ja_L0, w) := by
  unfold f_Model_ruleLine_B108 at hf
  refine ja_aload_n (pc := 108) (f := 0) (i := 0) 0 (by decide +kernel) rfl rfl ?_
  refine ja_iconst (pc := 109) (n := 3) (v := 3) (by decide +kernel) (by decide +kernel) ?_
  refine ja_aload_n (pc := 110) (f := 0) (i := 0) 0 (by decide +kernel) rfl rfl ?_
  refine ja_geti (pc := 111) (idx := 130) (t := 8) (j := 16) (by decide +kernel) fd_Model_130 h0 ?_
  refine ja_bind hf (fun v1 hv1 hf => ?_)
  refine ja_callVv (pc := 114) (idx := 118) (t := 8) (b := x0) (as := [.int (3 : Int32), .int (sg.1 x0 16)]) (st := []) (by decide +kernel) kv_Model_fails lk_Model_118 ⟨by decide, by decide⟩ (c_Model_fails _ _ x0 (3 : Int32) (sg.1 x0 16) h0 hv1) h0 rfl (Nat.le_of_ble_eq_true rfl) rfl ?_
  exact w_Model_ruleLine_B117 C  x0 x1 x2 x3 x5 v1 h0 hf
def f_Model_ruleLine_B59  (x0 : Nat) (x1 : Int32) (x2 : Int32) (x3 : Int32) (sg : ja_S) : Option (ja_S) := (f_Model_wordHere x0 sg).bind fun v1 => (if v1.1 = (3 : Int32) then (f_Model_lettersHere x0 v1.2).bind fun v2 => (ja_pu v2.2 x0 13 ((v1.2.1 x0 13) + v2.1)).bind fun s3 => (f_Model_lever x0 s3).bind fun v4 => (if (v4.2.1 x0 14) = 0 then (if v4.1 = x1 then f_Model_ruleLine_B108  x0 x1 x2 x3 v4.1 v4.2 else (if v4.1 = x3 then f_Model_ruleLine_B108  x0 x1 x2 x3 v4.1 v4.2 else f_Model_ruleLine_B117  x0 x1 x2 x3 v4.1 v4.2)) else f_Model_ruleLine_B117  x0 x1 x2 x3 v4.1 v4.2) else f_Model_ruleLine_B135  x0 x1 x2 x3 (-1 : Int32) v1.2)
set_option maxRecDepth 4000 in
theorem w_Model_ruleLine_B59 (C : ja_C) {w : ja_S}    (x0 : Nat) (x1 : Int32) (x2 : Int32) (x3 : Int32) (sg : ja_S) (h0 : ja_ob ja_L0 8 x0) (hf : f_Model_ruleLine_B59  x0 x1 x2 x3 sg = some w) : ja_J M_Model_ruleLine C 59 [(0, .ref x0), (1, .int x1), (2, .int x2), (3, .int x3)] [] ja_L0 sg (none, ja_L0, w) := by
  unfold f_Model_ruleLine_B59 at hf
  refine ja_iconst (pc := 59) (n := (-1)) (v := (-1)) (by decide +kernel) (by decide +kernel) ?_
  refine ja_istore (pc := 60) (i := 4) (lv' := [(4, .int (-1 : Int32)), (0, .ref x0), (1, .int x1), (2, .int x2), (3, .int x3)]) (by decide +kernel) (by decide) rfl ?_
  refine ja_aload_n (pc := 62) (f := 0) (i := 0) 1 (by decide +kernel) rfl rfl ?_
  refine ja_bind hf (fun v1 hv1 hf => ?_)
  refine ja_callVi (pc := 63) (idx := 115) (t := 8) (b := x0) (as := []) (st := []) (by decide +kernel) kv_Model_wordHere lk_Model_115 ⟨by decide, by decide⟩ (c_Model_wordHere _ _ x0 h0 hv1) h0 rfl (Nat.le_of_ble_eq_true rfl) rfl ?_
  refine ja_iconst (pc := 66) (n := 3) (v := 3) (by decide +kernel) (by decide +kernel) ?_
  refine ja_icmp_ne (pc := 67) (off := 68) 135 (by decide +kernel) (by decide) hf (fun hf => ?_) (fun hf => ?_)
  · refine ja_lv [1, 2, 3, 4, 0] rfl ?_
    exact w_Model_ruleLine_B135 C  x0 x1 x2 x3 (-1 : Int32) v1.2 h0 hf
  · refine ja_aload_n (pc := 70) (f := 0) (i := 0) 1 (by decide +kernel) rfl rfl ?_
    refine ja_dup (pc := 71) (by decide +kernel) rfl ?_
    refine ja_geti (pc := 72) (idx := 80) (t := 8) (j := 13) (by decide +kernel) fd_Model_80 h0 ?_
    refine ja_aload_n (pc := 75) (f := 0) (i := 0) 1 (by decide +kernel) rfl rfl ?_
    refine ja_bind hf (fun v2 hv2 hf => ?_)
    refine ja_callVi (pc := 76) (idx := 101) (t := 8) (b := x0) (as := []) (st := [.int (v1.2.1 x0 13), .ref x0]) (by decide +kernel) kv_Model_lettersHere lk_Model_101 ⟨by decide, by decide⟩ (c_Model_lettersHere _ _ x0 h0 hv2) h0 rfl (Nat.le_of_ble_eq_true rfl) rfl ?_
    refine ja_iadd (pc := 79) (by decide +kernel) ?_
    refine ja_bind hf (fun s3 hs3 hf => ?_)
    refine ja_puti2 (pc := 80) (idx := 80) (t := 8) (j := 13) (by decide +kernel) fd_Model_80 h0 ⟨rfl, rfl⟩ hs3 ?_
    refine ja_aload_n (pc := 83) (f := 0) (i := 0) 1 (by decide +kernel) rfl rfl ?_
    refine ja_bind hf (fun v4 hv4 hf => ?_)
    refine ja_callVi (pc := 84) (idx := 140) (t := 8) (b := x0) (as := []) (st := []) (by decide +kernel) kv_Model_lever lk_Model_140 ⟨by decide, by decide⟩ (c_Model_lever _ _ x0 h0 hv4) h0 rfl (Nat.le_of_ble_eq_true rfl) rfl ?_
    refine ja_istore (pc := 87) (i := 5) (lv' := [(5, .int v4.1), (4, .int (-1 : Int32)), (0, .ref x0), (1, .int x1), (2, .int x2), (3, .int x3)]) (by decide +kernel) (by decide) rfl ?_
    refine ja_aload_n (pc := 89) (f := 0) (i := 0) 2 (by decide +kernel) rfl rfl ?_
    refine ja_geti (pc := 90) (idx := 86) (t := 8) (j := 14) (by decide +kernel) fd_Model_86 h0 ?_
    refine ja_if_ne (pc := 93) (off := 24) 117 (by decide +kernel) (by decide) hf (fun hf => ?_) (fun hf => ?_)
    · refine ja_lv [2, 3, 4, 5, 0] rfl ?_
      exact w_Model_ruleLine_B117 C  x0 x1 x2 x3 v4.1 v4.2 h0 hf
    · refine ja_iload (pc := 96) (i := 5) 0 (by decide +kernel) rfl ?_
      refine ja_iload_n (pc := 98) (f := 1) (i := 1) 3 (by decide +kernel) rfl rfl ?_
      refine ja_icmp_eq (pc := 99) (off := 9) 108 (by decide +kernel) (by decide) hf (fun hf => ?_) (fun hf => ?_)
      · refine ja_lv [2, 3, 4, 5, 0] rfl ?_
        exact w_Model_ruleLine_B108 C  x0 x1 x2 x3 v4.1 v4.2 h0 hf
      · refine ja_iload (pc := 102) (i := 5) 0 (by decide +kernel) rfl ?_
        refine ja_iload_n (pc := 104) (f := 3) (i := 3) 5 (by decide +kernel) rfl rfl ?_
        refine ja_icmp_ne (pc := 105) (off := 12) 117 (by decide +kernel) (by decide) hf (fun hf => ?_) (fun hf => ?_)
        · refine ja_lv [2, 3, 4, 5, 0] rfl ?_
          exact w_Model_ruleLine_B117 C  x0 x1 x2 x3 v4.1 v4.2 h0 hf
        · refine ja_lv [2, 3, 4, 5, 0] rfl ?_
          exact w_Model_ruleLine_B108 C  x0 x1 x2 x3 v4.1 v4.2 h0 hf
def f_Model_ruleLine_B23  (x0 : Nat) (x1 : Int32) (sg : ja_S) : Option (ja_S) := (f_Model_passes x0 (4 : Int32) (6 : Int32) sg).bind fun v1 => (f_Model_lever x0 v1.2).bind fun v2 => (if (v2.2.1 x0 14) = 0 then (if v2.1 = x1 then (f_Model_fails x0 (3 : Int32) (v2.2.1 x0 16) v2.2).bind fun v3 => f_Model_ruleLine_B59  x0 x1 (v1.1 - (4 : Int32)) v2.1 v3 else f_Model_ruleLine_B59  x0 x1 (v1.1 - (4 : Int32)) v2.1 v2.2) else f_Model_ruleLine_B59  x0 x1 (v1.1 - (4 : Int32)) v2.1 v2.2)
set_option maxRecDepth 4000 in
theorem w_Model_ruleLine_B23 (C : ja_C) {w : ja_S}    (x0 : Nat) (x1 : Int32) (sg : ja_S) (h0 : ja_ob ja_L0 8 x0) (hf : f_Model_ruleLine_B23  x0 x1 sg = some w) : ja_J M_Model_ruleLine C 23 [(0, .ref x0), (1, .int x1)] [] ja_L0 sg (none, ja_L0, w) := by
  unfold f_Model_ruleLine_B23 at hf
  refine ja_aload_n (pc := 23) (f := 0) (i := 0) 0 (by decide +kernel) rfl rfl ?_
  refine ja_iconst (pc := 24) (n := 4) (v := 4) (by decide +kernel) (by decide +kernel) ?_
  refine ja_bipush (pc := 25) (n := 6) (v := 6) (by decide +kernel) (by decide +kernel) ?_
  refine ja_bind hf (fun v1 hv1 hf => ?_)
  refine ja_callVi (pc := 27) (idx := 146) (t := 8) (b := x0) (as := [.int (4 : Int32), .int (6 : Int32)]) (st := []) (by decide +kernel) kv_Model_passes lk_Model_146 ⟨by decide, by decide⟩ (c_Model_passes _ _ x0 (4 : Int32) (6 : Int32) h0 hv1) h0 rfl (Nat.le_of_ble_eq_true rfl) rfl ?_
  refine ja_iconst (pc := 30) (n := 4) (v := 4) (by decide +kernel) (by decide +kernel) ?_
  refine ja_isub (pc := 31) (by decide +kernel) ?_
  refine ja_istore_n (pc := 32) (f := 2) (i := 2) (lv' := [(2, .int (v1.1 - (4 : Int32))), (0, .ref x0), (1, .int x1)]) (by decide +kernel) rfl (by decide) rfl ?_
  refine ja_aload_n (pc := 33) (f := 0) (i := 0) 1 (by decide +kernel) rfl rfl ?_
  refine ja_bind hf (fun v2 hv2 hf => ?_)
  refine ja_callVi (pc := 34) (idx := 140) (t := 8) (b := x0) (as := []) (st := []) (by decide +kernel) kv_Model_lever lk_Model_140 ⟨by decide, by decide⟩ (c_Model_lever _ _ x0 h0 hv2) h0 rfl (Nat.le_of_ble_eq_true rfl) rfl ?_
  refine ja_istore_n (pc := 37) (f := 3) (i := 3) (lv' := [(3, .int v2.1), (2, .int (v1.1 - (4 : Int32))), (0, .ref x0), (1, .int x1)]) (by decide +kernel) rfl (by decide) rfl ?_
  refine ja_aload_n (pc := 38) (f := 0) (i := 0) 2 (by decide +kernel) rfl rfl ?_
  refine ja_geti (pc := 39) (idx := 86) (t := 8) (j := 14) (by decide +kernel) fd_Model_86 h0 ?_
  refine ja_if_ne (pc := 42) (off := 17) 59 (by decide +kernel) (by decide) hf (fun hf => ?_) (fun hf => ?_)
  · refine ja_lv [2, 3, 1, 0] rfl ?_
    exact w_Model_ruleLine_B59 C  x0 x1 (v1.1 - (4 : Int32)) v2.1 v2.2 h0 hf
  · refine ja_iload_n (pc := 45) (f := 3) (i := 3) 0 (by decide +kernel) rfl rfl ?_
    refine ja_iload_n (pc := 46) (f := 1) (i := 1) 3 (by decide +kernel) rfl rfl ?_
    refine ja_icmp_ne (pc := 47) (off := 12) 59 (by decide +kernel) (by decide) hf (fun hf => ?_) (fun hf => ?_)
    · refine ja_lv [2, 3, 1, 0] rfl ?_
      exact w_Model_ruleLine_B59 C  x0 x1 (v1.1 - (4 : Int32)) v2.1 v2.2 h0 hf
    · refine ja_aload_n (pc := 50) (f := 0) (i := 0) 2 (by decide +kernel) rfl rfl ?_
      refine ja_iconst (pc := 51) (n := 3) (v := 3) (by decide +kernel) (by decide +kernel) ?_
      refine ja_aload_n (pc := 52) (f := 0) (i := 0) 2 (by decide +kernel) rfl rfl ?_
      refine ja_geti (pc := 53) (idx := 130) (t := 8) (j := 16) (by decide +kernel) fd_Model_130 h0 ?_
      refine ja_bind hf (fun v3 hv3 hf => ?_)
      refine ja_callVv (pc := 56) (idx := 118) (t := 8) (b := x0) (as := [.int (3 : Int32), .int (v2.2.1 x0 16)]) (st := []) (by decide +kernel) kv_Model_fails lk_Model_118 ⟨by decide, by decide⟩ (c_Model_fails _ _ x0 (3 : Int32) (v2.2.1 x0 16) h0 hv3) h0 rfl (Nat.le_of_ble_eq_true rfl) rfl ?_
      refine ja_lv [2, 3, 1, 0] rfl ?_
      exact w_Model_ruleLine_B59 C  x0 x1 (v1.1 - (4 : Int32)) v2.1 v3 h0 hf
def f_Model_ruleLine (x0 : Nat) (sg : ja_S) : Option (ja_S) := (f_Model_lever x0 sg).bind fun v1 => (if (v1.2.1 x0 18) = (24 : Int32) then (f_Model_fails x0 (4 : Int32) (v1.2.1 x0 16) v1.2).bind fun v2 => f_Model_ruleLine_B23  x0 v1.1 v2 else f_Model_ruleLine_B23  x0 v1.1 v1.2)
set_option maxRecDepth 4000 in
theorem c_Model_ruleLine (l : Launch) (x : ja_X) (x0 : Nat) {sg : ja_S} {w : ja_S} (h0 : ja_ob ja_L0 8 x0) (hf : f_Model_ruleLine x0 sg = some w) : ja_Ct l x y_Model_ruleLine M_Model_ruleLine [.ref x0] ja_L0 sg (none, ja_L0, w) := by
  refine ja_mk ⟨by decide, rfl, rfl⟩ (Nat.le_of_ble_eq_true rfl) (lv := [(0, .ref x0)]) rfl (fun C hl hx _ _ _ _ => ?_)
  subst hl; subst hx
  unfold f_Model_ruleLine at hf
  refine ja_aload_n (pc := 0) (f := 0) (i := 0) 0 (by decide +kernel) rfl rfl ?_
  refine ja_bind hf (fun v1 hv1 hf => ?_)
  refine ja_callVi (pc := 1) (idx := 140) (t := 8) (b := x0) (as := []) (st := []) (by decide +kernel) kv_Model_lever lk_Model_140 ⟨by decide, by decide⟩ (c_Model_lever _ _ x0 h0 hv1) h0 rfl (Nat.le_of_ble_eq_true rfl) rfl ?_
  refine ja_istore_n (pc := 4) (f := 1) (i := 1) (lv' := [(1, .int v1.1), (0, .ref x0)]) (by decide +kernel) rfl (by decide) rfl ?_
  refine ja_aload_n (pc := 5) (f := 0) (i := 0) 1 (by decide +kernel) rfl rfl ?_
  refine ja_geti (pc := 6) (idx := 143) (t := 8) (j := 18) (by decide +kernel) fd_Model_143 h0 ?_
  refine ja_bipush (pc := 9) (n := 24) (v := 24) (by decide +kernel) (by decide +kernel) ?_
  refine ja_icmp_ne (pc := 11) (off := 12) 23 (by decide +kernel) (by decide) hf (fun hf => ?_) (fun hf => ?_)
  · refine ja_lv [1, 0] rfl ?_
    exact w_Model_ruleLine_B23 C  x0 v1.1 v1.2 h0 hf
  · refine ja_aload_n (pc := 14) (f := 0) (i := 0) 1 (by decide +kernel) rfl rfl ?_
    refine ja_iconst (pc := 15) (n := 4) (v := 4) (by decide +kernel) (by decide +kernel) ?_
    refine ja_aload_n (pc := 16) (f := 0) (i := 0) 1 (by decide +kernel) rfl rfl ?_
    refine ja_geti (pc := 17) (idx := 130) (t := 8) (j := 16) (by decide +kernel) fd_Model_130 h0 ?_
    refine ja_bind hf (fun v2 hv2 hf => ?_)
    refine ja_callVv (pc := 20) (idx := 118) (t := 8) (b := x0) (as := [.int (4 : Int32), .int (v1.2.1 x0 16)]) (st := []) (by decide +kernel) kv_Model_fails lk_Model_118 ⟨by decide, by decide⟩ (c_Model_fails _ _ x0 (4 : Int32) (v1.2.1 x0 16) h0 hv2) h0 rfl (Nat.le_of_ble_eq_true rfl) rfl ?_
    refine ja_lv [1, 0] rfl ?_
    exact w_Model_ruleLine_B23 C  x0 v1.1 v2 h0 hf
