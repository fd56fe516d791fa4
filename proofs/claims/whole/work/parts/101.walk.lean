def f_Frame_forgetFindings (x0 : Nat) (sg : ja_S) : Option (ja_S) := (ja_pu sg x0 8 (0 : Int32)).bind fun s1 => (f_LockPlanner_forget (ja_q x0 10) s1).bind fun v2 => (ja_pu v2 x0 11 (0 : Int32)).bind fun s3 => some s3
set_option maxRecDepth 4000 in
theorem c_Frame_forgetFindings (l : Launch) (x : ja_X) (x0 : Nat) {sg : ja_S} {w : ja_S} (h0 : ja_ob ja_L0 7 x0) (hf : f_Frame_forgetFindings x0 sg = some w) : ja_Ct l x y_Frame_forgetFindings M_Frame_forgetFindings [.ref x0] ja_L0 sg (none, ja_L0, w) := by
  refine ja_mk ⟨by decide, rfl, rfl⟩ (Nat.le_of_ble_eq_true rfl) (lv := [(0, .ref x0)]) rfl (fun C hl hx _ _ _ _ => ?_)
  subst hl; subst hx
  unfold f_Frame_forgetFindings at hf
  refine ja_aload_n (pc := 0) (f := 0) (i := 0) 0 (by decide +kernel) rfl rfl ?_
  refine ja_iconst (pc := 1) (n := 0) (v := 0) (by decide +kernel) (by decide +kernel) ?_
  refine ja_bind hf (fun s1 hs1 hf => ?_)
  refine ja_puti2 (pc := 2) (idx := 44) (t := 7) (j := 8) (by decide +kernel) fd_Frame_44 h0 ⟨rfl, rfl⟩ hs1 ?_
  refine ja_aload_n (pc := 5) (f := 0) (i := 0) 0 (by decide +kernel) rfl rfl ?_
  refine ja_getr (pc := 6) (idx := 54) (t := 7) (j := 10) (by decide +kernel) fd_Frame_54 h0 (fr_7_10 h0) ?_
  refine ja_bind hf (fun v2 hv2 hf => ?_)
  refine ja_callVv (pc := 9) (idx := 285) (t := 1) (b := (ja_q x0 10)) (as := []) (st := []) (by decide +kernel) kv_LockPlanner_forget lk_Frame_285 ⟨by decide, by decide⟩ (c_LockPlanner_forget _ _ (ja_q x0 10) (fk_7_10 h0) hv2) (fk_7_10 h0) rfl (Nat.le_of_ble_eq_true rfl) rfl ?_
  refine ja_aload_n (pc := 12) (f := 0) (i := 0) 0 (by decide +kernel) rfl rfl ?_
  refine ja_iconst (pc := 13) (n := 0) (v := 0) (by decide +kernel) (by decide +kernel) ?_
  refine ja_bind hf (fun s3 hs3 hf => ?_)
  refine ja_puti2 (pc := 14) (idx := 65) (t := 7) (j := 11) (by decide +kernel) fd_Frame_65 h0 ⟨rfl, rfl⟩ hs3 ?_
  exact ja_ret (pc := 17) none .return_ (by decide +kernel) rfl (by cases hf; rfl)
def f_Frame_parseError (x0 : Nat) (sg : ja_S) : Option (Int32 × ja_S) := some (sg.1 (ja_q x0 2) 0, sg)
set_option maxRecDepth 4000 in
theorem c_Frame_parseError (l : Launch) (x : ja_X) (x0 : Nat) {sg : ja_S} {w : Int32 × ja_S} (h0 : ja_ob ja_L0 7 x0) (hf : f_Frame_parseError x0 sg = some w) : ja_Ct l x y_Frame_parseError M_Frame_parseError [.ref x0] ja_L0 sg (some (.int w.1), ja_L0, w.2) := by
  refine ja_mk ⟨by decide, rfl, rfl⟩ (Nat.le_of_ble_eq_true rfl) (lv := [(0, .ref x0)]) rfl (fun C hl hx _ _ _ _ => ?_)
  subst hl; subst hx
  unfold f_Frame_parseError at hf
  refine ja_aload_n (pc := 0) (f := 0) (i := 0) 0 (by decide +kernel) rfl rfl ?_
  refine ja_getr (pc := 1) (idx := 10) (t := 7) (j := 2) (by decide +kernel) fd_Frame_10 h0 (fr_7_2 h0) ?_
  refine ja_geti (pc := 4) (idx := 82) (t := 6) (j := 0) (by decide +kernel) fd_Frame_82 (fk_7_2 h0) ?_
  exact ja_ret (pc := 7) (some (.int (sg.1 (ja_q x0 2) 0))) .ireturn (by decide +kernel) rfl (by cases hf; rfl)
def f_Frame_parseErrorOffset (x0 : Nat) (sg : ja_S) : Option (Int32 × ja_S) := some (sg.1 (ja_q x0 2) 1, sg)
set_option maxRecDepth 4000 in
theorem c_Frame_parseErrorOffset (l : Launch) (x : ja_X) (x0 : Nat) {sg : ja_S} {w : Int32 × ja_S} (h0 : ja_ob ja_L0 7 x0) (hf : f_Frame_parseErrorOffset x0 sg = some w) : ja_Ct l x y_Frame_parseErrorOffset M_Frame_parseErrorOffset [.ref x0] ja_L0 sg (some (.int w.1), ja_L0, w.2) := by
  refine ja_mk ⟨by decide, rfl, rfl⟩ (Nat.le_of_ble_eq_true rfl) (lv := [(0, .ref x0)]) rfl (fun C hl hx _ _ _ _ => ?_)
  subst hl; subst hx
  unfold f_Frame_parseErrorOffset at hf
  refine ja_aload_n (pc := 0) (f := 0) (i := 0) 0 (by decide +kernel) rfl rfl ?_
  refine ja_getr (pc := 1) (idx := 10) (t := 7) (j := 2) (by decide +kernel) fd_Frame_10 h0 (fr_7_2 h0) ?_
  refine ja_geti (pc := 4) (idx := 104) (t := 6) (j := 1) (by decide +kernel) fd_Frame_104 (fk_7_2 h0) ?_
  exact ja_ret (pc := 7) (some (.int (sg.1 (ja_q x0 2) 1))) .ireturn (by decide +kernel) rfl (by cases hf; rfl)
def f_Frame_bufferLength (x0 : Nat) (sg : ja_S) : Option (Int32 × ja_S) := some (sg.1 (ja_q x0 2) 6, sg)
set_option maxRecDepth 4000 in
theorem c_Frame_bufferLength (l : Launch) (x : ja_X) (x0 : Nat) {sg : ja_S} {w : Int32 × ja_S} (h0 : ja_ob ja_L0 7 x0) (hf : f_Frame_bufferLength x0 sg = some w) : ja_Ct l x y_Frame_bufferLength M_Frame_bufferLength [.ref x0] ja_L0 sg (some (.int w.1), ja_L0, w.2) := by
  refine ja_mk ⟨by decide, rfl, rfl⟩ (Nat.le_of_ble_eq_true rfl) (lv := [(0, .ref x0)]) rfl (fun C hl hx _ _ _ _ => ?_)
  subst hl; subst hx
  unfold f_Frame_bufferLength at hf
  refine ja_aload_n (pc := 0) (f := 0) (i := 0) 0 (by decide +kernel) rfl rfl ?_
  refine ja_getr (pc := 1) (idx := 10) (t := 7) (j := 2) (by decide +kernel) fd_Frame_10 h0 (fr_7_2 h0) ?_
  refine ja_geti (pc := 4) (idx := 71) (t := 6) (j := 6) (by decide +kernel) fd_Frame_71 (fk_7_2 h0) ?_
  exact ja_ret (pc := 7) (some (.int (sg.1 (ja_q x0 2) 6))) .ireturn (by decide +kernel) rfl (by cases hf; rfl)
def f_Frame_leverCount (x0 : Nat) (sg : ja_S) : Option (Int32 × ja_S) := some (sg.1 (ja_q x0 3) 0, sg)
set_option maxRecDepth 4000 in
theorem c_Frame_leverCount (l : Launch) (x : ja_X) (x0 : Nat) {sg : ja_S} {w : Int32 × ja_S} (h0 : ja_ob ja_L0 7 x0) (hf : f_Frame_leverCount x0 sg = some w) : ja_Ct l x y_Frame_leverCount M_Frame_leverCount [.ref x0] ja_L0 sg (some (.int w.1), ja_L0, w.2) := by
  refine ja_mk ⟨by decide, rfl, rfl⟩ (Nat.le_of_ble_eq_true rfl) (lv := [(0, .ref x0)]) rfl (fun C hl hx _ _ _ _ => ?_)
  subst hl; subst hx
  unfold f_Frame_leverCount at hf
  refine ja_aload_n (pc := 0) (f := 0) (i := 0) 0 (by decide +kernel) rfl rfl ?_
  refine ja_getr (pc := 1) (idx := 19) (t := 7) (j := 3) (by decide +kernel) fd_Frame_19 h0 (fr_7_3 h0) ?_
  refine ja_geti (pc := 4) (idx := 107) (t := 5) (j := 0) (by decide +kernel) fd_Frame_107 (fk_7_3 h0) ?_
  exact ja_ret (pc := 7) (some (.int (sg.1 (ja_q x0 3) 0))) .ireturn (by decide +kernel) rfl (by cases hf; rfl)
def f_Frame_ruleCount (x0 : Nat) (sg : ja_S) : Option (Int32 × ja_S) := some (sg.1 (ja_q x0 3) 3, sg)
set_option maxRecDepth 4000 in
theorem c_Frame_ruleCount (l : Launch) (x : ja_X) (x0 : Nat) {sg : ja_S} {w : Int32 × ja_S} (h0 : ja_ob ja_L0 7 x0) (hf : f_Frame_ruleCount x0 sg = some w) : ja_Ct l x y_Frame_ruleCount M_Frame_ruleCount [.ref x0] ja_L0 sg (some (.int w.1), ja_L0, w.2) := by
  refine ja_mk ⟨by decide, rfl, rfl⟩ (Nat.le_of_ble_eq_true rfl) (lv := [(0, .ref x0)]) rfl (fun C hl hx _ _ _ _ => ?_)
  subst hl; subst hx
  unfold f_Frame_ruleCount at hf
  refine ja_aload_n (pc := 0) (f := 0) (i := 0) 0 (by decide +kernel) rfl rfl ?_
  refine ja_getr (pc := 1) (idx := 19) (t := 7) (j := 3) (by decide +kernel) fd_Frame_19 h0 (fr_7_3 h0) ?_
  refine ja_geti (pc := 4) (idx := 95) (t := 5) (j := 3) (by decide +kernel) fd_Frame_95 (fk_7_3 h0) ?_
  exact ja_ret (pc := 7) (some (.int (sg.1 (ja_q x0 3) 3))) .ireturn (by decide +kernel) rfl (by cases hf; rfl)
def f_Sheet_hasRule (x0 : Nat) (x1 : Int32) (sg : ja_S) : Option (Int32 × ja_S) := (if x1 < 0 then some ((0 : Int32), sg) else (if (sg.1 x0 3) ≤ x1 then some ((0 : Int32), sg) else some ((1 : Int32), sg)))
set_option maxRecDepth 4000 in
theorem c_Sheet_hasRule (l : Launch) (x : ja_X) (x0 : Nat) (x1 : Int32) {sg : ja_S} {w : Int32 × ja_S} (h0 : ja_ob ja_L0 5 x0) (hf : f_Sheet_hasRule x0 x1 sg = some w) : ja_Ct l x y_Sheet_hasRule M_Sheet_hasRule [.ref x0, .int x1] ja_L0 sg (some (.int w.1), ja_L0, w.2) := by
  refine ja_mk ⟨by decide, rfl, rfl⟩ (Nat.le_of_ble_eq_true rfl) (lv := [(0, .ref x0), (1, .int x1)]) rfl (fun C hl hx _ _ _ _ => ?_)
  subst hl; subst hx
  unfold f_Sheet_hasRule at hf
  refine ja_iload_n (pc := 0) (f := 1) (i := 1) 1 (by decide +kernel) rfl rfl ?_
  refine ja_if_lt (pc := 1) (off := 15) 16 (by decide +kernel) (by decide) hf (fun hf => ?_) (fun hf => ?_)
  · refine ja_iconst (pc := 16) (n := 0) (v := 0) (by decide +kernel) (by decide +kernel) ?_
    exact ja_ret (pc := 17) (some (.int (0 : Int32))) .ireturn (by decide +kernel) rfl (by cases hf; rfl)
  · refine ja_iload_n (pc := 4) (f := 1) (i := 1) 1 (by decide +kernel) rfl rfl ?_
    refine ja_aload_n (pc := 5) (f := 0) (i := 0) 0 (by decide +kernel) rfl rfl ?_
    refine ja_geti (pc := 6) (idx := 22) (t := 5) (j := 3) (by decide +kernel) fd_Sheet_22 h0 ?_
    refine ja_icmp_ge (pc := 9) (off := 7) 16 (by decide +kernel) (by decide) hf (fun hf => ?_) (fun hf => ?_)
    · refine ja_iconst (pc := 16) (n := 0) (v := 0) (by decide +kernel) (by decide +kernel) ?_
      exact ja_ret (pc := 17) (some (.int (0 : Int32))) .ireturn (by decide +kernel) rfl (by cases hf; rfl)
    · refine ja_iconst (pc := 12) (n := 1) (v := 1) (by decide +kernel) (by decide +kernel) ?_
      refine ja_goto (pc := 13) (off := 4) 17 (by decide +kernel) (by decide) ?_
      exact ja_ret (pc := 17) (some (.int (1 : Int32))) .ireturn (by decide +kernel) rfl (by cases hf; rfl)
def f_Rule_kind (x0 : Int32) (sg : ja_S) : Option (Int32 × ja_S) := some (x0 >>> ((16 : Int32) &&& 31), sg)
set_option maxRecDepth 4000 in
theorem c_Rule_kind (l : Launch) (x : ja_X) (x0 : Int32) {sg : ja_S} {w : Int32 × ja_S}  (hf : f_Rule_kind x0 sg = some w) : ja_Ct l x y_Rule_kind M_Rule_kind [.int x0] ja_L0 sg (some (.int w.1), ja_L0, w.2) := by
  refine ja_mk ⟨by decide, rfl, rfl⟩ (Nat.le_of_ble_eq_true rfl) (lv := [(0, .int x0)]) rfl (fun C hl hx _ _ _ _ => ?_)
  subst hl; subst hx
  unfold f_Rule_kind at hf
  refine ja_iload_n (pc := 0) (f := 0) (i := 0) 0 (by decide +kernel) rfl rfl ?_
  refine ja_bipush (pc := 1) (n := 16) (v := 16) (by decide +kernel) (by decide +kernel) ?_
  refine ja_ishr (pc := 3) (by decide +kernel) ?_
  exact ja_ret (pc := 4) (some (.int (x0 >>> ((16 : Int32) &&& 31)))) .ireturn (by decide +kernel) rfl (by cases hf; rfl)
def f_Frame_ruleKind (x0 : Nat) (x1 : Int32) (sg : ja_S) : Option (Int32 × ja_S) := (f_Sheet_hasRule (ja_q x0 3) x1 sg).bind fun v1 => (if v1.1 = 0 then some ((-2 : Int32), v1.2) else (ja_ld ja_L0 v1.2 (ja_q (ja_q x0 3) 2) x1).bind fun v2 => (f_Rule_kind v2 v1.2).bind fun v3 => some (v3.1, v3.2))
set_option maxRecDepth 4000 in
theorem c_Frame_ruleKind (l : Launch) (x : ja_X) (x0 : Nat) (x1 : Int32) {sg : ja_S} {w : Int32 × ja_S} (h0 : ja_ob ja_L0 7 x0) (hf : f_Frame_ruleKind x0 x1 sg = some w) : ja_Ct l x y_Frame_ruleKind M_Frame_ruleKind [.ref x0, .int x1] ja_L0 sg (some (.int w.1), ja_L0, w.2) := by
  refine ja_mk ⟨by decide, rfl, rfl⟩ (Nat.le_of_ble_eq_true rfl) (lv := [(0, .ref x0), (1, .int x1)]) rfl (fun C hl hx _ _ _ _ => ?_)
  subst hl; subst hx
  unfold f_Frame_ruleKind at hf
  refine ja_aload_n (pc := 0) (f := 0) (i := 0) 0 (by decide +kernel) rfl rfl ?_
  refine ja_getr (pc := 1) (idx := 19) (t := 7) (j := 3) (by decide +kernel) fd_Frame_19 h0 (fr_7_3 h0) ?_
  refine ja_iload_n (pc := 4) (f := 1) (i := 1) 1 (by decide +kernel) rfl rfl ?_
  refine ja_bind hf (fun v1 hv1 hf => ?_)
  refine ja_callVi (pc := 5) (idx := 110) (t := 5) (b := (ja_q x0 3)) (as := [.int x1]) (st := []) (by decide +kernel) kv_Sheet_hasRule lk_Frame_110 ⟨by decide, by decide⟩ (c_Sheet_hasRule _ _ (ja_q x0 3) x1 (fk_7_3 h0) hv1) (fk_7_3 h0) rfl (Nat.le_of_ble_eq_true rfl) rfl ?_
  refine ja_if_eq (pc := 8) (off := 18) 26 (by decide +kernel) (by decide) hf (fun hf => ?_) (fun hf => ?_)
  · refine ja_bipush (pc := 26) (n := (-2)) (v := (-2)) (by decide +kernel) (by decide +kernel) ?_
    exact ja_ret (pc := 28) (some (.int (-2 : Int32))) .ireturn (by decide +kernel) rfl (by cases hf; rfl)
  · refine ja_aload_n (pc := 11) (f := 0) (i := 0) 0 (by decide +kernel) rfl rfl ?_
    refine ja_getr (pc := 12) (idx := 19) (t := 7) (j := 3) (by decide +kernel) fd_Frame_19 h0 (fr_7_3 h0) ?_
    refine ja_getr (pc := 15) (idx := 114) (t := 5) (j := 2) (by decide +kernel) fd_Frame_114 (fk_7_3 h0) (fr_5_2 (fk_7_3 h0)) ?_
    refine ja_iload_n (pc := 18) (f := 1) (i := 1) 1 (by decide +kernel) rfl rfl ?_
    refine ja_bind hf (fun v2 hv2 hf => ?_)
    refine ja_iald (pc := 19) (by decide +kernel) (fk_5_2 (fk_7_3 h0)) hv2 ?_
    refine ja_bind hf (fun v3 hv3 hf => ?_)
    refine ja_callSi (pc := 20) (idx := 118) (as := [.int v2]) (st := []) (by decide +kernel) ks_Rule_kind lk_Frame_118 ⟨by decide, by decide⟩ (c_Rule_kind _ _ v2  hv3) rfl (Nat.le_of_ble_eq_true rfl) rfl ?_
    refine ja_goto (pc := 23) (off := 5) 28 (by decide +kernel) (by decide) ?_
    exact ja_ret (pc := 28) (some (.int v3.1)) .ireturn (by decide +kernel) rfl (by cases hf; rfl)
def f_Rule_leverA (x0 : Int32) (sg : ja_S) : Option (Int32 × ja_S) := some ((x0 >>> ((12 : Int32) &&& 31)) &&& (15 : Int32), sg)
set_option maxRecDepth 4000 in
theorem c_Rule_leverA (l : Launch) (x : ja_X) (x0 : Int32) {sg : ja_S} {w : Int32 × ja_S}  (hf : f_Rule_leverA x0 sg = some w) : ja_Ct l x y_Rule_leverA M_Rule_leverA [.int x0] ja_L0 sg (some (.int w.1), ja_L0, w.2) := by
  refine ja_mk ⟨by decide, rfl, rfl⟩ (Nat.le_of_ble_eq_true rfl) (lv := [(0, .int x0)]) rfl (fun C hl hx _ _ _ _ => ?_)
  subst hl; subst hx
  unfold f_Rule_leverA at hf
  refine ja_iload_n (pc := 0) (f := 0) (i := 0) 0 (by decide +kernel) rfl rfl ?_
  refine ja_bipush (pc := 1) (n := 12) (v := 12) (by decide +kernel) (by decide +kernel) ?_
  refine ja_ishr (pc := 3) (by decide +kernel) ?_
  refine ja_bipush (pc := 4) (n := 15) (v := 15) (by decide +kernel) (by decide +kernel) ?_
  refine ja_iand (pc := 6) (by decide +kernel) ?_
  exact ja_ret (pc := 7) (some (.int ((x0 >>> ((12 : Int32) &&& 31)) &&& (15 : Int32)))) .ireturn (by decide +kernel) rfl (by cases hf; rfl)
def f_Rule_leverB (x0 : Int32) (sg : ja_S) : Option (Int32 × ja_S) := some ((x0 >>> ((8 : Int32) &&& 31)) &&& (15 : Int32), sg)
set_option maxRecDepth 4000 in
theorem c_Rule_leverB (l : Launch) (x : ja_X) (x0 : Int32) {sg : ja_S} {w : Int32 × ja_S}  (hf : f_Rule_leverB x0 sg = some w) : ja_Ct l x y_Rule_leverB M_Rule_leverB [.int x0] ja_L0 sg (some (.int w.1), ja_L0, w.2) := by
  refine ja_mk ⟨by decide, rfl, rfl⟩ (Nat.le_of_ble_eq_true rfl) (lv := [(0, .int x0)]) rfl (fun C hl hx _ _ _ _ => ?_)
  subst hl; subst hx
  unfold f_Rule_leverB at hf
  refine ja_iload_n (pc := 0) (f := 0) (i := 0) 0 (by decide +kernel) rfl rfl ?_
  refine ja_bipush (pc := 1) (n := 8) (v := 8) (by decide +kernel) (by decide +kernel) ?_
  refine ja_ishr (pc := 3) (by decide +kernel) ?_
  refine ja_bipush (pc := 4) (n := 15) (v := 15) (by decide +kernel) (by decide +kernel) ?_
  refine ja_iand (pc := 6) (by decide +kernel) ?_
  exact ja_ret (pc := 7) (some (.int ((x0 >>> ((8 : Int32) &&& 31)) &&& (15 : Int32)))) .ireturn (by decide +kernel) rfl (by cases hf; rfl)
def f_Frame_leverPair (x0 : Int32) (x1 : Int32) (sg : ja_S) : Option (Int32 × ja_S) := some (((100 : Int32) * x0) + x1, sg)
set_option maxRecDepth 4000 in
theorem c_Frame_leverPair (l : Launch) (x : ja_X) (x0 : Int32) (x1 : Int32) {sg : ja_S} {w : Int32 × ja_S}  (hf : f_Frame_leverPair x0 x1 sg = some w) : ja_Ct l x y_Frame_leverPair M_Frame_leverPair [.int x0, .int x1] ja_L0 sg (some (.int w.1), ja_L0, w.2) := by
  refine ja_mk ⟨by decide, rfl, rfl⟩ (Nat.le_of_ble_eq_true rfl) (lv := [(0, .int x0), (1, .int x1)]) rfl (fun C hl hx _ _ _ _ => ?_)
  subst hl; subst hx
  unfold f_Frame_leverPair at hf
  refine ja_bipush (pc := 0) (n := 100) (v := 100) (by decide +kernel) (by decide +kernel) ?_
  refine ja_iload_n (pc := 2) (f := 0) (i := 0) 0 (by decide +kernel) rfl rfl ?_
  refine ja_imul (pc := 3) (by decide +kernel) ?_
  refine ja_iload_n (pc := 4) (f := 1) (i := 1) 1 (by decide +kernel) rfl rfl ?_
  refine ja_iadd (pc := 5) (by decide +kernel) ?_
  exact ja_ret (pc := 6) (some (.int (((100 : Int32) * x0) + x1))) .ireturn (by decide +kernel) rfl (by cases hf; rfl)
def f_Frame_ruleLevers (x0 : Nat) (x1 : Int32) (sg : ja_S) : Option (Int32 × ja_S) := (f_Sheet_hasRule (ja_q x0 3) x1 sg).bind fun v1 => (if v1.1 = 0 then some ((-2 : Int32), v1.2) else (ja_ld ja_L0 v1.2 (ja_q (ja_q x0 3) 2) x1).bind fun v2 => (f_Rule_leverA v2 v1.2).bind fun v3 => (ja_ld ja_L0 v3.2 (ja_q (ja_q x0 3) 2) x1).bind fun v4 => (f_Rule_leverB v4 v3.2).bind fun v5 => (f_Frame_leverPair v3.1 v5.1 v5.2).bind fun v6 => some (v6.1, v6.2))
set_option maxRecDepth 4000 in
theorem c_Frame_ruleLevers (l : Launch) (x : ja_X) (x0 : Nat) (x1 : Int32) {sg : ja_S} {w : Int32 × ja_S} (h0 : ja_ob ja_L0 7 x0) (hf : f_Frame_ruleLevers x0 x1 sg = some w) : ja_Ct l x y_Frame_ruleLevers M_Frame_ruleLevers [.ref x0, .int x1] ja_L0 sg (some (.int w.1), ja_L0, w.2) := by
  refine ja_mk ⟨by decide, rfl, rfl⟩ (Nat.le_of_ble_eq_true rfl) (lv := [(0, .ref x0), (1, .int x1)]) rfl (fun C hl hx _ _ _ _ => ?_)
  subst hl; subst hx
  unfold f_Frame_ruleLevers at hf
  refine ja_aload_n (pc := 0) (f := 0) (i := 0) 0 (by decide +kernel) rfl rfl ?_
  refine ja_getr (pc := 1) (idx := 19) (t := 7) (j := 3) (by decide +kernel) fd_Frame_19 h0 (fr_7_3 h0) ?_
  refine ja_iload_n (pc := 4) (f := 1) (i := 1) 1 (by decide +kernel) rfl rfl ?_
  refine ja_bind hf (fun v1 hv1 hf => ?_)
  refine ja_callVi (pc := 5) (idx := 110) (t := 5) (b := (ja_q x0 3)) (as := [.int x1]) (st := []) (by decide +kernel) kv_Sheet_hasRule lk_Frame_110 ⟨by decide, by decide⟩ (c_Sheet_hasRule _ _ (ja_q x0 3) x1 (fk_7_3 h0) hv1) (fk_7_3 h0) rfl (Nat.le_of_ble_eq_true rfl) rfl ?_
  refine ja_if_ne (pc := 8) (off := 6) 14 (by decide +kernel) (by decide) hf (fun hf => ?_) (fun hf => ?_)
  · refine ja_aload_n (pc := 14) (f := 0) (i := 0) 0 (by decide +kernel) rfl rfl ?_
    refine ja_getr (pc := 15) (idx := 19) (t := 7) (j := 3) (by decide +kernel) fd_Frame_19 h0 (fr_7_3 h0) ?_
    refine ja_getr (pc := 18) (idx := 114) (t := 5) (j := 2) (by decide +kernel) fd_Frame_114 (fk_7_3 h0) (fr_5_2 (fk_7_3 h0)) ?_
    refine ja_iload_n (pc := 21) (f := 1) (i := 1) 1 (by decide +kernel) rfl rfl ?_
    refine ja_bind hf (fun v2 hv2 hf => ?_)
    refine ja_iald (pc := 22) (by decide +kernel) (fk_5_2 (fk_7_3 h0)) hv2 ?_
    refine ja_bind hf (fun v3 hv3 hf => ?_)
    refine ja_callSi (pc := 23) (idx := 124) (as := [.int v2]) (st := []) (by decide +kernel) ks_Rule_leverA lk_Frame_124 ⟨by decide, by decide⟩ (c_Rule_leverA _ _ v2  hv3) rfl (Nat.le_of_ble_eq_true rfl) rfl ?_
    refine ja_aload_n (pc := 26) (f := 0) (i := 0) 0 (by decide +kernel) rfl rfl ?_
    refine ja_getr (pc := 27) (idx := 19) (t := 7) (j := 3) (by decide +kernel) fd_Frame_19 h0 (fr_7_3 h0) ?_
    refine ja_getr (pc := 30) (idx := 114) (t := 5) (j := 2) (by decide +kernel) fd_Frame_114 (fk_7_3 h0) (fr_5_2 (fk_7_3 h0)) ?_
    refine ja_iload_n (pc := 33) (f := 1) (i := 1) 1 (by decide +kernel) rfl rfl ?_
    refine ja_bind hf (fun v4 hv4 hf => ?_)
    refine ja_iald (pc := 34) (by decide +kernel) (fk_5_2 (fk_7_3 h0)) hv4 ?_
    refine ja_bind hf (fun v5 hv5 hf => ?_)
    refine ja_callSi (pc := 35) (idx := 127) (as := [.int v4]) (st := [.int v3.1]) (by decide +kernel) ks_Rule_leverB lk_Frame_127 ⟨by decide, by decide⟩ (c_Rule_leverB _ _ v4  hv5) rfl (Nat.le_of_ble_eq_true rfl) rfl ?_
    refine ja_bind hf (fun v6 hv6 hf => ?_)
    refine ja_callSi (pc := 38) (idx := 130) (as := [.int v3.1, .int v5.1]) (st := []) (by decide +kernel) ks_Frame_leverPair lk_Frame_130 ⟨by decide, by decide⟩ (c_Frame_leverPair _ _ v3.1 v5.1  hv6) rfl (Nat.le_of_ble_eq_true rfl) rfl ?_
    exact ja_ret (pc := 41) (some (.int v6.1)) .ireturn (by decide +kernel) rfl (by cases hf; rfl)
  · refine ja_bipush (pc := 11) (n := (-2)) (v := (-2)) (by decide +kernel) (by decide +kernel) ?_
    exact ja_ret (pc := 13) (some (.int (-2 : Int32))) .ireturn (by decide +kernel) rfl (by cases hf; rfl)
def f_Rule_condition (x0 : Int32) (sg : ja_S) : Option (Int32 × ja_S) := some ((x0 &&& (255 : Int32)) - (1 : Int32), sg)
set_option maxRecDepth 4000 in
theorem c_Rule_condition (l : Launch) (x : ja_X) (x0 : Int32) {sg : ja_S} {w : Int32 × ja_S}  (hf : f_Rule_condition x0 sg = some w) : ja_Ct l x y_Rule_condition M_Rule_condition [.int x0] ja_L0 sg (some (.int w.1), ja_L0, w.2) := by
  refine ja_mk ⟨by decide, rfl, rfl⟩ (Nat.le_of_ble_eq_true rfl) (lv := [(0, .int x0)]) rfl (fun C hl hx _ _ _ _ => ?_)
  subst hl; subst hx
  unfold f_Rule_condition at hf
  refine ja_iload_n (pc := 0) (f := 0) (i := 0) 0 (by decide +kernel) rfl rfl ?_
  refine ja_sipush (pc := 1) (n := 255) (v := 255) (by decide +kernel) (by decide +kernel) ?_
  refine ja_iand (pc := 4) (by decide +kernel) ?_
  refine ja_iconst (pc := 5) (n := 1) (v := 1) (by decide +kernel) (by decide +kernel) ?_
  refine ja_isub (pc := 6) (by decide +kernel) ?_
  exact ja_ret (pc := 7) (some (.int ((x0 &&& (255 : Int32)) - (1 : Int32)))) .ireturn (by decide +kernel) rfl (by cases hf; rfl)
def f_Frame_ruleCondition (x0 : Nat) (x1 : Int32) (sg : ja_S) : Option (Int32 × ja_S) := (f_Sheet_hasRule (ja_q x0 3) x1 sg).bind fun v1 => (if v1.1 = 0 then some ((-2 : Int32), v1.2) else (ja_ld ja_L0 v1.2 (ja_q (ja_q x0 3) 2) x1).bind fun v2 => (f_Rule_condition v2 v1.2).bind fun v3 => some (v3.1, v3.2))
set_option maxRecDepth 4000 in
theorem c_Frame_ruleCondition (l : Launch) (x : ja_X) (x0 : Nat) (x1 : Int32) {sg : ja_S} {w : Int32 × ja_S} (h0 : ja_ob ja_L0 7 x0) (hf : f_Frame_ruleCondition x0 x1 sg = some w) : ja_Ct l x y_Frame_ruleCondition M_Frame_ruleCondition [.ref x0, .int x1] ja_L0 sg (some (.int w.1), ja_L0, w.2) := by
  refine ja_mk ⟨by decide, rfl, rfl⟩ (Nat.le_of_ble_eq_true rfl) (lv := [(0, .ref x0), (1, .int x1)]) rfl (fun C hl hx _ _ _ _ => ?_)
  subst hl; subst hx
  unfold f_Frame_ruleCondition at hf
  refine ja_aload_n (pc := 0) (f := 0) (i := 0) 0 (by decide +kernel) rfl rfl ?_
  refine ja_getr (pc := 1) (idx := 19) (t := 7) (j := 3) (by decide +kernel) fd_Frame_19 h0 (fr_7_3 h0) ?_
  refine ja_iload_n (pc := 4) (f := 1) (i := 1) 1 (by decide +kernel) rfl rfl ?_
  refine ja_bind hf (fun v1 hv1 hf => ?_)
  refine ja_callVi (pc := 5) (idx := 110) (t := 5) (b := (ja_q x0 3)) (as := [.int x1]) (st := []) (by decide +kernel) kv_Sheet_hasRule lk_Frame_110 ⟨by decide, by decide⟩ (c_Sheet_hasRule _ _ (ja_q x0 3) x1 (fk_7_3 h0) hv1) (fk_7_3 h0) rfl (Nat.le_of_ble_eq_true rfl) rfl ?_
  refine ja_if_eq (pc := 8) (off := 18) 26 (by decide +kernel) (by decide) hf (fun hf => ?_) (fun hf => ?_)
  · refine ja_bipush (pc := 26) (n := (-2)) (v := (-2)) (by decide +kernel) (by decide +kernel) ?_
    exact ja_ret (pc := 28) (some (.int (-2 : Int32))) .ireturn (by decide +kernel) rfl (by cases hf; rfl)
  · refine ja_aload_n (pc := 11) (f := 0) (i := 0) 0 (by decide +kernel) rfl rfl ?_
    refine ja_getr (pc := 12) (idx := 19) (t := 7) (j := 3) (by decide +kernel) fd_Frame_19 h0 (fr_7_3 h0) ?_
    refine ja_getr (pc := 15) (idx := 114) (t := 5) (j := 2) (by decide +kernel) fd_Frame_114 (fk_7_3 h0) (fr_5_2 (fk_7_3 h0)) ?_
    refine ja_iload_n (pc := 18) (f := 1) (i := 1) 1 (by decide +kernel) rfl rfl ?_
    refine ja_bind hf (fun v2 hv2 hf => ?_)
    refine ja_iald (pc := 19) (by decide +kernel) (fk_5_2 (fk_7_3 h0)) hv2 ?_
    refine ja_bind hf (fun v3 hv3 hf => ?_)
    refine ja_callSi (pc := 20) (idx := 134) (as := [.int v2]) (st := []) (by decide +kernel) ks_Rule_condition lk_Frame_134 ⟨by decide, by decide⟩ (c_Rule_condition _ _ v2  hv3) rfl (Nat.le_of_ble_eq_true rfl) rfl ?_
    refine ja_goto (pc := 23) (off := 5) 28 (by decide +kernel) (by decide) ?_
    exact ja_ret (pc := 28) (some (.int v3.1)) .ireturn (by decide +kernel) rfl (by cases hf; rfl)
def f_Frame_routeCount (x0 : Nat) (sg : ja_S) : Option (Int32 × ja_S) := some (sg.1 (ja_q x0 3) 5, sg)
set_option maxRecDepth 4000 in
theorem c_Frame_routeCount (l : Launch) (x : ja_X) (x0 : Nat) {sg : ja_S} {w : Int32 × ja_S} (h0 : ja_ob ja_L0 7 x0) (hf : f_Frame_routeCount x0 sg = some w) : ja_Ct l x y_Frame_routeCount M_Frame_routeCount [.ref x0] ja_L0 sg (some (.int w.1), ja_L0, w.2) := by
  refine ja_mk ⟨by decide, rfl, rfl⟩ (Nat.le_of_ble_eq_true rfl) (lv := [(0, .ref x0)]) rfl (fun C hl hx _ _ _ _ => ?_)
  subst hl; subst hx
  unfold f_Frame_routeCount at hf
  refine ja_aload_n (pc := 0) (f := 0) (i := 0) 0 (by decide +kernel) rfl rfl ?_
  refine ja_getr (pc := 1) (idx := 19) (t := 7) (j := 3) (by decide +kernel) fd_Frame_19 h0 (fr_7_3 h0) ?_
  refine ja_geti (pc := 4) (idx := 98) (t := 5) (j := 5) (by decide +kernel) fd_Frame_98 (fk_7_3 h0) ?_
  exact ja_ret (pc := 7) (some (.int (sg.1 (ja_q x0 3) 5))) .ireturn (by decide +kernel) rfl (by cases hf; rfl)
def f_Sheet_hasRoute (x0 : Nat) (x1 : Int32) (sg : ja_S) : Option (Int32 × ja_S) := (if x1 < 0 then some ((0 : Int32), sg) else (if (sg.1 x0 5) ≤ x1 then some ((0 : Int32), sg) else some ((1 : Int32), sg)))
set_option maxRecDepth 4000 in
theorem c_Sheet_hasRoute (l : Launch) (x : ja_X) (x0 : Nat) (x1 : Int32) {sg : ja_S} {w : Int32 × ja_S} (h0 : ja_ob ja_L0 5 x0) (hf : f_Sheet_hasRoute x0 x1 sg = some w) : ja_Ct l x y_Sheet_hasRoute M_Sheet_hasRoute [.ref x0, .int x1] ja_L0 sg (some (.int w.1), ja_L0, w.2) := by
  refine ja_mk ⟨by decide, rfl, rfl⟩ (Nat.le_of_ble_eq_true rfl) (lv := [(0, .ref x0), (1, .int x1)]) rfl (fun C hl hx _ _ _ _ => ?_)
  subst hl; subst hx
  unfold f_Sheet_hasRoute at hf
  refine ja_iload_n (pc := 0) (f := 1) (i := 1) 1 (by decide +kernel) rfl rfl ?_
  refine ja_if_lt (pc := 1) (off := 15) 16 (by decide +kernel) (by decide) hf (fun hf => ?_) (fun hf => ?_)
  · refine ja_iconst (pc := 16) (n := 0) (v := 0) (by decide +kernel) (by decide +kernel) ?_
    exact ja_ret (pc := 17) (some (.int (0 : Int32))) .ireturn (by decide +kernel) rfl (by cases hf; rfl)
  · refine ja_iload_n (pc := 4) (f := 1) (i := 1) 1 (by decide +kernel) rfl rfl ?_
    refine ja_aload_n (pc := 5) (f := 0) (i := 0) 0 (by decide +kernel) rfl rfl ?_
    refine ja_geti (pc := 6) (idx := 28) (t := 5) (j := 5) (by decide +kernel) fd_Sheet_28 h0 ?_
    refine ja_icmp_ge (pc := 9) (off := 7) 16 (by decide +kernel) (by decide) hf (fun hf => ?_) (fun hf => ?_)
    · refine ja_iconst (pc := 16) (n := 0) (v := 0) (by decide +kernel) (by decide +kernel) ?_
      exact ja_ret (pc := 17) (some (.int (0 : Int32))) .ireturn (by decide +kernel) rfl (by cases hf; rfl)
    · refine ja_iconst (pc := 12) (n := 1) (v := 1) (by decide +kernel) (by decide +kernel) ?_
      refine ja_goto (pc := 13) (off := 4) 17 (by decide +kernel) (by decide) ?_
      exact ja_ret (pc := 17) (some (.int (1 : Int32))) .ireturn (by decide +kernel) rfl (by cases hf; rfl)
def f_Frame_routeLevers (x0 : Nat) (x1 : Int32) (sg : ja_S) : Option (Int32 × ja_S) := (f_Sheet_hasRoute (ja_q x0 3) x1 sg).bind fun v1 => (if v1.1 = 0 then some ((-2 : Int32), v1.2) else (ja_ld ja_L0 v1.2 (ja_q (ja_q x0 3) 4) x1).bind fun v2 => some (v2, v1.2))
set_option maxRecDepth 4000 in
theorem c_Frame_routeLevers (l : Launch) (x : ja_X) (x0 : Nat) (x1 : Int32) {sg : ja_S} {w : Int32 × ja_S} (h0 : ja_ob ja_L0 7 x0) (hf : f_Frame_routeLevers x0 x1 sg = some w) : ja_Ct l x y_Frame_routeLevers M_Frame_routeLevers [.ref x0, .int x1] ja_L0 sg (some (.int w.1), ja_L0, w.2) := by
  refine ja_mk ⟨by decide, rfl, rfl⟩ (Nat.le_of_ble_eq_true rfl) (lv := [(0, .ref x0), (1, .int x1)]) rfl (fun C hl hx _ _ _ _ => ?_)
  subst hl; subst hx
  unfold f_Frame_routeLevers at hf
  refine ja_aload_n (pc := 0) (f := 0) (i := 0) 0 (by decide +kernel) rfl rfl ?_
  refine ja_getr (pc := 1) (idx := 19) (t := 7) (j := 3) (by decide +kernel) fd_Frame_19 h0 (fr_7_3 h0) ?_
  refine ja_iload_n (pc := 4) (f := 1) (i := 1) 1 (by decide +kernel) rfl rfl ?_
  refine ja_bind hf (fun v1 hv1 hf => ?_)
  refine ja_callVi (pc := 5) (idx := 137) (t := 5) (b := (ja_q x0 3)) (as := [.int x1]) (st := []) (by decide +kernel) kv_Sheet_hasRoute lk_Frame_137 ⟨by decide, by decide⟩ (c_Sheet_hasRoute _ _ (ja_q x0 3) x1 (fk_7_3 h0) hv1) (fk_7_3 h0) rfl (Nat.le_of_ble_eq_true rfl) rfl ?_
  refine ja_if_eq (pc := 8) (off := 15) 23 (by decide +kernel) (by decide) hf (fun hf => ?_) (fun hf => ?_)
  · refine ja_bipush (pc := 23) (n := (-2)) (v := (-2)) (by decide +kernel) (by decide +kernel) ?_
    exact ja_ret (pc := 25) (some (.int (-2 : Int32))) .ireturn (by decide +kernel) rfl (by cases hf; rfl)
  · refine ja_aload_n (pc := 11) (f := 0) (i := 0) 0 (by decide +kernel) rfl rfl ?_
    refine ja_getr (pc := 12) (idx := 19) (t := 7) (j := 3) (by decide +kernel) fd_Frame_19 h0 (fr_7_3 h0) ?_
    refine ja_getr (pc := 15) (idx := 140) (t := 5) (j := 4) (by decide +kernel) fd_Frame_140 (fk_7_3 h0) (fr_5_4 (fk_7_3 h0)) ?_
    refine ja_iload_n (pc := 18) (f := 1) (i := 1) 1 (by decide +kernel) rfl rfl ?_
    refine ja_bind hf (fun v2 hv2 hf => ?_)
    refine ja_iald (pc := 19) (by decide +kernel) (fk_5_4 (fk_7_3 h0)) hv2 ?_
    refine ja_goto (pc := 20) (off := 5) 25 (by decide +kernel) (by decide) ?_
    exact ja_ret (pc := 25) (some (.int v2)) .ireturn (by decide +kernel) rfl (by cases hf; rfl)
def f_Frame_conflictCount (x0 : Nat) (sg : ja_S) : Option (Int32 × ja_S) := some (sg.1 (ja_q x0 3) 8, sg)
set_option maxRecDepth 4000 in
theorem c_Frame_conflictCount (l : Launch) (x : ja_X) (x0 : Nat) {sg : ja_S} {w : Int32 × ja_S} (h0 : ja_ob ja_L0 7 x0) (hf : f_Frame_conflictCount x0 sg = some w) : ja_Ct l x y_Frame_conflictCount M_Frame_conflictCount [.ref x0] ja_L0 sg (some (.int w.1), ja_L0, w.2) := by
  refine ja_mk ⟨by decide, rfl, rfl⟩ (Nat.le_of_ble_eq_true rfl) (lv := [(0, .ref x0)]) rfl (fun C hl hx _ _ _ _ => ?_)
  subst hl; subst hx
  unfold f_Frame_conflictCount at hf
  refine ja_aload_n (pc := 0) (f := 0) (i := 0) 0 (by decide +kernel) rfl rfl ?_
  refine ja_getr (pc := 1) (idx := 19) (t := 7) (j := 3) (by decide +kernel) fd_Frame_19 h0 (fr_7_3 h0) ?_
  refine ja_geti (pc := 4) (idx := 101) (t := 5) (j := 8) (by decide +kernel) fd_Frame_101 (fk_7_3 h0) ?_
  exact ja_ret (pc := 7) (some (.int (sg.1 (ja_q x0 3) 8))) .ireturn (by decide +kernel) rfl (by cases hf; rfl)
def f_Frame_currentState (x0 : Nat) (sg : ja_S) : Option (Int32 × ja_S) := some (sg.1 x0 6, sg)
set_option maxRecDepth 4000 in
theorem c_Frame_currentState (l : Launch) (x : ja_X) (x0 : Nat) {sg : ja_S} {w : Int32 × ja_S} (h0 : ja_ob ja_L0 7 x0) (hf : f_Frame_currentState x0 sg = some w) : ja_Ct l x y_Frame_currentState M_Frame_currentState [.ref x0] ja_L0 sg (some (.int w.1), ja_L0, w.2) := by
  refine ja_mk ⟨by decide, rfl, rfl⟩ (Nat.le_of_ble_eq_true rfl) (lv := [(0, .ref x0)]) rfl (fun C hl hx _ _ _ _ => ?_)
  subst hl; subst hx
  unfold f_Frame_currentState at hf
  refine ja_aload_n (pc := 0) (f := 0) (i := 0) 0 (by decide +kernel) rfl rfl ?_
  refine ja_geti (pc := 1) (idx := 33) (t := 7) (j := 6) (by decide +kernel) fd_Frame_33 h0 ?_
  exact ja_ret (pc := 4) (some (.int (sg.1 x0 6))) .ireturn (by decide +kernel) rfl (by cases hf; rfl)
def f_Sheet_hasLever (x0 : Nat) (x1 : Int32) (sg : ja_S) : Option (Int32 × ja_S) := (if x1 < 0 then some ((0 : Int32), sg) else (if (sg.1 x0 0) ≤ x1 then some ((0 : Int32), sg) else some ((1 : Int32), sg)))
set_option maxRecDepth 4000 in
theorem c_Sheet_hasLever (l : Launch) (x : ja_X) (x0 : Nat) (x1 : Int32) {sg : ja_S} {w : Int32 × ja_S} (h0 : ja_ob ja_L0 5 x0) (hf : f_Sheet_hasLever x0 x1 sg = some w) : ja_Ct l x y_Sheet_hasLever M_Sheet_hasLever [.ref x0, .int x1] ja_L0 sg (some (.int w.1), ja_L0, w.2) := by
  refine ja_mk ⟨by decide, rfl, rfl⟩ (Nat.le_of_ble_eq_true rfl) (lv := [(0, .ref x0), (1, .int x1)]) rfl (fun C hl hx _ _ _ _ => ?_)
  subst hl; subst hx
  unfold f_Sheet_hasLever at hf
  refine ja_iload_n (pc := 0) (f := 1) (i := 1) 1 (by decide +kernel) rfl rfl ?_
  refine ja_if_lt (pc := 1) (off := 15) 16 (by decide +kernel) (by decide) hf (fun hf => ?_) (fun hf => ?_)
  · refine ja_iconst (pc := 16) (n := 0) (v := 0) (by decide +kernel) (by decide +kernel) ?_
    exact ja_ret (pc := 17) (some (.int (0 : Int32))) .ireturn (by decide +kernel) rfl (by cases hf; rfl)
  · refine ja_iload_n (pc := 4) (f := 1) (i := 1) 1 (by decide +kernel) rfl rfl ?_
    refine ja_aload_n (pc := 5) (f := 0) (i := 0) 0 (by decide +kernel) rfl rfl ?_
    refine ja_geti (pc := 6) (idx := 9) (t := 5) (j := 0) (by decide +kernel) fd_Sheet_9 h0 ?_
    refine ja_icmp_ge (pc := 9) (off := 7) 16 (by decide +kernel) (by decide) hf (fun hf => ?_) (fun hf => ?_)
    · refine ja_iconst (pc := 16) (n := 0) (v := 0) (by decide +kernel) (by decide +kernel) ?_
      exact ja_ret (pc := 17) (some (.int (0 : Int32))) .ireturn (by decide +kernel) rfl (by cases hf; rfl)
    · refine ja_iconst (pc := 12) (n := 1) (v := 1) (by decide +kernel) (by decide +kernel) ?_
      refine ja_goto (pc := 13) (off := 4) 17 (by decide +kernel) (by decide) ?_
      exact ja_ret (pc := 17) (some (.int (1 : Int32))) .ireturn (by decide +kernel) rfl (by cases hf; rfl)
def f_Rule_reversedLevers_B36  (x0 : Int32) (x1 : Int32) (sg : ja_S) : Option (Int32 × ja_S) := (f_Rule_condition x0 sg).bind fun v1 => (if v1.1 < 0 then some (x1, v1.2) else (f_Rule_condition x0 v1.2).bind fun v2 => (if (v2.1 &&& (1 : Int32)) = (1 : Int32) then (f_Rule_condition x0 v2.2).bind fun v3 => some (x1 ||| ((1 : Int32) <<< ((v3.1 >>> ((1 : Int32) &&& 31)) &&& 31)), v3.2) else some (x1, v2.2)))
set_option maxRecDepth 4000 in
theorem w_Rule_reversedLevers_B36 (C : ja_C) {w : Int32 × ja_S}    (x0 : Int32) (x1 : Int32) (sg : ja_S)  (hf : f_Rule_reversedLevers_B36  x0 x1 sg = some w) : ja_J M_Rule_reversedLevers C 36 [(0, .int x0), (1, .int x1)] [] ja_L0 sg (some (.int w.1), ja_L0, w.2) := by
  unfold f_Rule_reversedLevers_B36 at hf
  refine ja_iload_n (pc := 36) (f := 0) (i := 0) 0 (by decide +kernel) rfl rfl ?_
  refine ja_bind hf (fun v1 hv1 hf => ?_)
  refine ja_callSi (pc := 37) (idx := 21) (as := [.int x0]) (st := []) (by decide +kernel) ks_Rule_condition lk_Rule_21 ⟨by decide, by decide⟩ (c_Rule_condition _ _ x0  hv1) rfl (Nat.le_of_ble_eq_true rfl) rfl ?_
  refine ja_if_lt (pc := 40) (off := 24) 64 (by decide +kernel) (by decide) hf (fun hf => ?_) (fun hf => ?_)
  · refine ja_iload_n (pc := 64) (f := 1) (i := 1) 1 (by decide +kernel) rfl rfl ?_
    exact ja_ret (pc := 65) (some (.int x1)) .ireturn (by decide +kernel) rfl (by cases hf; rfl)
  · refine ja_iload_n (pc := 43) (f := 0) (i := 0) 0 (by decide +kernel) rfl rfl ?_
    refine ja_bind hf (fun v2 hv2 hf => ?_)
    refine ja_callSi (pc := 44) (idx := 21) (as := [.int x0]) (st := []) (by decide +kernel) ks_Rule_condition lk_Rule_21 ⟨by decide, by decide⟩ (c_Rule_condition _ _ x0  hv2) rfl (Nat.le_of_ble_eq_true rfl) rfl ?_
    refine ja_iconst (pc := 47) (n := 1) (v := 1) (by decide +kernel) (by decide +kernel) ?_
    refine ja_iand (pc := 48) (by decide +kernel) ?_
    refine ja_iconst (pc := 49) (n := 1) (v := 1) (by decide +kernel) (by decide +kernel) ?_
    refine ja_icmp_ne (pc := 50) (off := 14) 64 (by decide +kernel) (by decide) hf (fun hf => ?_) (fun hf => ?_)
    · refine ja_iload_n (pc := 64) (f := 1) (i := 1) 1 (by decide +kernel) rfl rfl ?_
      exact ja_ret (pc := 65) (some (.int x1)) .ireturn (by decide +kernel) rfl (by cases hf; rfl)
    · refine ja_iload_n (pc := 53) (f := 1) (i := 1) 1 (by decide +kernel) rfl rfl ?_
      refine ja_iconst (pc := 54) (n := 1) (v := 1) (by decide +kernel) (by decide +kernel) ?_
      refine ja_iload_n (pc := 55) (f := 0) (i := 0) 0 (by decide +kernel) rfl rfl ?_
      refine ja_bind hf (fun v3 hv3 hf => ?_)
      refine ja_callSi (pc := 56) (idx := 21) (as := [.int x0]) (st := [.int (1 : Int32), .int x1]) (by decide +kernel) ks_Rule_condition lk_Rule_21 ⟨by decide, by decide⟩ (c_Rule_condition _ _ x0  hv3) rfl (Nat.le_of_ble_eq_true rfl) rfl ?_
      refine ja_iconst (pc := 59) (n := 1) (v := 1) (by decide +kernel) (by decide +kernel) ?_
      refine ja_ishr (pc := 60) (by decide +kernel) ?_
      refine ja_ishl (pc := 61) (by decide +kernel) ?_
      refine ja_ior (pc := 62) (by decide +kernel) ?_
      refine ja_istore_n (pc := 63) (f := 1) (i := 1) (lv' := [(1, .int (x1 ||| ((1 : Int32) <<< ((v3.1 >>> ((1 : Int32) &&& 31)) &&& 31)))), (0, .int x0)]) (by decide +kernel) rfl (by decide) rfl ?_
      refine ja_iload_n (pc := 64) (f := 1) (i := 1) 0 (by decide +kernel) rfl rfl ?_
      exact ja_ret (pc := 65) (some (.int (x1 ||| ((1 : Int32) <<< ((v3.1 >>> ((1 : Int32) &&& 31)) &&& 31))))) .ireturn (by decide +kernel) rfl (by cases hf; rfl)
def f_Rule_reversedLevers_B19  (x0 : Int32) (x1 : Int32) (sg : ja_S) : Option (Int32 × ja_S) := (f_Rule_kind x0 sg).bind fun v1 => (if v1.1 = (2 : Int32) then f_Rule_reversedLevers_B36  x0 x1 v1.2 else (f_Rule_leverB x0 v1.2).bind fun v2 => f_Rule_reversedLevers_B36  x0 (x1 ||| ((1 : Int32) <<< (v2.1 &&& 31))) v2.2)
set_option maxRecDepth 4000 in
theorem w_Rule_reversedLevers_B19 (C : ja_C) {w : Int32 × ja_S}    (x0 : Int32) (x1 : Int32) (sg : ja_S)  (hf : f_Rule_reversedLevers_B19  x0 x1 sg = some w) : ja_J M_Rule_reversedLevers C 19 [(0, .int x0), (1, .int x1)] [] ja_L0 sg (some (.int w.1), ja_L0, w.2) := by
  unfold f_Rule_reversedLevers_B19 at hf
  refine ja_iload_n (pc := 19) (f := 0) (i := 0) 0 (by decide +kernel) rfl rfl ?_
  refine ja_bind hf (fun v1 hv1 hf => ?_)
  refine ja_callSi (pc := 20) (idx := 9) (as := [.int x0]) (st := []) (by decide +kernel) ks_Rule_kind lk_Rule_9 ⟨by decide, by decide⟩ (c_Rule_kind _ _ x0  hv1) rfl (Nat.le_of_ble_eq_true rfl) rfl ?_
  refine ja_iconst (pc := 23) (n := 2) (v := 2) (by decide +kernel) (by decide +kernel) ?_
  refine ja_icmp_eq (pc := 24) (off := 12) 36 (by decide +kernel) (by decide) hf (fun hf => ?_) (fun hf => ?_)
  · exact w_Rule_reversedLevers_B36 C  x0 x1 v1.2  hf
  · refine ja_iload_n (pc := 27) (f := 1) (i := 1) 1 (by decide +kernel) rfl rfl ?_
    refine ja_iconst (pc := 28) (n := 1) (v := 1) (by decide +kernel) (by decide +kernel) ?_
    refine ja_iload_n (pc := 29) (f := 0) (i := 0) 0 (by decide +kernel) rfl rfl ?_
    refine ja_bind hf (fun v2 hv2 hf => ?_)
    refine ja_callSi (pc := 30) (idx := 18) (as := [.int x0]) (st := [.int (1 : Int32), .int x1]) (by decide +kernel) ks_Rule_leverB lk_Rule_18 ⟨by decide, by decide⟩ (c_Rule_leverB _ _ x0  hv2) rfl (Nat.le_of_ble_eq_true rfl) rfl ?_
    refine ja_ishl (pc := 33) (by decide +kernel) ?_
    refine ja_ior (pc := 34) (by decide +kernel) ?_
    refine ja_istore_n (pc := 35) (f := 1) (i := 1) (lv' := [(1, .int (x1 ||| ((1 : Int32) <<< (v2.1 &&& 31)))), (0, .int x0)]) (by decide +kernel) rfl (by decide) rfl ?_
    refine ja_lv [1, 0] rfl ?_
    exact w_Rule_reversedLevers_B36 C  x0 (x1 ||| ((1 : Int32) <<< (v2.1 &&& 31))) v2.2  hf
def f_Rule_reversedLevers (x0 : Int32) (sg : ja_S) : Option (Int32 × ja_S) := (f_Rule_kind x0 sg).bind fun v1 => (if v1.1 = (1 : Int32) then f_Rule_reversedLevers_B19  x0 (0 : Int32) v1.2 else (f_Rule_leverA x0 v1.2).bind fun v2 => f_Rule_reversedLevers_B19  x0 ((0 : Int32) ||| ((1 : Int32) <<< (v2.1 &&& 31))) v2.2)
set_option maxRecDepth 4000 in
theorem c_Rule_reversedLevers (l : Launch) (x : ja_X) (x0 : Int32) {sg : ja_S} {w : Int32 × ja_S}  (hf : f_Rule_reversedLevers x0 sg = some w) : ja_Ct l x y_Rule_reversedLevers M_Rule_reversedLevers [.int x0] ja_L0 sg (some (.int w.1), ja_L0, w.2) := by
  refine ja_mk ⟨by decide, rfl, rfl⟩ (Nat.le_of_ble_eq_true rfl) (lv := [(0, .int x0)]) rfl (fun C hl hx _ _ _ _ => ?_)
  subst hl; subst hx
  unfold f_Rule_reversedLevers at hf
  refine ja_iconst (pc := 0) (n := 0) (v := 0) (by decide +kernel) (by decide +kernel) ?_
  refine ja_istore_n (pc := 1) (f := 1) (i := 1) (lv' := [(1, .int (0 : Int32)), (0, .int x0)]) (by decide +kernel) rfl (by decide) rfl ?_
  refine ja_iload_n (pc := 2) (f := 0) (i := 0) 1 (by decide +kernel) rfl rfl ?_
  refine ja_bind hf (fun v1 hv1 hf => ?_)
  refine ja_callSi (pc := 3) (idx := 9) (as := [.int x0]) (st := []) (by decide +kernel) ks_Rule_kind lk_Rule_9 ⟨by decide, by decide⟩ (c_Rule_kind _ _ x0  hv1) rfl (Nat.le_of_ble_eq_true rfl) rfl ?_
  refine ja_iconst (pc := 6) (n := 1) (v := 1) (by decide +kernel) (by decide +kernel) ?_
  refine ja_icmp_eq (pc := 7) (off := 12) 19 (by decide +kernel) (by decide) hf (fun hf => ?_) (fun hf => ?_)
  · refine ja_lv [1, 0] rfl ?_
    exact w_Rule_reversedLevers_B19 C  x0 (0 : Int32) v1.2  hf
  · refine ja_iload_n (pc := 10) (f := 1) (i := 1) 0 (by decide +kernel) rfl rfl ?_
    refine ja_iconst (pc := 11) (n := 1) (v := 1) (by decide +kernel) (by decide +kernel) ?_
    refine ja_iload_n (pc := 12) (f := 0) (i := 0) 1 (by decide +kernel) rfl rfl ?_
    refine ja_bind hf (fun v2 hv2 hf => ?_)
    refine ja_callSi (pc := 13) (idx := 15) (as := [.int x0]) (st := [.int (1 : Int32), .int (0 : Int32)]) (by decide +kernel) ks_Rule_leverA lk_Rule_15 ⟨by decide, by decide⟩ (c_Rule_leverA _ _ x0  hv2) rfl (Nat.le_of_ble_eq_true rfl) rfl ?_
    refine ja_ishl (pc := 16) (by decide +kernel) ?_
    refine ja_ior (pc := 17) (by decide +kernel) ?_
    refine ja_istore_n (pc := 18) (f := 1) (i := 1) (lv' := [(1, .int ((0 : Int32) ||| ((1 : Int32) <<< (v2.1 &&& 31)))), (0, .int x0)]) (by decide +kernel) rfl (by decide) rfl ?_
    refine ja_lv [1, 0] rfl ?_
    exact w_Rule_reversedLevers_B19 C  x0 ((0 : Int32) ||| ((1 : Int32) <<< (v2.1 &&& 31))) v2.2  hf
def f_Rule_normalLevers_B19  (x0 : Int32) (x1 : Int32) (sg : ja_S) : Option (Int32 × ja_S) := (f_Rule_condition x0 sg).bind fun v1 => (if v1.1 < 0 then some (x1, v1.2) else (f_Rule_condition x0 v1.2).bind fun v2 => (if (v2.1 &&& (1 : Int32)) = 0 then (f_Rule_condition x0 v2.2).bind fun v3 => some (x1 ||| ((1 : Int32) <<< ((v3.1 >>> ((1 : Int32) &&& 31)) &&& 31)), v3.2) else some (x1, v2.2)))
set_option maxRecDepth 4000 in
theorem w_Rule_normalLevers_B19 (C : ja_C) {w : Int32 × ja_S}    (x0 : Int32) (x1 : Int32) (sg : ja_S)  (hf : f_Rule_normalLevers_B19  x0 x1 sg = some w) : ja_J M_Rule_normalLevers C 19 [(0, .int x0), (1, .int x1)] [] ja_L0 sg (some (.int w.1), ja_L0, w.2) := by
  unfold f_Rule_normalLevers_B19 at hf
  refine ja_iload_n (pc := 19) (f := 0) (i := 0) 0 (by decide +kernel) rfl rfl ?_
  refine ja_bind hf (fun v1 hv1 hf => ?_)
  refine ja_callSi (pc := 20) (idx := 21) (as := [.int x0]) (st := []) (by decide +kernel) ks_Rule_condition lk_Rule_21 ⟨by decide, by decide⟩ (c_Rule_condition _ _ x0  hv1) rfl (Nat.le_of_ble_eq_true rfl) rfl ?_
  refine ja_if_lt (pc := 23) (off := 23) 46 (by decide +kernel) (by decide) hf (fun hf => ?_) (fun hf => ?_)
  · refine ja_iload_n (pc := 46) (f := 1) (i := 1) 1 (by decide +kernel) rfl rfl ?_
    exact ja_ret (pc := 47) (some (.int x1)) .ireturn (by decide +kernel) rfl (by cases hf; rfl)
  · refine ja_iload_n (pc := 26) (f := 0) (i := 0) 0 (by decide +kernel) rfl rfl ?_
    refine ja_bind hf (fun v2 hv2 hf => ?_)
    refine ja_callSi (pc := 27) (idx := 21) (as := [.int x0]) (st := []) (by decide +kernel) ks_Rule_condition lk_Rule_21 ⟨by decide, by decide⟩ (c_Rule_condition _ _ x0  hv2) rfl (Nat.le_of_ble_eq_true rfl) rfl ?_
    refine ja_iconst (pc := 30) (n := 1) (v := 1) (by decide +kernel) (by decide +kernel) ?_
    refine ja_iand (pc := 31) (by decide +kernel) ?_
    refine ja_if_ne (pc := 32) (off := 14) 46 (by decide +kernel) (by decide) hf (fun hf => ?_) (fun hf => ?_)
    · refine ja_iload_n (pc := 46) (f := 1) (i := 1) 1 (by decide +kernel) rfl rfl ?_
      exact ja_ret (pc := 47) (some (.int x1)) .ireturn (by decide +kernel) rfl (by cases hf; rfl)
    · refine ja_iload_n (pc := 35) (f := 1) (i := 1) 1 (by decide +kernel) rfl rfl ?_
      refine ja_iconst (pc := 36) (n := 1) (v := 1) (by decide +kernel) (by decide +kernel) ?_
      refine ja_iload_n (pc := 37) (f := 0) (i := 0) 0 (by decide +kernel) rfl rfl ?_
      refine ja_bind hf (fun v3 hv3 hf => ?_)
      refine ja_callSi (pc := 38) (idx := 21) (as := [.int x0]) (st := [.int (1 : Int32), .int x1]) (by decide +kernel) ks_Rule_condition lk_Rule_21 ⟨by decide, by decide⟩ (c_Rule_condition _ _ x0  hv3) rfl (Nat.le_of_ble_eq_true rfl) rfl ?_
      refine ja_iconst (pc := 41) (n := 1) (v := 1) (by decide +kernel) (by decide +kernel) ?_
      refine ja_ishr (pc := 42) (by decide +kernel) ?_
      refine ja_ishl (pc := 43) (by decide +kernel) ?_
      refine ja_ior (pc := 44) (by decide +kernel) ?_
      refine ja_istore_n (pc := 45) (f := 1) (i := 1) (lv' := [(1, .int (x1 ||| ((1 : Int32) <<< ((v3.1 >>> ((1 : Int32) &&& 31)) &&& 31)))), (0, .int x0)]) (by decide +kernel) rfl (by decide) rfl ?_
      refine ja_iload_n (pc := 46) (f := 1) (i := 1) 0 (by decide +kernel) rfl rfl ?_
      exact ja_ret (pc := 47) (some (.int (x1 ||| ((1 : Int32) <<< ((v3.1 >>> ((1 : Int32) &&& 31)) &&& 31))))) .ireturn (by decide +kernel) rfl (by cases hf; rfl)
def f_Rule_normalLevers (x0 : Int32) (sg : ja_S) : Option (Int32 × ja_S) := (f_Rule_kind x0 sg).bind fun v1 => (if v1.1 = (1 : Int32) then (f_Rule_leverA x0 v1.2).bind fun v2 => f_Rule_normalLevers_B19  x0 ((0 : Int32) ||| ((1 : Int32) <<< (v2.1 &&& 31))) v2.2 else f_Rule_normalLevers_B19  x0 (0 : Int32) v1.2)
set_option maxRecDepth 4000 in
theorem c_Rule_normalLevers (l : Launch) (x : ja_X) (x0 : Int32) {sg : ja_S} {w : Int32 × ja_S}  (hf : f_Rule_normalLevers x0 sg = some w) : ja_Ct l x y_Rule_normalLevers M_Rule_normalLevers [.int x0] ja_L0 sg (some (.int w.1), ja_L0, w.2) := by
  refine ja_mk ⟨by decide, rfl, rfl⟩ (Nat.le_of_ble_eq_true rfl) (lv := [(0, .int x0)]) rfl (fun C hl hx _ _ _ _ => ?_)
  subst hl; subst hx
  unfold f_Rule_normalLevers at hf
  refine ja_iconst (pc := 0) (n := 0) (v := 0) (by decide +kernel) (by decide +kernel) ?_
  refine ja_istore_n (pc := 1) (f := 1) (i := 1) (lv' := [(1, .int (0 : Int32)), (0, .int x0)]) (by decide +kernel) rfl (by decide) rfl ?_
  refine ja_iload_n (pc := 2) (f := 0) (i := 0) 1 (by decide +kernel) rfl rfl ?_
  refine ja_bind hf (fun v1 hv1 hf => ?_)
  refine ja_callSi (pc := 3) (idx := 9) (as := [.int x0]) (st := []) (by decide +kernel) ks_Rule_kind lk_Rule_9 ⟨by decide, by decide⟩ (c_Rule_kind _ _ x0  hv1) rfl (Nat.le_of_ble_eq_true rfl) rfl ?_
  refine ja_iconst (pc := 6) (n := 1) (v := 1) (by decide +kernel) (by decide +kernel) ?_
  refine ja_icmp_ne (pc := 7) (off := 12) 19 (by decide +kernel) (by decide) hf (fun hf => ?_) (fun hf => ?_)
  · refine ja_lv [1, 0] rfl ?_
    exact w_Rule_normalLevers_B19 C  x0 (0 : Int32) v1.2  hf
  · refine ja_iload_n (pc := 10) (f := 1) (i := 1) 0 (by decide +kernel) rfl rfl ?_
    refine ja_iconst (pc := 11) (n := 1) (v := 1) (by decide +kernel) (by decide +kernel) ?_
    refine ja_iload_n (pc := 12) (f := 0) (i := 0) 1 (by decide +kernel) rfl rfl ?_
    refine ja_bind hf (fun v2 hv2 hf => ?_)
    refine ja_callSi (pc := 13) (idx := 15) (as := [.int x0]) (st := [.int (1 : Int32), .int (0 : Int32)]) (by decide +kernel) ks_Rule_leverA lk_Rule_15 ⟨by decide, by decide⟩ (c_Rule_leverA _ _ x0  hv2) rfl (Nat.le_of_ble_eq_true rfl) rfl ?_
    refine ja_ishl (pc := 16) (by decide +kernel) ?_
    refine ja_ior (pc := 17) (by decide +kernel) ?_
    refine ja_istore_n (pc := 18) (f := 1) (i := 1) (lv' := [(1, .int ((0 : Int32) ||| ((1 : Int32) <<< (v2.1 &&& 31)))), (0, .int x0)]) (by decide +kernel) rfl (by decide) rfl ?_
    refine ja_lv [1, 0] rfl ?_
    exact w_Rule_normalLevers_B19 C  x0 ((0 : Int32) ||| ((1 : Int32) <<< (v2.1 &&& 31))) v2.2  hf
def f_Rule_bites (x0 : Int32) (x1 : Int32) (sg : ja_S) : Option (Int32 × ja_S) := (f_Rule_reversedLevers x0 sg).bind fun v1 => (if (x1 &&& v1.1) = v1.1 then (f_Rule_normalLevers x0 v1.2).bind fun v2 => (if (x1 &&& v2.1) = 0 then some ((1 : Int32), v2.2) else some ((0 : Int32), v2.2)) else some ((0 : Int32), v1.2))
set_option maxRecDepth 4000 in
theorem c_Rule_bites (l : Launch) (x : ja_X) (x0 : Int32) (x1 : Int32) {sg : ja_S} {w : Int32 × ja_S}  (hf : f_Rule_bites x0 x1 sg = some w) : ja_Ct l x y_Rule_bites M_Rule_bites [.int x0, .int x1] ja_L0 sg (some (.int w.1), ja_L0, w.2) := by
  refine ja_mk ⟨by decide, rfl, rfl⟩ (Nat.le_of_ble_eq_true rfl) (lv := [(0, .int x0), (1, .int x1)]) rfl (fun C hl hx _ _ _ _ => ?_)
  subst hl; subst hx
  unfold f_Rule_bites at hf
  refine ja_iload_n (pc := 0) (f := 0) (i := 0) 0 (by decide +kernel) rfl rfl ?_
  refine ja_bind hf (fun v1 hv1 hf => ?_)
  refine ja_callSi (pc := 1) (idx := 24) (as := [.int x0]) (st := []) (by decide +kernel) ks_Rule_reversedLevers lk_Rule_24 ⟨by decide, by decide⟩ (c_Rule_reversedLevers _ _ x0  hv1) rfl (Nat.le_of_ble_eq_true rfl) rfl ?_
  refine ja_istore_n (pc := 4) (f := 2) (i := 2) (lv' := [(2, .int v1.1), (0, .int x0), (1, .int x1)]) (by decide +kernel) rfl (by decide) rfl ?_
  refine ja_iload_n (pc := 5) (f := 1) (i := 1) 2 (by decide +kernel) rfl rfl ?_
  refine ja_iload_n (pc := 6) (f := 2) (i := 2) 0 (by decide +kernel) rfl rfl ?_
  refine ja_iand (pc := 7) (by decide +kernel) ?_
  refine ja_iload_n (pc := 8) (f := 2) (i := 2) 0 (by decide +kernel) rfl rfl ?_
  refine ja_icmp_ne (pc := 9) (off := 16) 25 (by decide +kernel) (by decide) hf (fun hf => ?_) (fun hf => ?_)
  · refine ja_iconst (pc := 25) (n := 0) (v := 0) (by decide +kernel) (by decide +kernel) ?_
    exact ja_ret (pc := 26) (some (.int (0 : Int32))) .ireturn (by decide +kernel) rfl (by cases hf; rfl)
  · refine ja_iload_n (pc := 12) (f := 1) (i := 1) 2 (by decide +kernel) rfl rfl ?_
    refine ja_iload_n (pc := 13) (f := 0) (i := 0) 1 (by decide +kernel) rfl rfl ?_
    refine ja_bind hf (fun v2 hv2 hf => ?_)
    refine ja_callSi (pc := 14) (idx := 27) (as := [.int x0]) (st := [.int x1]) (by decide +kernel) ks_Rule_normalLevers lk_Rule_27 ⟨by decide, by decide⟩ (c_Rule_normalLevers _ _ x0  hv2) rfl (Nat.le_of_ble_eq_true rfl) rfl ?_
    refine ja_iand (pc := 17) (by decide +kernel) ?_
    refine ja_if_ne (pc := 18) (off := 7) 25 (by decide +kernel) (by decide) hf (fun hf => ?_) (fun hf => ?_)
    · refine ja_iconst (pc := 25) (n := 0) (v := 0) (by decide +kernel) (by decide +kernel) ?_
      exact ja_ret (pc := 26) (some (.int (0 : Int32))) .ireturn (by decide +kernel) rfl (by cases hf; rfl)
    · refine ja_iconst (pc := 21) (n := 1) (v := 1) (by decide +kernel) (by decide +kernel) ?_
      refine ja_goto (pc := 22) (off := 4) 26 (by decide +kernel) (by decide) ?_
      exact ja_ret (pc := 26) (some (.int (1 : Int32))) .ireturn (by decide +kernel) rfl (by cases hf; rfl)
def f_Rule_blocks (x0 : Int32) (x1 : Int32) (x2 : Int32) (sg : ja_S) : Option (Int32 × ja_S) := (f_Rule_kind x0 sg).bind fun v1 => (if v1.1 = (2 : Int32) then (f_Rule_leverB x0 v1.2).bind fun v3 => (if v3.1 = x2 then (f_Rule_bites x0 x1 v3.2).bind fun v4 => (if v4.1 = 0 then some ((0 : Int32), v4.2) else some ((1 : Int32), v4.2)) else some ((0 : Int32), v3.2)) else (f_Rule_bites x0 (x1 ^^^ ((1 : Int32) <<< (x2 &&& 31))) v1.2).bind fun v2 => ja_rb v2.1 v2.2)
set_option maxRecDepth 4000 in
theorem c_Rule_blocks (l : Launch) (x : ja_X) (x0 : Int32) (x1 : Int32) (x2 : Int32) {sg : ja_S} {w : Int32 × ja_S}  (hf : f_Rule_blocks x0 x1 x2 sg = some w) : ja_Ct l x y_Rule_blocks M_Rule_blocks [.int x0, .int x1, .int x2] ja_L0 sg (some (.int w.1), ja_L0, w.2) := by
  refine ja_mk ⟨by decide, rfl, rfl⟩ (Nat.le_of_ble_eq_true rfl) (lv := [(0, .int x0), (1, .int x1), (2, .int x2)]) rfl (fun C hl hx _ _ _ _ => ?_)
  subst hl; subst hx
  unfold f_Rule_blocks at hf
  refine ja_iload_n (pc := 0) (f := 0) (i := 0) 0 (by decide +kernel) rfl rfl ?_
  refine ja_bind hf (fun v1 hv1 hf => ?_)
  refine ja_callSi (pc := 1) (idx := 9) (as := [.int x0]) (st := []) (by decide +kernel) ks_Rule_kind lk_Rule_9 ⟨by decide, by decide⟩ (c_Rule_kind _ _ x0  hv1) rfl (Nat.le_of_ble_eq_true rfl) rfl ?_
  refine ja_iconst (pc := 4) (n := 2) (v := 2) (by decide +kernel) (by decide +kernel) ?_
  refine ja_icmp_ne (pc := 5) (off := 25) 30 (by decide +kernel) (by decide) hf (fun hf => ?_) (fun hf => ?_)
  · refine ja_iload_n (pc := 30) (f := 0) (i := 0) 0 (by decide +kernel) rfl rfl ?_
    refine ja_iload_n (pc := 31) (f := 1) (i := 1) 1 (by decide +kernel) rfl rfl ?_
    refine ja_iconst (pc := 32) (n := 1) (v := 1) (by decide +kernel) (by decide +kernel) ?_
    refine ja_iload_n (pc := 33) (f := 2) (i := 2) 2 (by decide +kernel) rfl rfl ?_
    refine ja_ishl (pc := 34) (by decide +kernel) ?_
    refine ja_ixor (pc := 35) (by decide +kernel) ?_
    refine ja_bind hf (fun v2 hv2 hf => ?_)
    refine ja_callSi (pc := 36) (idx := 30) (as := [.int x0, .int (x1 ^^^ ((1 : Int32) <<< (x2 &&& 31)))]) (st := []) (by decide +kernel) ks_Rule_bites lk_Rule_30 ⟨by decide, by decide⟩ (c_Rule_bites _ _ x0 (x1 ^^^ ((1 : Int32) <<< (x2 &&& 31)))  hv2) rfl (Nat.le_of_ble_eq_true rfl) rfl ?_
    obtain ⟨hrb, hw⟩ := ja_ite hf
    exact ja_ret (pc := 39) (some (.int v2.1)) .ireturn (by decide +kernel) (ja_ri_b hrb) (by cases hw; rfl)
  · refine ja_iload_n (pc := 8) (f := 0) (i := 0) 0 (by decide +kernel) rfl rfl ?_
    refine ja_bind hf (fun v3 hv3 hf => ?_)
    refine ja_callSi (pc := 9) (idx := 18) (as := [.int x0]) (st := []) (by decide +kernel) ks_Rule_leverB lk_Rule_18 ⟨by decide, by decide⟩ (c_Rule_leverB _ _ x0  hv3) rfl (Nat.le_of_ble_eq_true rfl) rfl ?_
    refine ja_iload_n (pc := 12) (f := 2) (i := 2) 2 (by decide +kernel) rfl rfl ?_
    refine ja_icmp_ne (pc := 13) (off := 15) 28 (by decide +kernel) (by decide) hf (fun hf => ?_) (fun hf => ?_)
    · refine ja_iconst (pc := 28) (n := 0) (v := 0) (by decide +kernel) (by decide +kernel) ?_
      exact ja_ret (pc := 29) (some (.int (0 : Int32))) .ireturn (by decide +kernel) rfl (by cases hf; rfl)
    · refine ja_iload_n (pc := 16) (f := 0) (i := 0) 0 (by decide +kernel) rfl rfl ?_
      refine ja_iload_n (pc := 17) (f := 1) (i := 1) 1 (by decide +kernel) rfl rfl ?_
      refine ja_bind hf (fun v4 hv4 hf => ?_)
      refine ja_callSi (pc := 18) (idx := 30) (as := [.int x0, .int x1]) (st := []) (by decide +kernel) ks_Rule_bites lk_Rule_30 ⟨by decide, by decide⟩ (c_Rule_bites _ _ x0 x1  hv4) rfl (Nat.le_of_ble_eq_true rfl) rfl ?_
      refine ja_if_eq (pc := 21) (off := 7) 28 (by decide +kernel) (by decide) hf (fun hf => ?_) (fun hf => ?_)
      · refine ja_iconst (pc := 28) (n := 0) (v := 0) (by decide +kernel) (by decide +kernel) ?_
        exact ja_ret (pc := 29) (some (.int (0 : Int32))) .ireturn (by decide +kernel) rfl (by cases hf; rfl)
      · refine ja_iconst (pc := 24) (n := 1) (v := 1) (by decide +kernel) (by decide +kernel) ?_
        refine ja_goto (pc := 25) (off := 4) 29 (by decide +kernel) (by decide) ?_
        exact ja_ret (pc := 29) (some (.int (1 : Int32))) .ireturn (by decide +kernel) rfl (by cases hf; rfl)
def f_Sheet_firstBlocker_L2  : Nat → Nat → Int32 → Int32 → Int32 → ja_S → Option (Int32 × ja_S)
  | 0, _, _, _, _, _ => none
  | n + 1, x0, x1, x2, x3, sg => (if (sg.1 x0 3) ≤ x3 then some ((-1 : Int32), sg) else (ja_ld ja_L0 sg (ja_q x0 2) x3).bind fun v1 => (f_Rule_blocks v1 x1 x2 sg).bind fun v2 => (if v2.1 = 0 then f_Sheet_firstBlocker_L2  n x0 x1 x2 (x3 + 1) v2.2 else some (x3, v2.2)))
set_option maxRecDepth 4000 in
theorem w_Sheet_firstBlocker_L2 (C : ja_C) {w : Int32 × ja_S}    (n : Nat) : ∀ (x0 : Nat) (x1 : Int32) (x2 : Int32) (x3 : Int32) (sg : ja_S), ja_ob ja_L0 5 x0 → f_Sheet_firstBlocker_L2  n x0 x1 x2 x3 sg = some w → ja_J M_Sheet_firstBlocker C 2 [(0, .ref x0), (1, .int x1), (2, .int x2), (3, .int x3)] [] ja_L0 sg (some (.int w.1), ja_L0, w.2) := by
  induction n with
  | zero => intro _ _ _ _ _ _ hf; exact absurd (show (none : Option _) = some w from hf) (by simp)
  | succ n ih =>
    intro x0 x1 x2 x3 sg h0 hf
    unfold f_Sheet_firstBlocker_L2 at hf
    refine ja_iload_n (pc := 2) (f := 3) (i := 3) 3 (by decide +kernel) rfl rfl ?_
    refine ja_aload_n (pc := 3) (f := 0) (i := 0) 0 (by decide +kernel) rfl rfl ?_
    refine ja_geti (pc := 4) (idx := 22) (t := 5) (j := 3) (by decide +kernel) fd_Sheet_22 h0 ?_
    refine ja_icmp_ge (pc := 7) (off := 25) 32 (by decide +kernel) (by decide) hf (fun hf => ?_) (fun hf => ?_)
    · refine ja_iconst (pc := 32) (n := (-1)) (v := (-1)) (by decide +kernel) (by decide +kernel) ?_
      exact ja_ret (pc := 33) (some (.int (-1 : Int32))) .ireturn (by decide +kernel) rfl (by cases hf; rfl)
    · refine ja_aload_n (pc := 10) (f := 0) (i := 0) 0 (by decide +kernel) rfl rfl ?_
      refine ja_getr (pc := 11) (idx := 18) (t := 5) (j := 2) (by decide +kernel) fd_Sheet_18 h0 (fr_5_2 h0) ?_
      refine ja_iload_n (pc := 14) (f := 3) (i := 3) 3 (by decide +kernel) rfl rfl ?_
      refine ja_bind hf (fun v1 hv1 hf => ?_)
      refine ja_iald (pc := 15) (by decide +kernel) (fk_5_2 h0) hv1 ?_
      refine ja_iload_n (pc := 16) (f := 1) (i := 1) 1 (by decide +kernel) rfl rfl ?_
      refine ja_iload_n (pc := 17) (f := 2) (i := 2) 2 (by decide +kernel) rfl rfl ?_
      refine ja_bind hf (fun v2 hv2 hf => ?_)
      refine ja_callSi (pc := 18) (idx := 66) (as := [.int v1, .int x1, .int x2]) (st := []) (by decide +kernel) ks_Rule_blocks lk_Sheet_66 ⟨by decide, by decide⟩ (c_Rule_blocks _ _ v1 x1 x2  hv2) rfl (Nat.le_of_ble_eq_true rfl) rfl ?_
      refine ja_if_eq (pc := 21) (off := 5) 26 (by decide +kernel) (by decide) hf (fun hf => ?_) (fun hf => ?_)
      · refine ja_iinc (pc := 26) (i := 3) (n := 1) (v := x3 + 1) (lv' := [(3, .int (x3 + 1)), (0, .ref x0), (1, .int x1), (2, .int x2)]) 3 (by decide +kernel) rfl rfl (by decide) rfl ?_
        refine ja_goto (pc := 29) (off := (-27)) 2 (by decide +kernel) (by decide) ?_
        refine ja_lv [1, 2, 3, 0] rfl ?_
        exact ih x0 x1 x2 (x3 + 1) v2.2 h0 hf
      · refine ja_iload_n (pc := 24) (f := 3) (i := 3) 3 (by decide +kernel) rfl rfl ?_
        exact ja_ret (pc := 25) (some (.int x3)) .ireturn (by decide +kernel) rfl (by cases hf; rfl)
def f_Sheet_firstBlocker (x0 : Nat) (x1 : Int32) (x2 : Int32) (sg : ja_S) : Option (Int32 × ja_S) := f_Sheet_firstBlocker_L2  ja_FU x0 x1 x2 (0 : Int32) sg
set_option maxRecDepth 4000 in
theorem c_Sheet_firstBlocker (l : Launch) (x : ja_X) (x0 : Nat) (x1 : Int32) (x2 : Int32) {sg : ja_S} {w : Int32 × ja_S} (h0 : ja_ob ja_L0 5 x0) (hf : f_Sheet_firstBlocker x0 x1 x2 sg = some w) : ja_Ct l x y_Sheet_firstBlocker M_Sheet_firstBlocker [.ref x0, .int x1, .int x2] ja_L0 sg (some (.int w.1), ja_L0, w.2) := by
  refine ja_mk ⟨by decide, rfl, rfl⟩ (Nat.le_of_ble_eq_true rfl) (lv := [(0, .ref x0), (1, .int x1), (2, .int x2)]) rfl (fun C hl hx _ _ _ _ => ?_)
  subst hl; subst hx
  unfold f_Sheet_firstBlocker at hf
  refine ja_iconst (pc := 0) (n := 0) (v := 0) (by decide +kernel) (by decide +kernel) ?_
  refine ja_istore_n (pc := 1) (f := 3) (i := 3) (lv' := [(3, .int (0 : Int32)), (0, .ref x0), (1, .int x1), (2, .int x2)]) (by decide +kernel) rfl (by decide) rfl ?_
  refine ja_lv [1, 2, 3, 0] rfl ?_
  exact w_Sheet_firstBlocker_L2 C  ja_FU x0 x1 x2 (0 : Int32) sg h0 hf
def f_History_forgetOldest (x0 : Nat) (sg : ja_S) : Option (ja_S) := (ja_pu sg x0 0 (11 : Int32)).bind fun s1 => (ja_cpi ja_L0 s1 (ja_q x0 4) (1 : Int32) (ja_q x0 4) (0 : Int32) (s1.1 x0 0)).bind fun s2 => (ja_cpi ja_L0 s2 (ja_q x0 5) (1 : Int32) (ja_q x0 5) (0 : Int32) (s2.1 x0 0)).bind fun s3 => (ja_cpi ja_L0 s3 (ja_q x0 6) (1 : Int32) (ja_q x0 6) (0 : Int32) (s3.1 x0 0)).bind fun s4 => some s4
set_option maxRecDepth 4000 in
theorem c_History_forgetOldest (l : Launch) (x : ja_X) (x0 : Nat) {sg : ja_S} {w : ja_S} (h0 : ja_ob ja_L0 0 x0) (hf : f_History_forgetOldest x0 sg = some w) : ja_Ct l x y_History_forgetOldest M_History_forgetOldest [.ref x0] ja_L0 sg (none, ja_L0, w) := by
  refine ja_mk ⟨by decide, rfl, rfl⟩ (Nat.le_of_ble_eq_true rfl) (lv := [(0, .ref x0)]) rfl (fun C hl hx _ _ _ _ => ?_)
  subst hl; subst hx
  unfold f_History_forgetOldest at hf
  refine ja_aload_n (pc := 0) (f := 0) (i := 0) 0 (by decide +kernel) rfl rfl ?_
  refine ja_bipush (pc := 1) (n := 11) (v := 11) (by decide +kernel) (by decide +kernel) ?_
  refine ja_bind hf (fun s1 hs1 hf => ?_)
  refine ja_puti2 (pc := 3) (idx := 9) (t := 0) (j := 0) (by decide +kernel) fd_History_9 h0 ⟨rfl, rfl⟩ hs1 ?_
  refine ja_aload_n (pc := 6) (f := 0) (i := 0) 0 (by decide +kernel) rfl rfl ?_
  refine ja_getr (pc := 7) (idx := 24) (t := 0) (j := 4) (by decide +kernel) fd_History_24 h0 (fr_0_4 h0) ?_
  refine ja_iconst (pc := 10) (n := 1) (v := 1) (by decide +kernel) (by decide +kernel) ?_
  refine ja_aload_n (pc := 11) (f := 0) (i := 0) 0 (by decide +kernel) rfl rfl ?_
  refine ja_getr (pc := 12) (idx := 24) (t := 0) (j := 4) (by decide +kernel) fd_History_24 h0 (fr_0_4 h0) ?_
  refine ja_iconst (pc := 15) (n := 0) (v := 0) (by decide +kernel) (by decide +kernel) ?_
  refine ja_aload_n (pc := 16) (f := 0) (i := 0) 0 (by decide +kernel) rfl rfl ?_
  refine ja_geti (pc := 17) (idx := 9) (t := 0) (j := 0) (by decide +kernel) fd_History_9 h0 ?_
  refine ja_bind hf (fun s2 hs2 hf => ?_)
  refine ja_cpyi (pc := 20) (idx := 37) (by decide +kernel) kc_History_37 ⟨by decide, by decide⟩ (fk_0_4 h0) (fk_0_4 h0) (Nat.le_of_ble_eq_true rfl) hs2 ?_
  refine ja_aload_n (pc := 23) (f := 0) (i := 0) 0 (by decide +kernel) rfl rfl ?_
  refine ja_getr (pc := 24) (idx := 28) (t := 0) (j := 5) (by decide +kernel) fd_History_28 h0 (fr_0_5 h0) ?_
  refine ja_iconst (pc := 27) (n := 1) (v := 1) (by decide +kernel) (by decide +kernel) ?_
  refine ja_aload_n (pc := 28) (f := 0) (i := 0) 0 (by decide +kernel) rfl rfl ?_
  refine ja_getr (pc := 29) (idx := 28) (t := 0) (j := 5) (by decide +kernel) fd_History_28 h0 (fr_0_5 h0) ?_
  refine ja_iconst (pc := 32) (n := 0) (v := 0) (by decide +kernel) (by decide +kernel) ?_
  refine ja_aload_n (pc := 33) (f := 0) (i := 0) 0 (by decide +kernel) rfl rfl ?_
  refine ja_geti (pc := 34) (idx := 9) (t := 0) (j := 0) (by decide +kernel) fd_History_9 h0 ?_
  refine ja_bind hf (fun s3 hs3 hf => ?_)
  refine ja_cpyi (pc := 37) (idx := 37) (by decide +kernel) kc_History_37 ⟨by decide, by decide⟩ (fk_0_5 h0) (fk_0_5 h0) (Nat.le_of_ble_eq_true rfl) hs3 ?_
  refine ja_aload_n (pc := 40) (f := 0) (i := 0) 0 (by decide +kernel) rfl rfl ?_
  refine ja_getr (pc := 41) (idx := 31) (t := 0) (j := 6) (by decide +kernel) fd_History_31 h0 (fr_0_6 h0) ?_
  refine ja_iconst (pc := 44) (n := 1) (v := 1) (by decide +kernel) (by decide +kernel) ?_
  refine ja_aload_n (pc := 45) (f := 0) (i := 0) 0 (by decide +kernel) rfl rfl ?_
  refine ja_getr (pc := 46) (idx := 31) (t := 0) (j := 6) (by decide +kernel) fd_History_31 h0 (fr_0_6 h0) ?_
  refine ja_iconst (pc := 49) (n := 0) (v := 0) (by decide +kernel) (by decide +kernel) ?_
  refine ja_aload_n (pc := 50) (f := 0) (i := 0) 0 (by decide +kernel) rfl rfl ?_
  refine ja_geti (pc := 51) (idx := 9) (t := 0) (j := 0) (by decide +kernel) fd_History_9 h0 ?_
  refine ja_bind hf (fun s4 hs4 hf => ?_)
  refine ja_cpyi (pc := 54) (idx := 37) (by decide +kernel) kc_History_37 ⟨by decide, by decide⟩ (fk_0_6 h0) (fk_0_6 h0) (Nat.le_of_ble_eq_true rfl) hs4 ?_
  exact ja_ret (pc := 57) none .return_ (by decide +kernel) rfl (by cases hf; rfl)
def f_History_note_B13  (x0 : Nat) (x1 : Int32) (x2 : Int32) (x3 : Int32) (sg : ja_S) : Option (ja_S) := (ja_st ja_L0 sg (ja_q x0 4) (sg.1 x0 0) x1).bind fun s1 => (ja_st ja_L0 s1 (ja_q x0 5) (s1.1 x0 0) x2).bind fun s2 => (ja_st ja_L0 s2 (ja_q x0 6) (s2.1 x0 0) x3).bind fun s3 => (ja_pu s3 x0 0 ((s3.1 x0 0) + (1 : Int32))).bind fun s4 => some s4
set_option maxRecDepth 4000 in
theorem w_History_note_B13 (C : ja_C) {w : ja_S}    (x0 : Nat) (x1 : Int32) (x2 : Int32) (x3 : Int32) (sg : ja_S) (h0 : ja_ob ja_L0 0 x0) (hf : f_History_note_B13  x0 x1 x2 x3 sg = some w) : ja_J M_History_note C 13 [(0, .ref x0), (1, .int x1), (2, .int x2), (3, .int x3)] [] ja_L0 sg (none, ja_L0, w) := by
  unfold f_History_note_B13 at hf
  refine ja_aload_n (pc := 13) (f := 0) (i := 0) 0 (by decide +kernel) rfl rfl ?_
  refine ja_getr (pc := 14) (idx := 24) (t := 0) (j := 4) (by decide +kernel) fd_History_24 h0 (fr_0_4 h0) ?_
  refine ja_aload_n (pc := 17) (f := 0) (i := 0) 0 (by decide +kernel) rfl rfl ?_
  refine ja_geti (pc := 18) (idx := 9) (t := 0) (j := 0) (by decide +kernel) fd_History_9 h0 ?_
  refine ja_iload_n (pc := 21) (f := 1) (i := 1) 1 (by decide +kernel) rfl rfl ?_
  refine ja_bind hf (fun s1 hs1 hf => ?_)
  refine ja_iast (pc := 22) (by decide +kernel) (fk_0_4 h0) hs1 ?_
  refine ja_aload_n (pc := 23) (f := 0) (i := 0) 0 (by decide +kernel) rfl rfl ?_
  refine ja_getr (pc := 24) (idx := 28) (t := 0) (j := 5) (by decide +kernel) fd_History_28 h0 (fr_0_5 h0) ?_
  refine ja_aload_n (pc := 27) (f := 0) (i := 0) 0 (by decide +kernel) rfl rfl ?_
  refine ja_geti (pc := 28) (idx := 9) (t := 0) (j := 0) (by decide +kernel) fd_History_9 h0 ?_
  refine ja_iload_n (pc := 31) (f := 2) (i := 2) 2 (by decide +kernel) rfl rfl ?_
  refine ja_bind hf (fun s2 hs2 hf => ?_)
  refine ja_iast (pc := 32) (by decide +kernel) (fk_0_5 h0) hs2 ?_
  refine ja_aload_n (pc := 33) (f := 0) (i := 0) 0 (by decide +kernel) rfl rfl ?_
  refine ja_getr (pc := 34) (idx := 31) (t := 0) (j := 6) (by decide +kernel) fd_History_31 h0 (fr_0_6 h0) ?_
  refine ja_aload_n (pc := 37) (f := 0) (i := 0) 0 (by decide +kernel) rfl rfl ?_
  refine ja_geti (pc := 38) (idx := 9) (t := 0) (j := 0) (by decide +kernel) fd_History_9 h0 ?_
  refine ja_iload_n (pc := 41) (f := 3) (i := 3) 3 (by decide +kernel) rfl rfl ?_
  refine ja_bind hf (fun s3 hs3 hf => ?_)
  refine ja_iast (pc := 42) (by decide +kernel) (fk_0_6 h0) hs3 ?_
  refine ja_aload_n (pc := 43) (f := 0) (i := 0) 0 (by decide +kernel) rfl rfl ?_
  refine ja_dup (pc := 44) (by decide +kernel) rfl ?_
  refine ja_geti (pc := 45) (idx := 9) (t := 0) (j := 0) (by decide +kernel) fd_History_9 h0 ?_
  refine ja_iconst (pc := 48) (n := 1) (v := 1) (by decide +kernel) (by decide +kernel) ?_
  refine ja_iadd (pc := 49) (by decide +kernel) ?_
  refine ja_bind hf (fun s4 hs4 hf => ?_)
  refine ja_puti2 (pc := 50) (idx := 9) (t := 0) (j := 0) (by decide +kernel) fd_History_9 h0 ⟨rfl, rfl⟩ hs4 ?_
  exact ja_ret (pc := 53) none .return_ (by decide +kernel) rfl (by cases hf; rfl)
def f_History_note (x0 : Nat) (x1 : Int32) (x2 : Int32) (x3 : Int32) (sg : ja_S) : Option (ja_S) := (if (sg.1 x0 0) < (12 : Int32) then f_History_note_B13  x0 x1 x2 x3 sg else (f_History_forgetOldest x0 sg).bind fun v1 => f_History_note_B13  x0 x1 x2 x3 v1)
set_option maxRecDepth 4000 in
theorem c_History_note (l : Launch) (x : ja_X) (x0 : Nat) (x1 : Int32) (x2 : Int32) (x3 : Int32) {sg : ja_S} {w : ja_S} (h0 : ja_ob ja_L0 0 x0) (hf : f_History_note x0 x1 x2 x3 sg = some w) : ja_Ct l x y_History_note M_History_note [.ref x0, .int x1, .int x2, .int x3] ja_L0 sg (none, ja_L0, w) := by
  refine ja_mk ⟨by decide, rfl, rfl⟩ (Nat.le_of_ble_eq_true rfl) (lv := [(0, .ref x0), (1, .int x1), (2, .int x2), (3, .int x3)]) rfl (fun C hl hx _ _ _ _ => ?_)
  subst hl; subst hx
  unfold f_History_note at hf
  refine ja_aload_n (pc := 0) (f := 0) (i := 0) 0 (by decide +kernel) rfl rfl ?_
  refine ja_geti (pc := 1) (idx := 9) (t := 0) (j := 0) (by decide +kernel) fd_History_9 h0 ?_
  refine ja_bipush (pc := 4) (n := 12) (v := 12) (by decide +kernel) (by decide +kernel) ?_
  refine ja_icmp_lt (pc := 6) (off := 7) 13 (by decide +kernel) (by decide) hf (fun hf => ?_) (fun hf => ?_)
  · exact w_History_note_B13 C  x0 x1 x2 x3 sg h0 hf
  · refine ja_aload_n (pc := 9) (f := 0) (i := 0) 0 (by decide +kernel) rfl rfl ?_
    refine ja_bind hf (fun v1 hv1 hf => ?_)
    refine ja_callVv (pc := 10) (idx := 34) (t := 0) (b := x0) (as := []) (st := []) (by decide +kernel) kv_History_forgetOldest lk_History_34 ⟨by decide, by decide⟩ (c_History_forgetOldest _ _ x0 h0 hv1) h0 rfl (Nat.le_of_ble_eq_true rfl) rfl ?_
    exact w_History_note_B13 C  x0 x1 x2 x3 v1 h0 hf
def f_Frame_moveLever (x0 : Nat) (x1 : Int32) (sg : ja_S) : Option (Int32 × ja_S) := (f_Sheet_hasLever (ja_q x0 3) x1 sg).bind fun v1 => (if v1.1 = 0 then some ((-2 : Int32), v1.2) else (f_Sheet_firstBlocker (ja_q x0 3) (v1.2.1 x0 6) x1 v1.2).bind fun v2 => (if v2.1 = (-1 : Int32) then (ja_pu v2.2 x0 6 ((v2.2.1 x0 6) ^^^ ((1 : Int32) <<< (x1 &&& 31)))).bind fun s3 => (f_History_note (ja_q x0 5) (0 : Int32) x1 (0 : Int32) s3).bind fun v4 => some (v4.1 x0 6, v4) else some ((-6 : Int32), v2.2)))
set_option maxRecDepth 4000 in
theorem c_Frame_moveLever (l : Launch) (x : ja_X) (x0 : Nat) (x1 : Int32) {sg : ja_S} {w : Int32 × ja_S} (h0 : ja_ob ja_L0 7 x0) (hf : f_Frame_moveLever x0 x1 sg = some w) : ja_Ct l x y_Frame_moveLever M_Frame_moveLever [.ref x0, .int x1] ja_L0 sg (some (.int w.1), ja_L0, w.2) := by
  refine ja_mk ⟨by decide, rfl, rfl⟩ (Nat.le_of_ble_eq_true rfl) (lv := [(0, .ref x0), (1, .int x1)]) rfl (fun C hl hx _ _ _ _ => ?_)
  subst hl; subst hx
  unfold f_Frame_moveLever at hf
  refine ja_aload_n (pc := 0) (f := 0) (i := 0) 0 (by decide +kernel) rfl rfl ?_
  refine ja_getr (pc := 1) (idx := 19) (t := 7) (j := 3) (by decide +kernel) fd_Frame_19 h0 (fr_7_3 h0) ?_
  refine ja_iload_n (pc := 4) (f := 1) (i := 1) 1 (by decide +kernel) rfl rfl ?_
  refine ja_bind hf (fun v1 hv1 hf => ?_)
  refine ja_callVi (pc := 5) (idx := 143) (t := 5) (b := (ja_q x0 3)) (as := [.int x1]) (st := []) (by decide +kernel) kv_Sheet_hasLever lk_Frame_143 ⟨by decide, by decide⟩ (c_Sheet_hasLever _ _ (ja_q x0 3) x1 (fk_7_3 h0) hv1) (fk_7_3 h0) rfl (Nat.le_of_ble_eq_true rfl) rfl ?_
  refine ja_if_ne (pc := 8) (off := 6) 14 (by decide +kernel) (by decide) hf (fun hf => ?_) (fun hf => ?_)
  · refine ja_aload_n (pc := 14) (f := 0) (i := 0) 0 (by decide +kernel) rfl rfl ?_
    refine ja_getr (pc := 15) (idx := 19) (t := 7) (j := 3) (by decide +kernel) fd_Frame_19 h0 (fr_7_3 h0) ?_
    refine ja_aload_n (pc := 18) (f := 0) (i := 0) 0 (by decide +kernel) rfl rfl ?_
    refine ja_geti (pc := 19) (idx := 33) (t := 7) (j := 6) (by decide +kernel) fd_Frame_33 h0 ?_
    refine ja_iload_n (pc := 22) (f := 1) (i := 1) 1 (by decide +kernel) rfl rfl ?_
    refine ja_bind hf (fun v2 hv2 hf => ?_)
    refine ja_callVi (pc := 23) (idx := 146) (t := 5) (b := (ja_q x0 3)) (as := [.int (v1.2.1 x0 6), .int x1]) (st := []) (by decide +kernel) kv_Sheet_firstBlocker lk_Frame_146 ⟨by decide, by decide⟩ (c_Sheet_firstBlocker _ _ (ja_q x0 3) (v1.2.1 x0 6) x1 (fk_7_3 h0) hv2) (fk_7_3 h0) rfl (Nat.le_of_ble_eq_true rfl) rfl ?_
    refine ja_iconst (pc := 26) (n := (-1)) (v := (-1)) (by decide +kernel) (by decide +kernel) ?_
    refine ja_icmp_eq (pc := 27) (off := 6) 33 (by decide +kernel) (by decide) hf (fun hf => ?_) (fun hf => ?_)
    · refine ja_aload_n (pc := 33) (f := 0) (i := 0) 0 (by decide +kernel) rfl rfl ?_
      refine ja_dup (pc := 34) (by decide +kernel) rfl ?_
      refine ja_geti (pc := 35) (idx := 33) (t := 7) (j := 6) (by decide +kernel) fd_Frame_33 h0 ?_
      refine ja_iconst (pc := 38) (n := 1) (v := 1) (by decide +kernel) (by decide +kernel) ?_
      refine ja_iload_n (pc := 39) (f := 1) (i := 1) 1 (by decide +kernel) rfl rfl ?_
      refine ja_ishl (pc := 40) (by decide +kernel) ?_
      refine ja_ixor (pc := 41) (by decide +kernel) ?_
      refine ja_bind hf (fun s3 hs3 hf => ?_)
      refine ja_puti2 (pc := 42) (idx := 33) (t := 7) (j := 6) (by decide +kernel) fd_Frame_33 h0 ⟨rfl, rfl⟩ hs3 ?_
      refine ja_aload_n (pc := 45) (f := 0) (i := 0) 0 (by decide +kernel) rfl rfl ?_
      refine ja_getr (pc := 46) (idx := 29) (t := 7) (j := 5) (by decide +kernel) fd_Frame_29 h0 (fr_7_5 h0) ?_
      refine ja_iconst (pc := 49) (n := 0) (v := 0) (by decide +kernel) (by decide +kernel) ?_
      refine ja_iload_n (pc := 50) (f := 1) (i := 1) 1 (by decide +kernel) rfl rfl ?_
      refine ja_iconst (pc := 51) (n := 0) (v := 0) (by decide +kernel) (by decide +kernel) ?_
      refine ja_bind hf (fun v4 hv4 hf => ?_)
      refine ja_callVv (pc := 52) (idx := 149) (t := 0) (b := (ja_q x0 5)) (as := [.int (0 : Int32), .int x1, .int (0 : Int32)]) (st := []) (by decide +kernel) kv_History_note lk_Frame_149 ⟨by decide, by decide⟩ (c_History_note _ _ (ja_q x0 5) (0 : Int32) x1 (0 : Int32) (fk_7_5 h0) hv4) (fk_7_5 h0) rfl (Nat.le_of_ble_eq_true rfl) rfl ?_
      refine ja_aload_n (pc := 55) (f := 0) (i := 0) 0 (by decide +kernel) rfl rfl ?_
      refine ja_geti (pc := 56) (idx := 33) (t := 7) (j := 6) (by decide +kernel) fd_Frame_33 h0 ?_
      exact ja_ret (pc := 59) (some (.int (v4.1 x0 6))) .ireturn (by decide +kernel) rfl (by cases hf; rfl)
    · refine ja_bipush (pc := 30) (n := (-6)) (v := (-6)) (by decide +kernel) (by decide +kernel) ?_
      exact ja_ret (pc := 32) (some (.int (-6 : Int32))) .ireturn (by decide +kernel) rfl (by cases hf; rfl)
  · refine ja_bipush (pc := 11) (n := (-2)) (v := (-2)) (by decide +kernel) (by decide +kernel) ?_
    exact ja_ret (pc := 13) (some (.int (-2 : Int32))) .ireturn (by decide +kernel) rfl (by cases hf; rfl)
def f_Rule_forbids (x0 : Int32) (x1 : Int32) (sg : ja_S) : Option (Int32 × ja_S) := (f_Rule_kind x0 sg).bind fun v1 => (if v1.1 = (2 : Int32) then some ((0 : Int32), v1.2) else (f_Rule_bites x0 x1 v1.2).bind fun v2 => (if v2.1 = 0 then some ((0 : Int32), v2.2) else some ((1 : Int32), v2.2)))
set_option maxRecDepth 4000 in
theorem c_Rule_forbids (l : Launch) (x : ja_X) (x0 : Int32) (x1 : Int32) {sg : ja_S} {w : Int32 × ja_S}  (hf : f_Rule_forbids x0 x1 sg = some w) : ja_Ct l x y_Rule_forbids M_Rule_forbids [.int x0, .int x1] ja_L0 sg (some (.int w.1), ja_L0, w.2) := by
  refine ja_mk ⟨by decide, rfl, rfl⟩ (Nat.le_of_ble_eq_true rfl) (lv := [(0, .int x0), (1, .int x1)]) rfl (fun C hl hx _ _ _ _ => ?_)
  subst hl; subst hx
  unfold f_Rule_forbids at hf
  refine ja_iload_n (pc := 0) (f := 0) (i := 0) 0 (by decide +kernel) rfl rfl ?_
  refine ja_bind hf (fun v1 hv1 hf => ?_)
  refine ja_callSi (pc := 1) (idx := 9) (as := [.int x0]) (st := []) (by decide +kernel) ks_Rule_kind lk_Rule_9 ⟨by decide, by decide⟩ (c_Rule_kind _ _ x0  hv1) rfl (Nat.le_of_ble_eq_true rfl) rfl ?_
  refine ja_iconst (pc := 4) (n := 2) (v := 2) (by decide +kernel) (by decide +kernel) ?_
  refine ja_icmp_eq (pc := 5) (off := 15) 20 (by decide +kernel) (by decide) hf (fun hf => ?_) (fun hf => ?_)
  · refine ja_iconst (pc := 20) (n := 0) (v := 0) (by decide +kernel) (by decide +kernel) ?_
    exact ja_ret (pc := 21) (some (.int (0 : Int32))) .ireturn (by decide +kernel) rfl (by cases hf; rfl)
  · refine ja_iload_n (pc := 8) (f := 0) (i := 0) 0 (by decide +kernel) rfl rfl ?_
    refine ja_iload_n (pc := 9) (f := 1) (i := 1) 1 (by decide +kernel) rfl rfl ?_
    refine ja_bind hf (fun v2 hv2 hf => ?_)
    refine ja_callSi (pc := 10) (idx := 30) (as := [.int x0, .int x1]) (st := []) (by decide +kernel) ks_Rule_bites lk_Rule_30 ⟨by decide, by decide⟩ (c_Rule_bites _ _ x0 x1  hv2) rfl (Nat.le_of_ble_eq_true rfl) rfl ?_
    refine ja_if_eq (pc := 13) (off := 7) 20 (by decide +kernel) (by decide) hf (fun hf => ?_) (fun hf => ?_)
    · refine ja_iconst (pc := 20) (n := 0) (v := 0) (by decide +kernel) (by decide +kernel) ?_
      exact ja_ret (pc := 21) (some (.int (0 : Int32))) .ireturn (by decide +kernel) rfl (by cases hf; rfl)
    · refine ja_iconst (pc := 16) (n := 1) (v := 1) (by decide +kernel) (by decide +kernel) ?_
      refine ja_goto (pc := 17) (off := 4) 21 (by decide +kernel) (by decide) ?_
      exact ja_ret (pc := 21) (some (.int (1 : Int32))) .ireturn (by decide +kernel) rfl (by cases hf; rfl)
def f_Frame_addRule_B88  (x0 : Nat) (x1 : Int32) (x2 : Int32) (x3 : Int32) (x4 : Int32) (sg : ja_S) : Option (Int32 × ja_S) := (if (sg.1 (ja_q x0 3) 3) < (24 : Int32) then (f_Rule_pack x1 x2 x3 x4 sg).bind fun v1 => (f_Rule_forbids v1.1 (v1.2.1 x0 6) v1.2).bind fun v2 => (if v2.1 = 0 then (f_History_note (ja_q x0 5) (1 : Int32) (v2.2.1 (ja_q x0 3) 3) v1.1 v2.2).bind fun v3 => (f_Sheet_insertRule (ja_q x0 3) (v3.1 (ja_q x0 3) 3) v1.1 v3).bind fun v4 => (f_Frame_forgetFindings x0 v4).bind fun v5 => some (v5.1 (ja_q x0 3) 3, v5) else some ((-6 : Int32), v2.2)) else some ((-4 : Int32), sg))
set_option maxRecDepth 4000 in
theorem w_Frame_addRule_B88 (C : ja_C) {w : Int32 × ja_S}    (x0 : Nat) (x1 : Int32) (x2 : Int32) (x3 : Int32) (x4 : Int32) (sg : ja_S) (h0 : ja_ob ja_L0 7 x0) (hf : f_Frame_addRule_B88  x0 x1 x2 x3 x4 sg = some w) : ja_J M_Frame_addRule C 88 [(0, .ref x0), (1, .int x1), (2, .int x2), (3, .int x3), (4, .int x4)] [] ja_L0 sg (some (.int w.1), ja_L0, w.2) := by
  unfold f_Frame_addRule_B88 at hf
  refine ja_aload_n (pc := 88) (f := 0) (i := 0) 0 (by decide +kernel) rfl rfl ?_
  refine ja_getr (pc := 89) (idx := 19) (t := 7) (j := 3) (by decide +kernel) fd_Frame_19 h0 (fr_7_3 h0) ?_
  refine ja_geti (pc := 92) (idx := 95) (t := 5) (j := 3) (by decide +kernel) fd_Frame_95 (fk_7_3 h0) ?_
  refine ja_bipush (pc := 95) (n := 24) (v := 24) (by decide +kernel) (by decide +kernel) ?_
  refine ja_icmp_lt (pc := 97) (off := 6) 103 (by decide +kernel) (by decide) hf (fun hf => ?_) (fun hf => ?_)
  · refine ja_iload_n (pc := 103) (f := 1) (i := 1) 1 (by decide +kernel) rfl rfl ?_
    refine ja_iload_n (pc := 104) (f := 2) (i := 2) 2 (by decide +kernel) rfl rfl ?_
    refine ja_iload_n (pc := 105) (f := 3) (i := 3) 3 (by decide +kernel) rfl rfl ?_
    refine ja_iload (pc := 106) (i := 4) 4 (by decide +kernel) rfl ?_
    refine ja_bind hf (fun v1 hv1 hf => ?_)
    refine ja_callSi (pc := 108) (idx := 153) (as := [.int x1, .int x2, .int x3, .int x4]) (st := []) (by decide +kernel) ks_Rule_pack lk_Frame_153 ⟨by decide, by decide⟩ (c_Rule_pack _ _ x1 x2 x3 x4  hv1) rfl (Nat.le_of_ble_eq_true rfl) rfl ?_
    refine ja_istore (pc := 111) (i := 5) (lv' := [(5, .int v1.1), (0, .ref x0), (1, .int x1), (2, .int x2), (3, .int x3), (4, .int x4)]) (by decide +kernel) (by decide) rfl ?_
    refine ja_iload (pc := 113) (i := 5) 0 (by decide +kernel) rfl ?_
    refine ja_aload_n (pc := 115) (f := 0) (i := 0) 1 (by decide +kernel) rfl rfl ?_
    refine ja_geti (pc := 116) (idx := 33) (t := 7) (j := 6) (by decide +kernel) fd_Frame_33 h0 ?_
    refine ja_bind hf (fun v2 hv2 hf => ?_)
    refine ja_callSi (pc := 119) (idx := 157) (as := [.int v1.1, .int (v1.2.1 x0 6)]) (st := []) (by decide +kernel) ks_Rule_forbids lk_Frame_157 ⟨by decide, by decide⟩ (c_Rule_forbids _ _ v1.1 (v1.2.1 x0 6)  hv2) rfl (Nat.le_of_ble_eq_true rfl) rfl ?_
    refine ja_if_eq (pc := 122) (off := 6) 128 (by decide +kernel) (by decide) hf (fun hf => ?_) (fun hf => ?_)
    · refine ja_aload_n (pc := 128) (f := 0) (i := 0) 1 (by decide +kernel) rfl rfl ?_
      refine ja_getr (pc := 129) (idx := 29) (t := 7) (j := 5) (by decide +kernel) fd_Frame_29 h0 (fr_7_5 h0) ?_
      refine ja_iconst (pc := 132) (n := 1) (v := 1) (by decide +kernel) (by decide +kernel) ?_
      refine ja_aload_n (pc := 133) (f := 0) (i := 0) 1 (by decide +kernel) rfl rfl ?_
      refine ja_getr (pc := 134) (idx := 19) (t := 7) (j := 3) (by decide +kernel) fd_Frame_19 h0 (fr_7_3 h0) ?_
      refine ja_geti (pc := 137) (idx := 95) (t := 5) (j := 3) (by decide +kernel) fd_Frame_95 (fk_7_3 h0) ?_
      refine ja_iload (pc := 140) (i := 5) 0 (by decide +kernel) rfl ?_
      refine ja_bind hf (fun v3 hv3 hf => ?_)
      refine ja_callVv (pc := 142) (idx := 149) (t := 0) (b := (ja_q x0 5)) (as := [.int (1 : Int32), .int (v2.2.1 (ja_q x0 3) 3), .int v1.1]) (st := []) (by decide +kernel) kv_History_note lk_Frame_149 ⟨by decide, by decide⟩ (c_History_note _ _ (ja_q x0 5) (1 : Int32) (v2.2.1 (ja_q x0 3) 3) v1.1 (fk_7_5 h0) hv3) (fk_7_5 h0) rfl (Nat.le_of_ble_eq_true rfl) rfl ?_
      refine ja_aload_n (pc := 145) (f := 0) (i := 0) 1 (by decide +kernel) rfl rfl ?_
      refine ja_getr (pc := 146) (idx := 19) (t := 7) (j := 3) (by decide +kernel) fd_Frame_19 h0 (fr_7_3 h0) ?_
      refine ja_aload_n (pc := 149) (f := 0) (i := 0) 1 (by decide +kernel) rfl rfl ?_
      refine ja_getr (pc := 150) (idx := 19) (t := 7) (j := 3) (by decide +kernel) fd_Frame_19 h0 (fr_7_3 h0) ?_
      refine ja_geti (pc := 153) (idx := 95) (t := 5) (j := 3) (by decide +kernel) fd_Frame_95 (fk_7_3 h0) ?_
      refine ja_iload (pc := 156) (i := 5) 0 (by decide +kernel) rfl ?_
      refine ja_bind hf (fun v4 hv4 hf => ?_)
      refine ja_callVv (pc := 158) (idx := 161) (t := 5) (b := (ja_q x0 3)) (as := [.int (v3.1 (ja_q x0 3) 3), .int v1.1]) (st := []) (by decide +kernel) kv_Sheet_insertRule lk_Frame_161 ⟨by decide, by decide⟩ (c_Sheet_insertRule _ _ (ja_q x0 3) (v3.1 (ja_q x0 3) 3) v1.1 (fk_7_3 h0) hv4) (fk_7_3 h0) rfl (Nat.le_of_ble_eq_true rfl) rfl ?_
      refine ja_aload_n (pc := 161) (f := 0) (i := 0) 1 (by decide +kernel) rfl rfl ?_
      refine ja_bind hf (fun v5 hv5 hf => ?_)
      refine ja_callVv (pc := 162) (idx := 92) (t := 7) (b := x0) (as := []) (st := []) (by decide +kernel) kv_Frame_forgetFindings lk_Frame_92 ⟨by decide, by decide⟩ (c_Frame_forgetFindings _ _ x0 h0 hv5) h0 rfl (Nat.le_of_ble_eq_true rfl) rfl ?_
      refine ja_aload_n (pc := 165) (f := 0) (i := 0) 1 (by decide +kernel) rfl rfl ?_
      refine ja_getr (pc := 166) (idx := 19) (t := 7) (j := 3) (by decide +kernel) fd_Frame_19 h0 (fr_7_3 h0) ?_
      refine ja_geti (pc := 169) (idx := 95) (t := 5) (j := 3) (by decide +kernel) fd_Frame_95 (fk_7_3 h0) ?_
      exact ja_ret (pc := 172) (some (.int (v5.1 (ja_q x0 3) 3))) .ireturn (by decide +kernel) rfl (by cases hf; rfl)
    · refine ja_bipush (pc := 125) (n := (-6)) (v := (-6)) (by decide +kernel) (by decide +kernel) ?_
      exact ja_ret (pc := 127) (some (.int (-6 : Int32))) .ireturn (by decide +kernel) rfl (by cases hf; rfl)
  · refine ja_bipush (pc := 100) (n := (-4)) (v := (-4)) (by decide +kernel) (by decide +kernel) ?_
    exact ja_ret (pc := 102) (some (.int (-4 : Int32))) .ireturn (by decide +kernel) rfl (by cases hf; rfl)
def f_Frame_addRule_B44  (x0 : Nat) (x1 : Int32) (x2 : Int32) (x3 : Int32) (x4 : Int32) (sg : ja_S) : Option (Int32 × ja_S) := (if x1 < 0 then some ((-3 : Int32), sg) else (if (2 : Int32) < x1 then some ((-3 : Int32), sg) else (if x4 < (-1 : Int32) then some ((-3 : Int32), sg) else (if x2 = x3 then some ((-3 : Int32), sg) else (if x4 < 0 then f_Frame_addRule_B88  x0 x1 x2 x3 x4 sg else (if (x4 >>> ((1 : Int32) &&& 31)) = x2 then some ((-3 : Int32), sg) else (if (x4 >>> ((1 : Int32) &&& 31)) = x3 then some ((-3 : Int32), sg) else f_Frame_addRule_B88  x0 x1 x2 x3 x4 sg)))))))
set_option maxRecDepth 4000 in
theorem w_Frame_addRule_B44 (C : ja_C) {w : Int32 × ja_S}    (x0 : Nat) (x1 : Int32) (x2 : Int32) (x3 : Int32) (x4 : Int32) (sg : ja_S) (h0 : ja_ob ja_L0 7 x0) (hf : f_Frame_addRule_B44  x0 x1 x2 x3 x4 sg = some w) : ja_J M_Frame_addRule C 44 [(0, .ref x0), (1, .int x1), (2, .int x2), (3, .int x3), (4, .int x4)] [] ja_L0 sg (some (.int w.1), ja_L0, w.2) := by
  unfold f_Frame_addRule_B44 at hf
  refine ja_iload_n (pc := 44) (f := 1) (i := 1) 1 (by decide +kernel) rfl rfl ?_
  refine ja_if_lt (pc := 45) (off := 40) 85 (by decide +kernel) (by decide) hf (fun hf => ?_) (fun hf => ?_)
  · refine ja_bipush (pc := 85) (n := (-3)) (v := (-3)) (by decide +kernel) (by decide +kernel) ?_
    exact ja_ret (pc := 87) (some (.int (-3 : Int32))) .ireturn (by decide +kernel) rfl (by cases hf; rfl)
  · refine ja_iload_n (pc := 48) (f := 1) (i := 1) 1 (by decide +kernel) rfl rfl ?_
    refine ja_iconst (pc := 49) (n := 2) (v := 2) (by decide +kernel) (by decide +kernel) ?_
    refine ja_icmp_gt (pc := 50) (off := 35) 85 (by decide +kernel) (by decide) hf (fun hf => ?_) (fun hf => ?_)
    · refine ja_bipush (pc := 85) (n := (-3)) (v := (-3)) (by decide +kernel) (by decide +kernel) ?_
      exact ja_ret (pc := 87) (some (.int (-3 : Int32))) .ireturn (by decide +kernel) rfl (by cases hf; rfl)
    · refine ja_iload (pc := 53) (i := 4) 4 (by decide +kernel) rfl ?_
      refine ja_iconst (pc := 55) (n := (-1)) (v := (-1)) (by decide +kernel) (by decide +kernel) ?_
      refine ja_icmp_lt (pc := 56) (off := 29) 85 (by decide +kernel) (by decide) hf (fun hf => ?_) (fun hf => ?_)
      · refine ja_bipush (pc := 85) (n := (-3)) (v := (-3)) (by decide +kernel) (by decide +kernel) ?_
        exact ja_ret (pc := 87) (some (.int (-3 : Int32))) .ireturn (by decide +kernel) rfl (by cases hf; rfl)
      · refine ja_iload_n (pc := 59) (f := 2) (i := 2) 2 (by decide +kernel) rfl rfl ?_
        refine ja_iload_n (pc := 60) (f := 3) (i := 3) 3 (by decide +kernel) rfl rfl ?_
        refine ja_icmp_eq (pc := 61) (off := 24) 85 (by decide +kernel) (by decide) hf (fun hf => ?_) (fun hf => ?_)
        · refine ja_bipush (pc := 85) (n := (-3)) (v := (-3)) (by decide +kernel) (by decide +kernel) ?_
          exact ja_ret (pc := 87) (some (.int (-3 : Int32))) .ireturn (by decide +kernel) rfl (by cases hf; rfl)
        · refine ja_iload (pc := 64) (i := 4) 4 (by decide +kernel) rfl ?_
          refine ja_if_lt (pc := 66) (off := 22) 88 (by decide +kernel) (by decide) hf (fun hf => ?_) (fun hf => ?_)
          · exact w_Frame_addRule_B88 C  x0 x1 x2 x3 x4 sg h0 hf
          · refine ja_iload (pc := 69) (i := 4) 4 (by decide +kernel) rfl ?_
            refine ja_iconst (pc := 71) (n := 1) (v := 1) (by decide +kernel) (by decide +kernel) ?_
            refine ja_ishr (pc := 72) (by decide +kernel) ?_
            refine ja_iload_n (pc := 73) (f := 2) (i := 2) 2 (by decide +kernel) rfl rfl ?_
            refine ja_icmp_eq (pc := 74) (off := 11) 85 (by decide +kernel) (by decide) hf (fun hf => ?_) (fun hf => ?_)
            · refine ja_bipush (pc := 85) (n := (-3)) (v := (-3)) (by decide +kernel) (by decide +kernel) ?_
              exact ja_ret (pc := 87) (some (.int (-3 : Int32))) .ireturn (by decide +kernel) rfl (by cases hf; rfl)
            · refine ja_iload (pc := 77) (i := 4) 4 (by decide +kernel) rfl ?_
              refine ja_iconst (pc := 79) (n := 1) (v := 1) (by decide +kernel) (by decide +kernel) ?_
              refine ja_ishr (pc := 80) (by decide +kernel) ?_
              refine ja_iload_n (pc := 81) (f := 3) (i := 3) 3 (by decide +kernel) rfl rfl ?_
              refine ja_icmp_ne (pc := 82) (off := 6) 88 (by decide +kernel) (by decide) hf (fun hf => ?_) (fun hf => ?_)
              · exact w_Frame_addRule_B88 C  x0 x1 x2 x3 x4 sg h0 hf
              · refine ja_bipush (pc := 85) (n := (-3)) (v := (-3)) (by decide +kernel) (by decide +kernel) ?_
                exact ja_ret (pc := 87) (some (.int (-3 : Int32))) .ireturn (by decide +kernel) rfl (by cases hf; rfl)
def f_Frame_addRule (x0 : Nat) (x1 : Int32) (x2 : Int32) (x3 : Int32) (x4 : Int32) (sg : ja_S) : Option (Int32 × ja_S) := (f_Sheet_hasLever (ja_q x0 3) x2 sg).bind fun v1 => (if v1.1 = 0 then some ((-2 : Int32), v1.2) else (f_Sheet_hasLever (ja_q x0 3) x3 v1.2).bind fun v2 => (if v2.1 = 0 then some ((-2 : Int32), v2.2) else (if x4 < 0 then f_Frame_addRule_B44  x0 x1 x2 x3 x4 v2.2 else (f_Sheet_hasLever (ja_q x0 3) (x4 >>> ((1 : Int32) &&& 31)) v2.2).bind fun v3 => (if v3.1 = 0 then some ((-2 : Int32), v3.2) else f_Frame_addRule_B44  x0 x1 x2 x3 x4 v3.2))))
set_option maxRecDepth 4000 in
theorem c_Frame_addRule (l : Launch) (x : ja_X) (x0 : Nat) (x1 : Int32) (x2 : Int32) (x3 : Int32) (x4 : Int32) {sg : ja_S} {w : Int32 × ja_S} (h0 : ja_ob ja_L0 7 x0) (hf : f_Frame_addRule x0 x1 x2 x3 x4 sg = some w) : ja_Ct l x y_Frame_addRule M_Frame_addRule [.ref x0, .int x1, .int x2, .int x3, .int x4] ja_L0 sg (some (.int w.1), ja_L0, w.2) := by
  refine ja_mk ⟨by decide, rfl, rfl⟩ (Nat.le_of_ble_eq_true rfl) (lv := [(0, .ref x0), (1, .int x1), (2, .int x2), (3, .int x3), (4, .int x4)]) rfl (fun C hl hx _ _ _ _ => ?_)
  subst hl; subst hx
  unfold f_Frame_addRule at hf
  refine ja_aload_n (pc := 0) (f := 0) (i := 0) 0 (by decide +kernel) rfl rfl ?_
  refine ja_getr (pc := 1) (idx := 19) (t := 7) (j := 3) (by decide +kernel) fd_Frame_19 h0 (fr_7_3 h0) ?_
  refine ja_iload_n (pc := 4) (f := 2) (i := 2) 2 (by decide +kernel) rfl rfl ?_
  refine ja_bind hf (fun v1 hv1 hf => ?_)
  refine ja_callVi (pc := 5) (idx := 143) (t := 5) (b := (ja_q x0 3)) (as := [.int x2]) (st := []) (by decide +kernel) kv_Sheet_hasLever lk_Frame_143 ⟨by decide, by decide⟩ (c_Sheet_hasLever _ _ (ja_q x0 3) x2 (fk_7_3 h0) hv1) (fk_7_3 h0) rfl (Nat.le_of_ble_eq_true rfl) rfl ?_
  refine ja_if_eq (pc := 8) (off := 33) 41 (by decide +kernel) (by decide) hf (fun hf => ?_) (fun hf => ?_)
  · refine ja_bipush (pc := 41) (n := (-2)) (v := (-2)) (by decide +kernel) (by decide +kernel) ?_
    exact ja_ret (pc := 43) (some (.int (-2 : Int32))) .ireturn (by decide +kernel) rfl (by cases hf; rfl)
  · refine ja_aload_n (pc := 11) (f := 0) (i := 0) 0 (by decide +kernel) rfl rfl ?_
    refine ja_getr (pc := 12) (idx := 19) (t := 7) (j := 3) (by decide +kernel) fd_Frame_19 h0 (fr_7_3 h0) ?_
    refine ja_iload_n (pc := 15) (f := 3) (i := 3) 3 (by decide +kernel) rfl rfl ?_
    refine ja_bind hf (fun v2 hv2 hf => ?_)
    refine ja_callVi (pc := 16) (idx := 143) (t := 5) (b := (ja_q x0 3)) (as := [.int x3]) (st := []) (by decide +kernel) kv_Sheet_hasLever lk_Frame_143 ⟨by decide, by decide⟩ (c_Sheet_hasLever _ _ (ja_q x0 3) x3 (fk_7_3 h0) hv2) (fk_7_3 h0) rfl (Nat.le_of_ble_eq_true rfl) rfl ?_
    refine ja_if_eq (pc := 19) (off := 22) 41 (by decide +kernel) (by decide) hf (fun hf => ?_) (fun hf => ?_)
    · refine ja_bipush (pc := 41) (n := (-2)) (v := (-2)) (by decide +kernel) (by decide +kernel) ?_
      exact ja_ret (pc := 43) (some (.int (-2 : Int32))) .ireturn (by decide +kernel) rfl (by cases hf; rfl)
    · refine ja_iload (pc := 22) (i := 4) 4 (by decide +kernel) rfl ?_
      refine ja_if_lt (pc := 24) (off := 20) 44 (by decide +kernel) (by decide) hf (fun hf => ?_) (fun hf => ?_)
      · exact w_Frame_addRule_B44 C  x0 x1 x2 x3 x4 v2.2 h0 hf
      · refine ja_aload_n (pc := 27) (f := 0) (i := 0) 0 (by decide +kernel) rfl rfl ?_
        refine ja_getr (pc := 28) (idx := 19) (t := 7) (j := 3) (by decide +kernel) fd_Frame_19 h0 (fr_7_3 h0) ?_
        refine ja_iload (pc := 31) (i := 4) 4 (by decide +kernel) rfl ?_
        refine ja_iconst (pc := 33) (n := 1) (v := 1) (by decide +kernel) (by decide +kernel) ?_
        refine ja_ishr (pc := 34) (by decide +kernel) ?_
        refine ja_bind hf (fun v3 hv3 hf => ?_)
        refine ja_callVi (pc := 35) (idx := 143) (t := 5) (b := (ja_q x0 3)) (as := [.int (x4 >>> ((1 : Int32) &&& 31))]) (st := []) (by decide +kernel) kv_Sheet_hasLever lk_Frame_143 ⟨by decide, by decide⟩ (c_Sheet_hasLever _ _ (ja_q x0 3) (x4 >>> ((1 : Int32) &&& 31)) (fk_7_3 h0) hv3) (fk_7_3 h0) rfl (Nat.le_of_ble_eq_true rfl) rfl ?_
        refine ja_if_ne (pc := 38) (off := 6) 44 (by decide +kernel) (by decide) hf (fun hf => ?_) (fun hf => ?_)
        · exact w_Frame_addRule_B44 C  x0 x1 x2 x3 x4 v3.2 h0 hf
        · refine ja_bipush (pc := 41) (n := (-2)) (v := (-2)) (by decide +kernel) (by decide +kernel) ?_
          exact ja_ret (pc := 43) (some (.int (-2 : Int32))) .ireturn (by decide +kernel) rfl (by cases hf; rfl)
def f_Sheet_dropRule (x0 : Nat) (x1 : Int32) (sg : ja_S) : Option (ja_S) := (f_Sheet_hasRule x0 x1 sg).bind fun v1 => (if v1.1 = 0 then some v1.2 else (ja_pu v1.2 x0 3 ((v1.2.1 x0 3) - (1 : Int32))).bind fun s2 => (ja_cpi ja_L0 s2 (ja_q x0 2) (x1 + (1 : Int32)) (ja_q x0 2) x1 ((s2.1 x0 3) - x1)).bind fun s3 => some s3)
set_option maxRecDepth 4000 in
theorem c_Sheet_dropRule (l : Launch) (x : ja_X) (x0 : Nat) (x1 : Int32) {sg : ja_S} {w : ja_S} (h0 : ja_ob ja_L0 5 x0) (hf : f_Sheet_dropRule x0 x1 sg = some w) : ja_Ct l x y_Sheet_dropRule M_Sheet_dropRule [.ref x0, .int x1] ja_L0 sg (none, ja_L0, w) := by
  refine ja_mk ⟨by decide, rfl, rfl⟩ (Nat.le_of_ble_eq_true rfl) (lv := [(0, .ref x0), (1, .int x1)]) rfl (fun C hl hx _ _ _ _ => ?_)
  subst hl; subst hx
  unfold f_Sheet_dropRule at hf
  refine ja_aload_n (pc := 0) (f := 0) (i := 0) 0 (by decide +kernel) rfl rfl ?_
  refine ja_iload_n (pc := 1) (f := 1) (i := 1) 1 (by decide +kernel) rfl rfl ?_
  refine ja_bind hf (fun v1 hv1 hf => ?_)
  refine ja_callVi (pc := 2) (idx := 53) (t := 5) (b := x0) (as := [.int x1]) (st := []) (by decide +kernel) kv_Sheet_hasRule lk_Sheet_53 ⟨by decide, by decide⟩ (c_Sheet_hasRule _ _ x0 x1 h0 hv1) h0 rfl (Nat.le_of_ble_eq_true rfl) rfl ?_
  refine ja_if_ne (pc := 5) (off := 4) 9 (by decide +kernel) (by decide) hf (fun hf => ?_) (fun hf => ?_)
  · refine ja_aload_n (pc := 9) (f := 0) (i := 0) 0 (by decide +kernel) rfl rfl ?_
    refine ja_dup (pc := 10) (by decide +kernel) rfl ?_
    refine ja_geti (pc := 11) (idx := 22) (t := 5) (j := 3) (by decide +kernel) fd_Sheet_22 h0 ?_
    refine ja_iconst (pc := 14) (n := 1) (v := 1) (by decide +kernel) (by decide +kernel) ?_
    refine ja_isub (pc := 15) (by decide +kernel) ?_
    refine ja_bind hf (fun s2 hs2 hf => ?_)
    refine ja_puti2 (pc := 16) (idx := 22) (t := 5) (j := 3) (by decide +kernel) fd_Sheet_22 h0 ⟨rfl, rfl⟩ hs2 ?_
    refine ja_aload_n (pc := 19) (f := 0) (i := 0) 0 (by decide +kernel) rfl rfl ?_
    refine ja_getr (pc := 20) (idx := 18) (t := 5) (j := 2) (by decide +kernel) fd_Sheet_18 h0 (fr_5_2 h0) ?_
    refine ja_iload_n (pc := 23) (f := 1) (i := 1) 1 (by decide +kernel) rfl rfl ?_
    refine ja_iconst (pc := 24) (n := 1) (v := 1) (by decide +kernel) (by decide +kernel) ?_
    refine ja_iadd (pc := 25) (by decide +kernel) ?_
    refine ja_aload_n (pc := 26) (f := 0) (i := 0) 0 (by decide +kernel) rfl rfl ?_
    refine ja_getr (pc := 27) (idx := 18) (t := 5) (j := 2) (by decide +kernel) fd_Sheet_18 h0 (fr_5_2 h0) ?_
    refine ja_iload_n (pc := 30) (f := 1) (i := 1) 1 (by decide +kernel) rfl rfl ?_
    refine ja_aload_n (pc := 31) (f := 0) (i := 0) 0 (by decide +kernel) rfl rfl ?_
    refine ja_geti (pc := 32) (idx := 22) (t := 5) (j := 3) (by decide +kernel) fd_Sheet_22 h0 ?_
    refine ja_iload_n (pc := 35) (f := 1) (i := 1) 1 (by decide +kernel) rfl rfl ?_
    refine ja_isub (pc := 36) (by decide +kernel) ?_
    refine ja_bind hf (fun s3 hs3 hf => ?_)
    refine ja_cpyi (pc := 37) (idx := 40) (by decide +kernel) kc_Sheet_40 ⟨by decide, by decide⟩ (fk_5_2 h0) (fk_5_2 h0) (Nat.le_of_ble_eq_true rfl) hs3 ?_
    exact ja_ret (pc := 40) none .return_ (by decide +kernel) rfl (by cases hf; rfl)
  · exact ja_ret (pc := 8) none .return_ (by decide +kernel) rfl (by cases hf; rfl)
def f_Frame_removeRule (x0 : Nat) (x1 : Int32) (sg : ja_S) : Option (Int32 × ja_S) := (f_Sheet_hasRule (ja_q x0 3) x1 sg).bind fun v1 => (if v1.1 = 0 then some ((-2 : Int32), v1.2) else (ja_ld ja_L0 v1.2 (ja_q (ja_q x0 3) 2) x1).bind fun v2 => (f_History_note (ja_q x0 5) (2 : Int32) x1 v2 v1.2).bind fun v3 => (f_Sheet_dropRule (ja_q x0 3) x1 v3).bind fun v4 => (f_Frame_forgetFindings x0 v4).bind fun v5 => some (v5.1 (ja_q x0 3) 3, v5))
set_option maxRecDepth 4000 in
theorem c_Frame_removeRule (l : Launch) (x : ja_X) (x0 : Nat) (x1 : Int32) {sg : ja_S} {w : Int32 × ja_S} (h0 : ja_ob ja_L0 7 x0) (hf : f_Frame_removeRule x0 x1 sg = some w) : ja_Ct l x y_Frame_removeRule M_Frame_removeRule [.ref x0, .int x1] ja_L0 sg (some (.int w.1), ja_L0, w.2) := by
  refine ja_mk ⟨by decide, rfl, rfl⟩ (Nat.le_of_ble_eq_true rfl) (lv := [(0, .ref x0), (1, .int x1)]) rfl (fun C hl hx _ _ _ _ => ?_)
  subst hl; subst hx
  unfold f_Frame_removeRule at hf
  refine ja_aload_n (pc := 0) (f := 0) (i := 0) 0 (by decide +kernel) rfl rfl ?_
  refine ja_getr (pc := 1) (idx := 19) (t := 7) (j := 3) (by decide +kernel) fd_Frame_19 h0 (fr_7_3 h0) ?_
  refine ja_iload_n (pc := 4) (f := 1) (i := 1) 1 (by decide +kernel) rfl rfl ?_
  refine ja_bind hf (fun v1 hv1 hf => ?_)
  refine ja_callVi (pc := 5) (idx := 110) (t := 5) (b := (ja_q x0 3)) (as := [.int x1]) (st := []) (by decide +kernel) kv_Sheet_hasRule lk_Frame_110 ⟨by decide, by decide⟩ (c_Sheet_hasRule _ _ (ja_q x0 3) x1 (fk_7_3 h0) hv1) (fk_7_3 h0) rfl (Nat.le_of_ble_eq_true rfl) rfl ?_
  refine ja_if_ne (pc := 8) (off := 6) 14 (by decide +kernel) (by decide) hf (fun hf => ?_) (fun hf => ?_)
  · refine ja_aload_n (pc := 14) (f := 0) (i := 0) 0 (by decide +kernel) rfl rfl ?_
    refine ja_getr (pc := 15) (idx := 29) (t := 7) (j := 5) (by decide +kernel) fd_Frame_29 h0 (fr_7_5 h0) ?_
    refine ja_iconst (pc := 18) (n := 2) (v := 2) (by decide +kernel) (by decide +kernel) ?_
    refine ja_iload_n (pc := 19) (f := 1) (i := 1) 1 (by decide +kernel) rfl rfl ?_
    refine ja_aload_n (pc := 20) (f := 0) (i := 0) 0 (by decide +kernel) rfl rfl ?_
    refine ja_getr (pc := 21) (idx := 19) (t := 7) (j := 3) (by decide +kernel) fd_Frame_19 h0 (fr_7_3 h0) ?_
    refine ja_getr (pc := 24) (idx := 114) (t := 5) (j := 2) (by decide +kernel) fd_Frame_114 (fk_7_3 h0) (fr_5_2 (fk_7_3 h0)) ?_
    refine ja_iload_n (pc := 27) (f := 1) (i := 1) 1 (by decide +kernel) rfl rfl ?_
    refine ja_bind hf (fun v2 hv2 hf => ?_)
    refine ja_iald (pc := 28) (by decide +kernel) (fk_5_2 (fk_7_3 h0)) hv2 ?_
    refine ja_bind hf (fun v3 hv3 hf => ?_)
    refine ja_callVv (pc := 29) (idx := 149) (t := 0) (b := (ja_q x0 5)) (as := [.int (2 : Int32), .int x1, .int v2]) (st := []) (by decide +kernel) kv_History_note lk_Frame_149 ⟨by decide, by decide⟩ (c_History_note _ _ (ja_q x0 5) (2 : Int32) x1 v2 (fk_7_5 h0) hv3) (fk_7_5 h0) rfl (Nat.le_of_ble_eq_true rfl) rfl ?_
    refine ja_aload_n (pc := 32) (f := 0) (i := 0) 0 (by decide +kernel) rfl rfl ?_
    refine ja_getr (pc := 33) (idx := 19) (t := 7) (j := 3) (by decide +kernel) fd_Frame_19 h0 (fr_7_3 h0) ?_
    refine ja_iload_n (pc := 36) (f := 1) (i := 1) 1 (by decide +kernel) rfl rfl ?_
    refine ja_bind hf (fun v4 hv4 hf => ?_)
    refine ja_callVv (pc := 37) (idx := 165) (t := 5) (b := (ja_q x0 3)) (as := [.int x1]) (st := []) (by decide +kernel) kv_Sheet_dropRule lk_Frame_165 ⟨by decide, by decide⟩ (c_Sheet_dropRule _ _ (ja_q x0 3) x1 (fk_7_3 h0) hv4) (fk_7_3 h0) rfl (Nat.le_of_ble_eq_true rfl) rfl ?_
    refine ja_aload_n (pc := 40) (f := 0) (i := 0) 0 (by decide +kernel) rfl rfl ?_
    refine ja_bind hf (fun v5 hv5 hf => ?_)
    refine ja_callVv (pc := 41) (idx := 92) (t := 7) (b := x0) (as := []) (st := []) (by decide +kernel) kv_Frame_forgetFindings lk_Frame_92 ⟨by decide, by decide⟩ (c_Frame_forgetFindings _ _ x0 h0 hv5) h0 rfl (Nat.le_of_ble_eq_true rfl) rfl ?_
    refine ja_aload_n (pc := 44) (f := 0) (i := 0) 0 (by decide +kernel) rfl rfl ?_
    refine ja_getr (pc := 45) (idx := 19) (t := 7) (j := 3) (by decide +kernel) fd_Frame_19 h0 (fr_7_3 h0) ?_
    refine ja_geti (pc := 48) (idx := 95) (t := 5) (j := 3) (by decide +kernel) fd_Frame_95 (fk_7_3 h0) ?_
    exact ja_ret (pc := 51) (some (.int (v5.1 (ja_q x0 3) 3))) .ireturn (by decide +kernel) rfl (by cases hf; rfl)
  · refine ja_bipush (pc := 11) (n := (-2)) (v := (-2)) (by decide +kernel) (by decide +kernel) ?_
    exact ja_ret (pc := 13) (some (.int (-2 : Int32))) .ireturn (by decide +kernel) rfl (by cases hf; rfl)
