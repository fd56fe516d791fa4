def f_Frame_proposedLock (x0 : Nat) (x1 : Int32) (sg : ja_S) : Option (Int32 × ja_S) := (f_Sheet_hasConflict (ja_q x0 3) x1 sg).bind fun v1 => (if v1.1 = 0 then some ((-2 : Int32), v1.2) else (f_Frame_searchedHome x0 v1.2).bind fun v2 => (f_Sheet_settableRoutes (ja_q x0 3) (ja_q x0 7) v2).bind fun v3 => (f_LockPlanner_propose (ja_q x0 10) (ja_q x0 9) (ja_q x0 3) x1 (ja_q (ja_q x0 7) 0) v3.1 v3.2).bind fun v4 => some (v4.1, v4.2))
set_option maxRecDepth 4000 in
theorem c_Frame_proposedLock (l : Launch) (x : ja_X) (x0 : Nat) (x1 : Int32) {sg : ja_S} {w : Int32 × ja_S} (h0 : ja_ob ja_L0 7 x0) (hf : f_Frame_proposedLock x0 x1 sg = some w) : ja_Ct l x y_Frame_proposedLock M_Frame_proposedLock [.ref x0, .int x1] ja_L0 sg (some (.int w.1), ja_L0, w.2) := by
  refine ja_mk ⟨by decide, rfl, rfl⟩ (Nat.le_of_ble_eq_true rfl) (lv := [(0, .ref x0), (1, .int x1)]) rfl (fun C hl hx _ _ _ _ => ?_)
  subst hl; subst hx
  unfold f_Frame_proposedLock at hf
  refine ja_aload_n (pc := 0) (f := 0) (i := 0) 0 (by decide +kernel) rfl rfl ?_
  refine ja_getr (pc := 1) (idx := 19) (t := 7) (j := 3) (by decide +kernel) fd_Frame_19 h0 (fr_7_3 h0) ?_
  refine ja_iload_n (pc := 4) (f := 1) (i := 1) 1 (by decide +kernel) rfl rfl ?_
  refine ja_bind hf (fun v1 hv1 hf => ?_)
  refine ja_callVi (pc := 5) (idx := 221) (t := 5) (b := (ja_q x0 3)) (as := [.int x1]) (st := []) (by decide +kernel) kv_Sheet_hasConflict lk_Frame_221 ⟨by decide, by decide⟩ (c_Sheet_hasConflict _ _ (ja_q x0 3) x1 (fk_7_3 h0) hv1) (fk_7_3 h0) rfl (Nat.le_of_ble_eq_true rfl) rfl ?_
  refine ja_if_ne (pc := 8) (off := 6) 14 (by decide +kernel) (by decide) hf (fun hf => ?_) (fun hf => ?_)
  · refine ja_aload_n (pc := 14) (f := 0) (i := 0) 0 (by decide +kernel) rfl rfl ?_
    refine ja_getr (pc := 15) (idx := 19) (t := 7) (j := 3) (by decide +kernel) fd_Frame_19 h0 (fr_7_3 h0) ?_
    refine ja_aload_n (pc := 18) (f := 0) (i := 0) 0 (by decide +kernel) rfl rfl ?_
    refine ja_bind hf (fun v2 hv2 hf => ?_)
    refine ja_callVr (pc := 19) (idx := 190) (t := 7) (b := x0) (as := []) (st := [.ref (ja_q x0 3)]) (by decide +kernel) kv_Frame_searchedHome lk_Frame_190 ⟨by decide, by decide⟩ (c_Frame_searchedHome _ _ x0 h0 hv2) h0 rfl (Nat.le_of_ble_eq_true rfl) rfl ?_
    refine ja_bind hf (fun v3 hv3 hf => ?_)
    refine ja_callVi (pc := 22) (idx := 224) (t := 5) (b := (ja_q x0 3)) (as := [.ref (ja_q x0 7)]) (st := []) (by decide +kernel) kv_Sheet_settableRoutes lk_Frame_224 ⟨by decide, by decide⟩ (c_Sheet_settableRoutes _ _ (ja_q x0 3) (ja_q x0 7) (fk_7_3 h0) (fk_7_7 h0) hv3) (fk_7_3 h0) rfl (Nat.le_of_ble_eq_true rfl) rfl ?_
    refine ja_istore_n (pc := 25) (f := 2) (i := 2) (lv' := [(2, .int v3.1), (0, .ref x0), (1, .int x1)]) (by decide +kernel) rfl (by decide) rfl ?_
    refine ja_aload_n (pc := 26) (f := 0) (i := 0) 1 (by decide +kernel) rfl rfl ?_
    refine ja_getr (pc := 27) (idx := 54) (t := 7) (j := 10) (by decide +kernel) fd_Frame_54 h0 (fr_7_10 h0) ?_
    refine ja_aload_n (pc := 30) (f := 0) (i := 0) 1 (by decide +kernel) rfl rfl ?_
    refine ja_getr (pc := 31) (idx := 48) (t := 7) (j := 9) (by decide +kernel) fd_Frame_48 h0 (fr_7_9 h0) ?_
    refine ja_aload_n (pc := 34) (f := 0) (i := 0) 1 (by decide +kernel) rfl rfl ?_
    refine ja_getr (pc := 35) (idx := 19) (t := 7) (j := 3) (by decide +kernel) fd_Frame_19 h0 (fr_7_3 h0) ?_
    refine ja_iload_n (pc := 38) (f := 1) (i := 1) 2 (by decide +kernel) rfl rfl ?_
    refine ja_aload_n (pc := 39) (f := 0) (i := 0) 1 (by decide +kernel) rfl rfl ?_
    refine ja_getr (pc := 40) (idx := 40) (t := 7) (j := 7) (by decide +kernel) fd_Frame_40 h0 (fr_7_7 h0) ?_
    refine ja_getr (pc := 43) (idx := 227) (t := 4) (j := 0) (by decide +kernel) fd_Frame_227 (fk_7_7 h0) (fr_4_0 (fk_7_7 h0)) ?_
    refine ja_iload_n (pc := 46) (f := 2) (i := 2) 0 (by decide +kernel) rfl rfl ?_
    refine ja_bind hf (fun v4 hv4 hf => ?_)
    refine ja_callVi (pc := 47) (idx := 231) (t := 1) (b := (ja_q x0 10)) (as := [.ref (ja_q x0 9), .ref (ja_q x0 3), .int x1, .ref (ja_q (ja_q x0 7) 0), .int v3.1]) (st := []) (by decide +kernel) kv_LockPlanner_propose lk_Frame_231 ⟨by decide, by decide⟩ (c_LockPlanner_propose _ _ (ja_q x0 10) (ja_q x0 9) (ja_q x0 3) x1 (ja_q (ja_q x0 7) 0) v3.1 (fk_7_10 h0) (fk_7_9 h0) (fk_7_3 h0) (fk_4_0 (fk_7_7 h0)) hv4) (fk_7_10 h0) rfl (Nat.le_of_ble_eq_true rfl) rfl ?_
    exact ja_ret (pc := 50) (some (.int v4.1)) .ireturn (by decide +kernel) rfl (by cases hf; rfl)
  · refine ja_bipush (pc := 11) (n := (-2)) (v := (-2)) (by decide +kernel) (by decide +kernel) ?_
    exact ja_ret (pc := 13) (some (.int (-2 : Int32))) .ireturn (by decide +kernel) rfl (by cases hf; rfl)
def f_LockPlanner_complete_B163  (x0 : Nat) (x4 : Int32) (sg : ja_S) : Option (Int32 × ja_S) := (ja_pu sg x0 3 x4).bind fun s1 => some (s1.1 x0 3, s1)
set_option maxRecDepth 4000 in
theorem w_LockPlanner_complete_B163 (C : ja_C) {w : Int32 × ja_S}    (x0 : Nat) (x4 : Int32) (sg : ja_S) (h0 : ja_ob ja_L0 1 x0) (hf : f_LockPlanner_complete_B163  x0 x4 sg = some w) : ja_J M_LockPlanner_complete C 163 [(0, .ref x0), (4, .int x4)] [] ja_L0 sg (some (.int w.1), ja_L0, w.2) := by
  unfold f_LockPlanner_complete_B163 at hf
  refine ja_aload_n (pc := 163) (f := 0) (i := 0) 0 (by decide +kernel) rfl rfl ?_
  refine ja_iload (pc := 164) (i := 4) 1 (by decide +kernel) rfl ?_
  refine ja_bind hf (fun s1 hs1 hf => ?_)
  refine ja_puti2 (pc := 166) (idx := 26) (t := 1) (j := 3) (by decide +kernel) fd_LockPlanner_26 h0 ⟨rfl, rfl⟩ hs1 ?_
  refine ja_aload_n (pc := 169) (f := 0) (i := 0) 0 (by decide +kernel) rfl rfl ?_
  refine ja_geti (pc := 170) (idx := 26) (t := 1) (j := 3) (by decide +kernel) fd_LockPlanner_26 h0 ?_
  exact ja_ret (pc := 173) (some (.int (s1.1 x0 3))) .ireturn (by decide +kernel) rfl (by cases hf; rfl)
def f_LockPlanner_complete_L46  : Nat → Nat → Nat → Nat → Int32 → Int32 → Int32 → ja_S → Option (Int32 × ja_S)
  | 0, _, _, _, _, _, _, _ => none
  | n + 1, x0, x1, x2, x4, x5, x6, sg => (if (sg.1 x2 8) ≤ x6 then f_LockPlanner_complete_B163  x0 x4 sg else (if (8 : Int32) ≤ x4 then f_LockPlanner_complete_B163  x0 x4 sg else (f_Locking_copyFrom (ja_q x1 0) (ja_q x0 1) sg).bind fun v1 => (f_Sheet_movableLevers x2 v1).bind fun v2 => (f_Search_explore x1 (0 : Int32) v2.1 v2.2).bind fun v3 => (f_Sheet_openConflicts x2 x1 v3).bind fun v4 => (if ((v4.1 >>> (x6 &&& 31)) &&& (1 : Int32)) = 0 then f_LockPlanner_complete_L46  n x0 x1 x2 x4 x5 (x6 + 1) v4.2 else (f_LockPlanner_propose x0 x1 x2 x6 (ja_q x0 1) x5 v4.2).bind fun v5 => (if v5.1 = (-1 : Int32) then some (v5.2.1 x0 3, v5.2) else (f_LockPlanner_lockOf (v5.1 / (100 : Int32)) (v5.1 - v5.1 / (100 : Int32) * (100 : Int32)) v5.2).bind fun v6 => (f_Locking_enforce (ja_q x0 1) v6.1 v6.2).bind fun v7 => (ja_st ja_L0 v7 (ja_q x0 2) x4 v5.1).bind fun s8 => f_LockPlanner_complete_L46  n x0 x1 x2 (x4 + 1) x5 (x6 + 1) s8))))
set_option maxRecDepth 4000 in
theorem w_LockPlanner_complete_L46 (C : ja_C) {w : Int32 × ja_S}    (n : Nat) : ∀ (x0 : Nat) (x1 : Nat) (x2 : Nat) (x4 : Int32) (x5 : Int32) (x6 : Int32) (sg : ja_S), ja_ob ja_L0 1 x0 → ja_ob ja_L0 4 x1 → ja_ob ja_L0 5 x2 → f_LockPlanner_complete_L46  n x0 x1 x2 x4 x5 x6 sg = some w → ja_J M_LockPlanner_complete C 46 [(0, .ref x0), (1, .ref x1), (2, .ref x2), (4, .int x4), (5, .int x5), (6, .int x6)] [] ja_L0 sg (some (.int w.1), ja_L0, w.2) := by
  induction n with
  | zero => intro _ _ _ _ _ _ _ _ _ _ hf; exact absurd (show (none : Option _) = some w from hf) (by simp)
  | succ n ih =>
    intro x0 x1 x2 x4 x5 x6 sg h0 h1 h2 hf
    unfold f_LockPlanner_complete_L46 at hf
    refine ja_iload (pc := 46) (i := 6) 5 (by decide +kernel) rfl ?_
    refine ja_aload_n (pc := 48) (f := 2) (i := 2) 2 (by decide +kernel) rfl rfl ?_
    refine ja_geti (pc := 49) (idx := 82) (t := 5) (j := 8) (by decide +kernel) fd_LockPlanner_82 h2 ?_
    refine ja_icmp_ge (pc := 52) (off := 111) 163 (by decide +kernel) (by decide) hf (fun hf => ?_) (fun hf => ?_)
    · refine ja_lv [0, 3] rfl ?_
      exact w_LockPlanner_complete_B163 C  x0 x4 sg h0 hf
    · refine ja_iload (pc := 55) (i := 4) 3 (by decide +kernel) rfl ?_
      refine ja_bipush (pc := 57) (n := 8) (v := 8) (by decide +kernel) (by decide +kernel) ?_
      refine ja_icmp_ge (pc := 59) (off := 104) 163 (by decide +kernel) (by decide) hf (fun hf => ?_) (fun hf => ?_)
      · refine ja_lv [0, 3] rfl ?_
        exact w_LockPlanner_complete_B163 C  x0 x4 sg h0 hf
      · refine ja_aload_n (pc := 62) (f := 1) (i := 1) 1 (by decide +kernel) rfl rfl ?_
        refine ja_getr (pc := 63) (idx := 57) (t := 4) (j := 0) (by decide +kernel) fd_LockPlanner_57 h1 (fr_4_0 h1) ?_
        refine ja_aload_n (pc := 66) (f := 0) (i := 0) 0 (by decide +kernel) rfl rfl ?_
        refine ja_getr (pc := 67) (idx := 12) (t := 1) (j := 1) (by decide +kernel) fd_LockPlanner_12 h0 (fr_1_1 h0) ?_
        refine ja_bind hf (fun v1 hv1 hf => ?_)
        refine ja_callVv (pc := 70) (idx := 62) (t := 2) (b := (ja_q x1 0)) (as := [.ref (ja_q x0 1)]) (st := []) (by decide +kernel) kv_Locking_copyFrom lk_LockPlanner_62 ⟨by decide, by decide⟩ (c_Locking_copyFrom _ _ (ja_q x1 0) (ja_q x0 1) (fk_4_0 h1) (fk_1_1 h0) hv1) (fk_4_0 h1) rfl (Nat.le_of_ble_eq_true rfl) rfl ?_
        refine ja_aload_n (pc := 73) (f := 1) (i := 1) 1 (by decide +kernel) rfl rfl ?_
        refine ja_iconst (pc := 74) (n := 0) (v := 0) (by decide +kernel) (by decide +kernel) ?_
        refine ja_aload_n (pc := 75) (f := 2) (i := 2) 2 (by decide +kernel) rfl rfl ?_
        refine ja_bind hf (fun v2 hv2 hf => ?_)
        refine ja_callVi (pc := 76) (idx := 70) (t := 5) (b := x2) (as := []) (st := [.int (0 : Int32), .ref x1]) (by decide +kernel) kv_Sheet_movableLevers lk_LockPlanner_70 ⟨by decide, by decide⟩ (c_Sheet_movableLevers _ _ x2 h2 hv2) h2 rfl (Nat.le_of_ble_eq_true rfl) rfl ?_
        refine ja_bind hf (fun v3 hv3 hf => ?_)
        refine ja_callVv (pc := 79) (idx := 74) (t := 4) (b := x1) (as := [.int (0 : Int32), .int v2.1]) (st := []) (by decide +kernel) kv_Search_explore lk_LockPlanner_74 ⟨by decide, by decide⟩ (c_Search_explore _ _ x1 (0 : Int32) v2.1 h1 hv3) h1 rfl (Nat.le_of_ble_eq_true rfl) rfl ?_
        refine ja_aload_n (pc := 82) (f := 2) (i := 2) 2 (by decide +kernel) rfl rfl ?_
        refine ja_aload_n (pc := 83) (f := 1) (i := 1) 1 (by decide +kernel) rfl rfl ?_
        refine ja_bind hf (fun v4 hv4 hf => ?_)
        refine ja_callVi (pc := 84) (idx := 85) (t := 5) (b := x2) (as := [.ref x1]) (st := []) (by decide +kernel) kv_Sheet_openConflicts lk_LockPlanner_85 ⟨by decide, by decide⟩ (c_Sheet_openConflicts _ _ x2 x1 h2 h1 hv4) h2 rfl (Nat.le_of_ble_eq_true rfl) rfl ?_
        refine ja_iload (pc := 87) (i := 6) 5 (by decide +kernel) rfl ?_
        refine ja_ishr (pc := 89) (by decide +kernel) ?_
        refine ja_iconst (pc := 90) (n := 1) (v := 1) (by decide +kernel) (by decide +kernel) ?_
        refine ja_iand (pc := 91) (by decide +kernel) ?_
        refine ja_if_ne (pc := 92) (off := 6) 98 (by decide +kernel) (by decide) hf (fun hf => ?_) (fun hf => ?_)
        · refine ja_aload_n (pc := 98) (f := 0) (i := 0) 0 (by decide +kernel) rfl rfl ?_
          refine ja_aload_n (pc := 99) (f := 1) (i := 1) 1 (by decide +kernel) rfl rfl ?_
          refine ja_aload_n (pc := 100) (f := 2) (i := 2) 2 (by decide +kernel) rfl rfl ?_
          refine ja_iload (pc := 101) (i := 6) 5 (by decide +kernel) rfl ?_
          refine ja_aload_n (pc := 103) (f := 0) (i := 0) 0 (by decide +kernel) rfl rfl ?_
          refine ja_getr (pc := 104) (idx := 12) (t := 1) (j := 1) (by decide +kernel) fd_LockPlanner_12 h0 (fr_1_1 h0) ?_
          refine ja_iload (pc := 107) (i := 5) 4 (by decide +kernel) rfl ?_
          refine ja_bind hf (fun v5 hv5 hf => ?_)
          refine ja_callVi (pc := 109) (idx := 88) (t := 1) (b := x0) (as := [.ref x1, .ref x2, .int x6, .ref (ja_q x0 1), .int x5]) (st := []) (by decide +kernel) kv_LockPlanner_propose lk_LockPlanner_88 ⟨by decide, by decide⟩ (c_LockPlanner_propose _ _ x0 x1 x2 x6 (ja_q x0 1) x5 h0 h1 h2 (fk_1_1 h0) hv5) h0 rfl (Nat.le_of_ble_eq_true rfl) rfl ?_
          refine ja_istore (pc := 112) (i := 7) (lv' := [(7, .int v5.1), (0, .ref x0), (1, .ref x1), (2, .ref x2), (4, .int x4), (5, .int x5), (6, .int x6)]) (by decide +kernel) (by decide) rfl ?_
          refine ja_iload (pc := 114) (i := 7) 0 (by decide +kernel) rfl ?_
          refine ja_iconst (pc := 116) (n := (-1)) (v := (-1)) (by decide +kernel) (by decide +kernel) ?_
          refine ja_icmp_ne (pc := 117) (off := 8) 125 (by decide +kernel) (by decide) hf (fun hf => ?_) (fun hf => ?_)
          · refine ja_aload_n (pc := 125) (f := 0) (i := 0) 1 (by decide +kernel) rfl rfl ?_
            refine ja_getr (pc := 126) (idx := 12) (t := 1) (j := 1) (by decide +kernel) fd_LockPlanner_12 h0 (fr_1_1 h0) ?_
            refine ja_iload (pc := 129) (i := 7) 0 (by decide +kernel) rfl ?_
            refine ja_bipush (pc := 131) (n := 100) (v := 100) (by decide +kernel) (by decide +kernel) ?_
            refine ja_idiv (pc := 133) (by decide +kernel) (by decide) ?_
            refine ja_iload (pc := 134) (i := 7) 0 (by decide +kernel) rfl ?_
            refine ja_bipush (pc := 136) (n := 100) (v := 100) (by decide +kernel) (by decide +kernel) ?_
            refine ja_irem (pc := 138) (by decide +kernel) (by decide) ?_
            refine ja_bind hf (fun v6 hv6 hf => ?_)
            refine ja_callSi (pc := 139) (idx := 46) (as := [.int (v5.1 / (100 : Int32)), .int (v5.1 - v5.1 / (100 : Int32) * (100 : Int32))]) (st := [.ref (ja_q x0 1)]) (by decide +kernel) ks_LockPlanner_lockOf lk_LockPlanner_46 ⟨by decide, by decide⟩ (c_LockPlanner_lockOf _ _ (v5.1 / (100 : Int32)) (v5.1 - v5.1 / (100 : Int32) * (100 : Int32))  hv6) rfl (Nat.le_of_ble_eq_true rfl) rfl ?_
            refine ja_bind hf (fun v7 hv7 hf => ?_)
            refine ja_callVv (pc := 142) (idx := 66) (t := 2) (b := (ja_q x0 1)) (as := [.int v6.1]) (st := []) (by decide +kernel) kv_Locking_enforce lk_LockPlanner_66 ⟨by decide, by decide⟩ (c_Locking_enforce _ _ (ja_q x0 1) v6.1 (fk_1_1 h0) hv7) (fk_1_1 h0) rfl (Nat.le_of_ble_eq_true rfl) rfl ?_
            refine ja_aload_n (pc := 145) (f := 0) (i := 0) 1 (by decide +kernel) rfl rfl ?_
            refine ja_getr (pc := 146) (idx := 18) (t := 1) (j := 2) (by decide +kernel) fd_LockPlanner_18 h0 (fr_1_2 h0) ?_
            refine ja_iload (pc := 149) (i := 4) 4 (by decide +kernel) rfl ?_
            refine ja_iload (pc := 151) (i := 7) 0 (by decide +kernel) rfl ?_
            refine ja_bind hf (fun s8 hs8 hf => ?_)
            refine ja_iast (pc := 153) (by decide +kernel) (fk_1_2 h0) hs8 ?_
            refine ja_iinc (pc := 154) (i := 4) (n := 1) (v := x4 + 1) (lv' := [(4, .int (x4 + 1)), (7, .int v5.1), (0, .ref x0), (1, .ref x1), (2, .ref x2), (5, .int x5), (6, .int x6)]) 4 (by decide +kernel) rfl rfl (by decide) rfl ?_
            refine ja_iinc (pc := 157) (i := 6) (n := 1) (v := x6 + 1) (lv' := [(6, .int (x6 + 1)), (4, .int (x4 + 1)), (7, .int v5.1), (0, .ref x0), (1, .ref x1), (2, .ref x2), (5, .int x5)]) 6 (by decide +kernel) rfl rfl (by decide) rfl ?_
            refine ja_goto (pc := 160) (off := (-114)) 46 (by decide +kernel) (by decide) ?_
            refine ja_lv [3, 4, 5, 1, 6, 0] rfl ?_
            exact ih x0 x1 x2 (x4 + 1) x5 (x6 + 1) s8 h0 h1 h2 hf
          · refine ja_aload_n (pc := 120) (f := 0) (i := 0) 1 (by decide +kernel) rfl rfl ?_
            refine ja_geti (pc := 121) (idx := 26) (t := 1) (j := 3) (by decide +kernel) fd_LockPlanner_26 h0 ?_
            exact ja_ret (pc := 124) (some (.int (v5.2.1 x0 3))) .ireturn (by decide +kernel) rfl (by cases hf; rfl)
        · refine ja_goto (pc := 95) (off := 62) 157 (by decide +kernel) (by decide) ?_
          refine ja_iinc (pc := 157) (i := 6) (n := 1) (v := x6 + 1) (lv' := [(6, .int (x6 + 1)), (0, .ref x0), (1, .ref x1), (2, .ref x2), (4, .int x4), (5, .int x5)]) 5 (by decide +kernel) rfl rfl (by decide) rfl ?_
          refine ja_goto (pc := 160) (off := (-114)) 46 (by decide +kernel) (by decide) ?_
          refine ja_lv [1, 2, 3, 4, 5, 0] rfl ?_
          exact ih x0 x1 x2 x4 x5 (x6 + 1) v4.2 h0 h1 h2 hf
def f_LockPlanner_complete (x0 : Nat) (x1 : Nat) (x2 : Nat) (x3 : Nat) (sg : ja_S) : Option (Int32 × ja_S) := (if (sg.1 x0 0) = 0 then (ja_pu sg x0 0 (1 : Int32)).bind fun s1 => (ja_pu s1 x0 3 (-1 : Int32)).bind fun s2 => (f_Sheet_settableRoutes x2 x3 s2).bind fun v3 => (f_Locking_copyFrom (ja_q x0 1) (ja_q x3 0) v3.2).bind fun v4 => f_LockPlanner_complete_L46  ja_FU x0 x1 x2 (0 : Int32) v3.1 (0 : Int32) v4 else some (sg.1 x0 3, sg))
set_option maxRecDepth 4000 in
theorem c_LockPlanner_complete (l : Launch) (x : ja_X) (x0 : Nat) (x1 : Nat) (x2 : Nat) (x3 : Nat) {sg : ja_S} {w : Int32 × ja_S} (h0 : ja_ob ja_L0 1 x0) (h1 : ja_ob ja_L0 4 x1) (h2 : ja_ob ja_L0 5 x2) (h3 : ja_ob ja_L0 4 x3) (hf : f_LockPlanner_complete x0 x1 x2 x3 sg = some w) : ja_Ct l x y_LockPlanner_complete M_LockPlanner_complete [.ref x0, .ref x1, .ref x2, .ref x3] ja_L0 sg (some (.int w.1), ja_L0, w.2) := by
  refine ja_mk ⟨by decide, rfl, rfl⟩ (Nat.le_of_ble_eq_true rfl) (lv := [(0, .ref x0), (1, .ref x1), (2, .ref x2), (3, .ref x3)]) rfl (fun C hl hx _ _ _ _ => ?_)
  subst hl; subst hx
  unfold f_LockPlanner_complete at hf
  refine ja_aload_n (pc := 0) (f := 0) (i := 0) 0 (by decide +kernel) rfl rfl ?_
  refine ja_geti (pc := 1) (idx := 22) (t := 1) (j := 0) (by decide +kernel) fd_LockPlanner_22 h0 ?_
  refine ja_if_eq (pc := 4) (off := 8) 12 (by decide +kernel) (by decide) hf (fun hf => ?_) (fun hf => ?_)
  · refine ja_aload_n (pc := 12) (f := 0) (i := 0) 0 (by decide +kernel) rfl rfl ?_
    refine ja_iconst (pc := 13) (n := 1) (v := 1) (by decide +kernel) (by decide +kernel) ?_
    refine ja_bind hf (fun s1 hs1 hf => ?_)
    refine ja_puti2 (pc := 14) (idx := 22) (t := 1) (j := 0) (by decide +kernel) fd_LockPlanner_22 h0 ⟨rfl, rfl⟩ hs1 ?_
    refine ja_aload_n (pc := 17) (f := 0) (i := 0) 0 (by decide +kernel) rfl rfl ?_
    refine ja_iconst (pc := 18) (n := (-1)) (v := (-1)) (by decide +kernel) (by decide +kernel) ?_
    refine ja_bind hf (fun s2 hs2 hf => ?_)
    refine ja_puti2 (pc := 19) (idx := 26) (t := 1) (j := 3) (by decide +kernel) fd_LockPlanner_26 h0 ⟨rfl, rfl⟩ hs2 ?_
    refine ja_iconst (pc := 22) (n := 0) (v := 0) (by decide +kernel) (by decide +kernel) ?_
    refine ja_istore (pc := 23) (i := 4) (lv' := [(4, .int (0 : Int32)), (0, .ref x0), (1, .ref x1), (2, .ref x2), (3, .ref x3)]) (by decide +kernel) (by decide) rfl ?_
    refine ja_aload_n (pc := 25) (f := 2) (i := 2) 3 (by decide +kernel) rfl rfl ?_
    refine ja_aload_n (pc := 26) (f := 3) (i := 3) 4 (by decide +kernel) rfl rfl ?_
    refine ja_bind hf (fun v3 hv3 hf => ?_)
    refine ja_callVi (pc := 27) (idx := 78) (t := 5) (b := x2) (as := [.ref x3]) (st := []) (by decide +kernel) kv_Sheet_settableRoutes lk_LockPlanner_78 ⟨by decide, by decide⟩ (c_Sheet_settableRoutes _ _ x2 x3 h2 h3 hv3) h2 rfl (Nat.le_of_ble_eq_true rfl) rfl ?_
    refine ja_istore (pc := 30) (i := 5) (lv' := [(5, .int v3.1), (4, .int (0 : Int32)), (0, .ref x0), (1, .ref x1), (2, .ref x2), (3, .ref x3)]) (by decide +kernel) (by decide) rfl ?_
    refine ja_aload_n (pc := 32) (f := 0) (i := 0) 2 (by decide +kernel) rfl rfl ?_
    refine ja_getr (pc := 33) (idx := 12) (t := 1) (j := 1) (by decide +kernel) fd_LockPlanner_12 h0 (fr_1_1 h0) ?_
    refine ja_aload_n (pc := 36) (f := 3) (i := 3) 5 (by decide +kernel) rfl rfl ?_
    refine ja_getr (pc := 37) (idx := 57) (t := 4) (j := 0) (by decide +kernel) fd_LockPlanner_57 h3 (fr_4_0 h3) ?_
    refine ja_bind hf (fun v4 hv4 hf => ?_)
    refine ja_callVv (pc := 40) (idx := 62) (t := 2) (b := (ja_q x0 1)) (as := [.ref (ja_q x3 0)]) (st := []) (by decide +kernel) kv_Locking_copyFrom lk_LockPlanner_62 ⟨by decide, by decide⟩ (c_Locking_copyFrom _ _ (ja_q x0 1) (ja_q x3 0) (fk_1_1 h0) (fk_4_0 h3) hv4) (fk_1_1 h0) rfl (Nat.le_of_ble_eq_true rfl) rfl ?_
    refine ja_iconst (pc := 43) (n := 0) (v := 0) (by decide +kernel) (by decide +kernel) ?_
    refine ja_istore (pc := 44) (i := 6) (lv' := [(6, .int (0 : Int32)), (5, .int v3.1), (4, .int (0 : Int32)), (0, .ref x0), (1, .ref x1), (2, .ref x2), (3, .ref x3)]) (by decide +kernel) (by decide) rfl ?_
    refine ja_lv [3, 4, 5, 2, 1, 0] rfl ?_
    exact w_LockPlanner_complete_L46 C  ja_FU x0 x1 x2 (0 : Int32) v3.1 (0 : Int32) v4 h0 h1 h2 hf
  · refine ja_aload_n (pc := 7) (f := 0) (i := 0) 0 (by decide +kernel) rfl rfl ?_
    refine ja_geti (pc := 8) (idx := 26) (t := 1) (j := 3) (by decide +kernel) fd_LockPlanner_26 h0 ?_
    exact ja_ret (pc := 11) (some (.int (sg.1 x0 3))) .ireturn (by decide +kernel) rfl (by cases hf; rfl)
def f_Frame_completionSize (x0 : Nat) (sg : ja_S) : Option (Int32 × ja_S) := (f_Frame_searchedHome x0 sg).bind fun v1 => (f_LockPlanner_complete (ja_q x0 10) (ja_q x0 9) (ja_q x0 3) (ja_q x0 7) v1).bind fun v2 => some (v2.1, v2.2)
set_option maxRecDepth 4000 in
theorem c_Frame_completionSize (l : Launch) (x : ja_X) (x0 : Nat) {sg : ja_S} {w : Int32 × ja_S} (h0 : ja_ob ja_L0 7 x0) (hf : f_Frame_completionSize x0 sg = some w) : ja_Ct l x y_Frame_completionSize M_Frame_completionSize [.ref x0] ja_L0 sg (some (.int w.1), ja_L0, w.2) := by
  refine ja_mk ⟨by decide, rfl, rfl⟩ (Nat.le_of_ble_eq_true rfl) (lv := [(0, .ref x0)]) rfl (fun C hl hx _ _ _ _ => ?_)
  subst hl; subst hx
  unfold f_Frame_completionSize at hf
  refine ja_aload_n (pc := 0) (f := 0) (i := 0) 0 (by decide +kernel) rfl rfl ?_
  refine ja_getr (pc := 1) (idx := 54) (t := 7) (j := 10) (by decide +kernel) fd_Frame_54 h0 (fr_7_10 h0) ?_
  refine ja_aload_n (pc := 4) (f := 0) (i := 0) 0 (by decide +kernel) rfl rfl ?_
  refine ja_getr (pc := 5) (idx := 48) (t := 7) (j := 9) (by decide +kernel) fd_Frame_48 h0 (fr_7_9 h0) ?_
  refine ja_aload_n (pc := 8) (f := 0) (i := 0) 0 (by decide +kernel) rfl rfl ?_
  refine ja_getr (pc := 9) (idx := 19) (t := 7) (j := 3) (by decide +kernel) fd_Frame_19 h0 (fr_7_3 h0) ?_
  refine ja_aload_n (pc := 12) (f := 0) (i := 0) 0 (by decide +kernel) rfl rfl ?_
  refine ja_bind hf (fun v1 hv1 hf => ?_)
  refine ja_callVr (pc := 13) (idx := 190) (t := 7) (b := x0) (as := []) (st := [.ref (ja_q x0 3), .ref (ja_q x0 9), .ref (ja_q x0 10)]) (by decide +kernel) kv_Frame_searchedHome lk_Frame_190 ⟨by decide, by decide⟩ (c_Frame_searchedHome _ _ x0 h0 hv1) h0 rfl (Nat.le_of_ble_eq_true rfl) rfl ?_
  refine ja_bind hf (fun v2 hv2 hf => ?_)
  refine ja_callVi (pc := 16) (idx := 235) (t := 1) (b := (ja_q x0 10)) (as := [.ref (ja_q x0 9), .ref (ja_q x0 3), .ref (ja_q x0 7)]) (st := []) (by decide +kernel) kv_LockPlanner_complete lk_Frame_235 ⟨by decide, by decide⟩ (c_LockPlanner_complete _ _ (ja_q x0 10) (ja_q x0 9) (ja_q x0 3) (ja_q x0 7) (fk_7_10 h0) (fk_7_9 h0) (fk_7_3 h0) (fk_7_7 h0) hv2) (fk_7_10 h0) rfl (Nat.le_of_ble_eq_true rfl) rfl ?_
  exact ja_ret (pc := 19) (some (.int v2.1)) .ireturn (by decide +kernel) rfl (by cases hf; rfl)
def f_Frame_completionLock (x0 : Nat) (x1 : Int32) (sg : ja_S) : Option (Int32 × ja_S) := (if 0 ≤ x1 then (f_Frame_searchedHome x0 sg).bind fun v1 => (f_LockPlanner_complete (ja_q x0 10) (ja_q x0 9) (ja_q x0 3) (ja_q x0 7) v1).bind fun v2 => (if v2.1 ≤ x1 then some ((-1 : Int32), v2.2) else (if (8 : Int32) ≤ x1 then some ((-1 : Int32), v2.2) else (ja_ld ja_L0 v2.2 (ja_q (ja_q x0 10) 2) x1).bind fun v3 => some (v3, v2.2))) else some ((-3 : Int32), sg))
set_option maxRecDepth 4000 in
theorem c_Frame_completionLock (l : Launch) (x : ja_X) (x0 : Nat) (x1 : Int32) {sg : ja_S} {w : Int32 × ja_S} (h0 : ja_ob ja_L0 7 x0) (hf : f_Frame_completionLock x0 x1 sg = some w) : ja_Ct l x y_Frame_completionLock M_Frame_completionLock [.ref x0, .int x1] ja_L0 sg (some (.int w.1), ja_L0, w.2) := by
  refine ja_mk ⟨by decide, rfl, rfl⟩ (Nat.le_of_ble_eq_true rfl) (lv := [(0, .ref x0), (1, .int x1)]) rfl (fun C hl hx _ _ _ _ => ?_)
  subst hl; subst hx
  unfold f_Frame_completionLock at hf
  refine ja_iload_n (pc := 0) (f := 1) (i := 1) 1 (by decide +kernel) rfl rfl ?_
  refine ja_if_ge (pc := 1) (off := 6) 7 (by decide +kernel) (by decide) hf (fun hf => ?_) (fun hf => ?_)
  · refine ja_aload_n (pc := 7) (f := 0) (i := 0) 0 (by decide +kernel) rfl rfl ?_
    refine ja_getr (pc := 8) (idx := 54) (t := 7) (j := 10) (by decide +kernel) fd_Frame_54 h0 (fr_7_10 h0) ?_
    refine ja_aload_n (pc := 11) (f := 0) (i := 0) 0 (by decide +kernel) rfl rfl ?_
    refine ja_getr (pc := 12) (idx := 48) (t := 7) (j := 9) (by decide +kernel) fd_Frame_48 h0 (fr_7_9 h0) ?_
    refine ja_aload_n (pc := 15) (f := 0) (i := 0) 0 (by decide +kernel) rfl rfl ?_
    refine ja_getr (pc := 16) (idx := 19) (t := 7) (j := 3) (by decide +kernel) fd_Frame_19 h0 (fr_7_3 h0) ?_
    refine ja_aload_n (pc := 19) (f := 0) (i := 0) 0 (by decide +kernel) rfl rfl ?_
    refine ja_bind hf (fun v1 hv1 hf => ?_)
    refine ja_callVr (pc := 20) (idx := 190) (t := 7) (b := x0) (as := []) (st := [.ref (ja_q x0 3), .ref (ja_q x0 9), .ref (ja_q x0 10)]) (by decide +kernel) kv_Frame_searchedHome lk_Frame_190 ⟨by decide, by decide⟩ (c_Frame_searchedHome _ _ x0 h0 hv1) h0 rfl (Nat.le_of_ble_eq_true rfl) rfl ?_
    refine ja_bind hf (fun v2 hv2 hf => ?_)
    refine ja_callVi (pc := 23) (idx := 235) (t := 1) (b := (ja_q x0 10)) (as := [.ref (ja_q x0 9), .ref (ja_q x0 3), .ref (ja_q x0 7)]) (st := []) (by decide +kernel) kv_LockPlanner_complete lk_Frame_235 ⟨by decide, by decide⟩ (c_LockPlanner_complete _ _ (ja_q x0 10) (ja_q x0 9) (ja_q x0 3) (ja_q x0 7) (fk_7_10 h0) (fk_7_9 h0) (fk_7_3 h0) (fk_7_7 h0) hv2) (fk_7_10 h0) rfl (Nat.le_of_ble_eq_true rfl) rfl ?_
    refine ja_istore_n (pc := 26) (f := 2) (i := 2) (lv' := [(2, .int v2.1), (0, .ref x0), (1, .int x1)]) (by decide +kernel) rfl (by decide) rfl ?_
    refine ja_iload_n (pc := 27) (f := 1) (i := 1) 2 (by decide +kernel) rfl rfl ?_
    refine ja_iload_n (pc := 28) (f := 2) (i := 2) 0 (by decide +kernel) rfl rfl ?_
    refine ja_icmp_ge (pc := 29) (off := 21) 50 (by decide +kernel) (by decide) hf (fun hf => ?_) (fun hf => ?_)
    · refine ja_iconst (pc := 50) (n := (-1)) (v := (-1)) (by decide +kernel) (by decide +kernel) ?_
      exact ja_ret (pc := 51) (some (.int (-1 : Int32))) .ireturn (by decide +kernel) rfl (by cases hf; rfl)
    · refine ja_iload_n (pc := 32) (f := 1) (i := 1) 2 (by decide +kernel) rfl rfl ?_
      refine ja_bipush (pc := 33) (n := 8) (v := 8) (by decide +kernel) (by decide +kernel) ?_
      refine ja_icmp_ge (pc := 35) (off := 15) 50 (by decide +kernel) (by decide) hf (fun hf => ?_) (fun hf => ?_)
      · refine ja_iconst (pc := 50) (n := (-1)) (v := (-1)) (by decide +kernel) (by decide +kernel) ?_
        exact ja_ret (pc := 51) (some (.int (-1 : Int32))) .ireturn (by decide +kernel) rfl (by cases hf; rfl)
      · refine ja_aload_n (pc := 38) (f := 0) (i := 0) 1 (by decide +kernel) rfl rfl ?_
        refine ja_getr (pc := 39) (idx := 54) (t := 7) (j := 10) (by decide +kernel) fd_Frame_54 h0 (fr_7_10 h0) ?_
        refine ja_getr (pc := 42) (idx := 239) (t := 1) (j := 2) (by decide +kernel) fd_Frame_239 (fk_7_10 h0) (fr_1_2 (fk_7_10 h0)) ?_
        refine ja_iload_n (pc := 45) (f := 1) (i := 1) 2 (by decide +kernel) rfl rfl ?_
        refine ja_bind hf (fun v3 hv3 hf => ?_)
        refine ja_iald (pc := 46) (by decide +kernel) (fk_1_2 (fk_7_10 h0)) hv3 ?_
        refine ja_goto (pc := 47) (off := 4) 51 (by decide +kernel) (by decide) ?_
        exact ja_ret (pc := 51) (some (.int v3)) .ireturn (by decide +kernel) rfl (by cases hf; rfl)
  · refine ja_bipush (pc := 4) (n := (-3)) (v := (-3)) (by decide +kernel) (by decide +kernel) ?_
    exact ja_ret (pc := 6) (some (.int (-3 : Int32))) .ireturn (by decide +kernel) rfl (by cases hf; rfl)
def f_Search_stateAt (x0 : Nat) (x1 : Int32) (sg : ja_S) : Option (Int32 × ja_S) := (if x1 < 0 then some ((0 : Int32), sg) else (if (sg.1 x0 1) ≤ x1 then some ((0 : Int32), sg) else (ja_ld ja_L0 sg (ja_q x0 3) x1).bind fun v1 => some (v1, sg)))
set_option maxRecDepth 4000 in
theorem c_Search_stateAt (l : Launch) (x : ja_X) (x0 : Nat) (x1 : Int32) {sg : ja_S} {w : Int32 × ja_S} (h0 : ja_ob ja_L0 4 x0) (hf : f_Search_stateAt x0 x1 sg = some w) : ja_Ct l x y_Search_stateAt M_Search_stateAt [.ref x0, .int x1] ja_L0 sg (some (.int w.1), ja_L0, w.2) := by
  refine ja_mk ⟨by decide, rfl, rfl⟩ (Nat.le_of_ble_eq_true rfl) (lv := [(0, .ref x0), (1, .int x1)]) rfl (fun C hl hx _ _ _ _ => ?_)
  subst hl; subst hx
  unfold f_Search_stateAt at hf
  refine ja_iload_n (pc := 0) (f := 1) (i := 1) 1 (by decide +kernel) rfl rfl ?_
  refine ja_if_lt (pc := 1) (off := 20) 21 (by decide +kernel) (by decide) hf (fun hf => ?_) (fun hf => ?_)
  · refine ja_iconst (pc := 21) (n := 0) (v := 0) (by decide +kernel) (by decide +kernel) ?_
    exact ja_ret (pc := 22) (some (.int (0 : Int32))) .ireturn (by decide +kernel) rfl (by cases hf; rfl)
  · refine ja_iload_n (pc := 4) (f := 1) (i := 1) 1 (by decide +kernel) rfl rfl ?_
    refine ja_aload_n (pc := 5) (f := 0) (i := 0) 0 (by decide +kernel) rfl rfl ?_
    refine ja_geti (pc := 6) (idx := 18) (t := 4) (j := 1) (by decide +kernel) fd_Search_18 h0 ?_
    refine ja_icmp_ge (pc := 9) (off := 12) 21 (by decide +kernel) (by decide) hf (fun hf => ?_) (fun hf => ?_)
    · refine ja_iconst (pc := 21) (n := 0) (v := 0) (by decide +kernel) (by decide +kernel) ?_
      exact ja_ret (pc := 22) (some (.int (0 : Int32))) .ireturn (by decide +kernel) rfl (by cases hf; rfl)
    · refine ja_aload_n (pc := 12) (f := 0) (i := 0) 0 (by decide +kernel) rfl rfl ?_
      refine ja_getr (pc := 13) (idx := 25) (t := 4) (j := 3) (by decide +kernel) fd_Search_25 h0 (fr_4_3 h0) ?_
      refine ja_iload_n (pc := 16) (f := 1) (i := 1) 1 (by decide +kernel) rfl rfl ?_
      refine ja_bind hf (fun v1 hv1 hf => ?_)
      refine ja_iald (pc := 17) (by decide +kernel) (fk_4_3 h0) hv1 ?_
      refine ja_goto (pc := 18) (off := 4) 22 (by decide +kernel) (by decide) ?_
      exact ja_ret (pc := 22) (some (.int v1)) .ireturn (by decide +kernel) rfl (by cases hf; rfl)
def f_Sheet_routesSetIn_L4  : Nat → Nat → Int32 → Int32 → Int32 → ja_S → Option (Int32 × ja_S)
  | 0, _, _, _, _, _ => none
  | n + 1, x0, x1, x2, x3, sg => (if (sg.1 x0 5) ≤ x3 then some (x2, sg) else (ja_ld ja_L0 sg (ja_q x0 4) x3).bind fun v1 => (ja_ld ja_L0 sg (ja_q x0 4) x3).bind fun v2 => (if (x1 &&& v1) = v2 then f_Sheet_routesSetIn_L4  n x0 x1 (x2 ||| ((1 : Int32) <<< (x3 &&& 31))) (x3 + 1) sg else f_Sheet_routesSetIn_L4  n x0 x1 x2 (x3 + 1) sg))
set_option maxRecDepth 4000 in
theorem w_Sheet_routesSetIn_L4 (C : ja_C) {w : Int32 × ja_S}    (n : Nat) : ∀ (x0 : Nat) (x1 : Int32) (x2 : Int32) (x3 : Int32) (sg : ja_S), ja_ob ja_L0 5 x0 → f_Sheet_routesSetIn_L4  n x0 x1 x2 x3 sg = some w → ja_J M_Sheet_routesSetIn C 4 [(0, .ref x0), (1, .int x1), (2, .int x2), (3, .int x3)] [] ja_L0 sg (some (.int w.1), ja_L0, w.2) := by
  induction n with
  | zero => intro _ _ _ _ _ _ hf; exact absurd (show (none : Option _) = some w from hf) (by simp)
  | succ n ih =>
    intro x0 x1 x2 x3 sg h0 hf
    unfold f_Sheet_routesSetIn_L4 at hf
    refine ja_iload_n (pc := 4) (f := 3) (i := 3) 3 (by decide +kernel) rfl rfl ?_
    refine ja_aload_n (pc := 5) (f := 0) (i := 0) 0 (by decide +kernel) rfl rfl ?_
    refine ja_geti (pc := 6) (idx := 28) (t := 5) (j := 5) (by decide +kernel) fd_Sheet_28 h0 ?_
    refine ja_icmp_ge (pc := 9) (off := 32) 41 (by decide +kernel) (by decide) hf (fun hf => ?_) (fun hf => ?_)
    · refine ja_iload_n (pc := 41) (f := 2) (i := 2) 2 (by decide +kernel) rfl rfl ?_
      exact ja_ret (pc := 42) (some (.int x2)) .ireturn (by decide +kernel) rfl (by cases hf; rfl)
    · refine ja_iload_n (pc := 12) (f := 1) (i := 1) 1 (by decide +kernel) rfl rfl ?_
      refine ja_aload_n (pc := 13) (f := 0) (i := 0) 0 (by decide +kernel) rfl rfl ?_
      refine ja_getr (pc := 14) (idx := 25) (t := 5) (j := 4) (by decide +kernel) fd_Sheet_25 h0 (fr_5_4 h0) ?_
      refine ja_iload_n (pc := 17) (f := 3) (i := 3) 3 (by decide +kernel) rfl rfl ?_
      refine ja_bind hf (fun v1 hv1 hf => ?_)
      refine ja_iald (pc := 18) (by decide +kernel) (fk_5_4 h0) hv1 ?_
      refine ja_iand (pc := 19) (by decide +kernel) ?_
      refine ja_aload_n (pc := 20) (f := 0) (i := 0) 0 (by decide +kernel) rfl rfl ?_
      refine ja_getr (pc := 21) (idx := 25) (t := 5) (j := 4) (by decide +kernel) fd_Sheet_25 h0 (fr_5_4 h0) ?_
      refine ja_iload_n (pc := 24) (f := 3) (i := 3) 3 (by decide +kernel) rfl rfl ?_
      refine ja_bind hf (fun v2 hv2 hf => ?_)
      refine ja_iald (pc := 25) (by decide +kernel) (fk_5_4 h0) hv2 ?_
      refine ja_icmp_ne (pc := 26) (off := 9) 35 (by decide +kernel) (by decide) hf (fun hf => ?_) (fun hf => ?_)
      · refine ja_iinc (pc := 35) (i := 3) (n := 1) (v := x3 + 1) (lv' := [(3, .int (x3 + 1)), (0, .ref x0), (1, .int x1), (2, .int x2)]) 3 (by decide +kernel) rfl rfl (by decide) rfl ?_
        refine ja_goto (pc := 38) (off := (-34)) 4 (by decide +kernel) (by decide) ?_
        refine ja_lv [1, 2, 3, 0] rfl ?_
        exact ih x0 x1 x2 (x3 + 1) sg h0 hf
      · refine ja_iload_n (pc := 29) (f := 2) (i := 2) 2 (by decide +kernel) rfl rfl ?_
        refine ja_iconst (pc := 30) (n := 1) (v := 1) (by decide +kernel) (by decide +kernel) ?_
        refine ja_iload_n (pc := 31) (f := 3) (i := 3) 3 (by decide +kernel) rfl rfl ?_
        refine ja_ishl (pc := 32) (by decide +kernel) ?_
        refine ja_ior (pc := 33) (by decide +kernel) ?_
        refine ja_istore_n (pc := 34) (f := 2) (i := 2) (lv' := [(2, .int (x2 ||| ((1 : Int32) <<< (x3 &&& 31)))), (0, .ref x0), (1, .int x1), (3, .int x3)]) (by decide +kernel) rfl (by decide) rfl ?_
        refine ja_iinc (pc := 35) (i := 3) (n := 1) (v := x3 + 1) (lv' := [(3, .int (x3 + 1)), (2, .int (x2 ||| ((1 : Int32) <<< (x3 &&& 31)))), (0, .ref x0), (1, .int x1)]) 3 (by decide +kernel) rfl rfl (by decide) rfl ?_
        refine ja_goto (pc := 38) (off := (-34)) 4 (by decide +kernel) (by decide) ?_
        refine ja_lv [2, 3, 1, 0] rfl ?_
        exact ih x0 x1 (x2 ||| ((1 : Int32) <<< (x3 &&& 31))) (x3 + 1) sg h0 hf
def f_Sheet_routesSetIn (x0 : Nat) (x1 : Int32) (sg : ja_S) : Option (Int32 × ja_S) := f_Sheet_routesSetIn_L4  ja_FU x0 x1 (0 : Int32) (0 : Int32) sg
set_option maxRecDepth 4000 in
theorem c_Sheet_routesSetIn (l : Launch) (x : ja_X) (x0 : Nat) (x1 : Int32) {sg : ja_S} {w : Int32 × ja_S} (h0 : ja_ob ja_L0 5 x0) (hf : f_Sheet_routesSetIn x0 x1 sg = some w) : ja_Ct l x y_Sheet_routesSetIn M_Sheet_routesSetIn [.ref x0, .int x1] ja_L0 sg (some (.int w.1), ja_L0, w.2) := by
  refine ja_mk ⟨by decide, rfl, rfl⟩ (Nat.le_of_ble_eq_true rfl) (lv := [(0, .ref x0), (1, .int x1)]) rfl (fun C hl hx _ _ _ _ => ?_)
  subst hl; subst hx
  unfold f_Sheet_routesSetIn at hf
  refine ja_iconst (pc := 0) (n := 0) (v := 0) (by decide +kernel) (by decide +kernel) ?_
  refine ja_istore_n (pc := 1) (f := 2) (i := 2) (lv' := [(2, .int (0 : Int32)), (0, .ref x0), (1, .int x1)]) (by decide +kernel) rfl (by decide) rfl ?_
  refine ja_iconst (pc := 2) (n := 0) (v := 0) (by decide +kernel) (by decide +kernel) ?_
  refine ja_istore_n (pc := 3) (f := 3) (i := 3) (lv' := [(3, .int (0 : Int32)), (2, .int (0 : Int32)), (0, .ref x0), (1, .int x1)]) (by decide +kernel) rfl (by decide) rfl ?_
  refine ja_lv [2, 3, 1, 0] rfl ?_
  exact w_Sheet_routesSetIn_L4 C  ja_FU x0 x1 (0 : Int32) (0 : Int32) sg h0 hf
def f_Integer_bitCount (x0 : Int32) (sg : ja_S) : Option (Int32 × ja_S) := some ((((((((x0 - ((((x0 : Int32).toUInt32 >>> (((1 : Int32) : Int32).toUInt32 &&& Int32.toUInt32 31)).toInt32) &&& (1431655765 : Int32))) &&& (858993459 : Int32)) + ((((x0 - ((((x0 : Int32).toUInt32 >>> (((1 : Int32) : Int32).toUInt32 &&& Int32.toUInt32 31)).toInt32) &&& (1431655765 : Int32)) : Int32).toUInt32 >>> (((2 : Int32) : Int32).toUInt32 &&& Int32.toUInt32 31)).toInt32) &&& (858993459 : Int32))) + (((((x0 - ((((x0 : Int32).toUInt32 >>> (((1 : Int32) : Int32).toUInt32 &&& Int32.toUInt32 31)).toInt32) &&& (1431655765 : Int32))) &&& (858993459 : Int32)) + ((((x0 - ((((x0 : Int32).toUInt32 >>> (((1 : Int32) : Int32).toUInt32 &&& Int32.toUInt32 31)).toInt32) &&& (1431655765 : Int32)) : Int32).toUInt32 >>> (((2 : Int32) : Int32).toUInt32 &&& Int32.toUInt32 31)).toInt32) &&& (858993459 : Int32)) : Int32).toUInt32 >>> (((4 : Int32) : Int32).toUInt32 &&& Int32.toUInt32 31)).toInt32)) &&& (252645135 : Int32)) + (((((((x0 - ((((x0 : Int32).toUInt32 >>> (((1 : Int32) : Int32).toUInt32 &&& Int32.toUInt32 31)).toInt32) &&& (1431655765 : Int32))) &&& (858993459 : Int32)) + ((((x0 - ((((x0 : Int32).toUInt32 >>> (((1 : Int32) : Int32).toUInt32 &&& Int32.toUInt32 31)).toInt32) &&& (1431655765 : Int32)) : Int32).toUInt32 >>> (((2 : Int32) : Int32).toUInt32 &&& Int32.toUInt32 31)).toInt32) &&& (858993459 : Int32))) + (((((x0 - ((((x0 : Int32).toUInt32 >>> (((1 : Int32) : Int32).toUInt32 &&& Int32.toUInt32 31)).toInt32) &&& (1431655765 : Int32))) &&& (858993459 : Int32)) + ((((x0 - ((((x0 : Int32).toUInt32 >>> (((1 : Int32) : Int32).toUInt32 &&& Int32.toUInt32 31)).toInt32) &&& (1431655765 : Int32)) : Int32).toUInt32 >>> (((2 : Int32) : Int32).toUInt32 &&& Int32.toUInt32 31)).toInt32) &&& (858993459 : Int32)) : Int32).toUInt32 >>> (((4 : Int32) : Int32).toUInt32 &&& Int32.toUInt32 31)).toInt32)) &&& (252645135 : Int32) : Int32).toUInt32 >>> (((8 : Int32) : Int32).toUInt32 &&& Int32.toUInt32 31)).toInt32)) + ((((((((x0 - ((((x0 : Int32).toUInt32 >>> (((1 : Int32) : Int32).toUInt32 &&& Int32.toUInt32 31)).toInt32) &&& (1431655765 : Int32))) &&& (858993459 : Int32)) + ((((x0 - ((((x0 : Int32).toUInt32 >>> (((1 : Int32) : Int32).toUInt32 &&& Int32.toUInt32 31)).toInt32) &&& (1431655765 : Int32)) : Int32).toUInt32 >>> (((2 : Int32) : Int32).toUInt32 &&& Int32.toUInt32 31)).toInt32) &&& (858993459 : Int32))) + (((((x0 - ((((x0 : Int32).toUInt32 >>> (((1 : Int32) : Int32).toUInt32 &&& Int32.toUInt32 31)).toInt32) &&& (1431655765 : Int32))) &&& (858993459 : Int32)) + ((((x0 - ((((x0 : Int32).toUInt32 >>> (((1 : Int32) : Int32).toUInt32 &&& Int32.toUInt32 31)).toInt32) &&& (1431655765 : Int32)) : Int32).toUInt32 >>> (((2 : Int32) : Int32).toUInt32 &&& Int32.toUInt32 31)).toInt32) &&& (858993459 : Int32)) : Int32).toUInt32 >>> (((4 : Int32) : Int32).toUInt32 &&& Int32.toUInt32 31)).toInt32)) &&& (252645135 : Int32)) + (((((((x0 - ((((x0 : Int32).toUInt32 >>> (((1 : Int32) : Int32).toUInt32 &&& Int32.toUInt32 31)).toInt32) &&& (1431655765 : Int32))) &&& (858993459 : Int32)) + ((((x0 - ((((x0 : Int32).toUInt32 >>> (((1 : Int32) : Int32).toUInt32 &&& Int32.toUInt32 31)).toInt32) &&& (1431655765 : Int32)) : Int32).toUInt32 >>> (((2 : Int32) : Int32).toUInt32 &&& Int32.toUInt32 31)).toInt32) &&& (858993459 : Int32))) + (((((x0 - ((((x0 : Int32).toUInt32 >>> (((1 : Int32) : Int32).toUInt32 &&& Int32.toUInt32 31)).toInt32) &&& (1431655765 : Int32))) &&& (858993459 : Int32)) + ((((x0 - ((((x0 : Int32).toUInt32 >>> (((1 : Int32) : Int32).toUInt32 &&& Int32.toUInt32 31)).toInt32) &&& (1431655765 : Int32)) : Int32).toUInt32 >>> (((2 : Int32) : Int32).toUInt32 &&& Int32.toUInt32 31)).toInt32) &&& (858993459 : Int32)) : Int32).toUInt32 >>> (((4 : Int32) : Int32).toUInt32 &&& Int32.toUInt32 31)).toInt32)) &&& (252645135 : Int32) : Int32).toUInt32 >>> (((8 : Int32) : Int32).toUInt32 &&& Int32.toUInt32 31)).toInt32) : Int32).toUInt32 >>> (((16 : Int32) : Int32).toUInt32 &&& Int32.toUInt32 31)).toInt32)) &&& (63 : Int32), sg)
set_option maxRecDepth 4000 in
theorem c_Integer_bitCount (l : Launch) (x : ja_X) (x0 : Int32) {sg : ja_S} {w : Int32 × ja_S}  (hf : f_Integer_bitCount x0 sg = some w) : ja_Ct l x y_Integer_bitCount M_Integer_bitCount [.int x0] ja_L0 sg (some (.int w.1), ja_L0, w.2) := by
  refine ja_mk ⟨by decide, rfl, rfl⟩ (Nat.le_of_ble_eq_true rfl) (lv := [(0, .int x0)]) rfl (fun C hl hx _ _ _ _ => ?_)
  subst hl; subst hx
  unfold f_Integer_bitCount at hf
  refine ja_iload_n (pc := 0) (f := 0) (i := 0) 0 (by decide +kernel) rfl rfl ?_
  refine ja_iload_n (pc := 1) (f := 0) (i := 0) 0 (by decide +kernel) rfl rfl ?_
  refine ja_iconst (pc := 2) (n := 1) (v := 1) (by decide +kernel) (by decide +kernel) ?_
  refine ja_iushr (pc := 3) (by decide +kernel) ?_
  refine ja_ldcw (pc := 4) (idx := 265) (v := 1431655765) (by decide +kernel) ci_Integer_265 ?_
  refine ja_iand (pc := 7) (by decide +kernel) ?_
  refine ja_isub (pc := 8) (by decide +kernel) ?_
  refine ja_istore_n (pc := 9) (f := 0) (i := 0) (lv' := [(0, .int (x0 - ((((x0 : Int32).toUInt32 >>> (((1 : Int32) : Int32).toUInt32 &&& Int32.toUInt32 31)).toInt32) &&& (1431655765 : Int32))))]) (by decide +kernel) rfl (by decide) rfl ?_
  refine ja_iload_n (pc := 10) (f := 0) (i := 0) 0 (by decide +kernel) rfl rfl ?_
  refine ja_ldcw (pc := 11) (idx := 266) (v := 858993459) (by decide +kernel) ci_Integer_266 ?_
  refine ja_iand (pc := 14) (by decide +kernel) ?_
  refine ja_iload_n (pc := 15) (f := 0) (i := 0) 0 (by decide +kernel) rfl rfl ?_
  refine ja_iconst (pc := 16) (n := 2) (v := 2) (by decide +kernel) (by decide +kernel) ?_
  refine ja_iushr (pc := 17) (by decide +kernel) ?_
  refine ja_ldcw (pc := 18) (idx := 266) (v := 858993459) (by decide +kernel) ci_Integer_266 ?_
  refine ja_iand (pc := 21) (by decide +kernel) ?_
  refine ja_iadd (pc := 22) (by decide +kernel) ?_
  refine ja_istore_n (pc := 23) (f := 0) (i := 0) (lv' := [(0, .int (((x0 - ((((x0 : Int32).toUInt32 >>> (((1 : Int32) : Int32).toUInt32 &&& Int32.toUInt32 31)).toInt32) &&& (1431655765 : Int32))) &&& (858993459 : Int32)) + ((((x0 - ((((x0 : Int32).toUInt32 >>> (((1 : Int32) : Int32).toUInt32 &&& Int32.toUInt32 31)).toInt32) &&& (1431655765 : Int32)) : Int32).toUInt32 >>> (((2 : Int32) : Int32).toUInt32 &&& Int32.toUInt32 31)).toInt32) &&& (858993459 : Int32))))]) (by decide +kernel) rfl (by decide) rfl ?_
  refine ja_iload_n (pc := 24) (f := 0) (i := 0) 0 (by decide +kernel) rfl rfl ?_
  refine ja_iload_n (pc := 25) (f := 0) (i := 0) 0 (by decide +kernel) rfl rfl ?_
  refine ja_iconst (pc := 26) (n := 4) (v := 4) (by decide +kernel) (by decide +kernel) ?_
  refine ja_iushr (pc := 27) (by decide +kernel) ?_
  refine ja_iadd (pc := 28) (by decide +kernel) ?_
  refine ja_ldcw (pc := 29) (idx := 267) (v := 252645135) (by decide +kernel) ci_Integer_267 ?_
  refine ja_iand (pc := 32) (by decide +kernel) ?_
  refine ja_istore_n (pc := 33) (f := 0) (i := 0) (lv' := [(0, .int (((((x0 - ((((x0 : Int32).toUInt32 >>> (((1 : Int32) : Int32).toUInt32 &&& Int32.toUInt32 31)).toInt32) &&& (1431655765 : Int32))) &&& (858993459 : Int32)) + ((((x0 - ((((x0 : Int32).toUInt32 >>> (((1 : Int32) : Int32).toUInt32 &&& Int32.toUInt32 31)).toInt32) &&& (1431655765 : Int32)) : Int32).toUInt32 >>> (((2 : Int32) : Int32).toUInt32 &&& Int32.toUInt32 31)).toInt32) &&& (858993459 : Int32))) + (((((x0 - ((((x0 : Int32).toUInt32 >>> (((1 : Int32) : Int32).toUInt32 &&& Int32.toUInt32 31)).toInt32) &&& (1431655765 : Int32))) &&& (858993459 : Int32)) + ((((x0 - ((((x0 : Int32).toUInt32 >>> (((1 : Int32) : Int32).toUInt32 &&& Int32.toUInt32 31)).toInt32) &&& (1431655765 : Int32)) : Int32).toUInt32 >>> (((2 : Int32) : Int32).toUInt32 &&& Int32.toUInt32 31)).toInt32) &&& (858993459 : Int32)) : Int32).toUInt32 >>> (((4 : Int32) : Int32).toUInt32 &&& Int32.toUInt32 31)).toInt32)) &&& (252645135 : Int32)))]) (by decide +kernel) rfl (by decide) rfl ?_
  refine ja_iload_n (pc := 34) (f := 0) (i := 0) 0 (by decide +kernel) rfl rfl ?_
  refine ja_iload_n (pc := 35) (f := 0) (i := 0) 0 (by decide +kernel) rfl rfl ?_
  refine ja_bipush (pc := 36) (n := 8) (v := 8) (by decide +kernel) (by decide +kernel) ?_
  refine ja_iushr (pc := 38) (by decide +kernel) ?_
  refine ja_iadd (pc := 39) (by decide +kernel) ?_
  refine ja_istore_n (pc := 40) (f := 0) (i := 0) (lv' := [(0, .int ((((((x0 - ((((x0 : Int32).toUInt32 >>> (((1 : Int32) : Int32).toUInt32 &&& Int32.toUInt32 31)).toInt32) &&& (1431655765 : Int32))) &&& (858993459 : Int32)) + ((((x0 - ((((x0 : Int32).toUInt32 >>> (((1 : Int32) : Int32).toUInt32 &&& Int32.toUInt32 31)).toInt32) &&& (1431655765 : Int32)) : Int32).toUInt32 >>> (((2 : Int32) : Int32).toUInt32 &&& Int32.toUInt32 31)).toInt32) &&& (858993459 : Int32))) + (((((x0 - ((((x0 : Int32).toUInt32 >>> (((1 : Int32) : Int32).toUInt32 &&& Int32.toUInt32 31)).toInt32) &&& (1431655765 : Int32))) &&& (858993459 : Int32)) + ((((x0 - ((((x0 : Int32).toUInt32 >>> (((1 : Int32) : Int32).toUInt32 &&& Int32.toUInt32 31)).toInt32) &&& (1431655765 : Int32)) : Int32).toUInt32 >>> (((2 : Int32) : Int32).toUInt32 &&& Int32.toUInt32 31)).toInt32) &&& (858993459 : Int32)) : Int32).toUInt32 >>> (((4 : Int32) : Int32).toUInt32 &&& Int32.toUInt32 31)).toInt32)) &&& (252645135 : Int32)) + (((((((x0 - ((((x0 : Int32).toUInt32 >>> (((1 : Int32) : Int32).toUInt32 &&& Int32.toUInt32 31)).toInt32) &&& (1431655765 : Int32))) &&& (858993459 : Int32)) + ((((x0 - ((((x0 : Int32).toUInt32 >>> (((1 : Int32) : Int32).toUInt32 &&& Int32.toUInt32 31)).toInt32) &&& (1431655765 : Int32)) : Int32).toUInt32 >>> (((2 : Int32) : Int32).toUInt32 &&& Int32.toUInt32 31)).toInt32) &&& (858993459 : Int32))) + (((((x0 - ((((x0 : Int32).toUInt32 >>> (((1 : Int32) : Int32).toUInt32 &&& Int32.toUInt32 31)).toInt32) &&& (1431655765 : Int32))) &&& (858993459 : Int32)) + ((((x0 - ((((x0 : Int32).toUInt32 >>> (((1 : Int32) : Int32).toUInt32 &&& Int32.toUInt32 31)).toInt32) &&& (1431655765 : Int32)) : Int32).toUInt32 >>> (((2 : Int32) : Int32).toUInt32 &&& Int32.toUInt32 31)).toInt32) &&& (858993459 : Int32)) : Int32).toUInt32 >>> (((4 : Int32) : Int32).toUInt32 &&& Int32.toUInt32 31)).toInt32)) &&& (252645135 : Int32) : Int32).toUInt32 >>> (((8 : Int32) : Int32).toUInt32 &&& Int32.toUInt32 31)).toInt32)))]) (by decide +kernel) rfl (by decide) rfl ?_
  refine ja_iload_n (pc := 41) (f := 0) (i := 0) 0 (by decide +kernel) rfl rfl ?_
  refine ja_iload_n (pc := 42) (f := 0) (i := 0) 0 (by decide +kernel) rfl rfl ?_
  refine ja_bipush (pc := 43) (n := 16) (v := 16) (by decide +kernel) (by decide +kernel) ?_
  refine ja_iushr (pc := 45) (by decide +kernel) ?_
  refine ja_iadd (pc := 46) (by decide +kernel) ?_
  refine ja_istore_n (pc := 47) (f := 0) (i := 0) (lv' := [(0, .int (((((((x0 - ((((x0 : Int32).toUInt32 >>> (((1 : Int32) : Int32).toUInt32 &&& Int32.toUInt32 31)).toInt32) &&& (1431655765 : Int32))) &&& (858993459 : Int32)) + ((((x0 - ((((x0 : Int32).toUInt32 >>> (((1 : Int32) : Int32).toUInt32 &&& Int32.toUInt32 31)).toInt32) &&& (1431655765 : Int32)) : Int32).toUInt32 >>> (((2 : Int32) : Int32).toUInt32 &&& Int32.toUInt32 31)).toInt32) &&& (858993459 : Int32))) + (((((x0 - ((((x0 : Int32).toUInt32 >>> (((1 : Int32) : Int32).toUInt32 &&& Int32.toUInt32 31)).toInt32) &&& (1431655765 : Int32))) &&& (858993459 : Int32)) + ((((x0 - ((((x0 : Int32).toUInt32 >>> (((1 : Int32) : Int32).toUInt32 &&& Int32.toUInt32 31)).toInt32) &&& (1431655765 : Int32)) : Int32).toUInt32 >>> (((2 : Int32) : Int32).toUInt32 &&& Int32.toUInt32 31)).toInt32) &&& (858993459 : Int32)) : Int32).toUInt32 >>> (((4 : Int32) : Int32).toUInt32 &&& Int32.toUInt32 31)).toInt32)) &&& (252645135 : Int32)) + (((((((x0 - ((((x0 : Int32).toUInt32 >>> (((1 : Int32) : Int32).toUInt32 &&& Int32.toUInt32 31)).toInt32) &&& (1431655765 : Int32))) &&& (858993459 : Int32)) + ((((x0 - ((((x0 : Int32).toUInt32 >>> (((1 : Int32) : Int32).toUInt32 &&& Int32.toUInt32 31)).toInt32) &&& (1431655765 : Int32)) : Int32).toUInt32 >>> (((2 : Int32) : Int32).toUInt32 &&& Int32.toUInt32 31)).toInt32) &&& (858993459 : Int32))) + (((((x0 - ((((x0 : Int32).toUInt32 >>> (((1 : Int32) : Int32).toUInt32 &&& Int32.toUInt32 31)).toInt32) &&& (1431655765 : Int32))) &&& (858993459 : Int32)) + ((((x0 - ((((x0 : Int32).toUInt32 >>> (((1 : Int32) : Int32).toUInt32 &&& Int32.toUInt32 31)).toInt32) &&& (1431655765 : Int32)) : Int32).toUInt32 >>> (((2 : Int32) : Int32).toUInt32 &&& Int32.toUInt32 31)).toInt32) &&& (858993459 : Int32)) : Int32).toUInt32 >>> (((4 : Int32) : Int32).toUInt32 &&& Int32.toUInt32 31)).toInt32)) &&& (252645135 : Int32) : Int32).toUInt32 >>> (((8 : Int32) : Int32).toUInt32 &&& Int32.toUInt32 31)).toInt32)) + ((((((((x0 - ((((x0 : Int32).toUInt32 >>> (((1 : Int32) : Int32).toUInt32 &&& Int32.toUInt32 31)).toInt32) &&& (1431655765 : Int32))) &&& (858993459 : Int32)) + ((((x0 - ((((x0 : Int32).toUInt32 >>> (((1 : Int32) : Int32).toUInt32 &&& Int32.toUInt32 31)).toInt32) &&& (1431655765 : Int32)) : Int32).toUInt32 >>> (((2 : Int32) : Int32).toUInt32 &&& Int32.toUInt32 31)).toInt32) &&& (858993459 : Int32))) + (((((x0 - ((((x0 : Int32).toUInt32 >>> (((1 : Int32) : Int32).toUInt32 &&& Int32.toUInt32 31)).toInt32) &&& (1431655765 : Int32))) &&& (858993459 : Int32)) + ((((x0 - ((((x0 : Int32).toUInt32 >>> (((1 : Int32) : Int32).toUInt32 &&& Int32.toUInt32 31)).toInt32) &&& (1431655765 : Int32)) : Int32).toUInt32 >>> (((2 : Int32) : Int32).toUInt32 &&& Int32.toUInt32 31)).toInt32) &&& (858993459 : Int32)) : Int32).toUInt32 >>> (((4 : Int32) : Int32).toUInt32 &&& Int32.toUInt32 31)).toInt32)) &&& (252645135 : Int32)) + (((((((x0 - ((((x0 : Int32).toUInt32 >>> (((1 : Int32) : Int32).toUInt32 &&& Int32.toUInt32 31)).toInt32) &&& (1431655765 : Int32))) &&& (858993459 : Int32)) + ((((x0 - ((((x0 : Int32).toUInt32 >>> (((1 : Int32) : Int32).toUInt32 &&& Int32.toUInt32 31)).toInt32) &&& (1431655765 : Int32)) : Int32).toUInt32 >>> (((2 : Int32) : Int32).toUInt32 &&& Int32.toUInt32 31)).toInt32) &&& (858993459 : Int32))) + (((((x0 - ((((x0 : Int32).toUInt32 >>> (((1 : Int32) : Int32).toUInt32 &&& Int32.toUInt32 31)).toInt32) &&& (1431655765 : Int32))) &&& (858993459 : Int32)) + ((((x0 - ((((x0 : Int32).toUInt32 >>> (((1 : Int32) : Int32).toUInt32 &&& Int32.toUInt32 31)).toInt32) &&& (1431655765 : Int32)) : Int32).toUInt32 >>> (((2 : Int32) : Int32).toUInt32 &&& Int32.toUInt32 31)).toInt32) &&& (858993459 : Int32)) : Int32).toUInt32 >>> (((4 : Int32) : Int32).toUInt32 &&& Int32.toUInt32 31)).toInt32)) &&& (252645135 : Int32) : Int32).toUInt32 >>> (((8 : Int32) : Int32).toUInt32 &&& Int32.toUInt32 31)).toInt32) : Int32).toUInt32 >>> (((16 : Int32) : Int32).toUInt32 &&& Int32.toUInt32 31)).toInt32)))]) (by decide +kernel) rfl (by decide) rfl ?_
  refine ja_iload_n (pc := 48) (f := 0) (i := 0) 0 (by decide +kernel) rfl rfl ?_
  refine ja_bipush (pc := 49) (n := 63) (v := 63) (by decide +kernel) (by decide +kernel) ?_
  refine ja_iand (pc := 51) (by decide +kernel) ?_
  exact ja_ret (pc := 52) (some (.int ((((((((x0 - ((((x0 : Int32).toUInt32 >>> (((1 : Int32) : Int32).toUInt32 &&& Int32.toUInt32 31)).toInt32) &&& (1431655765 : Int32))) &&& (858993459 : Int32)) + ((((x0 - ((((x0 : Int32).toUInt32 >>> (((1 : Int32) : Int32).toUInt32 &&& Int32.toUInt32 31)).toInt32) &&& (1431655765 : Int32)) : Int32).toUInt32 >>> (((2 : Int32) : Int32).toUInt32 &&& Int32.toUInt32 31)).toInt32) &&& (858993459 : Int32))) + (((((x0 - ((((x0 : Int32).toUInt32 >>> (((1 : Int32) : Int32).toUInt32 &&& Int32.toUInt32 31)).toInt32) &&& (1431655765 : Int32))) &&& (858993459 : Int32)) + ((((x0 - ((((x0 : Int32).toUInt32 >>> (((1 : Int32) : Int32).toUInt32 &&& Int32.toUInt32 31)).toInt32) &&& (1431655765 : Int32)) : Int32).toUInt32 >>> (((2 : Int32) : Int32).toUInt32 &&& Int32.toUInt32 31)).toInt32) &&& (858993459 : Int32)) : Int32).toUInt32 >>> (((4 : Int32) : Int32).toUInt32 &&& Int32.toUInt32 31)).toInt32)) &&& (252645135 : Int32)) + (((((((x0 - ((((x0 : Int32).toUInt32 >>> (((1 : Int32) : Int32).toUInt32 &&& Int32.toUInt32 31)).toInt32) &&& (1431655765 : Int32))) &&& (858993459 : Int32)) + ((((x0 - ((((x0 : Int32).toUInt32 >>> (((1 : Int32) : Int32).toUInt32 &&& Int32.toUInt32 31)).toInt32) &&& (1431655765 : Int32)) : Int32).toUInt32 >>> (((2 : Int32) : Int32).toUInt32 &&& Int32.toUInt32 31)).toInt32) &&& (858993459 : Int32))) + (((((x0 - ((((x0 : Int32).toUInt32 >>> (((1 : Int32) : Int32).toUInt32 &&& Int32.toUInt32 31)).toInt32) &&& (1431655765 : Int32))) &&& (858993459 : Int32)) + ((((x0 - ((((x0 : Int32).toUInt32 >>> (((1 : Int32) : Int32).toUInt32 &&& Int32.toUInt32 31)).toInt32) &&& (1431655765 : Int32)) : Int32).toUInt32 >>> (((2 : Int32) : Int32).toUInt32 &&& Int32.toUInt32 31)).toInt32) &&& (858993459 : Int32)) : Int32).toUInt32 >>> (((4 : Int32) : Int32).toUInt32 &&& Int32.toUInt32 31)).toInt32)) &&& (252645135 : Int32) : Int32).toUInt32 >>> (((8 : Int32) : Int32).toUInt32 &&& Int32.toUInt32 31)).toInt32)) + ((((((((x0 - ((((x0 : Int32).toUInt32 >>> (((1 : Int32) : Int32).toUInt32 &&& Int32.toUInt32 31)).toInt32) &&& (1431655765 : Int32))) &&& (858993459 : Int32)) + ((((x0 - ((((x0 : Int32).toUInt32 >>> (((1 : Int32) : Int32).toUInt32 &&& Int32.toUInt32 31)).toInt32) &&& (1431655765 : Int32)) : Int32).toUInt32 >>> (((2 : Int32) : Int32).toUInt32 &&& Int32.toUInt32 31)).toInt32) &&& (858993459 : Int32))) + (((((x0 - ((((x0 : Int32).toUInt32 >>> (((1 : Int32) : Int32).toUInt32 &&& Int32.toUInt32 31)).toInt32) &&& (1431655765 : Int32))) &&& (858993459 : Int32)) + ((((x0 - ((((x0 : Int32).toUInt32 >>> (((1 : Int32) : Int32).toUInt32 &&& Int32.toUInt32 31)).toInt32) &&& (1431655765 : Int32)) : Int32).toUInt32 >>> (((2 : Int32) : Int32).toUInt32 &&& Int32.toUInt32 31)).toInt32) &&& (858993459 : Int32)) : Int32).toUInt32 >>> (((4 : Int32) : Int32).toUInt32 &&& Int32.toUInt32 31)).toInt32)) &&& (252645135 : Int32)) + (((((((x0 - ((((x0 : Int32).toUInt32 >>> (((1 : Int32) : Int32).toUInt32 &&& Int32.toUInt32 31)).toInt32) &&& (1431655765 : Int32))) &&& (858993459 : Int32)) + ((((x0 - ((((x0 : Int32).toUInt32 >>> (((1 : Int32) : Int32).toUInt32 &&& Int32.toUInt32 31)).toInt32) &&& (1431655765 : Int32)) : Int32).toUInt32 >>> (((2 : Int32) : Int32).toUInt32 &&& Int32.toUInt32 31)).toInt32) &&& (858993459 : Int32))) + (((((x0 - ((((x0 : Int32).toUInt32 >>> (((1 : Int32) : Int32).toUInt32 &&& Int32.toUInt32 31)).toInt32) &&& (1431655765 : Int32))) &&& (858993459 : Int32)) + ((((x0 - ((((x0 : Int32).toUInt32 >>> (((1 : Int32) : Int32).toUInt32 &&& Int32.toUInt32 31)).toInt32) &&& (1431655765 : Int32)) : Int32).toUInt32 >>> (((2 : Int32) : Int32).toUInt32 &&& Int32.toUInt32 31)).toInt32) &&& (858993459 : Int32)) : Int32).toUInt32 >>> (((4 : Int32) : Int32).toUInt32 &&& Int32.toUInt32 31)).toInt32)) &&& (252645135 : Int32) : Int32).toUInt32 >>> (((8 : Int32) : Int32).toUInt32 &&& Int32.toUInt32 31)).toInt32) : Int32).toUInt32 >>> (((16 : Int32) : Int32).toUInt32 &&& Int32.toUInt32 31)).toInt32)) &&& (63 : Int32)))) .ireturn (by decide +kernel) rfl (by cases hf; rfl)
def f_Sheet_largestJointSet_L4  : Nat → Nat → Nat → Int32 → Int32 → ja_S → Option (Int32 × ja_S)
  | 0, _, _, _, _, _ => none
  | n + 1, x0, x1, x2, x3, sg => (if (sg.1 x1 1) ≤ x3 then some (x2, sg) else (f_Search_stateAt x1 x3 sg).bind fun v1 => (f_Sheet_routesSetIn x0 v1.1 v1.2).bind fun v2 => (f_Integer_bitCount v2.1 v2.2).bind fun v3 => (f_Integer_bitCount x2 v3.2).bind fun v4 => (if 0 < (v3.1 - v4.1) then f_Sheet_largestJointSet_L4  n x0 x1 v2.1 (x3 + 1) v4.2 else (if (v3.1 - v4.1) = 0 then (if x2 ≤ v2.1 then f_Sheet_largestJointSet_L4  n x0 x1 x2 (x3 + 1) v4.2 else f_Sheet_largestJointSet_L4  n x0 x1 v2.1 (x3 + 1) v4.2) else f_Sheet_largestJointSet_L4  n x0 x1 x2 (x3 + 1) v4.2)))
set_option maxRecDepth 4000 in
theorem w_Sheet_largestJointSet_L4 (C : ja_C) {w : Int32 × ja_S}    (n : Nat) : ∀ (x0 : Nat) (x1 : Nat) (x2 : Int32) (x3 : Int32) (sg : ja_S), ja_ob ja_L0 5 x0 → ja_ob ja_L0 4 x1 → f_Sheet_largestJointSet_L4  n x0 x1 x2 x3 sg = some w → ja_J M_Sheet_largestJointSet C 4 [(0, .ref x0), (1, .ref x1), (2, .int x2), (3, .int x3)] [] ja_L0 sg (some (.int w.1), ja_L0, w.2) := by
  induction n with
  | zero => intro _ _ _ _ _ _ _ hf; exact absurd (show (none : Option _) = some w from hf) (by simp)
  | succ n ih =>
    intro x0 x1 x2 x3 sg h0 h1 hf
    unfold f_Sheet_largestJointSet_L4 at hf
    refine ja_iload_n (pc := 4) (f := 3) (i := 3) 3 (by decide +kernel) rfl rfl ?_
    refine ja_aload_n (pc := 5) (f := 1) (i := 1) 1 (by decide +kernel) rfl rfl ?_
    refine ja_geti (pc := 6) (idx := 79) (t := 4) (j := 1) (by decide +kernel) fd_Sheet_79 h1 ?_
    refine ja_icmp_ge (pc := 9) (off := 51) 60 (by decide +kernel) (by decide) hf (fun hf => ?_) (fun hf => ?_)
    · refine ja_iload_n (pc := 60) (f := 2) (i := 2) 2 (by decide +kernel) rfl rfl ?_
      exact ja_ret (pc := 61) (some (.int x2)) .ireturn (by decide +kernel) rfl (by cases hf; rfl)
    · refine ja_aload_n (pc := 12) (f := 0) (i := 0) 0 (by decide +kernel) rfl rfl ?_
      refine ja_aload_n (pc := 13) (f := 1) (i := 1) 1 (by decide +kernel) rfl rfl ?_
      refine ja_iload_n (pc := 14) (f := 3) (i := 3) 3 (by decide +kernel) rfl rfl ?_
      refine ja_bind hf (fun v1 hv1 hf => ?_)
      refine ja_callVi (pc := 15) (idx := 82) (t := 4) (b := x1) (as := [.int x3]) (st := [.ref x0]) (by decide +kernel) kv_Search_stateAt lk_Sheet_82 ⟨by decide, by decide⟩ (c_Search_stateAt _ _ x1 x3 h1 hv1) h1 rfl (Nat.le_of_ble_eq_true rfl) rfl ?_
      refine ja_bind hf (fun v2 hv2 hf => ?_)
      refine ja_callVi (pc := 18) (idx := 85) (t := 5) (b := x0) (as := [.int v1.1]) (st := []) (by decide +kernel) kv_Sheet_routesSetIn lk_Sheet_85 ⟨by decide, by decide⟩ (c_Sheet_routesSetIn _ _ x0 v1.1 h0 hv2) h0 rfl (Nat.le_of_ble_eq_true rfl) rfl ?_
      refine ja_istore (pc := 21) (i := 4) (lv' := [(4, .int v2.1), (0, .ref x0), (1, .ref x1), (2, .int x2), (3, .int x3)]) (by decide +kernel) (by decide) rfl ?_
      refine ja_iload (pc := 23) (i := 4) 0 (by decide +kernel) rfl ?_
      refine ja_bind hf (fun v3 hv3 hf => ?_)
      refine ja_callSi (pc := 25) (idx := 88) (as := [.int v2.1]) (st := []) (by decide +kernel) ks_Integer_bitCount lk_Sheet_88 ⟨by decide, by decide⟩ (c_Integer_bitCount _ _ v2.1  hv3) rfl (Nat.le_of_ble_eq_true rfl) rfl ?_
      refine ja_iload_n (pc := 28) (f := 2) (i := 2) 3 (by decide +kernel) rfl rfl ?_
      refine ja_bind hf (fun v4 hv4 hf => ?_)
      refine ja_callSi (pc := 29) (idx := 88) (as := [.int x2]) (st := [.int v3.1]) (by decide +kernel) ks_Integer_bitCount lk_Sheet_88 ⟨by decide, by decide⟩ (c_Integer_bitCount _ _ x2  hv4) rfl (Nat.le_of_ble_eq_true rfl) rfl ?_
      refine ja_isub (pc := 32) (by decide +kernel) ?_
      refine ja_istore (pc := 33) (i := 5) (lv' := [(5, .int (v3.1 - v4.1)), (4, .int v2.1), (0, .ref x0), (1, .ref x1), (2, .int x2), (3, .int x3)]) (by decide +kernel) (by decide) rfl ?_
      refine ja_iload (pc := 35) (i := 5) 0 (by decide +kernel) rfl ?_
      refine ja_if_gt (pc := 37) (off := 14) 51 (by decide +kernel) (by decide) hf (fun hf => ?_) (fun hf => ?_)
      · refine ja_iload (pc := 51) (i := 4) 1 (by decide +kernel) rfl ?_
        refine ja_istore_n (pc := 53) (f := 2) (i := 2) (lv' := [(2, .int v2.1), (5, .int (v3.1 - v4.1)), (4, .int v2.1), (0, .ref x0), (1, .ref x1), (3, .int x3)]) (by decide +kernel) rfl (by decide) rfl ?_
        refine ja_iinc (pc := 54) (i := 3) (n := 1) (v := x3 + 1) (lv' := [(3, .int (x3 + 1)), (2, .int v2.1), (5, .int (v3.1 - v4.1)), (4, .int v2.1), (0, .ref x0), (1, .ref x1)]) 5 (by decide +kernel) rfl rfl (by decide) rfl ?_
        refine ja_goto (pc := 57) (off := (-53)) 4 (by decide +kernel) (by decide) ?_
        refine ja_lv [4, 5, 1, 0] rfl ?_
        exact ih x0 x1 v2.1 (x3 + 1) v4.2 h0 h1 hf
      · refine ja_iload (pc := 40) (i := 5) 0 (by decide +kernel) rfl ?_
        refine ja_if_ne (pc := 42) (off := 12) 54 (by decide +kernel) (by decide) hf (fun hf => ?_) (fun hf => ?_)
        · refine ja_iinc (pc := 54) (i := 3) (n := 1) (v := x3 + 1) (lv' := [(3, .int (x3 + 1)), (5, .int (v3.1 - v4.1)), (4, .int v2.1), (0, .ref x0), (1, .ref x1), (2, .int x2)]) 5 (by decide +kernel) rfl rfl (by decide) rfl ?_
          refine ja_goto (pc := 57) (off := (-53)) 4 (by decide +kernel) (by decide) ?_
          refine ja_lv [3, 4, 5, 0] rfl ?_
          exact ih x0 x1 x2 (x3 + 1) v4.2 h0 h1 hf
        · refine ja_iload (pc := 45) (i := 4) 1 (by decide +kernel) rfl ?_
          refine ja_iload_n (pc := 47) (f := 2) (i := 2) 4 (by decide +kernel) rfl rfl ?_
          refine ja_icmp_ge (pc := 48) (off := 6) 54 (by decide +kernel) (by decide) hf (fun hf => ?_) (fun hf => ?_)
          · refine ja_iinc (pc := 54) (i := 3) (n := 1) (v := x3 + 1) (lv' := [(3, .int (x3 + 1)), (5, .int (v3.1 - v4.1)), (4, .int v2.1), (0, .ref x0), (1, .ref x1), (2, .int x2)]) 5 (by decide +kernel) rfl rfl (by decide) rfl ?_
            refine ja_goto (pc := 57) (off := (-53)) 4 (by decide +kernel) (by decide) ?_
            refine ja_lv [3, 4, 5, 0] rfl ?_
            exact ih x0 x1 x2 (x3 + 1) v4.2 h0 h1 hf
          · refine ja_iload (pc := 51) (i := 4) 1 (by decide +kernel) rfl ?_
            refine ja_istore_n (pc := 53) (f := 2) (i := 2) (lv' := [(2, .int v2.1), (5, .int (v3.1 - v4.1)), (4, .int v2.1), (0, .ref x0), (1, .ref x1), (3, .int x3)]) (by decide +kernel) rfl (by decide) rfl ?_
            refine ja_iinc (pc := 54) (i := 3) (n := 1) (v := x3 + 1) (lv' := [(3, .int (x3 + 1)), (2, .int v2.1), (5, .int (v3.1 - v4.1)), (4, .int v2.1), (0, .ref x0), (1, .ref x1)]) 5 (by decide +kernel) rfl rfl (by decide) rfl ?_
            refine ja_goto (pc := 57) (off := (-53)) 4 (by decide +kernel) (by decide) ?_
            refine ja_lv [4, 5, 1, 0] rfl ?_
            exact ih x0 x1 v2.1 (x3 + 1) v4.2 h0 h1 hf
def f_Sheet_largestJointSet (x0 : Nat) (x1 : Nat) (sg : ja_S) : Option (Int32 × ja_S) := f_Sheet_largestJointSet_L4  ja_FU x0 x1 (0 : Int32) (0 : Int32) sg
set_option maxRecDepth 4000 in
theorem c_Sheet_largestJointSet (l : Launch) (x : ja_X) (x0 : Nat) (x1 : Nat) {sg : ja_S} {w : Int32 × ja_S} (h0 : ja_ob ja_L0 5 x0) (h1 : ja_ob ja_L0 4 x1) (hf : f_Sheet_largestJointSet x0 x1 sg = some w) : ja_Ct l x y_Sheet_largestJointSet M_Sheet_largestJointSet [.ref x0, .ref x1] ja_L0 sg (some (.int w.1), ja_L0, w.2) := by
  refine ja_mk ⟨by decide, rfl, rfl⟩ (Nat.le_of_ble_eq_true rfl) (lv := [(0, .ref x0), (1, .ref x1)]) rfl (fun C hl hx _ _ _ _ => ?_)
  subst hl; subst hx
  unfold f_Sheet_largestJointSet at hf
  refine ja_iconst (pc := 0) (n := 0) (v := 0) (by decide +kernel) (by decide +kernel) ?_
  refine ja_istore_n (pc := 1) (f := 2) (i := 2) (lv' := [(2, .int (0 : Int32)), (0, .ref x0), (1, .ref x1)]) (by decide +kernel) rfl (by decide) rfl ?_
  refine ja_iconst (pc := 2) (n := 0) (v := 0) (by decide +kernel) (by decide +kernel) ?_
  refine ja_istore_n (pc := 3) (f := 3) (i := 3) (lv' := [(3, .int (0 : Int32)), (2, .int (0 : Int32)), (0, .ref x0), (1, .ref x1)]) (by decide +kernel) rfl (by decide) rfl ?_
  refine ja_lv [2, 3, 1, 0] rfl ?_
  exact w_Sheet_largestJointSet_L4 C  ja_FU x0 x1 (0 : Int32) (0 : Int32) sg h0 h1 hf
def f_Frame_largestRouteSet (x0 : Nat) (sg : ja_S) : Option (Int32 × ja_S) := (f_Frame_searchedHome x0 sg).bind fun v1 => (f_Sheet_largestJointSet (ja_q x0 3) (ja_q x0 7) v1).bind fun v2 => some (v2.1, v2.2)
set_option maxRecDepth 4000 in
theorem c_Frame_largestRouteSet (l : Launch) (x : ja_X) (x0 : Nat) {sg : ja_S} {w : Int32 × ja_S} (h0 : ja_ob ja_L0 7 x0) (hf : f_Frame_largestRouteSet x0 sg = some w) : ja_Ct l x y_Frame_largestRouteSet M_Frame_largestRouteSet [.ref x0] ja_L0 sg (some (.int w.1), ja_L0, w.2) := by
  refine ja_mk ⟨by decide, rfl, rfl⟩ (Nat.le_of_ble_eq_true rfl) (lv := [(0, .ref x0)]) rfl (fun C hl hx _ _ _ _ => ?_)
  subst hl; subst hx
  unfold f_Frame_largestRouteSet at hf
  refine ja_aload_n (pc := 0) (f := 0) (i := 0) 0 (by decide +kernel) rfl rfl ?_
  refine ja_getr (pc := 1) (idx := 19) (t := 7) (j := 3) (by decide +kernel) fd_Frame_19 h0 (fr_7_3 h0) ?_
  refine ja_aload_n (pc := 4) (f := 0) (i := 0) 0 (by decide +kernel) rfl rfl ?_
  refine ja_bind hf (fun v1 hv1 hf => ?_)
  refine ja_callVr (pc := 5) (idx := 190) (t := 7) (b := x0) (as := []) (st := [.ref (ja_q x0 3)]) (by decide +kernel) kv_Frame_searchedHome lk_Frame_190 ⟨by decide, by decide⟩ (c_Frame_searchedHome _ _ x0 h0 hv1) h0 rfl (Nat.le_of_ble_eq_true rfl) rfl ?_
  refine ja_bind hf (fun v2 hv2 hf => ?_)
  refine ja_callVi (pc := 8) (idx := 242) (t := 5) (b := (ja_q x0 3)) (as := [.ref (ja_q x0 7)]) (st := []) (by decide +kernel) kv_Sheet_largestJointSet lk_Frame_242 ⟨by decide, by decide⟩ (c_Sheet_largestJointSet _ _ (ja_q x0 3) (ja_q x0 7) (fk_7_3 h0) (fk_7_7 h0) hv2) (fk_7_3 h0) rfl (Nat.le_of_ble_eq_true rfl) rfl ?_
  exact ja_ret (pc := 11) (some (.int v2.1)) .ireturn (by decide +kernel) rfl (by cases hf; rfl)
def f_Search_farthest_L4  : Nat → Nat → Int32 → Int32 → ja_S → Option (Int32 × ja_S)
  | 0, _, _, _, _ => none
  | n + 1, x0, x1, x2, sg => (if (sg.1 x0 1) ≤ x2 then some (x1, sg) else (ja_ld ja_L0 sg (ja_q x0 3) x2).bind fun v1 => (f_Search_movesTo x0 v1 sg).bind fun v2 => (f_Search_movesTo x0 x1 v2.2).bind fun v3 => (if 0 < (v2.1 - v3.1) then f_Search_farthest_L4  n x0 v1 (x2 + 1) v3.2 else (if (v2.1 - v3.1) = 0 then (if x1 ≤ v1 then f_Search_farthest_L4  n x0 x1 (x2 + 1) v3.2 else f_Search_farthest_L4  n x0 v1 (x2 + 1) v3.2) else f_Search_farthest_L4  n x0 x1 (x2 + 1) v3.2)))
set_option maxRecDepth 4000 in
theorem w_Search_farthest_L4 (C : ja_C) {w : Int32 × ja_S}    (n : Nat) : ∀ (x0 : Nat) (x1 : Int32) (x2 : Int32) (sg : ja_S), ja_ob ja_L0 4 x0 → f_Search_farthest_L4  n x0 x1 x2 sg = some w → ja_J M_Search_farthest C 4 [(0, .ref x0), (1, .int x1), (2, .int x2)] [] ja_L0 sg (some (.int w.1), ja_L0, w.2) := by
  induction n with
  | zero => intro _ _ _ _ _ hf; exact absurd (show (none : Option _) = some w from hf) (by simp)
  | succ n ih =>
    intro x0 x1 x2 sg h0 hf
    unfold f_Search_farthest_L4 at hf
    refine ja_iload_n (pc := 4) (f := 2) (i := 2) 2 (by decide +kernel) rfl rfl ?_
    refine ja_aload_n (pc := 5) (f := 0) (i := 0) 0 (by decide +kernel) rfl rfl ?_
    refine ja_geti (pc := 6) (idx := 18) (t := 4) (j := 1) (by decide +kernel) fd_Search_18 h0 ?_
    refine ja_icmp_ge (pc := 9) (off := 46) 55 (by decide +kernel) (by decide) hf (fun hf => ?_) (fun hf => ?_)
    · refine ja_iload_n (pc := 55) (f := 1) (i := 1) 1 (by decide +kernel) rfl rfl ?_
      exact ja_ret (pc := 56) (some (.int x1)) .ireturn (by decide +kernel) rfl (by cases hf; rfl)
    · refine ja_aload_n (pc := 12) (f := 0) (i := 0) 0 (by decide +kernel) rfl rfl ?_
      refine ja_getr (pc := 13) (idx := 25) (t := 4) (j := 3) (by decide +kernel) fd_Search_25 h0 (fr_4_3 h0) ?_
      refine ja_iload_n (pc := 16) (f := 2) (i := 2) 2 (by decide +kernel) rfl rfl ?_
      refine ja_bind hf (fun v1 hv1 hf => ?_)
      refine ja_iald (pc := 17) (by decide +kernel) (fk_4_3 h0) hv1 ?_
      refine ja_istore_n (pc := 18) (f := 3) (i := 3) (lv' := [(3, .int v1), (0, .ref x0), (1, .int x1), (2, .int x2)]) (by decide +kernel) rfl (by decide) rfl ?_
      refine ja_aload_n (pc := 19) (f := 0) (i := 0) 1 (by decide +kernel) rfl rfl ?_
      refine ja_iload_n (pc := 20) (f := 3) (i := 3) 0 (by decide +kernel) rfl rfl ?_
      refine ja_bind hf (fun v2 hv2 hf => ?_)
      refine ja_callVi (pc := 21) (idx := 53) (t := 4) (b := x0) (as := [.int v1]) (st := []) (by decide +kernel) kv_Search_movesTo lk_Search_53 ⟨by decide, by decide⟩ (c_Search_movesTo _ _ x0 v1 h0 hv2) h0 rfl (Nat.le_of_ble_eq_true rfl) rfl ?_
      refine ja_aload_n (pc := 24) (f := 0) (i := 0) 1 (by decide +kernel) rfl rfl ?_
      refine ja_iload_n (pc := 25) (f := 1) (i := 1) 2 (by decide +kernel) rfl rfl ?_
      refine ja_bind hf (fun v3 hv3 hf => ?_)
      refine ja_callVi (pc := 26) (idx := 53) (t := 4) (b := x0) (as := [.int x1]) (st := [.int v2.1]) (by decide +kernel) kv_Search_movesTo lk_Search_53 ⟨by decide, by decide⟩ (c_Search_movesTo _ _ x0 x1 h0 hv3) h0 rfl (Nat.le_of_ble_eq_true rfl) rfl ?_
      refine ja_isub (pc := 29) (by decide +kernel) ?_
      refine ja_istore (pc := 30) (i := 4) (lv' := [(4, .int (v2.1 - v3.1)), (3, .int v1), (0, .ref x0), (1, .int x1), (2, .int x2)]) (by decide +kernel) (by decide) rfl ?_
      refine ja_iload (pc := 32) (i := 4) 0 (by decide +kernel) rfl ?_
      refine ja_if_gt (pc := 34) (off := 13) 47 (by decide +kernel) (by decide) hf (fun hf => ?_) (fun hf => ?_)
      · refine ja_iload_n (pc := 47) (f := 3) (i := 3) 1 (by decide +kernel) rfl rfl ?_
        refine ja_istore_n (pc := 48) (f := 1) (i := 1) (lv' := [(1, .int v1), (4, .int (v2.1 - v3.1)), (3, .int v1), (0, .ref x0), (2, .int x2)]) (by decide +kernel) rfl (by decide) rfl ?_
        refine ja_iinc (pc := 49) (i := 2) (n := 1) (v := x2 + 1) (lv' := [(2, .int (x2 + 1)), (1, .int v1), (4, .int (v2.1 - v3.1)), (3, .int v1), (0, .ref x0)]) 4 (by decide +kernel) rfl rfl (by decide) rfl ?_
        refine ja_goto (pc := 52) (off := (-48)) 4 (by decide +kernel) (by decide) ?_
        refine ja_lv [4, 1, 0] rfl ?_
        exact ih x0 v1 (x2 + 1) v3.2 h0 hf
      · refine ja_iload (pc := 37) (i := 4) 0 (by decide +kernel) rfl ?_
        refine ja_if_ne (pc := 39) (off := 10) 49 (by decide +kernel) (by decide) hf (fun hf => ?_) (fun hf => ?_)
        · refine ja_iinc (pc := 49) (i := 2) (n := 1) (v := x2 + 1) (lv' := [(2, .int (x2 + 1)), (4, .int (v2.1 - v3.1)), (3, .int v1), (0, .ref x0), (1, .int x1)]) 4 (by decide +kernel) rfl rfl (by decide) rfl ?_
          refine ja_goto (pc := 52) (off := (-48)) 4 (by decide +kernel) (by decide) ?_
          refine ja_lv [3, 4, 0] rfl ?_
          exact ih x0 x1 (x2 + 1) v3.2 h0 hf
        · refine ja_iload_n (pc := 42) (f := 3) (i := 3) 1 (by decide +kernel) rfl rfl ?_
          refine ja_iload_n (pc := 43) (f := 1) (i := 1) 3 (by decide +kernel) rfl rfl ?_
          refine ja_icmp_ge (pc := 44) (off := 5) 49 (by decide +kernel) (by decide) hf (fun hf => ?_) (fun hf => ?_)
          · refine ja_iinc (pc := 49) (i := 2) (n := 1) (v := x2 + 1) (lv' := [(2, .int (x2 + 1)), (4, .int (v2.1 - v3.1)), (3, .int v1), (0, .ref x0), (1, .int x1)]) 4 (by decide +kernel) rfl rfl (by decide) rfl ?_
            refine ja_goto (pc := 52) (off := (-48)) 4 (by decide +kernel) (by decide) ?_
            refine ja_lv [3, 4, 0] rfl ?_
            exact ih x0 x1 (x2 + 1) v3.2 h0 hf
          · refine ja_iload_n (pc := 47) (f := 3) (i := 3) 1 (by decide +kernel) rfl rfl ?_
            refine ja_istore_n (pc := 48) (f := 1) (i := 1) (lv' := [(1, .int v1), (4, .int (v2.1 - v3.1)), (3, .int v1), (0, .ref x0), (2, .int x2)]) (by decide +kernel) rfl (by decide) rfl ?_
            refine ja_iinc (pc := 49) (i := 2) (n := 1) (v := x2 + 1) (lv' := [(2, .int (x2 + 1)), (1, .int v1), (4, .int (v2.1 - v3.1)), (3, .int v1), (0, .ref x0)]) 4 (by decide +kernel) rfl rfl (by decide) rfl ?_
            refine ja_goto (pc := 52) (off := (-48)) 4 (by decide +kernel) (by decide) ?_
            refine ja_lv [4, 1, 0] rfl ?_
            exact ih x0 v1 (x2 + 1) v3.2 h0 hf
def f_Search_farthest (x0 : Nat) (sg : ja_S) : Option (Int32 × ja_S) := f_Search_farthest_L4  ja_FU x0 (0 : Int32) (0 : Int32) sg
set_option maxRecDepth 4000 in
theorem c_Search_farthest (l : Launch) (x : ja_X) (x0 : Nat) {sg : ja_S} {w : Int32 × ja_S} (h0 : ja_ob ja_L0 4 x0) (hf : f_Search_farthest x0 sg = some w) : ja_Ct l x y_Search_farthest M_Search_farthest [.ref x0] ja_L0 sg (some (.int w.1), ja_L0, w.2) := by
  refine ja_mk ⟨by decide, rfl, rfl⟩ (Nat.le_of_ble_eq_true rfl) (lv := [(0, .ref x0)]) rfl (fun C hl hx _ _ _ _ => ?_)
  subst hl; subst hx
  unfold f_Search_farthest at hf
  refine ja_iconst (pc := 0) (n := 0) (v := 0) (by decide +kernel) (by decide +kernel) ?_
  refine ja_istore_n (pc := 1) (f := 1) (i := 1) (lv' := [(1, .int (0 : Int32)), (0, .ref x0)]) (by decide +kernel) rfl (by decide) rfl ?_
  refine ja_iconst (pc := 2) (n := 0) (v := 0) (by decide +kernel) (by decide +kernel) ?_
  refine ja_istore_n (pc := 3) (f := 2) (i := 2) (lv' := [(2, .int (0 : Int32)), (1, .int (0 : Int32)), (0, .ref x0)]) (by decide +kernel) rfl (by decide) rfl ?_
  refine ja_lv [2, 1, 0] rfl ?_
  exact w_Search_farthest_L4 C  ja_FU x0 (0 : Int32) (0 : Int32) sg h0 hf
def f_Frame_farthestState (x0 : Nat) (sg : ja_S) : Option (Int32 × ja_S) := (f_Frame_searchedHome x0 sg).bind fun v1 => (f_Search_farthest (ja_q x0 7) v1).bind fun v2 => some (v2.1, v2.2)
set_option maxRecDepth 4000 in
theorem c_Frame_farthestState (l : Launch) (x : ja_X) (x0 : Nat) {sg : ja_S} {w : Int32 × ja_S} (h0 : ja_ob ja_L0 7 x0) (hf : f_Frame_farthestState x0 sg = some w) : ja_Ct l x y_Frame_farthestState M_Frame_farthestState [.ref x0] ja_L0 sg (some (.int w.1), ja_L0, w.2) := by
  refine ja_mk ⟨by decide, rfl, rfl⟩ (Nat.le_of_ble_eq_true rfl) (lv := [(0, .ref x0)]) rfl (fun C hl hx _ _ _ _ => ?_)
  subst hl; subst hx
  unfold f_Frame_farthestState at hf
  refine ja_aload_n (pc := 0) (f := 0) (i := 0) 0 (by decide +kernel) rfl rfl ?_
  refine ja_bind hf (fun v1 hv1 hf => ?_)
  refine ja_callVr (pc := 1) (idx := 190) (t := 7) (b := x0) (as := []) (st := []) (by decide +kernel) kv_Frame_searchedHome lk_Frame_190 ⟨by decide, by decide⟩ (c_Frame_searchedHome _ _ x0 h0 hv1) h0 rfl (Nat.le_of_ble_eq_true rfl) rfl ?_
  refine ja_bind hf (fun v2 hv2 hf => ?_)
  refine ja_callVi (pc := 4) (idx := 245) (t := 4) (b := (ja_q x0 7)) (as := []) (st := []) (by decide +kernel) kv_Search_farthest lk_Frame_245 ⟨by decide, by decide⟩ (c_Search_farthest _ _ (ja_q x0 7) (fk_7_7 h0) hv2) (fk_7_7 h0) rfl (Nat.le_of_ble_eq_true rfl) rfl ?_
  exact ja_ret (pc := 7) (some (.int v2.1)) .ireturn (by decide +kernel) rfl (by cases hf; rfl)
def f_Search_leverFreed_L2  : Nat → Nat → Nat → Int32 → Int32 → ja_S → Option (Int32 × ja_S)
  | 0, _, _, _, _, _ => none
  | n + 1, x0, x1, x2, x3, sg => (if (12 : Int32) ≤ x3 then some ((-1 : Int32), sg) else (if ((sg.1 x0 2) >>> (x3 &&& 31)) = 0 then some ((-1 : Int32), sg) else (if (((sg.1 x0 2) >>> (x3 &&& 31)) &&& (1 : Int32)) = (1 : Int32) then (f_Locking_allows (ja_q x0 0) x2 x3 sg).bind fun v1 => (if v1.1 = 0 then (f_Locking_allows x1 x2 x3 v1.2).bind fun v2 => (if v2.1 = 0 then f_Search_leverFreed_L2  n x0 x1 x2 (x3 + 1) v2.2 else some (x3, v2.2)) else f_Search_leverFreed_L2  n x0 x1 x2 (x3 + 1) v1.2) else f_Search_leverFreed_L2  n x0 x1 x2 (x3 + 1) sg)))
set_option maxRecDepth 4000 in
theorem w_Search_leverFreed_L2 (C : ja_C) {w : Int32 × ja_S}    (n : Nat) : ∀ (x0 : Nat) (x1 : Nat) (x2 : Int32) (x3 : Int32) (sg : ja_S), ja_ob ja_L0 4 x0 → ja_ob ja_L0 2 x1 → f_Search_leverFreed_L2  n x0 x1 x2 x3 sg = some w → ja_J M_Search_leverFreed C 2 [(0, .ref x0), (1, .ref x1), (2, .int x2), (3, .int x3)] [] ja_L0 sg (some (.int w.1), ja_L0, w.2) := by
  induction n with
  | zero => intro _ _ _ _ _ _ _ hf; exact absurd (show (none : Option _) = some w from hf) (by simp)
  | succ n ih =>
    intro x0 x1 x2 x3 sg h0 h1 hf
    unfold f_Search_leverFreed_L2 at hf
    refine ja_iload_n (pc := 2) (f := 3) (i := 3) 3 (by decide +kernel) rfl rfl ?_
    refine ja_bipush (pc := 3) (n := 12) (v := 12) (by decide +kernel) (by decide +kernel) ?_
    refine ja_icmp_ge (pc := 5) (off := 53) 58 (by decide +kernel) (by decide) hf (fun hf => ?_) (fun hf => ?_)
    · refine ja_iconst (pc := 58) (n := (-1)) (v := (-1)) (by decide +kernel) (by decide +kernel) ?_
      exact ja_ret (pc := 59) (some (.int (-1 : Int32))) .ireturn (by decide +kernel) rfl (by cases hf; rfl)
    · refine ja_aload_n (pc := 8) (f := 0) (i := 0) 0 (by decide +kernel) rfl rfl ?_
      refine ja_geti (pc := 9) (idx := 22) (t := 4) (j := 2) (by decide +kernel) fd_Search_22 h0 ?_
      refine ja_iload_n (pc := 12) (f := 3) (i := 3) 3 (by decide +kernel) rfl rfl ?_
      refine ja_ishr (pc := 13) (by decide +kernel) ?_
      refine ja_if_eq (pc := 14) (off := 44) 58 (by decide +kernel) (by decide) hf (fun hf => ?_) (fun hf => ?_)
      · refine ja_iconst (pc := 58) (n := (-1)) (v := (-1)) (by decide +kernel) (by decide +kernel) ?_
        exact ja_ret (pc := 59) (some (.int (-1 : Int32))) .ireturn (by decide +kernel) rfl (by cases hf; rfl)
      · refine ja_aload_n (pc := 17) (f := 0) (i := 0) 0 (by decide +kernel) rfl rfl ?_
        refine ja_geti (pc := 18) (idx := 22) (t := 4) (j := 2) (by decide +kernel) fd_Search_22 h0 ?_
        refine ja_iload_n (pc := 21) (f := 3) (i := 3) 3 (by decide +kernel) rfl rfl ?_
        refine ja_ishr (pc := 22) (by decide +kernel) ?_
        refine ja_iconst (pc := 23) (n := 1) (v := 1) (by decide +kernel) (by decide +kernel) ?_
        refine ja_iand (pc := 24) (by decide +kernel) ?_
        refine ja_iconst (pc := 25) (n := 1) (v := 1) (by decide +kernel) (by decide +kernel) ?_
        refine ja_icmp_ne (pc := 26) (off := 26) 52 (by decide +kernel) (by decide) hf (fun hf => ?_) (fun hf => ?_)
        · refine ja_iinc (pc := 52) (i := 3) (n := 1) (v := x3 + 1) (lv' := [(3, .int (x3 + 1)), (0, .ref x0), (1, .ref x1), (2, .int x2)]) 3 (by decide +kernel) rfl rfl (by decide) rfl ?_
          refine ja_goto (pc := 55) (off := (-53)) 2 (by decide +kernel) (by decide) ?_
          refine ja_lv [1, 2, 3, 0] rfl ?_
          exact ih x0 x1 x2 (x3 + 1) sg h0 h1 hf
        · refine ja_aload_n (pc := 29) (f := 0) (i := 0) 0 (by decide +kernel) rfl rfl ?_
          refine ja_getr (pc := 30) (idx := 12) (t := 4) (j := 0) (by decide +kernel) fd_Search_12 h0 (fr_4_0 h0) ?_
          refine ja_iload_n (pc := 33) (f := 2) (i := 2) 2 (by decide +kernel) rfl rfl ?_
          refine ja_iload_n (pc := 34) (f := 3) (i := 3) 3 (by decide +kernel) rfl rfl ?_
          refine ja_bind hf (fun v1 hv1 hf => ?_)
          refine ja_callVi (pc := 35) (idx := 49) (t := 2) (b := (ja_q x0 0)) (as := [.int x2, .int x3]) (st := []) (by decide +kernel) kv_Locking_allows lk_Search_49 ⟨by decide, by decide⟩ (c_Locking_allows _ _ (ja_q x0 0) x2 x3 (fk_4_0 h0) hv1) (fk_4_0 h0) rfl (Nat.le_of_ble_eq_true rfl) rfl ?_
          refine ja_if_ne (pc := 38) (off := 14) 52 (by decide +kernel) (by decide) hf (fun hf => ?_) (fun hf => ?_)
          · refine ja_iinc (pc := 52) (i := 3) (n := 1) (v := x3 + 1) (lv' := [(3, .int (x3 + 1)), (0, .ref x0), (1, .ref x1), (2, .int x2)]) 3 (by decide +kernel) rfl rfl (by decide) rfl ?_
            refine ja_goto (pc := 55) (off := (-53)) 2 (by decide +kernel) (by decide) ?_
            refine ja_lv [1, 2, 3, 0] rfl ?_
            exact ih x0 x1 x2 (x3 + 1) v1.2 h0 h1 hf
          · refine ja_aload_n (pc := 41) (f := 1) (i := 1) 1 (by decide +kernel) rfl rfl ?_
            refine ja_iload_n (pc := 42) (f := 2) (i := 2) 2 (by decide +kernel) rfl rfl ?_
            refine ja_iload_n (pc := 43) (f := 3) (i := 3) 3 (by decide +kernel) rfl rfl ?_
            refine ja_bind hf (fun v2 hv2 hf => ?_)
            refine ja_callVi (pc := 44) (idx := 49) (t := 2) (b := x1) (as := [.int x2, .int x3]) (st := []) (by decide +kernel) kv_Locking_allows lk_Search_49 ⟨by decide, by decide⟩ (c_Locking_allows _ _ x1 x2 x3 h1 hv2) h1 rfl (Nat.le_of_ble_eq_true rfl) rfl ?_
            refine ja_if_eq (pc := 47) (off := 5) 52 (by decide +kernel) (by decide) hf (fun hf => ?_) (fun hf => ?_)
            · refine ja_iinc (pc := 52) (i := 3) (n := 1) (v := x3 + 1) (lv' := [(3, .int (x3 + 1)), (0, .ref x0), (1, .ref x1), (2, .int x2)]) 3 (by decide +kernel) rfl rfl (by decide) rfl ?_
              refine ja_goto (pc := 55) (off := (-53)) 2 (by decide +kernel) (by decide) ?_
              refine ja_lv [1, 2, 3, 0] rfl ?_
              exact ih x0 x1 x2 (x3 + 1) v2.2 h0 h1 hf
            · refine ja_iload_n (pc := 50) (f := 3) (i := 3) 3 (by decide +kernel) rfl rfl ?_
              exact ja_ret (pc := 51) (some (.int x3)) .ireturn (by decide +kernel) rfl (by cases hf; rfl)
def f_Search_leverFreed (x0 : Nat) (x1 : Nat) (x2 : Int32) (sg : ja_S) : Option (Int32 × ja_S) := f_Search_leverFreed_L2  ja_FU x0 x1 x2 (0 : Int32) sg
set_option maxRecDepth 4000 in
theorem c_Search_leverFreed (l : Launch) (x : ja_X) (x0 : Nat) (x1 : Nat) (x2 : Int32) {sg : ja_S} {w : Int32 × ja_S} (h0 : ja_ob ja_L0 4 x0) (h1 : ja_ob ja_L0 2 x1) (hf : f_Search_leverFreed x0 x1 x2 sg = some w) : ja_Ct l x y_Search_leverFreed M_Search_leverFreed [.ref x0, .ref x1, .int x2] ja_L0 sg (some (.int w.1), ja_L0, w.2) := by
  refine ja_mk ⟨by decide, rfl, rfl⟩ (Nat.le_of_ble_eq_true rfl) (lv := [(0, .ref x0), (1, .ref x1), (2, .int x2)]) rfl (fun C hl hx _ _ _ _ => ?_)
  subst hl; subst hx
  unfold f_Search_leverFreed at hf
  refine ja_iconst (pc := 0) (n := 0) (v := 0) (by decide +kernel) (by decide +kernel) ?_
  refine ja_istore_n (pc := 1) (f := 3) (i := 3) (lv' := [(3, .int (0 : Int32)), (0, .ref x0), (1, .ref x1), (2, .int x2)]) (by decide +kernel) rfl (by decide) rfl ?_
  refine ja_lv [1, 2, 3, 0] rfl ?_
  exact w_Search_leverFreed_L2 C  ja_FU x0 x1 x2 (0 : Int32) sg h0 h1 hf
def f_Search_firstPlaceFreed_L2  : Nat → Nat → Nat → Int32 → ja_S → Option (Int32 × ja_S)
  | 0, _, _, _, _ => none
  | n + 1, x0, x1, x2, sg => (if (sg.1 x0 1) ≤ x2 then some ((-1 : Int32), sg) else (ja_ld ja_L0 sg (ja_q x0 3) x2).bind fun v1 => (f_Search_leverFreed x0 x1 v1 sg).bind fun v2 => (if v2.1 = (-1 : Int32) then f_Search_firstPlaceFreed_L2  n x0 x1 (x2 + 1) v2.2 else some (x2, v2.2)))
set_option maxRecDepth 4000 in
theorem w_Search_firstPlaceFreed_L2 (C : ja_C) {w : Int32 × ja_S}    (n : Nat) : ∀ (x0 : Nat) (x1 : Nat) (x2 : Int32) (sg : ja_S), ja_ob ja_L0 4 x0 → ja_ob ja_L0 2 x1 → f_Search_firstPlaceFreed_L2  n x0 x1 x2 sg = some w → ja_J M_Search_firstPlaceFreed C 2 [(0, .ref x0), (1, .ref x1), (2, .int x2)] [] ja_L0 sg (some (.int w.1), ja_L0, w.2) := by
  induction n with
  | zero => intro _ _ _ _ _ _ hf; exact absurd (show (none : Option _) = some w from hf) (by simp)
  | succ n ih =>
    intro x0 x1 x2 sg h0 h1 hf
    unfold f_Search_firstPlaceFreed_L2 at hf
    refine ja_iload_n (pc := 2) (f := 2) (i := 2) 2 (by decide +kernel) rfl rfl ?_
    refine ja_aload_n (pc := 3) (f := 0) (i := 0) 0 (by decide +kernel) rfl rfl ?_
    refine ja_geti (pc := 4) (idx := 18) (t := 4) (j := 1) (by decide +kernel) fd_Search_18 h0 ?_
    refine ja_icmp_ge (pc := 7) (off := 26) 33 (by decide +kernel) (by decide) hf (fun hf => ?_) (fun hf => ?_)
    · refine ja_iconst (pc := 33) (n := (-1)) (v := (-1)) (by decide +kernel) (by decide +kernel) ?_
      exact ja_ret (pc := 34) (some (.int (-1 : Int32))) .ireturn (by decide +kernel) rfl (by cases hf; rfl)
    · refine ja_aload_n (pc := 10) (f := 0) (i := 0) 0 (by decide +kernel) rfl rfl ?_
      refine ja_aload_n (pc := 11) (f := 1) (i := 1) 1 (by decide +kernel) rfl rfl ?_
      refine ja_aload_n (pc := 12) (f := 0) (i := 0) 0 (by decide +kernel) rfl rfl ?_
      refine ja_getr (pc := 13) (idx := 25) (t := 4) (j := 3) (by decide +kernel) fd_Search_25 h0 (fr_4_3 h0) ?_
      refine ja_iload_n (pc := 16) (f := 2) (i := 2) 2 (by decide +kernel) rfl rfl ?_
      refine ja_bind hf (fun v1 hv1 hf => ?_)
      refine ja_iald (pc := 17) (by decide +kernel) (fk_4_3 h0) hv1 ?_
      refine ja_bind hf (fun v2 hv2 hf => ?_)
      refine ja_callVi (pc := 18) (idx := 57) (t := 4) (b := x0) (as := [.ref x1, .int v1]) (st := []) (by decide +kernel) kv_Search_leverFreed lk_Search_57 ⟨by decide, by decide⟩ (c_Search_leverFreed _ _ x0 x1 v1 h0 h1 hv2) h0 rfl (Nat.le_of_ble_eq_true rfl) rfl ?_
      refine ja_iconst (pc := 21) (n := (-1)) (v := (-1)) (by decide +kernel) (by decide +kernel) ?_
      refine ja_icmp_eq (pc := 22) (off := 5) 27 (by decide +kernel) (by decide) hf (fun hf => ?_) (fun hf => ?_)
      · refine ja_iinc (pc := 27) (i := 2) (n := 1) (v := x2 + 1) (lv' := [(2, .int (x2 + 1)), (0, .ref x0), (1, .ref x1)]) 2 (by decide +kernel) rfl rfl (by decide) rfl ?_
        refine ja_goto (pc := 30) (off := (-28)) 2 (by decide +kernel) (by decide) ?_
        refine ja_lv [1, 2, 0] rfl ?_
        exact ih x0 x1 (x2 + 1) v2.2 h0 h1 hf
      · refine ja_iload_n (pc := 25) (f := 2) (i := 2) 2 (by decide +kernel) rfl rfl ?_
        exact ja_ret (pc := 26) (some (.int x2)) .ireturn (by decide +kernel) rfl (by cases hf; rfl)
def f_Search_firstPlaceFreed (x0 : Nat) (x1 : Nat) (sg : ja_S) : Option (Int32 × ja_S) := f_Search_firstPlaceFreed_L2  ja_FU x0 x1 (0 : Int32) sg
set_option maxRecDepth 4000 in
theorem c_Search_firstPlaceFreed (l : Launch) (x : ja_X) (x0 : Nat) (x1 : Nat) {sg : ja_S} {w : Int32 × ja_S} (h0 : ja_ob ja_L0 4 x0) (h1 : ja_ob ja_L0 2 x1) (hf : f_Search_firstPlaceFreed x0 x1 sg = some w) : ja_Ct l x y_Search_firstPlaceFreed M_Search_firstPlaceFreed [.ref x0, .ref x1] ja_L0 sg (some (.int w.1), ja_L0, w.2) := by
  refine ja_mk ⟨by decide, rfl, rfl⟩ (Nat.le_of_ble_eq_true rfl) (lv := [(0, .ref x0), (1, .ref x1)]) rfl (fun C hl hx _ _ _ _ => ?_)
  subst hl; subst hx
  unfold f_Search_firstPlaceFreed at hf
  refine ja_iconst (pc := 0) (n := 0) (v := 0) (by decide +kernel) (by decide +kernel) ?_
  refine ja_istore_n (pc := 1) (f := 2) (i := 2) (lv' := [(2, .int (0 : Int32)), (0, .ref x0), (1, .ref x1)]) (by decide +kernel) rfl (by decide) rfl ?_
  refine ja_lv [1, 2, 0] rfl ?_
  exact w_Search_firstPlaceFreed_L2 C  ja_FU x0 x1 (0 : Int32) sg h0 h1 hf
def f_Frame_placeFreedWithout (x0 : Nat) (x1 : Int32) (sg : ja_S) : Option (Int32 × ja_S) := (f_Frame_searchedHome x0 sg).bind fun v1 => (f_Sheet_allRules (ja_q x0 3) v1).bind fun v2 => (f_Locking_enforceAll (ja_q (ja_q x0 9) 0) (ja_q x0 3) (v2.1 &&& (((1 : Int32) <<< (x1 &&& 31)) ^^^ (-1 : Int32))) v2.2).bind fun v3 => (f_Search_firstPlaceFreed (ja_q x0 7) (ja_q (ja_q x0 9) 0) v3).bind fun v4 => some (v4.1, v4.2)
set_option maxRecDepth 4000 in
theorem c_Frame_placeFreedWithout (l : Launch) (x : ja_X) (x0 : Nat) (x1 : Int32) {sg : ja_S} {w : Int32 × ja_S} (h0 : ja_ob ja_L0 7 x0) (hf : f_Frame_placeFreedWithout x0 x1 sg = some w) : ja_Ct l x y_Frame_placeFreedWithout M_Frame_placeFreedWithout [.ref x0, .int x1] ja_L0 sg (some (.int w.1), ja_L0, w.2) := by
  refine ja_mk ⟨by decide, rfl, rfl⟩ (Nat.le_of_ble_eq_true rfl) (lv := [(0, .ref x0), (1, .int x1)]) rfl (fun C hl hx _ _ _ _ => ?_)
  subst hl; subst hx
  unfold f_Frame_placeFreedWithout at hf
  refine ja_aload_n (pc := 0) (f := 0) (i := 0) 0 (by decide +kernel) rfl rfl ?_
  refine ja_bind hf (fun v1 hv1 hf => ?_)
  refine ja_callVr (pc := 1) (idx := 190) (t := 7) (b := x0) (as := []) (st := []) (by decide +kernel) kv_Frame_searchedHome lk_Frame_190 ⟨by decide, by decide⟩ (c_Frame_searchedHome _ _ x0 h0 hv1) h0 rfl (Nat.le_of_ble_eq_true rfl) rfl ?_
  refine ja_astore_n (pc := 4) (f := 2) (i := 2) (lv' := [(2, .ref (ja_q x0 7)), (0, .ref x0), (1, .int x1)]) (by decide +kernel) rfl (by decide) rfl ?_
  refine ja_aload_n (pc := 5) (f := 0) (i := 0) 1 (by decide +kernel) rfl rfl ?_
  refine ja_getr (pc := 6) (idx := 48) (t := 7) (j := 9) (by decide +kernel) fd_Frame_48 h0 (fr_7_9 h0) ?_
  refine ja_getr (pc := 9) (idx := 227) (t := 4) (j := 0) (by decide +kernel) fd_Frame_227 (fk_7_9 h0) (fr_4_0 (fk_7_9 h0)) ?_
  refine ja_aload_n (pc := 12) (f := 0) (i := 0) 1 (by decide +kernel) rfl rfl ?_
  refine ja_getr (pc := 13) (idx := 19) (t := 7) (j := 3) (by decide +kernel) fd_Frame_19 h0 (fr_7_3 h0) ?_
  refine ja_aload_n (pc := 16) (f := 0) (i := 0) 1 (by decide +kernel) rfl rfl ?_
  refine ja_getr (pc := 17) (idx := 19) (t := 7) (j := 3) (by decide +kernel) fd_Frame_19 h0 (fr_7_3 h0) ?_
  refine ja_bind hf (fun v2 hv2 hf => ?_)
  refine ja_callVi (pc := 20) (idx := 251) (t := 5) (b := (ja_q x0 3)) (as := []) (st := [.ref (ja_q x0 3), .ref (ja_q (ja_q x0 9) 0)]) (by decide +kernel) kv_Sheet_allRules lk_Frame_251 ⟨by decide, by decide⟩ (c_Sheet_allRules _ _ (ja_q x0 3) (fk_7_3 h0) hv2) (fk_7_3 h0) rfl (Nat.le_of_ble_eq_true rfl) rfl ?_
  refine ja_iconst (pc := 23) (n := 1) (v := 1) (by decide +kernel) (by decide +kernel) ?_
  refine ja_iload_n (pc := 24) (f := 1) (i := 1) 2 (by decide +kernel) rfl rfl ?_
  refine ja_ishl (pc := 25) (by decide +kernel) ?_
  refine ja_iconst (pc := 26) (n := (-1)) (v := (-1)) (by decide +kernel) (by decide +kernel) ?_
  refine ja_ixor (pc := 27) (by decide +kernel) ?_
  refine ja_iand (pc := 28) (by decide +kernel) ?_
  refine ja_bind hf (fun v3 hv3 hf => ?_)
  refine ja_callVv (pc := 29) (idx := 254) (t := 2) (b := (ja_q (ja_q x0 9) 0)) (as := [.ref (ja_q x0 3), .int (v2.1 &&& (((1 : Int32) <<< (x1 &&& 31)) ^^^ (-1 : Int32)))]) (st := []) (by decide +kernel) kv_Locking_enforceAll lk_Frame_254 ⟨by decide, by decide⟩ (c_Locking_enforceAll _ _ (ja_q (ja_q x0 9) 0) (ja_q x0 3) (v2.1 &&& (((1 : Int32) <<< (x1 &&& 31)) ^^^ (-1 : Int32))) (fk_4_0 (fk_7_9 h0)) (fk_7_3 h0) hv3) (fk_4_0 (fk_7_9 h0)) rfl (Nat.le_of_ble_eq_true rfl) rfl ?_
  refine ja_aload_n (pc := 32) (f := 2) (i := 2) 0 (by decide +kernel) rfl rfl ?_
  refine ja_aload_n (pc := 33) (f := 0) (i := 0) 1 (by decide +kernel) rfl rfl ?_
  refine ja_getr (pc := 34) (idx := 48) (t := 7) (j := 9) (by decide +kernel) fd_Frame_48 h0 (fr_7_9 h0) ?_
  refine ja_getr (pc := 37) (idx := 227) (t := 4) (j := 0) (by decide +kernel) fd_Frame_227 (fk_7_9 h0) (fr_4_0 (fk_7_9 h0)) ?_
  refine ja_bind hf (fun v4 hv4 hf => ?_)
  refine ja_callVi (pc := 40) (idx := 260) (t := 4) (b := (ja_q x0 7)) (as := [.ref (ja_q (ja_q x0 9) 0)]) (st := []) (by decide +kernel) kv_Search_firstPlaceFreed lk_Frame_260 ⟨by decide, by decide⟩ (c_Search_firstPlaceFreed _ _ (ja_q x0 7) (ja_q (ja_q x0 9) 0) (fk_7_7 h0) (fk_4_0 (fk_7_9 h0)) hv4) (fk_7_7 h0) rfl (Nat.le_of_ble_eq_true rfl) rfl ?_
  exact ja_ret (pc := 43) (some (.int v4.1)) .ireturn (by decide +kernel) rfl (by cases hf; rfl)
def f_Frame_isImplied (x0 : Nat) (x1 : Int32) (sg : ja_S) : Option (Int32 × ja_S) := (f_Sheet_hasRule (ja_q x0 3) x1 sg).bind fun v1 => (if v1.1 = 0 then some ((-2 : Int32), v1.2) else (f_Frame_placeFreedWithout x0 x1 v1.2).bind fun v2 => (if v2.1 = (-1 : Int32) then some ((1 : Int32), v2.2) else some ((0 : Int32), v2.2)))
set_option maxRecDepth 4000 in
theorem c_Frame_isImplied (l : Launch) (x : ja_X) (x0 : Nat) (x1 : Int32) {sg : ja_S} {w : Int32 × ja_S} (h0 : ja_ob ja_L0 7 x0) (hf : f_Frame_isImplied x0 x1 sg = some w) : ja_Ct l x y_Frame_isImplied M_Frame_isImplied [.ref x0, .int x1] ja_L0 sg (some (.int w.1), ja_L0, w.2) := by
  refine ja_mk ⟨by decide, rfl, rfl⟩ (Nat.le_of_ble_eq_true rfl) (lv := [(0, .ref x0), (1, .int x1)]) rfl (fun C hl hx _ _ _ _ => ?_)
  subst hl; subst hx
  unfold f_Frame_isImplied at hf
  refine ja_aload_n (pc := 0) (f := 0) (i := 0) 0 (by decide +kernel) rfl rfl ?_
  refine ja_getr (pc := 1) (idx := 19) (t := 7) (j := 3) (by decide +kernel) fd_Frame_19 h0 (fr_7_3 h0) ?_
  refine ja_iload_n (pc := 4) (f := 1) (i := 1) 1 (by decide +kernel) rfl rfl ?_
  refine ja_bind hf (fun v1 hv1 hf => ?_)
  refine ja_callVi (pc := 5) (idx := 110) (t := 5) (b := (ja_q x0 3)) (as := [.int x1]) (st := []) (by decide +kernel) kv_Sheet_hasRule lk_Frame_110 ⟨by decide, by decide⟩ (c_Sheet_hasRule _ _ (ja_q x0 3) x1 (fk_7_3 h0) hv1) (fk_7_3 h0) rfl (Nat.le_of_ble_eq_true rfl) rfl ?_
  refine ja_if_ne (pc := 8) (off := 6) 14 (by decide +kernel) (by decide) hf (fun hf => ?_) (fun hf => ?_)
  · refine ja_aload_n (pc := 14) (f := 0) (i := 0) 0 (by decide +kernel) rfl rfl ?_
    refine ja_iload_n (pc := 15) (f := 1) (i := 1) 1 (by decide +kernel) rfl rfl ?_
    refine ja_bind hf (fun v2 hv2 hf => ?_)
    refine ja_callVi (pc := 16) (idx := 248) (t := 7) (b := x0) (as := [.int x1]) (st := []) (by decide +kernel) kv_Frame_placeFreedWithout lk_Frame_248 ⟨by decide, by decide⟩ (c_Frame_placeFreedWithout _ _ x0 x1 h0 hv2) h0 rfl (Nat.le_of_ble_eq_true rfl) rfl ?_
    refine ja_iconst (pc := 19) (n := (-1)) (v := (-1)) (by decide +kernel) (by decide +kernel) ?_
    refine ja_icmp_ne (pc := 20) (off := 7) 27 (by decide +kernel) (by decide) hf (fun hf => ?_) (fun hf => ?_)
    · refine ja_iconst (pc := 27) (n := 0) (v := 0) (by decide +kernel) (by decide +kernel) ?_
      exact ja_ret (pc := 28) (some (.int (0 : Int32))) .ireturn (by decide +kernel) rfl (by cases hf; rfl)
    · refine ja_iconst (pc := 23) (n := 1) (v := 1) (by decide +kernel) (by decide +kernel) ?_
      refine ja_goto (pc := 24) (off := 4) 28 (by decide +kernel) (by decide) ?_
      exact ja_ret (pc := 28) (some (.int (1 : Int32))) .ireturn (by decide +kernel) rfl (by cases hf; rfl)
  · refine ja_bipush (pc := 11) (n := (-2)) (v := (-2)) (by decide +kernel) (by decide +kernel) ?_
    exact ja_ret (pc := 13) (some (.int (-2 : Int32))) .ireturn (by decide +kernel) rfl (by cases hf; rfl)
def f_Frame_reducedSheet_L23  : Nat → Nat → Nat → Int32 → Int32 → ja_S → Option (Int32 × ja_S)
  | 0, _, _, _, _, _ => none
  | n + 1, x0, x1, x2, x3, sg => (if x3 < 0 then some (x2, sg) else (f_Locking_enforceAll (ja_q (ja_q x0 9) 0) (ja_q x0 3) (x2 &&& (((1 : Int32) <<< (x3 &&& 31)) ^^^ (-1 : Int32))) sg).bind fun v1 => (f_Search_firstPlaceFreed x1 (ja_q (ja_q x0 9) 0) v1).bind fun v2 => (if v2.1 = (-1 : Int32) then f_Frame_reducedSheet_L23  n x0 x1 (x2 &&& (((1 : Int32) <<< (x3 &&& 31)) ^^^ (-1 : Int32))) (x3 + (-1)) v2.2 else f_Frame_reducedSheet_L23  n x0 x1 x2 (x3 + (-1)) v2.2))
set_option maxRecDepth 4000 in
theorem w_Frame_reducedSheet_L23 (C : ja_C) {w : Int32 × ja_S}    (n : Nat) : ∀ (x0 : Nat) (x1 : Nat) (x2 : Int32) (x3 : Int32) (sg : ja_S), ja_ob ja_L0 7 x0 → ja_ob ja_L0 4 x1 → f_Frame_reducedSheet_L23  n x0 x1 x2 x3 sg = some w → ja_J M_Frame_reducedSheet C 23 [(0, .ref x0), (1, .ref x1), (2, .int x2), (3, .int x3)] [] ja_L0 sg (some (.int w.1), ja_L0, w.2) := by
  induction n with
  | zero => intro _ _ _ _ _ _ _ hf; exact absurd (show (none : Option _) = some w from hf) (by simp)
  | succ n ih =>
    intro x0 x1 x2 x3 sg h0 h1 hf
    unfold f_Frame_reducedSheet_L23 at hf
    refine ja_iload_n (pc := 23) (f := 3) (i := 3) 3 (by decide +kernel) rfl rfl ?_
    refine ja_if_lt (pc := 24) (off := 53) 77 (by decide +kernel) (by decide) hf (fun hf => ?_) (fun hf => ?_)
    · refine ja_iload_n (pc := 77) (f := 2) (i := 2) 2 (by decide +kernel) rfl rfl ?_
      exact ja_ret (pc := 78) (some (.int x2)) .ireturn (by decide +kernel) rfl (by cases hf; rfl)
    · refine ja_aload_n (pc := 27) (f := 0) (i := 0) 0 (by decide +kernel) rfl rfl ?_
      refine ja_getr (pc := 28) (idx := 48) (t := 7) (j := 9) (by decide +kernel) fd_Frame_48 h0 (fr_7_9 h0) ?_
      refine ja_getr (pc := 31) (idx := 227) (t := 4) (j := 0) (by decide +kernel) fd_Frame_227 (fk_7_9 h0) (fr_4_0 (fk_7_9 h0)) ?_
      refine ja_aload_n (pc := 34) (f := 0) (i := 0) 0 (by decide +kernel) rfl rfl ?_
      refine ja_getr (pc := 35) (idx := 19) (t := 7) (j := 3) (by decide +kernel) fd_Frame_19 h0 (fr_7_3 h0) ?_
      refine ja_iload_n (pc := 38) (f := 2) (i := 2) 2 (by decide +kernel) rfl rfl ?_
      refine ja_iconst (pc := 39) (n := 1) (v := 1) (by decide +kernel) (by decide +kernel) ?_
      refine ja_iload_n (pc := 40) (f := 3) (i := 3) 3 (by decide +kernel) rfl rfl ?_
      refine ja_ishl (pc := 41) (by decide +kernel) ?_
      refine ja_iconst (pc := 42) (n := (-1)) (v := (-1)) (by decide +kernel) (by decide +kernel) ?_
      refine ja_ixor (pc := 43) (by decide +kernel) ?_
      refine ja_iand (pc := 44) (by decide +kernel) ?_
      refine ja_bind hf (fun v1 hv1 hf => ?_)
      refine ja_callVv (pc := 45) (idx := 254) (t := 2) (b := (ja_q (ja_q x0 9) 0)) (as := [.ref (ja_q x0 3), .int (x2 &&& (((1 : Int32) <<< (x3 &&& 31)) ^^^ (-1 : Int32)))]) (st := []) (by decide +kernel) kv_Locking_enforceAll lk_Frame_254 ⟨by decide, by decide⟩ (c_Locking_enforceAll _ _ (ja_q (ja_q x0 9) 0) (ja_q x0 3) (x2 &&& (((1 : Int32) <<< (x3 &&& 31)) ^^^ (-1 : Int32))) (fk_4_0 (fk_7_9 h0)) (fk_7_3 h0) hv1) (fk_4_0 (fk_7_9 h0)) rfl (Nat.le_of_ble_eq_true rfl) rfl ?_
      refine ja_aload_n (pc := 48) (f := 1) (i := 1) 1 (by decide +kernel) rfl rfl ?_
      refine ja_aload_n (pc := 49) (f := 0) (i := 0) 0 (by decide +kernel) rfl rfl ?_
      refine ja_getr (pc := 50) (idx := 48) (t := 7) (j := 9) (by decide +kernel) fd_Frame_48 h0 (fr_7_9 h0) ?_
      refine ja_getr (pc := 53) (idx := 227) (t := 4) (j := 0) (by decide +kernel) fd_Frame_227 (fk_7_9 h0) (fr_4_0 (fk_7_9 h0)) ?_
      refine ja_bind hf (fun v2 hv2 hf => ?_)
      refine ja_callVi (pc := 56) (idx := 260) (t := 4) (b := x1) (as := [.ref (ja_q (ja_q x0 9) 0)]) (st := []) (by decide +kernel) kv_Search_firstPlaceFreed lk_Frame_260 ⟨by decide, by decide⟩ (c_Search_firstPlaceFreed _ _ x1 (ja_q (ja_q x0 9) 0) h1 (fk_4_0 (fk_7_9 h0)) hv2) h1 rfl (Nat.le_of_ble_eq_true rfl) rfl ?_
      refine ja_iconst (pc := 59) (n := (-1)) (v := (-1)) (by decide +kernel) (by decide +kernel) ?_
      refine ja_icmp_ne (pc := 60) (off := 11) 71 (by decide +kernel) (by decide) hf (fun hf => ?_) (fun hf => ?_)
      · refine ja_iinc (pc := 71) (i := 3) (n := (-1)) (v := x3 + (-1)) (lv' := [(3, .int (x3 + (-1))), (0, .ref x0), (1, .ref x1), (2, .int x2)]) 3 (by decide +kernel) rfl rfl (by decide) rfl ?_
        refine ja_goto (pc := 74) (off := (-51)) 23 (by decide +kernel) (by decide) ?_
        refine ja_lv [1, 2, 3, 0] rfl ?_
        exact ih x0 x1 x2 (x3 + (-1)) v2.2 h0 h1 hf
      · refine ja_iload_n (pc := 63) (f := 2) (i := 2) 2 (by decide +kernel) rfl rfl ?_
        refine ja_iconst (pc := 64) (n := 1) (v := 1) (by decide +kernel) (by decide +kernel) ?_
        refine ja_iload_n (pc := 65) (f := 3) (i := 3) 3 (by decide +kernel) rfl rfl ?_
        refine ja_ishl (pc := 66) (by decide +kernel) ?_
        refine ja_iconst (pc := 67) (n := (-1)) (v := (-1)) (by decide +kernel) (by decide +kernel) ?_
        refine ja_ixor (pc := 68) (by decide +kernel) ?_
        refine ja_iand (pc := 69) (by decide +kernel) ?_
        refine ja_istore_n (pc := 70) (f := 2) (i := 2) (lv' := [(2, .int (x2 &&& (((1 : Int32) <<< (x3 &&& 31)) ^^^ (-1 : Int32)))), (0, .ref x0), (1, .ref x1), (3, .int x3)]) (by decide +kernel) rfl (by decide) rfl ?_
        refine ja_iinc (pc := 71) (i := 3) (n := (-1)) (v := x3 + (-1)) (lv' := [(3, .int (x3 + (-1))), (2, .int (x2 &&& (((1 : Int32) <<< (x3 &&& 31)) ^^^ (-1 : Int32)))), (0, .ref x0), (1, .ref x1)]) 3 (by decide +kernel) rfl rfl (by decide) rfl ?_
        refine ja_goto (pc := 74) (off := (-51)) 23 (by decide +kernel) (by decide) ?_
        refine ja_lv [2, 3, 1, 0] rfl ?_
        exact ih x0 x1 (x2 &&& (((1 : Int32) <<< (x3 &&& 31)) ^^^ (-1 : Int32))) (x3 + (-1)) v2.2 h0 h1 hf
def f_Frame_reducedSheet (x0 : Nat) (sg : ja_S) : Option (Int32 × ja_S) := (f_Frame_searchedHome x0 sg).bind fun v1 => (f_Sheet_allRules (ja_q x0 3) v1).bind fun v2 => f_Frame_reducedSheet_L23  ja_FU x0 (ja_q x0 7) v2.1 ((v2.2.1 (ja_q x0 3) 3) - (1 : Int32)) v2.2
set_option maxRecDepth 4000 in
theorem c_Frame_reducedSheet (l : Launch) (x : ja_X) (x0 : Nat) {sg : ja_S} {w : Int32 × ja_S} (h0 : ja_ob ja_L0 7 x0) (hf : f_Frame_reducedSheet x0 sg = some w) : ja_Ct l x y_Frame_reducedSheet M_Frame_reducedSheet [.ref x0] ja_L0 sg (some (.int w.1), ja_L0, w.2) := by
  refine ja_mk ⟨by decide, rfl, rfl⟩ (Nat.le_of_ble_eq_true rfl) (lv := [(0, .ref x0)]) rfl (fun C hl hx _ _ _ _ => ?_)
  subst hl; subst hx
  unfold f_Frame_reducedSheet at hf
  refine ja_aload_n (pc := 0) (f := 0) (i := 0) 0 (by decide +kernel) rfl rfl ?_
  refine ja_bind hf (fun v1 hv1 hf => ?_)
  refine ja_callVr (pc := 1) (idx := 190) (t := 7) (b := x0) (as := []) (st := []) (by decide +kernel) kv_Frame_searchedHome lk_Frame_190 ⟨by decide, by decide⟩ (c_Frame_searchedHome _ _ x0 h0 hv1) h0 rfl (Nat.le_of_ble_eq_true rfl) rfl ?_
  refine ja_astore_n (pc := 4) (f := 1) (i := 1) (lv' := [(1, .ref (ja_q x0 7)), (0, .ref x0)]) (by decide +kernel) rfl (by decide) rfl ?_
  refine ja_aload_n (pc := 5) (f := 0) (i := 0) 1 (by decide +kernel) rfl rfl ?_
  refine ja_getr (pc := 6) (idx := 19) (t := 7) (j := 3) (by decide +kernel) fd_Frame_19 h0 (fr_7_3 h0) ?_
  refine ja_bind hf (fun v2 hv2 hf => ?_)
  refine ja_callVi (pc := 9) (idx := 251) (t := 5) (b := (ja_q x0 3)) (as := []) (st := []) (by decide +kernel) kv_Sheet_allRules lk_Frame_251 ⟨by decide, by decide⟩ (c_Sheet_allRules _ _ (ja_q x0 3) (fk_7_3 h0) hv2) (fk_7_3 h0) rfl (Nat.le_of_ble_eq_true rfl) rfl ?_
  refine ja_istore_n (pc := 12) (f := 2) (i := 2) (lv' := [(2, .int v2.1), (1, .ref (ja_q x0 7)), (0, .ref x0)]) (by decide +kernel) rfl (by decide) rfl ?_
  refine ja_aload_n (pc := 13) (f := 0) (i := 0) 2 (by decide +kernel) rfl rfl ?_
  refine ja_getr (pc := 14) (idx := 19) (t := 7) (j := 3) (by decide +kernel) fd_Frame_19 h0 (fr_7_3 h0) ?_
  refine ja_geti (pc := 17) (idx := 95) (t := 5) (j := 3) (by decide +kernel) fd_Frame_95 (fk_7_3 h0) ?_
  refine ja_iconst (pc := 20) (n := 1) (v := 1) (by decide +kernel) (by decide +kernel) ?_
  refine ja_isub (pc := 21) (by decide +kernel) ?_
  refine ja_istore_n (pc := 22) (f := 3) (i := 3) (lv' := [(3, .int ((v2.2.1 (ja_q x0 3) 3) - (1 : Int32))), (2, .int v2.1), (1, .ref (ja_q x0 7)), (0, .ref x0)]) (by decide +kernel) rfl (by decide) rfl ?_
  refine ja_lv [3, 2, 1, 0] rfl ?_
  exact w_Frame_reducedSheet_L23 C  ja_FU x0 (ja_q x0 7) v2.1 ((v2.2.1 (ja_q x0 3) 3) - (1 : Int32)) v2.2 h0 (fk_7_7 h0) hf
def f_Frame_testLength (x0 : Nat) (x1 : Int32) (sg : ja_S) : Option (Int32 × ja_S) := (f_Sheet_hasRule (ja_q x0 3) x1 sg).bind fun v1 => (if v1.1 = 0 then some ((-2 : Int32), v1.2) else (f_Frame_placeFreedWithout x0 x1 v1.2).bind fun v2 => (if v2.1 = (-1 : Int32) then some ((-1 : Int32), v2.2) else (f_Search_stateAt (ja_q x0 7) v2.1 v2.2).bind fun v3 => (f_Search_movesTo (ja_q x0 7) v3.1 v3.2).bind fun v4 => some (v4.1 + (1 : Int32), v4.2)))
set_option maxRecDepth 4000 in
theorem c_Frame_testLength (l : Launch) (x : ja_X) (x0 : Nat) (x1 : Int32) {sg : ja_S} {w : Int32 × ja_S} (h0 : ja_ob ja_L0 7 x0) (hf : f_Frame_testLength x0 x1 sg = some w) : ja_Ct l x y_Frame_testLength M_Frame_testLength [.ref x0, .int x1] ja_L0 sg (some (.int w.1), ja_L0, w.2) := by
  refine ja_mk ⟨by decide, rfl, rfl⟩ (Nat.le_of_ble_eq_true rfl) (lv := [(0, .ref x0), (1, .int x1)]) rfl (fun C hl hx _ _ _ _ => ?_)
  subst hl; subst hx
  unfold f_Frame_testLength at hf
  refine ja_aload_n (pc := 0) (f := 0) (i := 0) 0 (by decide +kernel) rfl rfl ?_
  refine ja_getr (pc := 1) (idx := 19) (t := 7) (j := 3) (by decide +kernel) fd_Frame_19 h0 (fr_7_3 h0) ?_
  refine ja_iload_n (pc := 4) (f := 1) (i := 1) 1 (by decide +kernel) rfl rfl ?_
  refine ja_bind hf (fun v1 hv1 hf => ?_)
  refine ja_callVi (pc := 5) (idx := 110) (t := 5) (b := (ja_q x0 3)) (as := [.int x1]) (st := []) (by decide +kernel) kv_Sheet_hasRule lk_Frame_110 ⟨by decide, by decide⟩ (c_Sheet_hasRule _ _ (ja_q x0 3) x1 (fk_7_3 h0) hv1) (fk_7_3 h0) rfl (Nat.le_of_ble_eq_true rfl) rfl ?_
  refine ja_if_ne (pc := 8) (off := 6) 14 (by decide +kernel) (by decide) hf (fun hf => ?_) (fun hf => ?_)
  · refine ja_aload_n (pc := 14) (f := 0) (i := 0) 0 (by decide +kernel) rfl rfl ?_
    refine ja_iload_n (pc := 15) (f := 1) (i := 1) 1 (by decide +kernel) rfl rfl ?_
    refine ja_bind hf (fun v2 hv2 hf => ?_)
    refine ja_callVi (pc := 16) (idx := 248) (t := 7) (b := x0) (as := [.int x1]) (st := []) (by decide +kernel) kv_Frame_placeFreedWithout lk_Frame_248 ⟨by decide, by decide⟩ (c_Frame_placeFreedWithout _ _ x0 x1 h0 hv2) h0 rfl (Nat.le_of_ble_eq_true rfl) rfl ?_
    refine ja_istore_n (pc := 19) (f := 2) (i := 2) (lv' := [(2, .int v2.1), (0, .ref x0), (1, .int x1)]) (by decide +kernel) rfl (by decide) rfl ?_
    refine ja_iload_n (pc := 20) (f := 2) (i := 2) 0 (by decide +kernel) rfl rfl ?_
    refine ja_iconst (pc := 21) (n := (-1)) (v := (-1)) (by decide +kernel) (by decide +kernel) ?_
    refine ja_icmp_ne (pc := 22) (off := 7) 29 (by decide +kernel) (by decide) hf (fun hf => ?_) (fun hf => ?_)
    · refine ja_aload_n (pc := 29) (f := 0) (i := 0) 1 (by decide +kernel) rfl rfl ?_
      refine ja_getr (pc := 30) (idx := 40) (t := 7) (j := 7) (by decide +kernel) fd_Frame_40 h0 (fr_7_7 h0) ?_
      refine ja_aload_n (pc := 33) (f := 0) (i := 0) 1 (by decide +kernel) rfl rfl ?_
      refine ja_getr (pc := 34) (idx := 40) (t := 7) (j := 7) (by decide +kernel) fd_Frame_40 h0 (fr_7_7 h0) ?_
      refine ja_iload_n (pc := 37) (f := 2) (i := 2) 0 (by decide +kernel) rfl rfl ?_
      refine ja_bind hf (fun v3 hv3 hf => ?_)
      refine ja_callVi (pc := 38) (idx := 264) (t := 4) (b := (ja_q x0 7)) (as := [.int v2.1]) (st := [.ref (ja_q x0 7)]) (by decide +kernel) kv_Search_stateAt lk_Frame_264 ⟨by decide, by decide⟩ (c_Search_stateAt _ _ (ja_q x0 7) v2.1 (fk_7_7 h0) hv3) (fk_7_7 h0) rfl (Nat.le_of_ble_eq_true rfl) rfl ?_
      refine ja_bind hf (fun v4 hv4 hf => ?_)
      refine ja_callVi (pc := 41) (idx := 198) (t := 4) (b := (ja_q x0 7)) (as := [.int v3.1]) (st := []) (by decide +kernel) kv_Search_movesTo lk_Frame_198 ⟨by decide, by decide⟩ (c_Search_movesTo _ _ (ja_q x0 7) v3.1 (fk_7_7 h0) hv4) (fk_7_7 h0) rfl (Nat.le_of_ble_eq_true rfl) rfl ?_
      refine ja_iconst (pc := 44) (n := 1) (v := 1) (by decide +kernel) (by decide +kernel) ?_
      refine ja_iadd (pc := 45) (by decide +kernel) ?_
      exact ja_ret (pc := 46) (some (.int (v4.1 + (1 : Int32)))) .ireturn (by decide +kernel) rfl (by cases hf; rfl)
    · refine ja_iconst (pc := 25) (n := (-1)) (v := (-1)) (by decide +kernel) (by decide +kernel) ?_
      refine ja_goto (pc := 26) (off := 20) 46 (by decide +kernel) (by decide) ?_
      exact ja_ret (pc := 46) (some (.int (-1 : Int32))) .ireturn (by decide +kernel) rfl (by cases hf; rfl)
  · refine ja_bipush (pc := 11) (n := (-2)) (v := (-2)) (by decide +kernel) (by decide +kernel) ?_
    exact ja_ret (pc := 13) (some (.int (-2 : Int32))) .ireturn (by decide +kernel) rfl (by cases hf; rfl)
def f_Frame_testMove (x0 : Nat) (x1 : Int32) (x2 : Int32) (sg : ja_S) : Option (Int32 × ja_S) := (f_Sheet_hasRule (ja_q x0 3) x1 sg).bind fun v1 => (if v1.1 = 0 then some ((-2 : Int32), v1.2) else (if 0 ≤ x2 then (f_Frame_placeFreedWithout x0 x1 v1.2).bind fun v2 => (if v2.1 = (-1 : Int32) then some ((-1 : Int32), v2.2) else (f_Search_stateAt (ja_q x0 7) v2.1 v2.2).bind fun v3 => (f_Search_movesTo (ja_q x0 7) v3.1 v3.2).bind fun v4 => (if x2 ≤ v4.1 then (if v4.1 ≤ x2 then (f_Search_leverFreed (ja_q x0 7) (ja_q (ja_q x0 9) 0) v3.1 v4.2).bind fun v5 => some (v5.1, v5.2) else (f_Search_leverOnWay (ja_q x0 7) v3.1 x2 v4.2).bind fun v6 => some (v6.1, v6.2)) else some ((-1 : Int32), v4.2))) else some ((-3 : Int32), v1.2)))
set_option maxRecDepth 4000 in
theorem c_Frame_testMove (l : Launch) (x : ja_X) (x0 : Nat) (x1 : Int32) (x2 : Int32) {sg : ja_S} {w : Int32 × ja_S} (h0 : ja_ob ja_L0 7 x0) (hf : f_Frame_testMove x0 x1 x2 sg = some w) : ja_Ct l x y_Frame_testMove M_Frame_testMove [.ref x0, .int x1, .int x2] ja_L0 sg (some (.int w.1), ja_L0, w.2) := by
  refine ja_mk ⟨by decide, rfl, rfl⟩ (Nat.le_of_ble_eq_true rfl) (lv := [(0, .ref x0), (1, .int x1), (2, .int x2)]) rfl (fun C hl hx _ _ _ _ => ?_)
  subst hl; subst hx
  unfold f_Frame_testMove at hf
  refine ja_aload_n (pc := 0) (f := 0) (i := 0) 0 (by decide +kernel) rfl rfl ?_
  refine ja_getr (pc := 1) (idx := 19) (t := 7) (j := 3) (by decide +kernel) fd_Frame_19 h0 (fr_7_3 h0) ?_
  refine ja_iload_n (pc := 4) (f := 1) (i := 1) 1 (by decide +kernel) rfl rfl ?_
  refine ja_bind hf (fun v1 hv1 hf => ?_)
  refine ja_callVi (pc := 5) (idx := 110) (t := 5) (b := (ja_q x0 3)) (as := [.int x1]) (st := []) (by decide +kernel) kv_Sheet_hasRule lk_Frame_110 ⟨by decide, by decide⟩ (c_Sheet_hasRule _ _ (ja_q x0 3) x1 (fk_7_3 h0) hv1) (fk_7_3 h0) rfl (Nat.le_of_ble_eq_true rfl) rfl ?_
  refine ja_if_ne (pc := 8) (off := 6) 14 (by decide +kernel) (by decide) hf (fun hf => ?_) (fun hf => ?_)
  · refine ja_iload_n (pc := 14) (f := 2) (i := 2) 2 (by decide +kernel) rfl rfl ?_
    refine ja_if_ge (pc := 15) (off := 6) 21 (by decide +kernel) (by decide) hf (fun hf => ?_) (fun hf => ?_)
    · refine ja_aload_n (pc := 21) (f := 0) (i := 0) 0 (by decide +kernel) rfl rfl ?_
      refine ja_iload_n (pc := 22) (f := 1) (i := 1) 1 (by decide +kernel) rfl rfl ?_
      refine ja_bind hf (fun v2 hv2 hf => ?_)
      refine ja_callVi (pc := 23) (idx := 248) (t := 7) (b := x0) (as := [.int x1]) (st := []) (by decide +kernel) kv_Frame_placeFreedWithout lk_Frame_248 ⟨by decide, by decide⟩ (c_Frame_placeFreedWithout _ _ x0 x1 h0 hv2) h0 rfl (Nat.le_of_ble_eq_true rfl) rfl ?_
      refine ja_istore_n (pc := 26) (f := 3) (i := 3) (lv' := [(3, .int v2.1), (0, .ref x0), (1, .int x1), (2, .int x2)]) (by decide +kernel) rfl (by decide) rfl ?_
      refine ja_iload_n (pc := 27) (f := 3) (i := 3) 0 (by decide +kernel) rfl rfl ?_
      refine ja_iconst (pc := 28) (n := (-1)) (v := (-1)) (by decide +kernel) (by decide +kernel) ?_
      refine ja_icmp_ne (pc := 29) (off := 5) 34 (by decide +kernel) (by decide) hf (fun hf => ?_) (fun hf => ?_)
      · refine ja_aload_n (pc := 34) (f := 0) (i := 0) 1 (by decide +kernel) rfl rfl ?_
        refine ja_getr (pc := 35) (idx := 40) (t := 7) (j := 7) (by decide +kernel) fd_Frame_40 h0 (fr_7_7 h0) ?_
        refine ja_iload_n (pc := 38) (f := 3) (i := 3) 0 (by decide +kernel) rfl rfl ?_
        refine ja_bind hf (fun v3 hv3 hf => ?_)
        refine ja_callVi (pc := 39) (idx := 264) (t := 4) (b := (ja_q x0 7)) (as := [.int v2.1]) (st := []) (by decide +kernel) kv_Search_stateAt lk_Frame_264 ⟨by decide, by decide⟩ (c_Search_stateAt _ _ (ja_q x0 7) v2.1 (fk_7_7 h0) hv3) (fk_7_7 h0) rfl (Nat.le_of_ble_eq_true rfl) rfl ?_
        refine ja_istore (pc := 42) (i := 4) (lv' := [(4, .int v3.1), (3, .int v2.1), (0, .ref x0), (1, .int x1), (2, .int x2)]) (by decide +kernel) (by decide) rfl ?_
        refine ja_aload_n (pc := 44) (f := 0) (i := 0) 2 (by decide +kernel) rfl rfl ?_
        refine ja_getr (pc := 45) (idx := 40) (t := 7) (j := 7) (by decide +kernel) fd_Frame_40 h0 (fr_7_7 h0) ?_
        refine ja_iload (pc := 48) (i := 4) 0 (by decide +kernel) rfl ?_
        refine ja_bind hf (fun v4 hv4 hf => ?_)
        refine ja_callVi (pc := 50) (idx := 198) (t := 4) (b := (ja_q x0 7)) (as := [.int v3.1]) (st := []) (by decide +kernel) kv_Search_movesTo lk_Frame_198 ⟨by decide, by decide⟩ (c_Search_movesTo _ _ (ja_q x0 7) v3.1 (fk_7_7 h0) hv4) (fk_7_7 h0) rfl (Nat.le_of_ble_eq_true rfl) rfl ?_
        refine ja_istore (pc := 53) (i := 5) (lv' := [(5, .int v4.1), (4, .int v3.1), (3, .int v2.1), (0, .ref x0), (1, .int x1), (2, .int x2)]) (by decide +kernel) (by decide) rfl ?_
        refine ja_iload_n (pc := 55) (f := 2) (i := 2) 5 (by decide +kernel) rfl rfl ?_
        refine ja_iload (pc := 56) (i := 5) 0 (by decide +kernel) rfl ?_
        refine ja_icmp_le (pc := 58) (off := 5) 63 (by decide +kernel) (by decide) hf (fun hf => ?_) (fun hf => ?_)
        · refine ja_iload_n (pc := 63) (f := 2) (i := 2) 5 (by decide +kernel) rfl rfl ?_
          refine ja_iload (pc := 64) (i := 5) 0 (by decide +kernel) rfl ?_
          refine ja_icmp_ge (pc := 66) (off := 16) 82 (by decide +kernel) (by decide) hf (fun hf => ?_) (fun hf => ?_)
          · refine ja_aload_n (pc := 82) (f := 0) (i := 0) 3 (by decide +kernel) rfl rfl ?_
            refine ja_getr (pc := 83) (idx := 40) (t := 7) (j := 7) (by decide +kernel) fd_Frame_40 h0 (fr_7_7 h0) ?_
            refine ja_aload_n (pc := 86) (f := 0) (i := 0) 3 (by decide +kernel) rfl rfl ?_
            refine ja_getr (pc := 87) (idx := 48) (t := 7) (j := 9) (by decide +kernel) fd_Frame_48 h0 (fr_7_9 h0) ?_
            refine ja_getr (pc := 90) (idx := 227) (t := 4) (j := 0) (by decide +kernel) fd_Frame_227 (fk_7_9 h0) (fr_4_0 (fk_7_9 h0)) ?_
            refine ja_iload (pc := 93) (i := 4) 1 (by decide +kernel) rfl ?_
            refine ja_bind hf (fun v5 hv5 hf => ?_)
            refine ja_callVi (pc := 95) (idx := 267) (t := 4) (b := (ja_q x0 7)) (as := [.ref (ja_q (ja_q x0 9) 0), .int v3.1]) (st := []) (by decide +kernel) kv_Search_leverFreed lk_Frame_267 ⟨by decide, by decide⟩ (c_Search_leverFreed _ _ (ja_q x0 7) (ja_q (ja_q x0 9) 0) v3.1 (fk_7_7 h0) (fk_4_0 (fk_7_9 h0)) hv5) (fk_7_7 h0) rfl (Nat.le_of_ble_eq_true rfl) rfl ?_
            exact ja_ret (pc := 98) (some (.int v5.1)) .ireturn (by decide +kernel) rfl (by cases hf; rfl)
          · refine ja_aload_n (pc := 69) (f := 0) (i := 0) 3 (by decide +kernel) rfl rfl ?_
            refine ja_getr (pc := 70) (idx := 40) (t := 7) (j := 7) (by decide +kernel) fd_Frame_40 h0 (fr_7_7 h0) ?_
            refine ja_iload (pc := 73) (i := 4) 1 (by decide +kernel) rfl ?_
            refine ja_iload_n (pc := 75) (f := 2) (i := 2) 5 (by decide +kernel) rfl rfl ?_
            refine ja_bind hf (fun v6 hv6 hf => ?_)
            refine ja_callVi (pc := 76) (idx := 201) (t := 4) (b := (ja_q x0 7)) (as := [.int v3.1, .int x2]) (st := []) (by decide +kernel) kv_Search_leverOnWay lk_Frame_201 ⟨by decide, by decide⟩ (c_Search_leverOnWay _ _ (ja_q x0 7) v3.1 x2 (fk_7_7 h0) hv6) (fk_7_7 h0) rfl (Nat.le_of_ble_eq_true rfl) rfl ?_
            refine ja_goto (pc := 79) (off := 19) 98 (by decide +kernel) (by decide) ?_
            exact ja_ret (pc := 98) (some (.int v6.1)) .ireturn (by decide +kernel) rfl (by cases hf; rfl)
        · refine ja_iconst (pc := 61) (n := (-1)) (v := (-1)) (by decide +kernel) (by decide +kernel) ?_
          exact ja_ret (pc := 62) (some (.int (-1 : Int32))) .ireturn (by decide +kernel) rfl (by cases hf; rfl)
      · refine ja_iconst (pc := 32) (n := (-1)) (v := (-1)) (by decide +kernel) (by decide +kernel) ?_
        exact ja_ret (pc := 33) (some (.int (-1 : Int32))) .ireturn (by decide +kernel) rfl (by cases hf; rfl)
    · refine ja_bipush (pc := 18) (n := (-3)) (v := (-3)) (by decide +kernel) (by decide +kernel) ?_
      exact ja_ret (pc := 20) (some (.int (-3 : Int32))) .ireturn (by decide +kernel) rfl (by cases hf; rfl)
  · refine ja_bipush (pc := 11) (n := (-2)) (v := (-2)) (by decide +kernel) (by decide +kernel) ?_
    exact ja_ret (pc := 13) (some (.int (-2 : Int32))) .ireturn (by decide +kernel) rfl (by cases hf; rfl)
def f_Merger_begin (x0 : Nat) (x1 : Nat) (x2 : Nat) (sg : ja_S) : Option (ja_S) := (f_Sheet_copyFrom (ja_q x0 1) x1 sg).bind fun v1 => (f_Sheet_settableRoutes x1 x2 v1).bind fun v2 => (ja_pu v2.2 x0 3 v2.1).bind fun s3 => (f_Sheet_openConflicts x1 x2 s3).bind fun v4 => (ja_pu v4.2 x0 0 v4.1).bind fun s5 => some s5
set_option maxRecDepth 4000 in
theorem c_Merger_begin (l : Launch) (x : ja_X) (x0 : Nat) (x1 : Nat) (x2 : Nat) {sg : ja_S} {w : ja_S} (h0 : ja_ob ja_L0 3 x0) (h1 : ja_ob ja_L0 5 x1) (h2 : ja_ob ja_L0 4 x2) (hf : f_Merger_begin x0 x1 x2 sg = some w) : ja_Ct l x y_Merger_begin M_Merger_begin [.ref x0, .ref x1, .ref x2] ja_L0 sg (none, ja_L0, w) := by
  refine ja_mk ⟨by decide, rfl, rfl⟩ (Nat.le_of_ble_eq_true rfl) (lv := [(0, .ref x0), (1, .ref x1), (2, .ref x2)]) rfl (fun C hl hx _ _ _ _ => ?_)
  subst hl; subst hx
  unfold f_Merger_begin at hf
  refine ja_aload_n (pc := 0) (f := 0) (i := 0) 0 (by decide +kernel) rfl rfl ?_
  refine ja_getr (pc := 1) (idx := 12) (t := 3) (j := 1) (by decide +kernel) fd_Merger_12 h0 (fr_3_1 h0) ?_
  refine ja_aload_n (pc := 4) (f := 1) (i := 1) 1 (by decide +kernel) rfl rfl ?_
  refine ja_bind hf (fun v1 hv1 hf => ?_)
  refine ja_callVv (pc := 5) (idx := 28) (t := 5) (b := (ja_q x0 1)) (as := [.ref x1]) (st := []) (by decide +kernel) kv_Sheet_copyFrom lk_Merger_28 ⟨by decide, by decide⟩ (c_Sheet_copyFrom _ _ (ja_q x0 1) x1 (fk_3_1 h0) h1 hv1) (fk_3_1 h0) rfl (Nat.le_of_ble_eq_true rfl) rfl ?_
  refine ja_aload_n (pc := 8) (f := 0) (i := 0) 0 (by decide +kernel) rfl rfl ?_
  refine ja_aload_n (pc := 9) (f := 1) (i := 1) 1 (by decide +kernel) rfl rfl ?_
  refine ja_aload_n (pc := 10) (f := 2) (i := 2) 2 (by decide +kernel) rfl rfl ?_
  refine ja_bind hf (fun v2 hv2 hf => ?_)
  refine ja_callVi (pc := 11) (idx := 32) (t := 5) (b := x1) (as := [.ref x2]) (st := [.ref x0]) (by decide +kernel) kv_Sheet_settableRoutes lk_Merger_32 ⟨by decide, by decide⟩ (c_Sheet_settableRoutes _ _ x1 x2 h1 h2 hv2) h1 rfl (Nat.le_of_ble_eq_true rfl) rfl ?_
  refine ja_bind hf (fun s3 hs3 hf => ?_)
  refine ja_puti2 (pc := 14) (idx := 21) (t := 3) (j := 3) (by decide +kernel) fd_Merger_21 h0 ⟨rfl, rfl⟩ hs3 ?_
  refine ja_aload_n (pc := 17) (f := 0) (i := 0) 0 (by decide +kernel) rfl rfl ?_
  refine ja_aload_n (pc := 18) (f := 1) (i := 1) 1 (by decide +kernel) rfl rfl ?_
  refine ja_aload_n (pc := 19) (f := 2) (i := 2) 2 (by decide +kernel) rfl rfl ?_
  refine ja_bind hf (fun v4 hv4 hf => ?_)
  refine ja_callVi (pc := 20) (idx := 36) (t := 5) (b := x1) (as := [.ref x2]) (st := [.ref x0]) (by decide +kernel) kv_Sheet_openConflicts lk_Merger_36 ⟨by decide, by decide⟩ (c_Sheet_openConflicts _ _ x1 x2 h1 h2 hv4) h1 rfl (Nat.le_of_ble_eq_true rfl) rfl ?_
  refine ja_bind hf (fun s5 hs5 hf => ?_)
  refine ja_puti2 (pc := 23) (idx := 25) (t := 3) (j := 0) (by decide +kernel) fd_Merger_25 h0 ⟨rfl, rfl⟩ hs5 ?_
  exact ja_ret (pc := 26) none .return_ (by decide +kernel) rfl (by cases hf; rfl)
def f_Rule_withLeverReplaced_B64  (x0 : Int32) (x3 : Int32) (x4 : Int32) (x5 : Int32) (sg : ja_S) : Option (Int32 × ja_S) := (f_Rule_kind x0 sg).bind fun v1 => (f_Rule_pack v1.1 x3 x4 x5 v1.2).bind fun v2 => some (v2.1, v2.2)
set_option maxRecDepth 4000 in
theorem w_Rule_withLeverReplaced_B64 (C : ja_C) {w : Int32 × ja_S}    (x0 : Int32) (x3 : Int32) (x4 : Int32) (x5 : Int32) (sg : ja_S)  (hf : f_Rule_withLeverReplaced_B64  x0 x3 x4 x5 sg = some w) : ja_J M_Rule_withLeverReplaced C 64 [(0, .int x0), (3, .int x3), (4, .int x4), (5, .int x5)] [] ja_L0 sg (some (.int w.1), ja_L0, w.2) := by
  unfold f_Rule_withLeverReplaced_B64 at hf
  refine ja_iload_n (pc := 64) (f := 0) (i := 0) 0 (by decide +kernel) rfl rfl ?_
  refine ja_bind hf (fun v1 hv1 hf => ?_)
  refine ja_callSi (pc := 65) (idx := 9) (as := [.int x0]) (st := []) (by decide +kernel) ks_Rule_kind lk_Rule_9 ⟨by decide, by decide⟩ (c_Rule_kind _ _ x0  hv1) rfl (Nat.le_of_ble_eq_true rfl) rfl ?_
  refine ja_iload_n (pc := 68) (f := 3) (i := 3) 1 (by decide +kernel) rfl rfl ?_
  refine ja_iload (pc := 69) (i := 4) 2 (by decide +kernel) rfl ?_
  refine ja_iload (pc := 71) (i := 5) 3 (by decide +kernel) rfl ?_
  refine ja_bind hf (fun v2 hv2 hf => ?_)
  refine ja_callSi (pc := 73) (idx := 34) (as := [.int v1.1, .int x3, .int x4, .int x5]) (st := []) (by decide +kernel) ks_Rule_pack lk_Rule_34 ⟨by decide, by decide⟩ (c_Rule_pack _ _ v1.1 x3 x4 x5  hv2) rfl (Nat.le_of_ble_eq_true rfl) rfl ?_
  exact ja_ret (pc := 76) (some (.int v2.1)) .ireturn (by decide +kernel) rfl (by cases hf; rfl)
def f_Rule_withLeverReplaced_B33  (x0 : Int32) (x1 : Int32) (x2 : Int32) (x3 : Int32) (y0 : Int32) (sg : ja_S) : Option (Int32 × ja_S) := (f_Rule_condition x0 sg).bind fun v1 => (if v1.1 < 0 then f_Rule_withLeverReplaced_B64  x0 x3 y0 v1.1 v1.2 else (if (v1.1 >>> ((1 : Int32) &&& 31)) = x1 then f_Rule_withLeverReplaced_B64  x0 x3 y0 (((2 : Int32) * x2) + (v1.1 &&& (1 : Int32))) v1.2 else f_Rule_withLeverReplaced_B64  x0 x3 y0 v1.1 v1.2))
set_option maxRecDepth 4000 in
theorem w_Rule_withLeverReplaced_B33 (C : ja_C) {w : Int32 × ja_S}    (x0 : Int32) (x1 : Int32) (x2 : Int32) (x3 : Int32) (y0 : Int32) (sg : ja_S)  (hf : f_Rule_withLeverReplaced_B33  x0 x1 x2 x3 y0 sg = some w) : ja_J M_Rule_withLeverReplaced C 33 [(0, .int x0), (1, .int x1), (2, .int x2), (3, .int x3)] [.int y0] ja_L0 sg (some (.int w.1), ja_L0, w.2) := by
  unfold f_Rule_withLeverReplaced_B33 at hf
  refine ja_istore (pc := 33) (i := 4) (lv' := [(4, .int y0), (0, .int x0), (1, .int x1), (2, .int x2), (3, .int x3)]) (by decide +kernel) (by decide) rfl ?_
  refine ja_iload_n (pc := 35) (f := 0) (i := 0) 1 (by decide +kernel) rfl rfl ?_
  refine ja_bind hf (fun v1 hv1 hf => ?_)
  refine ja_callSi (pc := 36) (idx := 21) (as := [.int x0]) (st := []) (by decide +kernel) ks_Rule_condition lk_Rule_21 ⟨by decide, by decide⟩ (c_Rule_condition _ _ x0  hv1) rfl (Nat.le_of_ble_eq_true rfl) rfl ?_
  refine ja_istore (pc := 39) (i := 5) (lv' := [(5, .int v1.1), (4, .int y0), (0, .int x0), (1, .int x1), (2, .int x2), (3, .int x3)]) (by decide +kernel) (by decide) rfl ?_
  refine ja_iload (pc := 41) (i := 5) 0 (by decide +kernel) rfl ?_
  refine ja_if_lt (pc := 43) (off := 21) 64 (by decide +kernel) (by decide) hf (fun hf => ?_) (fun hf => ?_)
  · refine ja_lv [2, 5, 1, 0] rfl ?_
    exact w_Rule_withLeverReplaced_B64 C  x0 x3 y0 v1.1 v1.2  hf
  · refine ja_iload (pc := 46) (i := 5) 0 (by decide +kernel) rfl ?_
    refine ja_iconst (pc := 48) (n := 1) (v := 1) (by decide +kernel) (by decide +kernel) ?_
    refine ja_ishr (pc := 49) (by decide +kernel) ?_
    refine ja_iload_n (pc := 50) (f := 1) (i := 1) 3 (by decide +kernel) rfl rfl ?_
    refine ja_icmp_ne (pc := 51) (off := 13) 64 (by decide +kernel) (by decide) hf (fun hf => ?_) (fun hf => ?_)
    · refine ja_lv [2, 5, 1, 0] rfl ?_
      exact w_Rule_withLeverReplaced_B64 C  x0 x3 y0 v1.1 v1.2  hf
    · refine ja_iconst (pc := 54) (n := 2) (v := 2) (by decide +kernel) (by decide +kernel) ?_
      refine ja_iload_n (pc := 55) (f := 2) (i := 2) 4 (by decide +kernel) rfl rfl ?_
      refine ja_imul (pc := 56) (by decide +kernel) ?_
      refine ja_iload (pc := 57) (i := 5) 0 (by decide +kernel) rfl ?_
      refine ja_iconst (pc := 59) (n := 1) (v := 1) (by decide +kernel) (by decide +kernel) ?_
      refine ja_iand (pc := 60) (by decide +kernel) ?_
      refine ja_iadd (pc := 61) (by decide +kernel) ?_
      refine ja_istore (pc := 62) (i := 5) (lv' := [(5, .int (((2 : Int32) * x2) + (v1.1 &&& (1 : Int32)))), (4, .int y0), (0, .int x0), (1, .int x1), (2, .int x2), (3, .int x3)]) (by decide +kernel) (by decide) rfl ?_
      refine ja_lv [2, 5, 1, 0] rfl ?_
      exact w_Rule_withLeverReplaced_B64 C  x0 x3 y0 (((2 : Int32) * x2) + (v1.1 &&& (1 : Int32))) v1.2  hf
def f_Rule_withLeverReplaced_B16  (x0 : Int32) (x1 : Int32) (x2 : Int32) (y0 : Int32) (sg : ja_S) : Option (Int32 × ja_S) := (f_Rule_leverB x0 sg).bind fun v1 => (if v1.1 = x1 then f_Rule_withLeverReplaced_B33  x0 x1 x2 y0 x2 v1.2 else (f_Rule_leverB x0 v1.2).bind fun v2 => f_Rule_withLeverReplaced_B33  x0 x1 x2 y0 v2.1 v2.2)
set_option maxRecDepth 4000 in
theorem w_Rule_withLeverReplaced_B16 (C : ja_C) {w : Int32 × ja_S}    (x0 : Int32) (x1 : Int32) (x2 : Int32) (y0 : Int32) (sg : ja_S)  (hf : f_Rule_withLeverReplaced_B16  x0 x1 x2 y0 sg = some w) : ja_J M_Rule_withLeverReplaced C 16 [(0, .int x0), (1, .int x1), (2, .int x2)] [.int y0] ja_L0 sg (some (.int w.1), ja_L0, w.2) := by
  unfold f_Rule_withLeverReplaced_B16 at hf
  refine ja_istore_n (pc := 16) (f := 3) (i := 3) (lv' := [(3, .int y0), (0, .int x0), (1, .int x1), (2, .int x2)]) (by decide +kernel) rfl (by decide) rfl ?_
  refine ja_iload_n (pc := 17) (f := 0) (i := 0) 1 (by decide +kernel) rfl rfl ?_
  refine ja_bind hf (fun v1 hv1 hf => ?_)
  refine ja_callSi (pc := 18) (idx := 18) (as := [.int x0]) (st := []) (by decide +kernel) ks_Rule_leverB lk_Rule_18 ⟨by decide, by decide⟩ (c_Rule_leverB _ _ x0  hv1) rfl (Nat.le_of_ble_eq_true rfl) rfl ?_
  refine ja_iload_n (pc := 21) (f := 1) (i := 1) 2 (by decide +kernel) rfl rfl ?_
  refine ja_icmp_ne (pc := 22) (off := 7) 29 (by decide +kernel) (by decide) hf (fun hf => ?_) (fun hf => ?_)
  · refine ja_iload_n (pc := 29) (f := 0) (i := 0) 1 (by decide +kernel) rfl rfl ?_
    refine ja_bind hf (fun v2 hv2 hf => ?_)
    refine ja_callSi (pc := 30) (idx := 18) (as := [.int x0]) (st := []) (by decide +kernel) ks_Rule_leverB lk_Rule_18 ⟨by decide, by decide⟩ (c_Rule_leverB _ _ x0  hv2) rfl (Nat.le_of_ble_eq_true rfl) rfl ?_
    refine ja_lv [1, 2, 3, 0] rfl ?_
    exact w_Rule_withLeverReplaced_B33 C  x0 x1 x2 y0 v2.1 v2.2  hf
  · refine ja_iload_n (pc := 25) (f := 2) (i := 2) 3 (by decide +kernel) rfl rfl ?_
    refine ja_goto (pc := 26) (off := 7) 33 (by decide +kernel) (by decide) ?_
    refine ja_lv [1, 2, 3, 0] rfl ?_
    exact w_Rule_withLeverReplaced_B33 C  x0 x1 x2 y0 x2 v1.2  hf
def f_Rule_withLeverReplaced (x0 : Int32) (x1 : Int32) (x2 : Int32) (sg : ja_S) : Option (Int32 × ja_S) := (f_Rule_leverA x0 sg).bind fun v1 => (if v1.1 = x1 then f_Rule_withLeverReplaced_B16  x0 x1 x2 x2 v1.2 else (f_Rule_leverA x0 v1.2).bind fun v2 => f_Rule_withLeverReplaced_B16  x0 x1 x2 v2.1 v2.2)
set_option maxRecDepth 4000 in
theorem c_Rule_withLeverReplaced (l : Launch) (x : ja_X) (x0 : Int32) (x1 : Int32) (x2 : Int32) {sg : ja_S} {w : Int32 × ja_S}  (hf : f_Rule_withLeverReplaced x0 x1 x2 sg = some w) : ja_Ct l x y_Rule_withLeverReplaced M_Rule_withLeverReplaced [.int x0, .int x1, .int x2] ja_L0 sg (some (.int w.1), ja_L0, w.2) := by
  refine ja_mk ⟨by decide, rfl, rfl⟩ (Nat.le_of_ble_eq_true rfl) (lv := [(0, .int x0), (1, .int x1), (2, .int x2)]) rfl (fun C hl hx _ _ _ _ => ?_)
  subst hl; subst hx
  unfold f_Rule_withLeverReplaced at hf
  refine ja_iload_n (pc := 0) (f := 0) (i := 0) 0 (by decide +kernel) rfl rfl ?_
  refine ja_bind hf (fun v1 hv1 hf => ?_)
  refine ja_callSi (pc := 1) (idx := 15) (as := [.int x0]) (st := []) (by decide +kernel) ks_Rule_leverA lk_Rule_15 ⟨by decide, by decide⟩ (c_Rule_leverA _ _ x0  hv1) rfl (Nat.le_of_ble_eq_true rfl) rfl ?_
  refine ja_iload_n (pc := 4) (f := 1) (i := 1) 1 (by decide +kernel) rfl rfl ?_
  refine ja_icmp_ne (pc := 5) (off := 7) 12 (by decide +kernel) (by decide) hf (fun hf => ?_) (fun hf => ?_)
  · refine ja_iload_n (pc := 12) (f := 0) (i := 0) 0 (by decide +kernel) rfl rfl ?_
    refine ja_bind hf (fun v2 hv2 hf => ?_)
    refine ja_callSi (pc := 13) (idx := 15) (as := [.int x0]) (st := []) (by decide +kernel) ks_Rule_leverA lk_Rule_15 ⟨by decide, by decide⟩ (c_Rule_leverA _ _ x0  hv2) rfl (Nat.le_of_ble_eq_true rfl) rfl ?_
    exact w_Rule_withLeverReplaced_B16 C  x0 x1 x2 v2.1 v2.2  hf
  · refine ja_iload_n (pc := 8) (f := 2) (i := 2) 2 (by decide +kernel) rfl rfl ?_
    refine ja_goto (pc := 9) (off := 7) 16 (by decide +kernel) (by decide) ?_
    exact w_Rule_withLeverReplaced_B16 C  x0 x1 x2 x2 v1.2  hf
