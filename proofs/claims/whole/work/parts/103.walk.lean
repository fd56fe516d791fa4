def f_Frame_searchedHome (x0 : Nat) (sg : ja_S) : Option (ja_S) := (if (sg.1 x0 8) = 0 then (f_Sheet_allRules (ja_q x0 3) sg).bind fun v1 => (f_Locking_enforceAll (ja_q (ja_q x0 7) 0) (ja_q x0 3) v1.1 v1.2).bind fun v2 => (f_Sheet_movableLevers (ja_q x0 3) v2).bind fun v3 => (f_Search_explore (ja_q x0 7) (0 : Int32) v3.1 v3.2).bind fun v4 => (ja_pu v4 x0 8 (1 : Int32)).bind fun s5 => some s5 else some sg)
set_option maxRecDepth 4000 in
theorem c_Frame_searchedHome (l : Launch) (x : ja_X) (x0 : Nat) {sg : ja_S} {w : ja_S} (h0 : ja_ob ja_L0 7 x0) (hf : f_Frame_searchedHome x0 sg = some w) : ja_Ct l x y_Frame_searchedHome M_Frame_searchedHome [.ref x0] ja_L0 sg (some (.ref (ja_q x0 7)), ja_L0, w) := by
  refine ja_mk ⟨by decide, rfl, rfl⟩ (Nat.le_of_ble_eq_true rfl) (lv := [(0, .ref x0)]) rfl (fun C hl hx _ _ _ _ => ?_)
  subst hl; subst hx
  unfold f_Frame_searchedHome at hf
  refine ja_aload_n (pc := 0) (f := 0) (i := 0) 0 (by decide +kernel) rfl rfl ?_
  refine ja_geti (pc := 1) (idx := 44) (t := 7) (j := 8) (by decide +kernel) fd_Frame_44 h0 ?_
  refine ja_if_ne (pc := 4) (off := 44) 48 (by decide +kernel) (by decide) hf (fun hf => ?_) (fun hf => ?_)
  · refine ja_aload_n (pc := 48) (f := 0) (i := 0) 0 (by decide +kernel) rfl rfl ?_
    refine ja_getr (pc := 49) (idx := 40) (t := 7) (j := 7) (by decide +kernel) fd_Frame_40 h0 (fr_7_7 h0) ?_
    exact ja_ret (pc := 52) (some (.ref (ja_q x0 7))) .areturn (by decide +kernel) rfl (by cases hf; rfl)
  · refine ja_aload_n (pc := 7) (f := 0) (i := 0) 0 (by decide +kernel) rfl rfl ?_
    refine ja_getr (pc := 8) (idx := 40) (t := 7) (j := 7) (by decide +kernel) fd_Frame_40 h0 (fr_7_7 h0) ?_
    refine ja_getr (pc := 11) (idx := 227) (t := 4) (j := 0) (by decide +kernel) fd_Frame_227 (fk_7_7 h0) (fr_4_0 (fk_7_7 h0)) ?_
    refine ja_aload_n (pc := 14) (f := 0) (i := 0) 0 (by decide +kernel) rfl rfl ?_
    refine ja_getr (pc := 15) (idx := 19) (t := 7) (j := 3) (by decide +kernel) fd_Frame_19 h0 (fr_7_3 h0) ?_
    refine ja_aload_n (pc := 18) (f := 0) (i := 0) 0 (by decide +kernel) rfl rfl ?_
    refine ja_getr (pc := 19) (idx := 19) (t := 7) (j := 3) (by decide +kernel) fd_Frame_19 h0 (fr_7_3 h0) ?_
    refine ja_bind hf (fun v1 hv1 hf => ?_)
    refine ja_callVi (pc := 22) (idx := 251) (t := 5) (b := (ja_q x0 3)) (as := []) (st := [.ref (ja_q x0 3), .ref (ja_q (ja_q x0 7) 0)]) (by decide +kernel) kv_Sheet_allRules lk_Frame_251 ⟨by decide, by decide⟩ (c_Sheet_allRules _ _ (ja_q x0 3) (fk_7_3 h0) hv1) (fk_7_3 h0) rfl (Nat.le_of_ble_eq_true rfl) rfl ?_
    refine ja_bind hf (fun v2 hv2 hf => ?_)
    refine ja_callVv (pc := 25) (idx := 254) (t := 2) (b := (ja_q (ja_q x0 7) 0)) (as := [.ref (ja_q x0 3), .int v1.1]) (st := []) (by decide +kernel) kv_Locking_enforceAll lk_Frame_254 ⟨by decide, by decide⟩ (c_Locking_enforceAll _ _ (ja_q (ja_q x0 7) 0) (ja_q x0 3) v1.1 (fk_4_0 (fk_7_7 h0)) (fk_7_3 h0) hv2) (fk_4_0 (fk_7_7 h0)) rfl (Nat.le_of_ble_eq_true rfl) rfl ?_
    refine ja_aload_n (pc := 28) (f := 0) (i := 0) 0 (by decide +kernel) rfl rfl ?_
    refine ja_getr (pc := 29) (idx := 40) (t := 7) (j := 7) (by decide +kernel) fd_Frame_40 h0 (fr_7_7 h0) ?_
    refine ja_iconst (pc := 32) (n := 0) (v := 0) (by decide +kernel) (by decide +kernel) ?_
    refine ja_aload_n (pc := 33) (f := 0) (i := 0) 0 (by decide +kernel) rfl rfl ?_
    refine ja_getr (pc := 34) (idx := 19) (t := 7) (j := 3) (by decide +kernel) fd_Frame_19 h0 (fr_7_3 h0) ?_
    refine ja_bind hf (fun v3 hv3 hf => ?_)
    refine ja_callVi (pc := 37) (idx := 288) (t := 5) (b := (ja_q x0 3)) (as := []) (st := [.int (0 : Int32), .ref (ja_q x0 7)]) (by decide +kernel) kv_Sheet_movableLevers lk_Frame_288 ⟨by decide, by decide⟩ (c_Sheet_movableLevers _ _ (ja_q x0 3) (fk_7_3 h0) hv3) (fk_7_3 h0) rfl (Nat.le_of_ble_eq_true rfl) rfl ?_
    refine ja_bind hf (fun v4 hv4 hf => ?_)
    refine ja_callVv (pc := 40) (idx := 291) (t := 4) (b := (ja_q x0 7)) (as := [.int (0 : Int32), .int v3.1]) (st := []) (by decide +kernel) kv_Search_explore lk_Frame_291 ⟨by decide, by decide⟩ (c_Search_explore _ _ (ja_q x0 7) (0 : Int32) v3.1 (fk_7_7 h0) hv4) (fk_7_7 h0) rfl (Nat.le_of_ble_eq_true rfl) rfl ?_
    refine ja_aload_n (pc := 43) (f := 0) (i := 0) 0 (by decide +kernel) rfl rfl ?_
    refine ja_iconst (pc := 44) (n := 1) (v := 1) (by decide +kernel) (by decide +kernel) ?_
    refine ja_bind hf (fun s5 hs5 hf => ?_)
    refine ja_puti2 (pc := 45) (idx := 44) (t := 7) (j := 8) (by decide +kernel) fd_Frame_44 h0 ⟨rfl, rfl⟩ hs5 ?_
    refine ja_aload_n (pc := 48) (f := 0) (i := 0) 0 (by decide +kernel) rfl rfl ?_
    refine ja_getr (pc := 49) (idx := 40) (t := 7) (j := 7) (by decide +kernel) fd_Frame_40 h0 (fr_7_7 h0) ?_
    exact ja_ret (pc := 52) (some (.ref (ja_q x0 7))) .areturn (by decide +kernel) rfl (by cases hf; rfl)
def f_Frame_reachableCount (x0 : Nat) (sg : ja_S) : Option (Int32 × ja_S) := (f_Frame_searchedHome x0 sg).bind fun v1 => some (v1.1 (ja_q x0 7) 1, v1)
set_option maxRecDepth 4000 in
theorem c_Frame_reachableCount (l : Launch) (x : ja_X) (x0 : Nat) {sg : ja_S} {w : Int32 × ja_S} (h0 : ja_ob ja_L0 7 x0) (hf : f_Frame_reachableCount x0 sg = some w) : ja_Ct l x y_Frame_reachableCount M_Frame_reachableCount [.ref x0] ja_L0 sg (some (.int w.1), ja_L0, w.2) := by
  refine ja_mk ⟨by decide, rfl, rfl⟩ (Nat.le_of_ble_eq_true rfl) (lv := [(0, .ref x0)]) rfl (fun C hl hx _ _ _ _ => ?_)
  subst hl; subst hx
  unfold f_Frame_reachableCount at hf
  refine ja_aload_n (pc := 0) (f := 0) (i := 0) 0 (by decide +kernel) rfl rfl ?_
  refine ja_bind hf (fun v1 hv1 hf => ?_)
  refine ja_callVr (pc := 1) (idx := 190) (t := 7) (b := x0) (as := []) (st := []) (by decide +kernel) kv_Frame_searchedHome lk_Frame_190 ⟨by decide, by decide⟩ (c_Frame_searchedHome _ _ x0 h0 hv1) h0 rfl (Nat.le_of_ble_eq_true rfl) rfl ?_
  refine ja_geti (pc := 4) (idx := 194) (t := 4) (j := 1) (by decide +kernel) fd_Frame_194 (fk_7_7 h0) ?_
  exact ja_ret (pc := 7) (some (.int (v1.1 (ja_q x0 7) 1))) .ireturn (by decide +kernel) rfl (by cases hf; rfl)
def f_Locking_copyFrom (x0 : Nat) (x1 : Nat) (sg : ja_S) : Option (ja_S) := (ja_cpl ja_L0 sg (ja_q x1 0) (0 : Int32) (ja_q x0 0) (0 : Int32) (64 : Int32)).bind fun s1 => (ja_cpl ja_L0 s1 (ja_q x1 1) (0 : Int32) (ja_q x0 1) (0 : Int32) (768 : Int32)).bind fun s2 => some s2
set_option maxRecDepth 4000 in
theorem c_Locking_copyFrom (l : Launch) (x : ja_X) (x0 : Nat) (x1 : Nat) {sg : ja_S} {w : ja_S} (h0 : ja_ob ja_L0 2 x0) (h1 : ja_ob ja_L0 2 x1) (hf : f_Locking_copyFrom x0 x1 sg = some w) : ja_Ct l x y_Locking_copyFrom M_Locking_copyFrom [.ref x0, .ref x1] ja_L0 sg (none, ja_L0, w) := by
  refine ja_mk ⟨by decide, rfl, rfl⟩ (Nat.le_of_ble_eq_true rfl) (lv := [(0, .ref x0), (1, .ref x1)]) rfl (fun C hl hx _ _ _ _ => ?_)
  subst hl; subst hx
  unfold f_Locking_copyFrom at hf
  refine ja_aload_n (pc := 0) (f := 1) (i := 1) 1 (by decide +kernel) rfl rfl ?_
  refine ja_getr (pc := 1) (idx := 11) (t := 2) (j := 0) (by decide +kernel) fd_Locking_11 h1 (fr_2_0 h1) ?_
  refine ja_iconst (pc := 4) (n := 0) (v := 0) (by decide +kernel) (by decide +kernel) ?_
  refine ja_aload_n (pc := 5) (f := 0) (i := 0) 0 (by decide +kernel) rfl rfl ?_
  refine ja_getr (pc := 6) (idx := 11) (t := 2) (j := 0) (by decide +kernel) fd_Locking_11 h0 (fr_2_0 h0) ?_
  refine ja_iconst (pc := 9) (n := 0) (v := 0) (by decide +kernel) (by decide +kernel) ?_
  refine ja_bipush (pc := 10) (n := 64) (v := 64) (by decide +kernel) (by decide +kernel) ?_
  refine ja_bind hf (fun s1 hs1 hf => ?_)
  refine ja_cpyl (pc := 12) (idx := 18) (by decide +kernel) kc_Locking_18 ⟨by decide, by decide⟩ (fk_2_0 h1) (fk_2_0 h0) (Nat.le_of_ble_eq_true rfl) hs1 ?_
  refine ja_aload_n (pc := 15) (f := 1) (i := 1) 1 (by decide +kernel) rfl rfl ?_
  refine ja_getr (pc := 16) (idx := 15) (t := 2) (j := 1) (by decide +kernel) fd_Locking_15 h1 (fr_2_1 h1) ?_
  refine ja_iconst (pc := 19) (n := 0) (v := 0) (by decide +kernel) (by decide +kernel) ?_
  refine ja_aload_n (pc := 20) (f := 0) (i := 0) 0 (by decide +kernel) rfl rfl ?_
  refine ja_getr (pc := 21) (idx := 15) (t := 2) (j := 1) (by decide +kernel) fd_Locking_15 h0 (fr_2_1 h0) ?_
  refine ja_iconst (pc := 24) (n := 0) (v := 0) (by decide +kernel) (by decide +kernel) ?_
  refine ja_sipush (pc := 25) (n := 768) (v := 768) (by decide +kernel) (by decide +kernel) ?_
  refine ja_bind hf (fun s2 hs2 hf => ?_)
  refine ja_cpyl (pc := 28) (idx := 18) (by decide +kernel) kc_Locking_18 ⟨by decide, by decide⟩ (fk_2_1 h1) (fk_2_1 h0) (Nat.le_of_ble_eq_true rfl) hs2 ?_
  exact ja_ret (pc := 31) none .return_ (by decide +kernel) rfl (by cases hf; rfl)
def f_Frame_searchBetween (x0 : Nat) (x1 : Int32) (x2 : Int32) (sg : ja_S) : Option (Int32 × ja_S) := (f_Frame_searchedHome x0 sg).bind fun v1 => (f_Search_reached (ja_q x0 7) x1 v1).bind fun v2 => (if v2.1 = 0 then some ((0 : Int32), v2.2) else (f_Search_reached (ja_q x0 7) x2 v2.2).bind fun v3 => (if v3.1 = 0 then some ((0 : Int32), v3.2) else (f_Locking_copyFrom (ja_q (ja_q x0 9) 0) (ja_q (ja_q x0 7) 0) v3.2).bind fun v4 => (f_Sheet_movableLevers (ja_q x0 3) v4).bind fun v5 => (f_Search_explore (ja_q x0 9) x1 v5.1 v5.2).bind fun v6 => (f_Search_reached (ja_q x0 9) x2 v6).bind fun v7 => ja_rb v7.1 v7.2))
set_option maxRecDepth 4000 in
theorem c_Frame_searchBetween (l : Launch) (x : ja_X) (x0 : Nat) (x1 : Int32) (x2 : Int32) {sg : ja_S} {w : Int32 × ja_S} (h0 : ja_ob ja_L0 7 x0) (hf : f_Frame_searchBetween x0 x1 x2 sg = some w) : ja_Ct l x y_Frame_searchBetween M_Frame_searchBetween [.ref x0, .int x1, .int x2] ja_L0 sg (some (.int w.1), ja_L0, w.2) := by
  refine ja_mk ⟨by decide, rfl, rfl⟩ (Nat.le_of_ble_eq_true rfl) (lv := [(0, .ref x0), (1, .int x1), (2, .int x2)]) rfl (fun C hl hx _ _ _ _ => ?_)
  subst hl; subst hx
  unfold f_Frame_searchBetween at hf
  refine ja_aload_n (pc := 0) (f := 0) (i := 0) 0 (by decide +kernel) rfl rfl ?_
  refine ja_bind hf (fun v1 hv1 hf => ?_)
  refine ja_callVr (pc := 1) (idx := 190) (t := 7) (b := x0) (as := []) (st := []) (by decide +kernel) kv_Frame_searchedHome lk_Frame_190 ⟨by decide, by decide⟩ (c_Frame_searchedHome _ _ x0 h0 hv1) h0 rfl (Nat.le_of_ble_eq_true rfl) rfl ?_
  refine ja_astore_n (pc := 4) (f := 3) (i := 3) (lv' := [(3, .ref (ja_q x0 7)), (0, .ref x0), (1, .int x1), (2, .int x2)]) (by decide +kernel) rfl (by decide) rfl ?_
  refine ja_aload_n (pc := 5) (f := 3) (i := 3) 0 (by decide +kernel) rfl rfl ?_
  refine ja_iload_n (pc := 6) (f := 1) (i := 1) 2 (by decide +kernel) rfl rfl ?_
  refine ja_bind hf (fun v2 hv2 hf => ?_)
  refine ja_callVi (pc := 7) (idx := 294) (t := 4) (b := (ja_q x0 7)) (as := [.int x1]) (st := []) (by decide +kernel) kv_Search_reached lk_Frame_294 ⟨by decide, by decide⟩ (c_Search_reached _ _ (ja_q x0 7) x1 (fk_7_7 h0) hv2) (fk_7_7 h0) rfl (Nat.le_of_ble_eq_true rfl) rfl ?_
  refine ja_if_eq (pc := 10) (off := 11) 21 (by decide +kernel) (by decide) hf (fun hf => ?_) (fun hf => ?_)
  · refine ja_iconst (pc := 21) (n := 0) (v := 0) (by decide +kernel) (by decide +kernel) ?_
    exact ja_ret (pc := 22) (some (.int (0 : Int32))) .ireturn (by decide +kernel) rfl (by cases hf; rfl)
  · refine ja_aload_n (pc := 13) (f := 3) (i := 3) 0 (by decide +kernel) rfl rfl ?_
    refine ja_iload_n (pc := 14) (f := 2) (i := 2) 3 (by decide +kernel) rfl rfl ?_
    refine ja_bind hf (fun v3 hv3 hf => ?_)
    refine ja_callVi (pc := 15) (idx := 294) (t := 4) (b := (ja_q x0 7)) (as := [.int x2]) (st := []) (by decide +kernel) kv_Search_reached lk_Frame_294 ⟨by decide, by decide⟩ (c_Search_reached _ _ (ja_q x0 7) x2 (fk_7_7 h0) hv3) (fk_7_7 h0) rfl (Nat.le_of_ble_eq_true rfl) rfl ?_
    refine ja_if_ne (pc := 18) (off := 5) 23 (by decide +kernel) (by decide) hf (fun hf => ?_) (fun hf => ?_)
    · refine ja_aload_n (pc := 23) (f := 0) (i := 0) 1 (by decide +kernel) rfl rfl ?_
      refine ja_getr (pc := 24) (idx := 48) (t := 7) (j := 9) (by decide +kernel) fd_Frame_48 h0 (fr_7_9 h0) ?_
      refine ja_getr (pc := 27) (idx := 227) (t := 4) (j := 0) (by decide +kernel) fd_Frame_227 (fk_7_9 h0) (fr_4_0 (fk_7_9 h0)) ?_
      refine ja_aload_n (pc := 30) (f := 3) (i := 3) 0 (by decide +kernel) rfl rfl ?_
      refine ja_getr (pc := 31) (idx := 227) (t := 4) (j := 0) (by decide +kernel) fd_Frame_227 (fk_7_7 h0) (fr_4_0 (fk_7_7 h0)) ?_
      refine ja_bind hf (fun v4 hv4 hf => ?_)
      refine ja_callVv (pc := 34) (idx := 297) (t := 2) (b := (ja_q (ja_q x0 9) 0)) (as := [.ref (ja_q (ja_q x0 7) 0)]) (st := []) (by decide +kernel) kv_Locking_copyFrom lk_Frame_297 ⟨by decide, by decide⟩ (c_Locking_copyFrom _ _ (ja_q (ja_q x0 9) 0) (ja_q (ja_q x0 7) 0) (fk_4_0 (fk_7_9 h0)) (fk_4_0 (fk_7_7 h0)) hv4) (fk_4_0 (fk_7_9 h0)) rfl (Nat.le_of_ble_eq_true rfl) rfl ?_
      refine ja_aload_n (pc := 37) (f := 0) (i := 0) 1 (by decide +kernel) rfl rfl ?_
      refine ja_getr (pc := 38) (idx := 48) (t := 7) (j := 9) (by decide +kernel) fd_Frame_48 h0 (fr_7_9 h0) ?_
      refine ja_iload_n (pc := 41) (f := 1) (i := 1) 2 (by decide +kernel) rfl rfl ?_
      refine ja_aload_n (pc := 42) (f := 0) (i := 0) 1 (by decide +kernel) rfl rfl ?_
      refine ja_getr (pc := 43) (idx := 19) (t := 7) (j := 3) (by decide +kernel) fd_Frame_19 h0 (fr_7_3 h0) ?_
      refine ja_bind hf (fun v5 hv5 hf => ?_)
      refine ja_callVi (pc := 46) (idx := 288) (t := 5) (b := (ja_q x0 3)) (as := []) (st := [.int x1, .ref (ja_q x0 9)]) (by decide +kernel) kv_Sheet_movableLevers lk_Frame_288 ⟨by decide, by decide⟩ (c_Sheet_movableLevers _ _ (ja_q x0 3) (fk_7_3 h0) hv5) (fk_7_3 h0) rfl (Nat.le_of_ble_eq_true rfl) rfl ?_
      refine ja_bind hf (fun v6 hv6 hf => ?_)
      refine ja_callVv (pc := 49) (idx := 291) (t := 4) (b := (ja_q x0 9)) (as := [.int x1, .int v5.1]) (st := []) (by decide +kernel) kv_Search_explore lk_Frame_291 ⟨by decide, by decide⟩ (c_Search_explore _ _ (ja_q x0 9) x1 v5.1 (fk_7_9 h0) hv6) (fk_7_9 h0) rfl (Nat.le_of_ble_eq_true rfl) rfl ?_
      refine ja_aload_n (pc := 52) (f := 0) (i := 0) 1 (by decide +kernel) rfl rfl ?_
      refine ja_getr (pc := 53) (idx := 48) (t := 7) (j := 9) (by decide +kernel) fd_Frame_48 h0 (fr_7_9 h0) ?_
      refine ja_iload_n (pc := 56) (f := 2) (i := 2) 3 (by decide +kernel) rfl rfl ?_
      refine ja_bind hf (fun v7 hv7 hf => ?_)
      refine ja_callVi (pc := 57) (idx := 294) (t := 4) (b := (ja_q x0 9)) (as := [.int x2]) (st := []) (by decide +kernel) kv_Search_reached lk_Frame_294 ⟨by decide, by decide⟩ (c_Search_reached _ _ (ja_q x0 9) x2 (fk_7_9 h0) hv7) (fk_7_9 h0) rfl (Nat.le_of_ble_eq_true rfl) rfl ?_
      obtain ⟨hrb, hw⟩ := ja_ite hf
      exact ja_ret (pc := 60) (some (.int v7.1)) .ireturn (by decide +kernel) (ja_ri_b hrb) (by cases hw; rfl)
    · refine ja_iconst (pc := 21) (n := 0) (v := 0) (by decide +kernel) (by decide +kernel) ?_
      exact ja_ret (pc := 22) (some (.int (0 : Int32))) .ireturn (by decide +kernel) rfl (by cases hf; rfl)
def f_Frame_distance (x0 : Nat) (x1 : Int32) (x2 : Int32) (sg : ja_S) : Option (Int32 × ja_S) := (f_Sheet_hasState (ja_q x0 3) x1 sg).bind fun v1 => (if v1.1 = 0 then some ((-3 : Int32), v1.2) else (f_Sheet_hasState (ja_q x0 3) x2 v1.2).bind fun v2 => (if v2.1 = 0 then some ((-3 : Int32), v2.2) else (f_Frame_searchBetween x0 x1 x2 v2.2).bind fun v3 => (if v3.1 = 0 then some ((-1 : Int32), v3.2) else (f_Search_movesTo (ja_q x0 9) x2 v3.2).bind fun v4 => some (v4.1, v4.2))))
set_option maxRecDepth 4000 in
theorem c_Frame_distance (l : Launch) (x : ja_X) (x0 : Nat) (x1 : Int32) (x2 : Int32) {sg : ja_S} {w : Int32 × ja_S} (h0 : ja_ob ja_L0 7 x0) (hf : f_Frame_distance x0 x1 x2 sg = some w) : ja_Ct l x y_Frame_distance M_Frame_distance [.ref x0, .int x1, .int x2] ja_L0 sg (some (.int w.1), ja_L0, w.2) := by
  refine ja_mk ⟨by decide, rfl, rfl⟩ (Nat.le_of_ble_eq_true rfl) (lv := [(0, .ref x0), (1, .int x1), (2, .int x2)]) rfl (fun C hl hx _ _ _ _ => ?_)
  subst hl; subst hx
  unfold f_Frame_distance at hf
  refine ja_aload_n (pc := 0) (f := 0) (i := 0) 0 (by decide +kernel) rfl rfl ?_
  refine ja_getr (pc := 1) (idx := 19) (t := 7) (j := 3) (by decide +kernel) fd_Frame_19 h0 (fr_7_3 h0) ?_
  refine ja_iload_n (pc := 4) (f := 1) (i := 1) 1 (by decide +kernel) rfl rfl ?_
  refine ja_bind hf (fun v1 hv1 hf => ?_)
  refine ja_callVi (pc := 5) (idx := 184) (t := 5) (b := (ja_q x0 3)) (as := [.int x1]) (st := []) (by decide +kernel) kv_Sheet_hasState lk_Frame_184 ⟨by decide, by decide⟩ (c_Sheet_hasState _ _ (ja_q x0 3) x1 (fk_7_3 h0) hv1) (fk_7_3 h0) rfl (Nat.le_of_ble_eq_true rfl) rfl ?_
  refine ja_if_eq (pc := 8) (off := 14) 22 (by decide +kernel) (by decide) hf (fun hf => ?_) (fun hf => ?_)
  · refine ja_bipush (pc := 22) (n := (-3)) (v := (-3)) (by decide +kernel) (by decide +kernel) ?_
    exact ja_ret (pc := 24) (some (.int (-3 : Int32))) .ireturn (by decide +kernel) rfl (by cases hf; rfl)
  · refine ja_aload_n (pc := 11) (f := 0) (i := 0) 0 (by decide +kernel) rfl rfl ?_
    refine ja_getr (pc := 12) (idx := 19) (t := 7) (j := 3) (by decide +kernel) fd_Frame_19 h0 (fr_7_3 h0) ?_
    refine ja_iload_n (pc := 15) (f := 2) (i := 2) 2 (by decide +kernel) rfl rfl ?_
    refine ja_bind hf (fun v2 hv2 hf => ?_)
    refine ja_callVi (pc := 16) (idx := 184) (t := 5) (b := (ja_q x0 3)) (as := [.int x2]) (st := []) (by decide +kernel) kv_Sheet_hasState lk_Frame_184 ⟨by decide, by decide⟩ (c_Sheet_hasState _ _ (ja_q x0 3) x2 (fk_7_3 h0) hv2) (fk_7_3 h0) rfl (Nat.le_of_ble_eq_true rfl) rfl ?_
    refine ja_if_ne (pc := 19) (off := 6) 25 (by decide +kernel) (by decide) hf (fun hf => ?_) (fun hf => ?_)
    · refine ja_aload_n (pc := 25) (f := 0) (i := 0) 0 (by decide +kernel) rfl rfl ?_
      refine ja_iload_n (pc := 26) (f := 1) (i := 1) 1 (by decide +kernel) rfl rfl ?_
      refine ja_iload_n (pc := 27) (f := 2) (i := 2) 2 (by decide +kernel) rfl rfl ?_
      refine ja_bind hf (fun v3 hv3 hf => ?_)
      refine ja_callVi (pc := 28) (idx := 195) (t := 7) (b := x0) (as := [.int x1, .int x2]) (st := []) (by decide +kernel) kv_Frame_searchBetween lk_Frame_195 ⟨by decide, by decide⟩ (c_Frame_searchBetween _ _ x0 x1 x2 h0 hv3) h0 rfl (Nat.le_of_ble_eq_true rfl) rfl ?_
      refine ja_if_eq (pc := 31) (off := 14) 45 (by decide +kernel) (by decide) hf (fun hf => ?_) (fun hf => ?_)
      · refine ja_iconst (pc := 45) (n := (-1)) (v := (-1)) (by decide +kernel) (by decide +kernel) ?_
        exact ja_ret (pc := 46) (some (.int (-1 : Int32))) .ireturn (by decide +kernel) rfl (by cases hf; rfl)
      · refine ja_aload_n (pc := 34) (f := 0) (i := 0) 0 (by decide +kernel) rfl rfl ?_
        refine ja_getr (pc := 35) (idx := 48) (t := 7) (j := 9) (by decide +kernel) fd_Frame_48 h0 (fr_7_9 h0) ?_
        refine ja_iload_n (pc := 38) (f := 2) (i := 2) 2 (by decide +kernel) rfl rfl ?_
        refine ja_bind hf (fun v4 hv4 hf => ?_)
        refine ja_callVi (pc := 39) (idx := 198) (t := 4) (b := (ja_q x0 9)) (as := [.int x2]) (st := []) (by decide +kernel) kv_Search_movesTo lk_Frame_198 ⟨by decide, by decide⟩ (c_Search_movesTo _ _ (ja_q x0 9) x2 (fk_7_9 h0) hv4) (fk_7_9 h0) rfl (Nat.le_of_ble_eq_true rfl) rfl ?_
        refine ja_goto (pc := 42) (off := 4) 46 (by decide +kernel) (by decide) ?_
        exact ja_ret (pc := 46) (some (.int v4.1)) .ireturn (by decide +kernel) rfl (by cases hf; rfl)
    · refine ja_bipush (pc := 22) (n := (-3)) (v := (-3)) (by decide +kernel) (by decide +kernel) ?_
      exact ja_ret (pc := 24) (some (.int (-3 : Int32))) .ireturn (by decide +kernel) rfl (by cases hf; rfl)
def f_Search_leverOnWay_B45  (x0 : Nat) (x3 : Int32) (sg : ja_S) : Option (Int32 × ja_S) := (f_Search_reached x0 x3 sg).bind fun v1 => (if v1.1 = 0 then some ((-1 : Int32), v1.2) else (ja_ld ja_L0 v1.2 (ja_q x0 4) x3).bind fun v2 => some (v2 - v2 / (16 : Int32) * (16 : Int32), v1.2))
set_option maxRecDepth 4000 in
theorem w_Search_leverOnWay_B45 (C : ja_C) {w : Int32 × ja_S}    (x0 : Nat) (x3 : Int32) (sg : ja_S) (h0 : ja_ob ja_L0 4 x0) (hf : f_Search_leverOnWay_B45  x0 x3 sg = some w) : ja_J M_Search_leverOnWay C 45 [(0, .ref x0), (3, .int x3)] [] ja_L0 sg (some (.int w.1), ja_L0, w.2) := by
  unfold f_Search_leverOnWay_B45 at hf
  refine ja_aload_n (pc := 45) (f := 0) (i := 0) 0 (by decide +kernel) rfl rfl ?_
  refine ja_iload_n (pc := 46) (f := 3) (i := 3) 1 (by decide +kernel) rfl rfl ?_
  refine ja_bind hf (fun v1 hv1 hf => ?_)
  refine ja_callVi (pc := 47) (idx := 45) (t := 4) (b := x0) (as := [.int x3]) (st := []) (by decide +kernel) kv_Search_reached lk_Search_45 ⟨by decide, by decide⟩ (c_Search_reached _ _ x0 x3 h0 hv1) h0 rfl (Nat.le_of_ble_eq_true rfl) rfl ?_
  refine ja_if_eq (pc := 50) (off := 15) 65 (by decide +kernel) (by decide) hf (fun hf => ?_) (fun hf => ?_)
  · refine ja_iconst (pc := 65) (n := (-1)) (v := (-1)) (by decide +kernel) (by decide +kernel) ?_
    exact ja_ret (pc := 66) (some (.int (-1 : Int32))) .ireturn (by decide +kernel) rfl (by cases hf; rfl)
  · refine ja_aload_n (pc := 53) (f := 0) (i := 0) 0 (by decide +kernel) rfl rfl ?_
    refine ja_getr (pc := 54) (idx := 29) (t := 4) (j := 4) (by decide +kernel) fd_Search_29 h0 (fr_4_4 h0) ?_
    refine ja_iload_n (pc := 57) (f := 3) (i := 3) 1 (by decide +kernel) rfl rfl ?_
    refine ja_bind hf (fun v2 hv2 hf => ?_)
    refine ja_iald (pc := 58) (by decide +kernel) (fk_4_4 h0) hv2 ?_
    refine ja_bipush (pc := 59) (n := 16) (v := 16) (by decide +kernel) (by decide +kernel) ?_
    refine ja_irem (pc := 61) (by decide +kernel) (by decide) ?_
    refine ja_goto (pc := 62) (off := 4) 66 (by decide +kernel) (by decide) ?_
    exact ja_ret (pc := 66) (some (.int (v2 - v2 / (16 : Int32) * (16 : Int32)))) .ireturn (by decide +kernel) rfl (by cases hf; rfl)
def f_Search_leverOnWay_L11  : Nat → Nat → Int32 → Int32 → Int32 → ja_S → Option (Int32 × ja_S)
  | 0, _, _, _, _, _ => none
  | n + 1, x0, x2, x3, x4, sg => (if x4 ≤ x2 then f_Search_leverOnWay_B45  x0 x3 sg else (f_Search_reached x0 x3 sg).bind fun v1 => (if v1.1 = 0 then f_Search_leverOnWay_B45  x0 x3 v1.2 else (ja_ld ja_L0 v1.2 (ja_q x0 4) x3).bind fun v2 => f_Search_leverOnWay_L11  n x0 x2 (x3 ^^^ ((1 : Int32) <<< ((v2 - v2 / (16 : Int32) * (16 : Int32)) &&& 31))) (x4 + (-1)) v1.2))
set_option maxRecDepth 4000 in
theorem w_Search_leverOnWay_L11 (C : ja_C) {w : Int32 × ja_S}    (n : Nat) : ∀ (x0 : Nat) (x2 : Int32) (x3 : Int32) (x4 : Int32) (sg : ja_S), ja_ob ja_L0 4 x0 → f_Search_leverOnWay_L11  n x0 x2 x3 x4 sg = some w → ja_J M_Search_leverOnWay C 11 [(0, .ref x0), (2, .int x2), (3, .int x3), (4, .int x4)] [] ja_L0 sg (some (.int w.1), ja_L0, w.2) := by
  induction n with
  | zero => intro _ _ _ _ _ _ hf; exact absurd (show (none : Option _) = some w from hf) (by simp)
  | succ n ih =>
    intro x0 x2 x3 x4 sg h0 hf
    unfold f_Search_leverOnWay_L11 at hf
    refine ja_iload (pc := 11) (i := 4) 3 (by decide +kernel) rfl ?_
    refine ja_iload_n (pc := 13) (f := 2) (i := 2) 1 (by decide +kernel) rfl rfl ?_
    refine ja_icmp_le (pc := 14) (off := 31) 45 (by decide +kernel) (by decide) hf (fun hf => ?_) (fun hf => ?_)
    · refine ja_lv [0, 2] rfl ?_
      exact w_Search_leverOnWay_B45 C  x0 x3 sg h0 hf
    · refine ja_aload_n (pc := 17) (f := 0) (i := 0) 0 (by decide +kernel) rfl rfl ?_
      refine ja_iload_n (pc := 18) (f := 3) (i := 3) 2 (by decide +kernel) rfl rfl ?_
      refine ja_bind hf (fun v1 hv1 hf => ?_)
      refine ja_callVi (pc := 19) (idx := 45) (t := 4) (b := x0) (as := [.int x3]) (st := []) (by decide +kernel) kv_Search_reached lk_Search_45 ⟨by decide, by decide⟩ (c_Search_reached _ _ x0 x3 h0 hv1) h0 rfl (Nat.le_of_ble_eq_true rfl) rfl ?_
      refine ja_if_eq (pc := 22) (off := 23) 45 (by decide +kernel) (by decide) hf (fun hf => ?_) (fun hf => ?_)
      · refine ja_lv [0, 2] rfl ?_
        exact w_Search_leverOnWay_B45 C  x0 x3 v1.2 h0 hf
      · refine ja_iload_n (pc := 25) (f := 3) (i := 3) 2 (by decide +kernel) rfl rfl ?_
        refine ja_iconst (pc := 26) (n := 1) (v := 1) (by decide +kernel) (by decide +kernel) ?_
        refine ja_aload_n (pc := 27) (f := 0) (i := 0) 0 (by decide +kernel) rfl rfl ?_
        refine ja_getr (pc := 28) (idx := 29) (t := 4) (j := 4) (by decide +kernel) fd_Search_29 h0 (fr_4_4 h0) ?_
        refine ja_iload_n (pc := 31) (f := 3) (i := 3) 2 (by decide +kernel) rfl rfl ?_
        refine ja_bind hf (fun v2 hv2 hf => ?_)
        refine ja_iald (pc := 32) (by decide +kernel) (fk_4_4 h0) hv2 ?_
        refine ja_bipush (pc := 33) (n := 16) (v := 16) (by decide +kernel) (by decide +kernel) ?_
        refine ja_irem (pc := 35) (by decide +kernel) (by decide) ?_
        refine ja_ishl (pc := 36) (by decide +kernel) ?_
        refine ja_ixor (pc := 37) (by decide +kernel) ?_
        refine ja_istore_n (pc := 38) (f := 3) (i := 3) (lv' := [(3, .int (x3 ^^^ ((1 : Int32) <<< ((v2 - v2 / (16 : Int32) * (16 : Int32)) &&& 31)))), (0, .ref x0), (2, .int x2), (4, .int x4)]) (by decide +kernel) rfl (by decide) rfl ?_
        refine ja_iinc (pc := 39) (i := 4) (n := (-1)) (v := x4 + (-1)) (lv' := [(4, .int (x4 + (-1))), (3, .int (x3 ^^^ ((1 : Int32) <<< ((v2 - v2 / (16 : Int32) * (16 : Int32)) &&& 31)))), (0, .ref x0), (2, .int x2)]) 3 (by decide +kernel) rfl rfl (by decide) rfl ?_
        refine ja_goto (pc := 42) (off := (-31)) 11 (by decide +kernel) (by decide) ?_
        refine ja_lv [2, 3, 1, 0] rfl ?_
        exact ih x0 x2 (x3 ^^^ ((1 : Int32) <<< ((v2 - v2 / (16 : Int32) * (16 : Int32)) &&& 31))) (x4 + (-1)) v1.2 h0 hf
def f_Search_leverOnWay (x0 : Nat) (x1 : Int32) (x2 : Int32) (sg : ja_S) : Option (Int32 × ja_S) := (f_Search_movesTo x0 x1 sg).bind fun v1 => f_Search_leverOnWay_L11  ja_FU x0 x2 x1 (v1.1 - (1 : Int32)) v1.2
set_option maxRecDepth 4000 in
theorem c_Search_leverOnWay (l : Launch) (x : ja_X) (x0 : Nat) (x1 : Int32) (x2 : Int32) {sg : ja_S} {w : Int32 × ja_S} (h0 : ja_ob ja_L0 4 x0) (hf : f_Search_leverOnWay x0 x1 x2 sg = some w) : ja_Ct l x y_Search_leverOnWay M_Search_leverOnWay [.ref x0, .int x1, .int x2] ja_L0 sg (some (.int w.1), ja_L0, w.2) := by
  refine ja_mk ⟨by decide, rfl, rfl⟩ (Nat.le_of_ble_eq_true rfl) (lv := [(0, .ref x0), (1, .int x1), (2, .int x2)]) rfl (fun C hl hx _ _ _ _ => ?_)
  subst hl; subst hx
  unfold f_Search_leverOnWay at hf
  refine ja_iload_n (pc := 0) (f := 1) (i := 1) 1 (by decide +kernel) rfl rfl ?_
  refine ja_istore_n (pc := 1) (f := 3) (i := 3) (lv' := [(3, .int x1), (0, .ref x0), (1, .int x1), (2, .int x2)]) (by decide +kernel) rfl (by decide) rfl ?_
  refine ja_aload_n (pc := 2) (f := 0) (i := 0) 1 (by decide +kernel) rfl rfl ?_
  refine ja_iload_n (pc := 3) (f := 1) (i := 1) 2 (by decide +kernel) rfl rfl ?_
  refine ja_bind hf (fun v1 hv1 hf => ?_)
  refine ja_callVi (pc := 4) (idx := 53) (t := 4) (b := x0) (as := [.int x1]) (st := []) (by decide +kernel) kv_Search_movesTo lk_Search_53 ⟨by decide, by decide⟩ (c_Search_movesTo _ _ x0 x1 h0 hv1) h0 rfl (Nat.le_of_ble_eq_true rfl) rfl ?_
  refine ja_iconst (pc := 7) (n := 1) (v := 1) (by decide +kernel) (by decide +kernel) ?_
  refine ja_isub (pc := 8) (by decide +kernel) ?_
  refine ja_istore (pc := 9) (i := 4) (lv' := [(4, .int (v1.1 - (1 : Int32))), (3, .int x1), (0, .ref x0), (1, .int x1), (2, .int x2)]) (by decide +kernel) (by decide) rfl ?_
  refine ja_lv [2, 4, 1, 0] rfl ?_
  exact w_Search_leverOnWay_L11 C  ja_FU x0 x2 x1 (v1.1 - (1 : Int32)) v1.2 h0 hf
def f_Frame_nextMove (x0 : Nat) (x1 : Int32) (x2 : Int32) (sg : ja_S) : Option (Int32 × ja_S) := (f_Sheet_hasState (ja_q x0 3) x1 sg).bind fun v1 => (if v1.1 = 0 then some ((-3 : Int32), v1.2) else (f_Sheet_hasState (ja_q x0 3) x2 v1.2).bind fun v2 => (if v2.1 = 0 then some ((-3 : Int32), v2.2) else (if x1 = x2 then some ((-1 : Int32), v2.2) else (f_Frame_searchBetween x0 x1 x2 v2.2).bind fun v3 => (if v3.1 = 0 then some ((-1 : Int32), v3.2) else (f_Search_leverOnWay (ja_q x0 9) x2 (0 : Int32) v3.2).bind fun v4 => some (v4.1, v4.2)))))
set_option maxRecDepth 4000 in
theorem c_Frame_nextMove (l : Launch) (x : ja_X) (x0 : Nat) (x1 : Int32) (x2 : Int32) {sg : ja_S} {w : Int32 × ja_S} (h0 : ja_ob ja_L0 7 x0) (hf : f_Frame_nextMove x0 x1 x2 sg = some w) : ja_Ct l x y_Frame_nextMove M_Frame_nextMove [.ref x0, .int x1, .int x2] ja_L0 sg (some (.int w.1), ja_L0, w.2) := by
  refine ja_mk ⟨by decide, rfl, rfl⟩ (Nat.le_of_ble_eq_true rfl) (lv := [(0, .ref x0), (1, .int x1), (2, .int x2)]) rfl (fun C hl hx _ _ _ _ => ?_)
  subst hl; subst hx
  unfold f_Frame_nextMove at hf
  refine ja_aload_n (pc := 0) (f := 0) (i := 0) 0 (by decide +kernel) rfl rfl ?_
  refine ja_getr (pc := 1) (idx := 19) (t := 7) (j := 3) (by decide +kernel) fd_Frame_19 h0 (fr_7_3 h0) ?_
  refine ja_iload_n (pc := 4) (f := 1) (i := 1) 1 (by decide +kernel) rfl rfl ?_
  refine ja_bind hf (fun v1 hv1 hf => ?_)
  refine ja_callVi (pc := 5) (idx := 184) (t := 5) (b := (ja_q x0 3)) (as := [.int x1]) (st := []) (by decide +kernel) kv_Sheet_hasState lk_Frame_184 ⟨by decide, by decide⟩ (c_Sheet_hasState _ _ (ja_q x0 3) x1 (fk_7_3 h0) hv1) (fk_7_3 h0) rfl (Nat.le_of_ble_eq_true rfl) rfl ?_
  refine ja_if_eq (pc := 8) (off := 14) 22 (by decide +kernel) (by decide) hf (fun hf => ?_) (fun hf => ?_)
  · refine ja_bipush (pc := 22) (n := (-3)) (v := (-3)) (by decide +kernel) (by decide +kernel) ?_
    exact ja_ret (pc := 24) (some (.int (-3 : Int32))) .ireturn (by decide +kernel) rfl (by cases hf; rfl)
  · refine ja_aload_n (pc := 11) (f := 0) (i := 0) 0 (by decide +kernel) rfl rfl ?_
    refine ja_getr (pc := 12) (idx := 19) (t := 7) (j := 3) (by decide +kernel) fd_Frame_19 h0 (fr_7_3 h0) ?_
    refine ja_iload_n (pc := 15) (f := 2) (i := 2) 2 (by decide +kernel) rfl rfl ?_
    refine ja_bind hf (fun v2 hv2 hf => ?_)
    refine ja_callVi (pc := 16) (idx := 184) (t := 5) (b := (ja_q x0 3)) (as := [.int x2]) (st := []) (by decide +kernel) kv_Sheet_hasState lk_Frame_184 ⟨by decide, by decide⟩ (c_Sheet_hasState _ _ (ja_q x0 3) x2 (fk_7_3 h0) hv2) (fk_7_3 h0) rfl (Nat.le_of_ble_eq_true rfl) rfl ?_
    refine ja_if_ne (pc := 19) (off := 6) 25 (by decide +kernel) (by decide) hf (fun hf => ?_) (fun hf => ?_)
    · refine ja_iload_n (pc := 25) (f := 1) (i := 1) 1 (by decide +kernel) rfl rfl ?_
      refine ja_iload_n (pc := 26) (f := 2) (i := 2) 2 (by decide +kernel) rfl rfl ?_
      refine ja_icmp_eq (pc := 27) (off := 24) 51 (by decide +kernel) (by decide) hf (fun hf => ?_) (fun hf => ?_)
      · refine ja_iconst (pc := 51) (n := (-1)) (v := (-1)) (by decide +kernel) (by decide +kernel) ?_
        exact ja_ret (pc := 52) (some (.int (-1 : Int32))) .ireturn (by decide +kernel) rfl (by cases hf; rfl)
      · refine ja_aload_n (pc := 30) (f := 0) (i := 0) 0 (by decide +kernel) rfl rfl ?_
        refine ja_iload_n (pc := 31) (f := 1) (i := 1) 1 (by decide +kernel) rfl rfl ?_
        refine ja_iload_n (pc := 32) (f := 2) (i := 2) 2 (by decide +kernel) rfl rfl ?_
        refine ja_bind hf (fun v3 hv3 hf => ?_)
        refine ja_callVi (pc := 33) (idx := 195) (t := 7) (b := x0) (as := [.int x1, .int x2]) (st := []) (by decide +kernel) kv_Frame_searchBetween lk_Frame_195 ⟨by decide, by decide⟩ (c_Frame_searchBetween _ _ x0 x1 x2 h0 hv3) h0 rfl (Nat.le_of_ble_eq_true rfl) rfl ?_
        refine ja_if_eq (pc := 36) (off := 15) 51 (by decide +kernel) (by decide) hf (fun hf => ?_) (fun hf => ?_)
        · refine ja_iconst (pc := 51) (n := (-1)) (v := (-1)) (by decide +kernel) (by decide +kernel) ?_
          exact ja_ret (pc := 52) (some (.int (-1 : Int32))) .ireturn (by decide +kernel) rfl (by cases hf; rfl)
        · refine ja_aload_n (pc := 39) (f := 0) (i := 0) 0 (by decide +kernel) rfl rfl ?_
          refine ja_getr (pc := 40) (idx := 48) (t := 7) (j := 9) (by decide +kernel) fd_Frame_48 h0 (fr_7_9 h0) ?_
          refine ja_iload_n (pc := 43) (f := 2) (i := 2) 2 (by decide +kernel) rfl rfl ?_
          refine ja_iconst (pc := 44) (n := 0) (v := 0) (by decide +kernel) (by decide +kernel) ?_
          refine ja_bind hf (fun v4 hv4 hf => ?_)
          refine ja_callVi (pc := 45) (idx := 201) (t := 4) (b := (ja_q x0 9)) (as := [.int x2, .int (0 : Int32)]) (st := []) (by decide +kernel) kv_Search_leverOnWay lk_Frame_201 ⟨by decide, by decide⟩ (c_Search_leverOnWay _ _ (ja_q x0 9) x2 (0 : Int32) (fk_7_9 h0) hv4) (fk_7_9 h0) rfl (Nat.le_of_ble_eq_true rfl) rfl ?_
          refine ja_goto (pc := 48) (off := 4) 52 (by decide +kernel) (by decide) ?_
          exact ja_ret (pc := 52) (some (.int v4.1)) .ireturn (by decide +kernel) rfl (by cases hf; rfl)
    · refine ja_bipush (pc := 22) (n := (-3)) (v := (-3)) (by decide +kernel) (by decide +kernel) ?_
      exact ja_ret (pc := 24) (some (.int (-3 : Int32))) .ireturn (by decide +kernel) rfl (by cases hf; rfl)
def f_Search_leversSeenWith_L4  : Nat → Nat → Int32 → Int32 → Int32 → ja_S → Option (Int32 × ja_S)
  | 0, _, _, _, _, _ => none
  | n + 1, x0, x1, x2, x3, sg => (if (sg.1 x0 1) ≤ x3 then some (x2, sg) else (ja_ld ja_L0 sg (ja_q x0 3) x3).bind fun v1 => (if ((v1 >>> (x1 &&& 31)) &&& (1 : Int32)) = (1 : Int32) then (ja_ld ja_L0 sg (ja_q x0 3) x3).bind fun v2 => f_Search_leversSeenWith_L4  n x0 x1 (x2 ||| v2) (x3 + 1) sg else f_Search_leversSeenWith_L4  n x0 x1 x2 (x3 + 1) sg))
set_option maxRecDepth 4000 in
theorem w_Search_leversSeenWith_L4 (C : ja_C) {w : Int32 × ja_S}    (n : Nat) : ∀ (x0 : Nat) (x1 : Int32) (x2 : Int32) (x3 : Int32) (sg : ja_S), ja_ob ja_L0 4 x0 → f_Search_leversSeenWith_L4  n x0 x1 x2 x3 sg = some w → ja_J M_Search_leversSeenWith C 4 [(0, .ref x0), (1, .int x1), (2, .int x2), (3, .int x3)] [] ja_L0 sg (some (.int w.1), ja_L0, w.2) := by
  induction n with
  | zero => intro _ _ _ _ _ _ hf; exact absurd (show (none : Option _) = some w from hf) (by simp)
  | succ n ih =>
    intro x0 x1 x2 x3 sg h0 hf
    unfold f_Search_leversSeenWith_L4 at hf
    refine ja_iload_n (pc := 4) (f := 3) (i := 3) 3 (by decide +kernel) rfl rfl ?_
    refine ja_aload_n (pc := 5) (f := 0) (i := 0) 0 (by decide +kernel) rfl rfl ?_
    refine ja_geti (pc := 6) (idx := 18) (t := 4) (j := 1) (by decide +kernel) fd_Search_18 h0 ?_
    refine ja_icmp_ge (pc := 9) (off := 32) 41 (by decide +kernel) (by decide) hf (fun hf => ?_) (fun hf => ?_)
    · refine ja_iload_n (pc := 41) (f := 2) (i := 2) 2 (by decide +kernel) rfl rfl ?_
      exact ja_ret (pc := 42) (some (.int x2)) .ireturn (by decide +kernel) rfl (by cases hf; rfl)
    · refine ja_aload_n (pc := 12) (f := 0) (i := 0) 0 (by decide +kernel) rfl rfl ?_
      refine ja_getr (pc := 13) (idx := 25) (t := 4) (j := 3) (by decide +kernel) fd_Search_25 h0 (fr_4_3 h0) ?_
      refine ja_iload_n (pc := 16) (f := 3) (i := 3) 3 (by decide +kernel) rfl rfl ?_
      refine ja_bind hf (fun v1 hv1 hf => ?_)
      refine ja_iald (pc := 17) (by decide +kernel) (fk_4_3 h0) hv1 ?_
      refine ja_iload_n (pc := 18) (f := 1) (i := 1) 1 (by decide +kernel) rfl rfl ?_
      refine ja_ishr (pc := 19) (by decide +kernel) ?_
      refine ja_iconst (pc := 20) (n := 1) (v := 1) (by decide +kernel) (by decide +kernel) ?_
      refine ja_iand (pc := 21) (by decide +kernel) ?_
      refine ja_iconst (pc := 22) (n := 1) (v := 1) (by decide +kernel) (by decide +kernel) ?_
      refine ja_icmp_ne (pc := 23) (off := 12) 35 (by decide +kernel) (by decide) hf (fun hf => ?_) (fun hf => ?_)
      · refine ja_iinc (pc := 35) (i := 3) (n := 1) (v := x3 + 1) (lv' := [(3, .int (x3 + 1)), (0, .ref x0), (1, .int x1), (2, .int x2)]) 3 (by decide +kernel) rfl rfl (by decide) rfl ?_
        refine ja_goto (pc := 38) (off := (-34)) 4 (by decide +kernel) (by decide) ?_
        refine ja_lv [1, 2, 3, 0] rfl ?_
        exact ih x0 x1 x2 (x3 + 1) sg h0 hf
      · refine ja_iload_n (pc := 26) (f := 2) (i := 2) 2 (by decide +kernel) rfl rfl ?_
        refine ja_aload_n (pc := 27) (f := 0) (i := 0) 0 (by decide +kernel) rfl rfl ?_
        refine ja_getr (pc := 28) (idx := 25) (t := 4) (j := 3) (by decide +kernel) fd_Search_25 h0 (fr_4_3 h0) ?_
        refine ja_iload_n (pc := 31) (f := 3) (i := 3) 3 (by decide +kernel) rfl rfl ?_
        refine ja_bind hf (fun v2 hv2 hf => ?_)
        refine ja_iald (pc := 32) (by decide +kernel) (fk_4_3 h0) hv2 ?_
        refine ja_ior (pc := 33) (by decide +kernel) ?_
        refine ja_istore_n (pc := 34) (f := 2) (i := 2) (lv' := [(2, .int (x2 ||| v2)), (0, .ref x0), (1, .int x1), (3, .int x3)]) (by decide +kernel) rfl (by decide) rfl ?_
        refine ja_iinc (pc := 35) (i := 3) (n := 1) (v := x3 + 1) (lv' := [(3, .int (x3 + 1)), (2, .int (x2 ||| v2)), (0, .ref x0), (1, .int x1)]) 3 (by decide +kernel) rfl rfl (by decide) rfl ?_
        refine ja_goto (pc := 38) (off := (-34)) 4 (by decide +kernel) (by decide) ?_
        refine ja_lv [2, 3, 1, 0] rfl ?_
        exact ih x0 x1 (x2 ||| v2) (x3 + 1) sg h0 hf
def f_Search_leversSeenWith (x0 : Nat) (x1 : Int32) (sg : ja_S) : Option (Int32 × ja_S) := f_Search_leversSeenWith_L4  ja_FU x0 x1 (0 : Int32) (0 : Int32) sg
set_option maxRecDepth 4000 in
theorem c_Search_leversSeenWith (l : Launch) (x : ja_X) (x0 : Nat) (x1 : Int32) {sg : ja_S} {w : Int32 × ja_S} (h0 : ja_ob ja_L0 4 x0) (hf : f_Search_leversSeenWith x0 x1 sg = some w) : ja_Ct l x y_Search_leversSeenWith M_Search_leversSeenWith [.ref x0, .int x1] ja_L0 sg (some (.int w.1), ja_L0, w.2) := by
  refine ja_mk ⟨by decide, rfl, rfl⟩ (Nat.le_of_ble_eq_true rfl) (lv := [(0, .ref x0), (1, .int x1)]) rfl (fun C hl hx _ _ _ _ => ?_)
  subst hl; subst hx
  unfold f_Search_leversSeenWith at hf
  refine ja_iconst (pc := 0) (n := 0) (v := 0) (by decide +kernel) (by decide +kernel) ?_
  refine ja_istore_n (pc := 1) (f := 2) (i := 2) (lv' := [(2, .int (0 : Int32)), (0, .ref x0), (1, .int x1)]) (by decide +kernel) rfl (by decide) rfl ?_
  refine ja_iconst (pc := 2) (n := 0) (v := 0) (by decide +kernel) (by decide +kernel) ?_
  refine ja_istore_n (pc := 3) (f := 3) (i := 3) (lv' := [(3, .int (0 : Int32)), (2, .int (0 : Int32)), (0, .ref x0), (1, .int x1)]) (by decide +kernel) rfl (by decide) rfl ?_
  refine ja_lv [2, 3, 1, 0] rfl ?_
  exact w_Search_leversSeenWith_L4 C  ja_FU x0 x1 (0 : Int32) (0 : Int32) sg h0 hf
def f_Frame_excludedLevers (x0 : Nat) (x1 : Int32) (sg : ja_S) : Option (Int32 × ja_S) := (f_Sheet_hasLever (ja_q x0 3) x1 sg).bind fun v1 => (if v1.1 = 0 then some ((-2 : Int32), v1.2) else (f_Frame_searchedHome x0 v1.2).bind fun v2 => (f_Search_leversSeenWith (ja_q x0 7) x1 v2).bind fun v3 => (f_Sheet_allLevers (ja_q x0 3) v3.2).bind fun v4 => some ((v4.1 &&& (v3.1 ^^^ (-1 : Int32))) &&& (((1 : Int32) <<< (x1 &&& 31)) ^^^ (-1 : Int32)), v4.2))
set_option maxRecDepth 4000 in
theorem c_Frame_excludedLevers (l : Launch) (x : ja_X) (x0 : Nat) (x1 : Int32) {sg : ja_S} {w : Int32 × ja_S} (h0 : ja_ob ja_L0 7 x0) (hf : f_Frame_excludedLevers x0 x1 sg = some w) : ja_Ct l x y_Frame_excludedLevers M_Frame_excludedLevers [.ref x0, .int x1] ja_L0 sg (some (.int w.1), ja_L0, w.2) := by
  refine ja_mk ⟨by decide, rfl, rfl⟩ (Nat.le_of_ble_eq_true rfl) (lv := [(0, .ref x0), (1, .int x1)]) rfl (fun C hl hx _ _ _ _ => ?_)
  subst hl; subst hx
  unfold f_Frame_excludedLevers at hf
  refine ja_aload_n (pc := 0) (f := 0) (i := 0) 0 (by decide +kernel) rfl rfl ?_
  refine ja_getr (pc := 1) (idx := 19) (t := 7) (j := 3) (by decide +kernel) fd_Frame_19 h0 (fr_7_3 h0) ?_
  refine ja_iload_n (pc := 4) (f := 1) (i := 1) 1 (by decide +kernel) rfl rfl ?_
  refine ja_bind hf (fun v1 hv1 hf => ?_)
  refine ja_callVi (pc := 5) (idx := 143) (t := 5) (b := (ja_q x0 3)) (as := [.int x1]) (st := []) (by decide +kernel) kv_Sheet_hasLever lk_Frame_143 ⟨by decide, by decide⟩ (c_Sheet_hasLever _ _ (ja_q x0 3) x1 (fk_7_3 h0) hv1) (fk_7_3 h0) rfl (Nat.le_of_ble_eq_true rfl) rfl ?_
  refine ja_if_ne (pc := 8) (off := 6) 14 (by decide +kernel) (by decide) hf (fun hf => ?_) (fun hf => ?_)
  · refine ja_aload_n (pc := 14) (f := 0) (i := 0) 0 (by decide +kernel) rfl rfl ?_
    refine ja_bind hf (fun v2 hv2 hf => ?_)
    refine ja_callVr (pc := 15) (idx := 190) (t := 7) (b := x0) (as := []) (st := []) (by decide +kernel) kv_Frame_searchedHome lk_Frame_190 ⟨by decide, by decide⟩ (c_Frame_searchedHome _ _ x0 h0 hv2) h0 rfl (Nat.le_of_ble_eq_true rfl) rfl ?_
    refine ja_iload_n (pc := 18) (f := 1) (i := 1) 1 (by decide +kernel) rfl rfl ?_
    refine ja_bind hf (fun v3 hv3 hf => ?_)
    refine ja_callVi (pc := 19) (idx := 204) (t := 4) (b := (ja_q x0 7)) (as := [.int x1]) (st := []) (by decide +kernel) kv_Search_leversSeenWith lk_Frame_204 ⟨by decide, by decide⟩ (c_Search_leversSeenWith _ _ (ja_q x0 7) x1 (fk_7_7 h0) hv3) (fk_7_7 h0) rfl (Nat.le_of_ble_eq_true rfl) rfl ?_
    refine ja_istore_n (pc := 22) (f := 2) (i := 2) (lv' := [(2, .int v3.1), (0, .ref x0), (1, .int x1)]) (by decide +kernel) rfl (by decide) rfl ?_
    refine ja_aload_n (pc := 23) (f := 0) (i := 0) 1 (by decide +kernel) rfl rfl ?_
    refine ja_getr (pc := 24) (idx := 19) (t := 7) (j := 3) (by decide +kernel) fd_Frame_19 h0 (fr_7_3 h0) ?_
    refine ja_bind hf (fun v4 hv4 hf => ?_)
    refine ja_callVi (pc := 27) (idx := 207) (t := 5) (b := (ja_q x0 3)) (as := []) (st := []) (by decide +kernel) kv_Sheet_allLevers lk_Frame_207 ⟨by decide, by decide⟩ (c_Sheet_allLevers _ _ (ja_q x0 3) (fk_7_3 h0) hv4) (fk_7_3 h0) rfl (Nat.le_of_ble_eq_true rfl) rfl ?_
    refine ja_iload_n (pc := 30) (f := 2) (i := 2) 0 (by decide +kernel) rfl rfl ?_
    refine ja_iconst (pc := 31) (n := (-1)) (v := (-1)) (by decide +kernel) (by decide +kernel) ?_
    refine ja_ixor (pc := 32) (by decide +kernel) ?_
    refine ja_iand (pc := 33) (by decide +kernel) ?_
    refine ja_iconst (pc := 34) (n := 1) (v := 1) (by decide +kernel) (by decide +kernel) ?_
    refine ja_iload_n (pc := 35) (f := 1) (i := 1) 2 (by decide +kernel) rfl rfl ?_
    refine ja_ishl (pc := 36) (by decide +kernel) ?_
    refine ja_iconst (pc := 37) (n := (-1)) (v := (-1)) (by decide +kernel) (by decide +kernel) ?_
    refine ja_ixor (pc := 38) (by decide +kernel) ?_
    refine ja_iand (pc := 39) (by decide +kernel) ?_
    exact ja_ret (pc := 40) (some (.int ((v4.1 &&& (v3.1 ^^^ (-1 : Int32))) &&& (((1 : Int32) <<< (x1 &&& 31)) ^^^ (-1 : Int32))))) .ireturn (by decide +kernel) rfl (by cases hf; rfl)
  · refine ja_bipush (pc := 11) (n := (-2)) (v := (-2)) (by decide +kernel) (by decide +kernel) ?_
    exact ja_ret (pc := 13) (some (.int (-2 : Int32))) .ireturn (by decide +kernel) rfl (by cases hf; rfl)
def f_Search_nearestSetting_B33 (k4 : Nat → Int32 → Int32 → Int32 → ja_S → Option (Int32 × ja_S)) (x0 : Nat) (x1 : Int32) (x2 : Int32) (x3 : Int32) (x4 : Int32) (y0 : Int32) (sg : ja_S) : Option (Int32 × ja_S) := (if y0 = 0 then k4 x0 x1 x2 (x3 + 1) sg else (if x2 = (-1 : Int32) then k4 x0 x1 x4 (x3 + 1) sg else (f_Search_movesTo x0 x4 sg).bind fun v1 => (f_Search_movesTo x0 x2 v1.2).bind fun v2 => (if v1.1 = v2.1 then (if x2 ≤ x4 then k4 x0 x1 x2 (x3 + 1) v2.2 else k4 x0 x1 x4 (x3 + 1) v2.2) else k4 x0 x1 x2 (x3 + 1) v2.2)))
set_option maxRecDepth 4000 in
theorem w_Search_nearestSetting_B33 (C : ja_C) {w : Int32 × ja_S} {k4 : Nat → Int32 → Int32 → Int32 → ja_S → Option (Int32 × ja_S)} (e4 : ∀ (x0 : Nat) (x1 : Int32) (x2 : Int32) (x3 : Int32) (sg : ja_S), ja_ob ja_L0 4 x0 → k4 x0 x1 x2 x3 sg = some w → ja_J M_Search_nearestSetting C 4 [(0, .ref x0), (1, .int x1), (2, .int x2), (3, .int x3)] [] ja_L0 sg (some (.int w.1), ja_L0, w.2))  (x0 : Nat) (x1 : Int32) (x2 : Int32) (x3 : Int32) (x4 : Int32) (y0 : Int32) (sg : ja_S) (h0 : ja_ob ja_L0 4 x0) (hf : f_Search_nearestSetting_B33 k4 x0 x1 x2 x3 x4 y0 sg = some w) : ja_J M_Search_nearestSetting C 33 [(0, .ref x0), (1, .int x1), (2, .int x2), (3, .int x3), (4, .int x4)] [.int y0] ja_L0 sg (some (.int w.1), ja_L0, w.2) := by
  unfold f_Search_nearestSetting_B33 at hf
  refine ja_istore (pc := 33) (i := 5) (lv' := [(5, .int y0), (0, .ref x0), (1, .int x1), (2, .int x2), (3, .int x3), (4, .int x4)]) (by decide +kernel) (by decide) rfl ?_
  refine ja_iload (pc := 35) (i := 5) 0 (by decide +kernel) rfl ?_
  refine ja_if_eq (pc := 37) (off := 31) 68 (by decide +kernel) (by decide) hf (fun hf => ?_) (fun hf => ?_)
  · refine ja_iinc (pc := 68) (i := 3) (n := 1) (v := x3 + 1) (lv' := [(3, .int (x3 + 1)), (5, .int y0), (0, .ref x0), (1, .int x1), (2, .int x2), (4, .int x4)]) 4 (by decide +kernel) rfl rfl (by decide) rfl ?_
    refine ja_goto (pc := 71) (off := (-67)) 4 (by decide +kernel) (by decide) ?_
    refine ja_lv [2, 3, 4, 0] rfl ?_
    exact e4 x0 x1 x2 (x3 + 1) sg h0 hf
  · refine ja_iload_n (pc := 40) (f := 2) (i := 2) 3 (by decide +kernel) rfl rfl ?_
    refine ja_iconst (pc := 41) (n := (-1)) (v := (-1)) (by decide +kernel) (by decide +kernel) ?_
    refine ja_icmp_eq (pc := 42) (off := 23) 65 (by decide +kernel) (by decide) hf (fun hf => ?_) (fun hf => ?_)
    · refine ja_iload (pc := 65) (i := 4) 5 (by decide +kernel) rfl ?_
      refine ja_istore_n (pc := 67) (f := 2) (i := 2) (lv' := [(2, .int x4), (5, .int y0), (0, .ref x0), (1, .int x1), (3, .int x3), (4, .int x4)]) (by decide +kernel) rfl (by decide) rfl ?_
      refine ja_iinc (pc := 68) (i := 3) (n := 1) (v := x3 + 1) (lv' := [(3, .int (x3 + 1)), (2, .int x4), (5, .int y0), (0, .ref x0), (1, .int x1), (4, .int x4)]) 4 (by decide +kernel) rfl rfl (by decide) rfl ?_
      refine ja_goto (pc := 71) (off := (-67)) 4 (by decide +kernel) (by decide) ?_
      refine ja_lv [3, 4, 1, 0] rfl ?_
      exact e4 x0 x1 x4 (x3 + 1) sg h0 hf
    · refine ja_aload_n (pc := 45) (f := 0) (i := 0) 1 (by decide +kernel) rfl rfl ?_
      refine ja_iload (pc := 46) (i := 4) 5 (by decide +kernel) rfl ?_
      refine ja_bind hf (fun v1 hv1 hf => ?_)
      refine ja_callVi (pc := 48) (idx := 53) (t := 4) (b := x0) (as := [.int x4]) (st := []) (by decide +kernel) kv_Search_movesTo lk_Search_53 ⟨by decide, by decide⟩ (c_Search_movesTo _ _ x0 x4 h0 hv1) h0 rfl (Nat.le_of_ble_eq_true rfl) rfl ?_
      refine ja_aload_n (pc := 51) (f := 0) (i := 0) 1 (by decide +kernel) rfl rfl ?_
      refine ja_iload_n (pc := 52) (f := 2) (i := 2) 3 (by decide +kernel) rfl rfl ?_
      refine ja_bind hf (fun v2 hv2 hf => ?_)
      refine ja_callVi (pc := 53) (idx := 53) (t := 4) (b := x0) (as := [.int x2]) (st := [.int v1.1]) (by decide +kernel) kv_Search_movesTo lk_Search_53 ⟨by decide, by decide⟩ (c_Search_movesTo _ _ x0 x2 h0 hv2) h0 rfl (Nat.le_of_ble_eq_true rfl) rfl ?_
      refine ja_icmp_ne (pc := 56) (off := 12) 68 (by decide +kernel) (by decide) hf (fun hf => ?_) (fun hf => ?_)
      · refine ja_iinc (pc := 68) (i := 3) (n := 1) (v := x3 + 1) (lv' := [(3, .int (x3 + 1)), (5, .int y0), (0, .ref x0), (1, .int x1), (2, .int x2), (4, .int x4)]) 4 (by decide +kernel) rfl rfl (by decide) rfl ?_
        refine ja_goto (pc := 71) (off := (-67)) 4 (by decide +kernel) (by decide) ?_
        refine ja_lv [2, 3, 4, 0] rfl ?_
        exact e4 x0 x1 x2 (x3 + 1) v2.2 h0 hf
      · refine ja_iload (pc := 59) (i := 4) 5 (by decide +kernel) rfl ?_
        refine ja_iload_n (pc := 61) (f := 2) (i := 2) 3 (by decide +kernel) rfl rfl ?_
        refine ja_icmp_ge (pc := 62) (off := 6) 68 (by decide +kernel) (by decide) hf (fun hf => ?_) (fun hf => ?_)
        · refine ja_iinc (pc := 68) (i := 3) (n := 1) (v := x3 + 1) (lv' := [(3, .int (x3 + 1)), (5, .int y0), (0, .ref x0), (1, .int x1), (2, .int x2), (4, .int x4)]) 4 (by decide +kernel) rfl rfl (by decide) rfl ?_
          refine ja_goto (pc := 71) (off := (-67)) 4 (by decide +kernel) (by decide) ?_
          refine ja_lv [2, 3, 4, 0] rfl ?_
          exact e4 x0 x1 x2 (x3 + 1) v2.2 h0 hf
        · refine ja_iload (pc := 65) (i := 4) 5 (by decide +kernel) rfl ?_
          refine ja_istore_n (pc := 67) (f := 2) (i := 2) (lv' := [(2, .int x4), (5, .int y0), (0, .ref x0), (1, .int x1), (3, .int x3), (4, .int x4)]) (by decide +kernel) rfl (by decide) rfl ?_
          refine ja_iinc (pc := 68) (i := 3) (n := 1) (v := x3 + 1) (lv' := [(3, .int (x3 + 1)), (2, .int x4), (5, .int y0), (0, .ref x0), (1, .int x1), (4, .int x4)]) 4 (by decide +kernel) rfl rfl (by decide) rfl ?_
          refine ja_goto (pc := 71) (off := (-67)) 4 (by decide +kernel) (by decide) ?_
          refine ja_lv [3, 4, 1, 0] rfl ?_
          exact e4 x0 x1 x4 (x3 + 1) v2.2 h0 hf
def f_Search_nearestSetting_L4  : Nat → Nat → Int32 → Int32 → Int32 → ja_S → Option (Int32 × ja_S)
  | 0, _, _, _, _, _ => none
  | n + 1, x0, x1, x2, x3, sg => (if (sg.1 x0 1) ≤ x3 then some (x2, sg) else (ja_ld ja_L0 sg (ja_q x0 3) x3).bind fun v1 => (if (v1 &&& x1) = x1 then f_Search_nearestSetting_B33 (f_Search_nearestSetting_L4  n) x0 x1 x2 x3 v1 (1 : Int32) sg else f_Search_nearestSetting_B33 (f_Search_nearestSetting_L4  n) x0 x1 x2 x3 v1 (0 : Int32) sg))
set_option maxRecDepth 4000 in
theorem w_Search_nearestSetting_L4 (C : ja_C) {w : Int32 × ja_S}    (n : Nat) : ∀ (x0 : Nat) (x1 : Int32) (x2 : Int32) (x3 : Int32) (sg : ja_S), ja_ob ja_L0 4 x0 → f_Search_nearestSetting_L4  n x0 x1 x2 x3 sg = some w → ja_J M_Search_nearestSetting C 4 [(0, .ref x0), (1, .int x1), (2, .int x2), (3, .int x3)] [] ja_L0 sg (some (.int w.1), ja_L0, w.2) := by
  induction n with
  | zero => intro _ _ _ _ _ _ hf; exact absurd (show (none : Option _) = some w from hf) (by simp)
  | succ n ih =>
    intro x0 x1 x2 x3 sg h0 hf
    unfold f_Search_nearestSetting_L4 at hf
    refine ja_iload_n (pc := 4) (f := 3) (i := 3) 3 (by decide +kernel) rfl rfl ?_
    refine ja_aload_n (pc := 5) (f := 0) (i := 0) 0 (by decide +kernel) rfl rfl ?_
    refine ja_geti (pc := 6) (idx := 18) (t := 4) (j := 1) (by decide +kernel) fd_Search_18 h0 ?_
    refine ja_icmp_ge (pc := 9) (off := 65) 74 (by decide +kernel) (by decide) hf (fun hf => ?_) (fun hf => ?_)
    · refine ja_iload_n (pc := 74) (f := 2) (i := 2) 2 (by decide +kernel) rfl rfl ?_
      exact ja_ret (pc := 75) (some (.int x2)) .ireturn (by decide +kernel) rfl (by cases hf; rfl)
    · refine ja_aload_n (pc := 12) (f := 0) (i := 0) 0 (by decide +kernel) rfl rfl ?_
      refine ja_getr (pc := 13) (idx := 25) (t := 4) (j := 3) (by decide +kernel) fd_Search_25 h0 (fr_4_3 h0) ?_
      refine ja_iload_n (pc := 16) (f := 3) (i := 3) 3 (by decide +kernel) rfl rfl ?_
      refine ja_bind hf (fun v1 hv1 hf => ?_)
      refine ja_iald (pc := 17) (by decide +kernel) (fk_4_3 h0) hv1 ?_
      refine ja_istore (pc := 18) (i := 4) (lv' := [(4, .int v1), (0, .ref x0), (1, .int x1), (2, .int x2), (3, .int x3)]) (by decide +kernel) (by decide) rfl ?_
      refine ja_iload (pc := 20) (i := 4) 0 (by decide +kernel) rfl ?_
      refine ja_iload_n (pc := 22) (f := 1) (i := 1) 2 (by decide +kernel) rfl rfl ?_
      refine ja_iand (pc := 23) (by decide +kernel) ?_
      refine ja_iload_n (pc := 24) (f := 1) (i := 1) 2 (by decide +kernel) rfl rfl ?_
      refine ja_icmp_ne (pc := 25) (off := 7) 32 (by decide +kernel) (by decide) hf (fun hf => ?_) (fun hf => ?_)
      · refine ja_iconst (pc := 32) (n := 0) (v := 0) (by decide +kernel) (by decide +kernel) ?_
        refine ja_lv [1, 2, 3, 4, 0] rfl ?_
        exact w_Search_nearestSetting_B33 C ih x0 x1 x2 x3 v1 (0 : Int32) sg h0 hf
      · refine ja_iconst (pc := 28) (n := 1) (v := 1) (by decide +kernel) (by decide +kernel) ?_
        refine ja_goto (pc := 29) (off := 4) 33 (by decide +kernel) (by decide) ?_
        refine ja_lv [1, 2, 3, 4, 0] rfl ?_
        exact w_Search_nearestSetting_B33 C ih x0 x1 x2 x3 v1 (1 : Int32) sg h0 hf
def f_Search_nearestSetting (x0 : Nat) (x1 : Int32) (sg : ja_S) : Option (Int32 × ja_S) := f_Search_nearestSetting_L4  ja_FU x0 x1 (-1 : Int32) (0 : Int32) sg
set_option maxRecDepth 4000 in
theorem c_Search_nearestSetting (l : Launch) (x : ja_X) (x0 : Nat) (x1 : Int32) {sg : ja_S} {w : Int32 × ja_S} (h0 : ja_ob ja_L0 4 x0) (hf : f_Search_nearestSetting x0 x1 sg = some w) : ja_Ct l x y_Search_nearestSetting M_Search_nearestSetting [.ref x0, .int x1] ja_L0 sg (some (.int w.1), ja_L0, w.2) := by
  refine ja_mk ⟨by decide, rfl, rfl⟩ (Nat.le_of_ble_eq_true rfl) (lv := [(0, .ref x0), (1, .int x1)]) rfl (fun C hl hx _ _ _ _ => ?_)
  subst hl; subst hx
  unfold f_Search_nearestSetting at hf
  refine ja_iconst (pc := 0) (n := (-1)) (v := (-1)) (by decide +kernel) (by decide +kernel) ?_
  refine ja_istore_n (pc := 1) (f := 2) (i := 2) (lv' := [(2, .int (-1 : Int32)), (0, .ref x0), (1, .int x1)]) (by decide +kernel) rfl (by decide) rfl ?_
  refine ja_iconst (pc := 2) (n := 0) (v := 0) (by decide +kernel) (by decide +kernel) ?_
  refine ja_istore_n (pc := 3) (f := 3) (i := 3) (lv' := [(3, .int (0 : Int32)), (2, .int (-1 : Int32)), (0, .ref x0), (1, .int x1)]) (by decide +kernel) rfl (by decide) rfl ?_
  refine ja_lv [2, 3, 1, 0] rfl ?_
  exact w_Search_nearestSetting_L4 C  ja_FU x0 x1 (-1 : Int32) (0 : Int32) sg h0 hf
def f_Frame_settingState (x0 : Nat) (x1 : Int32) (sg : ja_S) : Option (Int32 × ja_S) := (f_Sheet_hasRoute (ja_q x0 3) x1 sg).bind fun v1 => (if v1.1 = 0 then some ((-2 : Int32), v1.2) else (f_Frame_searchedHome x0 v1.2).bind fun v2 => (ja_ld ja_L0 v2 (ja_q (ja_q x0 3) 4) x1).bind fun v3 => (f_Search_nearestSetting (ja_q x0 7) v3 v2).bind fun v4 => some (v4.1, v4.2))
set_option maxRecDepth 4000 in
theorem c_Frame_settingState (l : Launch) (x : ja_X) (x0 : Nat) (x1 : Int32) {sg : ja_S} {w : Int32 × ja_S} (h0 : ja_ob ja_L0 7 x0) (hf : f_Frame_settingState x0 x1 sg = some w) : ja_Ct l x y_Frame_settingState M_Frame_settingState [.ref x0, .int x1] ja_L0 sg (some (.int w.1), ja_L0, w.2) := by
  refine ja_mk ⟨by decide, rfl, rfl⟩ (Nat.le_of_ble_eq_true rfl) (lv := [(0, .ref x0), (1, .int x1)]) rfl (fun C hl hx _ _ _ _ => ?_)
  subst hl; subst hx
  unfold f_Frame_settingState at hf
  refine ja_aload_n (pc := 0) (f := 0) (i := 0) 0 (by decide +kernel) rfl rfl ?_
  refine ja_getr (pc := 1) (idx := 19) (t := 7) (j := 3) (by decide +kernel) fd_Frame_19 h0 (fr_7_3 h0) ?_
  refine ja_iload_n (pc := 4) (f := 1) (i := 1) 1 (by decide +kernel) rfl rfl ?_
  refine ja_bind hf (fun v1 hv1 hf => ?_)
  refine ja_callVi (pc := 5) (idx := 137) (t := 5) (b := (ja_q x0 3)) (as := [.int x1]) (st := []) (by decide +kernel) kv_Sheet_hasRoute lk_Frame_137 ⟨by decide, by decide⟩ (c_Sheet_hasRoute _ _ (ja_q x0 3) x1 (fk_7_3 h0) hv1) (fk_7_3 h0) rfl (Nat.le_of_ble_eq_true rfl) rfl ?_
  refine ja_if_ne (pc := 8) (off := 6) 14 (by decide +kernel) (by decide) hf (fun hf => ?_) (fun hf => ?_)
  · refine ja_aload_n (pc := 14) (f := 0) (i := 0) 0 (by decide +kernel) rfl rfl ?_
    refine ja_bind hf (fun v2 hv2 hf => ?_)
    refine ja_callVr (pc := 15) (idx := 190) (t := 7) (b := x0) (as := []) (st := []) (by decide +kernel) kv_Frame_searchedHome lk_Frame_190 ⟨by decide, by decide⟩ (c_Frame_searchedHome _ _ x0 h0 hv2) h0 rfl (Nat.le_of_ble_eq_true rfl) rfl ?_
    refine ja_aload_n (pc := 18) (f := 0) (i := 0) 0 (by decide +kernel) rfl rfl ?_
    refine ja_getr (pc := 19) (idx := 19) (t := 7) (j := 3) (by decide +kernel) fd_Frame_19 h0 (fr_7_3 h0) ?_
    refine ja_getr (pc := 22) (idx := 140) (t := 5) (j := 4) (by decide +kernel) fd_Frame_140 (fk_7_3 h0) (fr_5_4 (fk_7_3 h0)) ?_
    refine ja_iload_n (pc := 25) (f := 1) (i := 1) 1 (by decide +kernel) rfl rfl ?_
    refine ja_bind hf (fun v3 hv3 hf => ?_)
    refine ja_iald (pc := 26) (by decide +kernel) (fk_5_4 (fk_7_3 h0)) hv3 ?_
    refine ja_bind hf (fun v4 hv4 hf => ?_)
    refine ja_callVi (pc := 27) (idx := 211) (t := 4) (b := (ja_q x0 7)) (as := [.int v3]) (st := []) (by decide +kernel) kv_Search_nearestSetting lk_Frame_211 ⟨by decide, by decide⟩ (c_Search_nearestSetting _ _ (ja_q x0 7) v3 (fk_7_7 h0) hv4) (fk_7_7 h0) rfl (Nat.le_of_ble_eq_true rfl) rfl ?_
    exact ja_ret (pc := 30) (some (.int v4.1)) .ireturn (by decide +kernel) rfl (by cases hf; rfl)
  · refine ja_bipush (pc := 11) (n := (-2)) (v := (-2)) (by decide +kernel) (by decide +kernel) ?_
    exact ja_ret (pc := 13) (some (.int (-2 : Int32))) .ireturn (by decide +kernel) rfl (by cases hf; rfl)
def f_Frame_settingMoves (x0 : Nat) (x1 : Int32) (sg : ja_S) : Option (Int32 × ja_S) := (f_Sheet_hasRoute (ja_q x0 3) x1 sg).bind fun v1 => (if v1.1 = 0 then some ((-2 : Int32), v1.2) else (f_Frame_searchedHome x0 v1.2).bind fun v2 => (ja_ld ja_L0 v2 (ja_q (ja_q x0 3) 4) x1).bind fun v3 => (f_Search_nearestSetting (ja_q x0 7) v3 v2).bind fun v4 => (f_Search_movesTo (ja_q x0 7) v4.1 v4.2).bind fun v5 => some (v5.1, v5.2))
set_option maxRecDepth 4000 in
theorem c_Frame_settingMoves (l : Launch) (x : ja_X) (x0 : Nat) (x1 : Int32) {sg : ja_S} {w : Int32 × ja_S} (h0 : ja_ob ja_L0 7 x0) (hf : f_Frame_settingMoves x0 x1 sg = some w) : ja_Ct l x y_Frame_settingMoves M_Frame_settingMoves [.ref x0, .int x1] ja_L0 sg (some (.int w.1), ja_L0, w.2) := by
  refine ja_mk ⟨by decide, rfl, rfl⟩ (Nat.le_of_ble_eq_true rfl) (lv := [(0, .ref x0), (1, .int x1)]) rfl (fun C hl hx _ _ _ _ => ?_)
  subst hl; subst hx
  unfold f_Frame_settingMoves at hf
  refine ja_aload_n (pc := 0) (f := 0) (i := 0) 0 (by decide +kernel) rfl rfl ?_
  refine ja_getr (pc := 1) (idx := 19) (t := 7) (j := 3) (by decide +kernel) fd_Frame_19 h0 (fr_7_3 h0) ?_
  refine ja_iload_n (pc := 4) (f := 1) (i := 1) 1 (by decide +kernel) rfl rfl ?_
  refine ja_bind hf (fun v1 hv1 hf => ?_)
  refine ja_callVi (pc := 5) (idx := 137) (t := 5) (b := (ja_q x0 3)) (as := [.int x1]) (st := []) (by decide +kernel) kv_Sheet_hasRoute lk_Frame_137 ⟨by decide, by decide⟩ (c_Sheet_hasRoute _ _ (ja_q x0 3) x1 (fk_7_3 h0) hv1) (fk_7_3 h0) rfl (Nat.le_of_ble_eq_true rfl) rfl ?_
  refine ja_if_ne (pc := 8) (off := 6) 14 (by decide +kernel) (by decide) hf (fun hf => ?_) (fun hf => ?_)
  · refine ja_aload_n (pc := 14) (f := 0) (i := 0) 0 (by decide +kernel) rfl rfl ?_
    refine ja_bind hf (fun v2 hv2 hf => ?_)
    refine ja_callVr (pc := 15) (idx := 190) (t := 7) (b := x0) (as := []) (st := []) (by decide +kernel) kv_Frame_searchedHome lk_Frame_190 ⟨by decide, by decide⟩ (c_Frame_searchedHome _ _ x0 h0 hv2) h0 rfl (Nat.le_of_ble_eq_true rfl) rfl ?_
    refine ja_astore_n (pc := 18) (f := 2) (i := 2) (lv' := [(2, .ref (ja_q x0 7)), (0, .ref x0), (1, .int x1)]) (by decide +kernel) rfl (by decide) rfl ?_
    refine ja_aload_n (pc := 19) (f := 2) (i := 2) 0 (by decide +kernel) rfl rfl ?_
    refine ja_aload_n (pc := 20) (f := 2) (i := 2) 0 (by decide +kernel) rfl rfl ?_
    refine ja_aload_n (pc := 21) (f := 0) (i := 0) 1 (by decide +kernel) rfl rfl ?_
    refine ja_getr (pc := 22) (idx := 19) (t := 7) (j := 3) (by decide +kernel) fd_Frame_19 h0 (fr_7_3 h0) ?_
    refine ja_getr (pc := 25) (idx := 140) (t := 5) (j := 4) (by decide +kernel) fd_Frame_140 (fk_7_3 h0) (fr_5_4 (fk_7_3 h0)) ?_
    refine ja_iload_n (pc := 28) (f := 1) (i := 1) 2 (by decide +kernel) rfl rfl ?_
    refine ja_bind hf (fun v3 hv3 hf => ?_)
    refine ja_iald (pc := 29) (by decide +kernel) (fk_5_4 (fk_7_3 h0)) hv3 ?_
    refine ja_bind hf (fun v4 hv4 hf => ?_)
    refine ja_callVi (pc := 30) (idx := 211) (t := 4) (b := (ja_q x0 7)) (as := [.int v3]) (st := [.ref (ja_q x0 7)]) (by decide +kernel) kv_Search_nearestSetting lk_Frame_211 ⟨by decide, by decide⟩ (c_Search_nearestSetting _ _ (ja_q x0 7) v3 (fk_7_7 h0) hv4) (fk_7_7 h0) rfl (Nat.le_of_ble_eq_true rfl) rfl ?_
    refine ja_bind hf (fun v5 hv5 hf => ?_)
    refine ja_callVi (pc := 33) (idx := 198) (t := 4) (b := (ja_q x0 7)) (as := [.int v4.1]) (st := []) (by decide +kernel) kv_Search_movesTo lk_Frame_198 ⟨by decide, by decide⟩ (c_Search_movesTo _ _ (ja_q x0 7) v4.1 (fk_7_7 h0) hv5) (fk_7_7 h0) rfl (Nat.le_of_ble_eq_true rfl) rfl ?_
    exact ja_ret (pc := 36) (some (.int v5.1)) .ireturn (by decide +kernel) rfl (by cases hf; rfl)
  · refine ja_bipush (pc := 11) (n := (-2)) (v := (-2)) (by decide +kernel) (by decide +kernel) ?_
    exact ja_ret (pc := 13) (some (.int (-2 : Int32))) .ireturn (by decide +kernel) rfl (by cases hf; rfl)
def f_Search_countSetting_L4  : Nat → Nat → Int32 → Int32 → Int32 → ja_S → Option (Int32 × ja_S)
  | 0, _, _, _, _, _ => none
  | n + 1, x0, x1, x2, x3, sg => (if (sg.1 x0 1) ≤ x3 then some (x2, sg) else (ja_ld ja_L0 sg (ja_q x0 3) x3).bind fun v1 => (if (v1 &&& x1) = x1 then f_Search_countSetting_L4  n x0 x1 (x2 + 1) (x3 + 1) sg else f_Search_countSetting_L4  n x0 x1 x2 (x3 + 1) sg))
set_option maxRecDepth 4000 in
theorem w_Search_countSetting_L4 (C : ja_C) {w : Int32 × ja_S}    (n : Nat) : ∀ (x0 : Nat) (x1 : Int32) (x2 : Int32) (x3 : Int32) (sg : ja_S), ja_ob ja_L0 4 x0 → f_Search_countSetting_L4  n x0 x1 x2 x3 sg = some w → ja_J M_Search_countSetting C 4 [(0, .ref x0), (1, .int x1), (2, .int x2), (3, .int x3)] [] ja_L0 sg (some (.int w.1), ja_L0, w.2) := by
  induction n with
  | zero => intro _ _ _ _ _ _ hf; exact absurd (show (none : Option _) = some w from hf) (by simp)
  | succ n ih =>
    intro x0 x1 x2 x3 sg h0 hf
    unfold f_Search_countSetting_L4 at hf
    refine ja_iload_n (pc := 4) (f := 3) (i := 3) 3 (by decide +kernel) rfl rfl ?_
    refine ja_aload_n (pc := 5) (f := 0) (i := 0) 0 (by decide +kernel) rfl rfl ?_
    refine ja_geti (pc := 6) (idx := 18) (t := 4) (j := 1) (by decide +kernel) fd_Search_18 h0 ?_
    refine ja_icmp_ge (pc := 9) (off := 24) 33 (by decide +kernel) (by decide) hf (fun hf => ?_) (fun hf => ?_)
    · refine ja_iload_n (pc := 33) (f := 2) (i := 2) 2 (by decide +kernel) rfl rfl ?_
      exact ja_ret (pc := 34) (some (.int x2)) .ireturn (by decide +kernel) rfl (by cases hf; rfl)
    · refine ja_aload_n (pc := 12) (f := 0) (i := 0) 0 (by decide +kernel) rfl rfl ?_
      refine ja_getr (pc := 13) (idx := 25) (t := 4) (j := 3) (by decide +kernel) fd_Search_25 h0 (fr_4_3 h0) ?_
      refine ja_iload_n (pc := 16) (f := 3) (i := 3) 3 (by decide +kernel) rfl rfl ?_
      refine ja_bind hf (fun v1 hv1 hf => ?_)
      refine ja_iald (pc := 17) (by decide +kernel) (fk_4_3 h0) hv1 ?_
      refine ja_iload_n (pc := 18) (f := 1) (i := 1) 1 (by decide +kernel) rfl rfl ?_
      refine ja_iand (pc := 19) (by decide +kernel) ?_
      refine ja_iload_n (pc := 20) (f := 1) (i := 1) 1 (by decide +kernel) rfl rfl ?_
      refine ja_icmp_ne (pc := 21) (off := 6) 27 (by decide +kernel) (by decide) hf (fun hf => ?_) (fun hf => ?_)
      · refine ja_iinc (pc := 27) (i := 3) (n := 1) (v := x3 + 1) (lv' := [(3, .int (x3 + 1)), (0, .ref x0), (1, .int x1), (2, .int x2)]) 3 (by decide +kernel) rfl rfl (by decide) rfl ?_
        refine ja_goto (pc := 30) (off := (-26)) 4 (by decide +kernel) (by decide) ?_
        refine ja_lv [1, 2, 3, 0] rfl ?_
        exact ih x0 x1 x2 (x3 + 1) sg h0 hf
      · refine ja_iinc (pc := 24) (i := 2) (n := 1) (v := x2 + 1) (lv' := [(2, .int (x2 + 1)), (0, .ref x0), (1, .int x1), (3, .int x3)]) 2 (by decide +kernel) rfl rfl (by decide) rfl ?_
        refine ja_iinc (pc := 27) (i := 3) (n := 1) (v := x3 + 1) (lv' := [(3, .int (x3 + 1)), (2, .int (x2 + 1)), (0, .ref x0), (1, .int x1)]) 3 (by decide +kernel) rfl rfl (by decide) rfl ?_
        refine ja_goto (pc := 30) (off := (-26)) 4 (by decide +kernel) (by decide) ?_
        refine ja_lv [2, 3, 1, 0] rfl ?_
        exact ih x0 x1 (x2 + 1) (x3 + 1) sg h0 hf
def f_Search_countSetting (x0 : Nat) (x1 : Int32) (sg : ja_S) : Option (Int32 × ja_S) := f_Search_countSetting_L4  ja_FU x0 x1 (0 : Int32) (0 : Int32) sg
set_option maxRecDepth 4000 in
theorem c_Search_countSetting (l : Launch) (x : ja_X) (x0 : Nat) (x1 : Int32) {sg : ja_S} {w : Int32 × ja_S} (h0 : ja_ob ja_L0 4 x0) (hf : f_Search_countSetting x0 x1 sg = some w) : ja_Ct l x y_Search_countSetting M_Search_countSetting [.ref x0, .int x1] ja_L0 sg (some (.int w.1), ja_L0, w.2) := by
  refine ja_mk ⟨by decide, rfl, rfl⟩ (Nat.le_of_ble_eq_true rfl) (lv := [(0, .ref x0), (1, .int x1)]) rfl (fun C hl hx _ _ _ _ => ?_)
  subst hl; subst hx
  unfold f_Search_countSetting at hf
  refine ja_iconst (pc := 0) (n := 0) (v := 0) (by decide +kernel) (by decide +kernel) ?_
  refine ja_istore_n (pc := 1) (f := 2) (i := 2) (lv' := [(2, .int (0 : Int32)), (0, .ref x0), (1, .int x1)]) (by decide +kernel) rfl (by decide) rfl ?_
  refine ja_iconst (pc := 2) (n := 0) (v := 0) (by decide +kernel) (by decide +kernel) ?_
  refine ja_istore_n (pc := 3) (f := 3) (i := 3) (lv' := [(3, .int (0 : Int32)), (2, .int (0 : Int32)), (0, .ref x0), (1, .int x1)]) (by decide +kernel) rfl (by decide) rfl ?_
  refine ja_lv [2, 3, 1, 0] rfl ?_
  exact w_Search_countSetting_L4 C  ja_FU x0 x1 (0 : Int32) (0 : Int32) sg h0 hf
def f_Frame_jointStates (x0 : Nat) (x1 : Int32) (x2 : Int32) (sg : ja_S) : Option (Int32 × ja_S) := (f_Sheet_hasRoute (ja_q x0 3) x1 sg).bind fun v1 => (if v1.1 = 0 then some ((-2 : Int32), v1.2) else (f_Sheet_hasRoute (ja_q x0 3) x2 v1.2).bind fun v2 => (if v2.1 = 0 then some ((-2 : Int32), v2.2) else (f_Frame_searchedHome x0 v2.2).bind fun v3 => (ja_ld ja_L0 v3 (ja_q (ja_q x0 3) 4) x1).bind fun v4 => (ja_ld ja_L0 v3 (ja_q (ja_q x0 3) 4) x2).bind fun v5 => (f_Search_countSetting (ja_q x0 7) (v4 ||| v5) v3).bind fun v6 => some (v6.1, v6.2)))
set_option maxRecDepth 4000 in
theorem c_Frame_jointStates (l : Launch) (x : ja_X) (x0 : Nat) (x1 : Int32) (x2 : Int32) {sg : ja_S} {w : Int32 × ja_S} (h0 : ja_ob ja_L0 7 x0) (hf : f_Frame_jointStates x0 x1 x2 sg = some w) : ja_Ct l x y_Frame_jointStates M_Frame_jointStates [.ref x0, .int x1, .int x2] ja_L0 sg (some (.int w.1), ja_L0, w.2) := by
  refine ja_mk ⟨by decide, rfl, rfl⟩ (Nat.le_of_ble_eq_true rfl) (lv := [(0, .ref x0), (1, .int x1), (2, .int x2)]) rfl (fun C hl hx _ _ _ _ => ?_)
  subst hl; subst hx
  unfold f_Frame_jointStates at hf
  refine ja_aload_n (pc := 0) (f := 0) (i := 0) 0 (by decide +kernel) rfl rfl ?_
  refine ja_getr (pc := 1) (idx := 19) (t := 7) (j := 3) (by decide +kernel) fd_Frame_19 h0 (fr_7_3 h0) ?_
  refine ja_iload_n (pc := 4) (f := 1) (i := 1) 1 (by decide +kernel) rfl rfl ?_
  refine ja_bind hf (fun v1 hv1 hf => ?_)
  refine ja_callVi (pc := 5) (idx := 137) (t := 5) (b := (ja_q x0 3)) (as := [.int x1]) (st := []) (by decide +kernel) kv_Sheet_hasRoute lk_Frame_137 ⟨by decide, by decide⟩ (c_Sheet_hasRoute _ _ (ja_q x0 3) x1 (fk_7_3 h0) hv1) (fk_7_3 h0) rfl (Nat.le_of_ble_eq_true rfl) rfl ?_
  refine ja_if_eq (pc := 8) (off := 14) 22 (by decide +kernel) (by decide) hf (fun hf => ?_) (fun hf => ?_)
  · refine ja_bipush (pc := 22) (n := (-2)) (v := (-2)) (by decide +kernel) (by decide +kernel) ?_
    exact ja_ret (pc := 24) (some (.int (-2 : Int32))) .ireturn (by decide +kernel) rfl (by cases hf; rfl)
  · refine ja_aload_n (pc := 11) (f := 0) (i := 0) 0 (by decide +kernel) rfl rfl ?_
    refine ja_getr (pc := 12) (idx := 19) (t := 7) (j := 3) (by decide +kernel) fd_Frame_19 h0 (fr_7_3 h0) ?_
    refine ja_iload_n (pc := 15) (f := 2) (i := 2) 2 (by decide +kernel) rfl rfl ?_
    refine ja_bind hf (fun v2 hv2 hf => ?_)
    refine ja_callVi (pc := 16) (idx := 137) (t := 5) (b := (ja_q x0 3)) (as := [.int x2]) (st := []) (by decide +kernel) kv_Sheet_hasRoute lk_Frame_137 ⟨by decide, by decide⟩ (c_Sheet_hasRoute _ _ (ja_q x0 3) x2 (fk_7_3 h0) hv2) (fk_7_3 h0) rfl (Nat.le_of_ble_eq_true rfl) rfl ?_
    refine ja_if_ne (pc := 19) (off := 6) 25 (by decide +kernel) (by decide) hf (fun hf => ?_) (fun hf => ?_)
    · refine ja_aload_n (pc := 25) (f := 0) (i := 0) 0 (by decide +kernel) rfl rfl ?_
      refine ja_bind hf (fun v3 hv3 hf => ?_)
      refine ja_callVr (pc := 26) (idx := 190) (t := 7) (b := x0) (as := []) (st := []) (by decide +kernel) kv_Frame_searchedHome lk_Frame_190 ⟨by decide, by decide⟩ (c_Frame_searchedHome _ _ x0 h0 hv3) h0 rfl (Nat.le_of_ble_eq_true rfl) rfl ?_
      refine ja_aload_n (pc := 29) (f := 0) (i := 0) 0 (by decide +kernel) rfl rfl ?_
      refine ja_getr (pc := 30) (idx := 19) (t := 7) (j := 3) (by decide +kernel) fd_Frame_19 h0 (fr_7_3 h0) ?_
      refine ja_getr (pc := 33) (idx := 140) (t := 5) (j := 4) (by decide +kernel) fd_Frame_140 (fk_7_3 h0) (fr_5_4 (fk_7_3 h0)) ?_
      refine ja_iload_n (pc := 36) (f := 1) (i := 1) 1 (by decide +kernel) rfl rfl ?_
      refine ja_bind hf (fun v4 hv4 hf => ?_)
      refine ja_iald (pc := 37) (by decide +kernel) (fk_5_4 (fk_7_3 h0)) hv4 ?_
      refine ja_aload_n (pc := 38) (f := 0) (i := 0) 0 (by decide +kernel) rfl rfl ?_
      refine ja_getr (pc := 39) (idx := 19) (t := 7) (j := 3) (by decide +kernel) fd_Frame_19 h0 (fr_7_3 h0) ?_
      refine ja_getr (pc := 42) (idx := 140) (t := 5) (j := 4) (by decide +kernel) fd_Frame_140 (fk_7_3 h0) (fr_5_4 (fk_7_3 h0)) ?_
      refine ja_iload_n (pc := 45) (f := 2) (i := 2) 2 (by decide +kernel) rfl rfl ?_
      refine ja_bind hf (fun v5 hv5 hf => ?_)
      refine ja_iald (pc := 46) (by decide +kernel) (fk_5_4 (fk_7_3 h0)) hv5 ?_
      refine ja_ior (pc := 47) (by decide +kernel) ?_
      refine ja_bind hf (fun v6 hv6 hf => ?_)
      refine ja_callVi (pc := 48) (idx := 214) (t := 4) (b := (ja_q x0 7)) (as := [.int (v4 ||| v5)]) (st := []) (by decide +kernel) kv_Search_countSetting lk_Frame_214 ⟨by decide, by decide⟩ (c_Search_countSetting _ _ (ja_q x0 7) (v4 ||| v5) (fk_7_7 h0) hv6) (fk_7_7 h0) rfl (Nat.le_of_ble_eq_true rfl) rfl ?_
      exact ja_ret (pc := 51) (some (.int v6.1)) .ireturn (by decide +kernel) rfl (by cases hf; rfl)
    · refine ja_bipush (pc := 22) (n := (-2)) (v := (-2)) (by decide +kernel) (by decide +kernel) ?_
      exact ja_ret (pc := 24) (some (.int (-2 : Int32))) .ireturn (by decide +kernel) rfl (by cases hf; rfl)
def f_Sheet_leversOfRoute (x0 : Nat) (x1 : Int32) (sg : ja_S) : Option (Int32 × ja_S) := (f_Sheet_hasRoute x0 x1 sg).bind fun v1 => (if v1.1 = 0 then some ((0 : Int32), v1.2) else (ja_ld ja_L0 v1.2 (ja_q x0 4) x1).bind fun v2 => some (v2, v1.2))
set_option maxRecDepth 4000 in
theorem c_Sheet_leversOfRoute (l : Launch) (x : ja_X) (x0 : Nat) (x1 : Int32) {sg : ja_S} {w : Int32 × ja_S} (h0 : ja_ob ja_L0 5 x0) (hf : f_Sheet_leversOfRoute x0 x1 sg = some w) : ja_Ct l x y_Sheet_leversOfRoute M_Sheet_leversOfRoute [.ref x0, .int x1] ja_L0 sg (some (.int w.1), ja_L0, w.2) := by
  refine ja_mk ⟨by decide, rfl, rfl⟩ (Nat.le_of_ble_eq_true rfl) (lv := [(0, .ref x0), (1, .int x1)]) rfl (fun C hl hx _ _ _ _ => ?_)
  subst hl; subst hx
  unfold f_Sheet_leversOfRoute at hf
  refine ja_aload_n (pc := 0) (f := 0) (i := 0) 0 (by decide +kernel) rfl rfl ?_
  refine ja_iload_n (pc := 1) (f := 1) (i := 1) 1 (by decide +kernel) rfl rfl ?_
  refine ja_bind hf (fun v1 hv1 hf => ?_)
  refine ja_callVi (pc := 2) (idx := 57) (t := 5) (b := x0) (as := [.int x1]) (st := []) (by decide +kernel) kv_Sheet_hasRoute lk_Sheet_57 ⟨by decide, by decide⟩ (c_Sheet_hasRoute _ _ x0 x1 h0 hv1) h0 rfl (Nat.le_of_ble_eq_true rfl) rfl ?_
  refine ja_if_eq (pc := 5) (off := 12) 17 (by decide +kernel) (by decide) hf (fun hf => ?_) (fun hf => ?_)
  · refine ja_iconst (pc := 17) (n := 0) (v := 0) (by decide +kernel) (by decide +kernel) ?_
    exact ja_ret (pc := 18) (some (.int (0 : Int32))) .ireturn (by decide +kernel) rfl (by cases hf; rfl)
  · refine ja_aload_n (pc := 8) (f := 0) (i := 0) 0 (by decide +kernel) rfl rfl ?_
    refine ja_getr (pc := 9) (idx := 25) (t := 5) (j := 4) (by decide +kernel) fd_Sheet_25 h0 (fr_5_4 h0) ?_
    refine ja_iload_n (pc := 12) (f := 1) (i := 1) 1 (by decide +kernel) rfl rfl ?_
    refine ja_bind hf (fun v2 hv2 hf => ?_)
    refine ja_iald (pc := 13) (by decide +kernel) (fk_5_4 h0) hv2 ?_
    refine ja_goto (pc := 14) (off := 4) 18 (by decide +kernel) (by decide) ?_
    exact ja_ret (pc := 18) (some (.int v2)) .ireturn (by decide +kernel) rfl (by cases hf; rfl)
def f_Search_someStateSets_L2  : Nat → Nat → Int32 → Int32 → ja_S → Option (Int32 × ja_S)
  | 0, _, _, _, _ => none
  | n + 1, x0, x1, x2, sg => (if (sg.1 x0 1) ≤ x2 then some ((0 : Int32), sg) else (ja_ld ja_L0 sg (ja_q x0 3) x2).bind fun v1 => (if (v1 &&& x1) = x1 then some ((1 : Int32), sg) else f_Search_someStateSets_L2  n x0 x1 (x2 + 1) sg))
set_option maxRecDepth 4000 in
theorem w_Search_someStateSets_L2 (C : ja_C) {w : Int32 × ja_S}    (n : Nat) : ∀ (x0 : Nat) (x1 : Int32) (x2 : Int32) (sg : ja_S), ja_ob ja_L0 4 x0 → f_Search_someStateSets_L2  n x0 x1 x2 sg = some w → ja_J M_Search_someStateSets C 2 [(0, .ref x0), (1, .int x1), (2, .int x2)] [] ja_L0 sg (some (.int w.1), ja_L0, w.2) := by
  induction n with
  | zero => intro _ _ _ _ _ hf; exact absurd (show (none : Option _) = some w from hf) (by simp)
  | succ n ih =>
    intro x0 x1 x2 sg h0 hf
    unfold f_Search_someStateSets_L2 at hf
    refine ja_iload_n (pc := 2) (f := 2) (i := 2) 2 (by decide +kernel) rfl rfl ?_
    refine ja_aload_n (pc := 3) (f := 0) (i := 0) 0 (by decide +kernel) rfl rfl ?_
    refine ja_geti (pc := 4) (idx := 18) (t := 4) (j := 1) (by decide +kernel) fd_Search_18 h0 ?_
    refine ja_icmp_ge (pc := 7) (off := 23) 30 (by decide +kernel) (by decide) hf (fun hf => ?_) (fun hf => ?_)
    · refine ja_iconst (pc := 30) (n := 0) (v := 0) (by decide +kernel) (by decide +kernel) ?_
      exact ja_ret (pc := 31) (some (.int (0 : Int32))) .ireturn (by decide +kernel) rfl (by cases hf; rfl)
    · refine ja_aload_n (pc := 10) (f := 0) (i := 0) 0 (by decide +kernel) rfl rfl ?_
      refine ja_getr (pc := 11) (idx := 25) (t := 4) (j := 3) (by decide +kernel) fd_Search_25 h0 (fr_4_3 h0) ?_
      refine ja_iload_n (pc := 14) (f := 2) (i := 2) 2 (by decide +kernel) rfl rfl ?_
      refine ja_bind hf (fun v1 hv1 hf => ?_)
      refine ja_iald (pc := 15) (by decide +kernel) (fk_4_3 h0) hv1 ?_
      refine ja_iload_n (pc := 16) (f := 1) (i := 1) 1 (by decide +kernel) rfl rfl ?_
      refine ja_iand (pc := 17) (by decide +kernel) ?_
      refine ja_iload_n (pc := 18) (f := 1) (i := 1) 1 (by decide +kernel) rfl rfl ?_
      refine ja_icmp_ne (pc := 19) (off := 5) 24 (by decide +kernel) (by decide) hf (fun hf => ?_) (fun hf => ?_)
      · refine ja_iinc (pc := 24) (i := 2) (n := 1) (v := x2 + 1) (lv' := [(2, .int (x2 + 1)), (0, .ref x0), (1, .int x1)]) 2 (by decide +kernel) rfl rfl (by decide) rfl ?_
        refine ja_goto (pc := 27) (off := (-25)) 2 (by decide +kernel) (by decide) ?_
        refine ja_lv [1, 2, 0] rfl ?_
        exact ih x0 x1 (x2 + 1) sg h0 hf
      · refine ja_iconst (pc := 22) (n := 1) (v := 1) (by decide +kernel) (by decide +kernel) ?_
        exact ja_ret (pc := 23) (some (.int (1 : Int32))) .ireturn (by decide +kernel) rfl (by cases hf; rfl)
def f_Search_someStateSets (x0 : Nat) (x1 : Int32) (sg : ja_S) : Option (Int32 × ja_S) := f_Search_someStateSets_L2  ja_FU x0 x1 (0 : Int32) sg
set_option maxRecDepth 4000 in
theorem c_Search_someStateSets (l : Launch) (x : ja_X) (x0 : Nat) (x1 : Int32) {sg : ja_S} {w : Int32 × ja_S} (h0 : ja_ob ja_L0 4 x0) (hf : f_Search_someStateSets x0 x1 sg = some w) : ja_Ct l x y_Search_someStateSets M_Search_someStateSets [.ref x0, .int x1] ja_L0 sg (some (.int w.1), ja_L0, w.2) := by
  refine ja_mk ⟨by decide, rfl, rfl⟩ (Nat.le_of_ble_eq_true rfl) (lv := [(0, .ref x0), (1, .int x1)]) rfl (fun C hl hx _ _ _ _ => ?_)
  subst hl; subst hx
  unfold f_Search_someStateSets at hf
  refine ja_iconst (pc := 0) (n := 0) (v := 0) (by decide +kernel) (by decide +kernel) ?_
  refine ja_istore_n (pc := 1) (f := 2) (i := 2) (lv' := [(2, .int (0 : Int32)), (0, .ref x0), (1, .int x1)]) (by decide +kernel) rfl (by decide) rfl ?_
  refine ja_lv [1, 2, 0] rfl ?_
  exact w_Search_someStateSets_L2 C  ja_FU x0 x1 (0 : Int32) sg h0 hf
def f_Sheet_openConflicts_L4  : Nat → Nat → Nat → Int32 → Int32 → ja_S → Option (Int32 × ja_S)
  | 0, _, _, _, _, _ => none
  | n + 1, x0, x1, x2, x3, sg => (if (sg.1 x0 8) ≤ x3 then some (x2, sg) else (ja_ld ja_L0 sg (ja_q x0 6) x3).bind fun v1 => (f_Sheet_leversOfRoute x0 v1 sg).bind fun v2 => (ja_ld ja_L0 v2.2 (ja_q x0 7) x3).bind fun v3 => (f_Sheet_leversOfRoute x0 v3 v2.2).bind fun v4 => (f_Search_someStateSets x1 (v2.1 ||| v4.1) v4.2).bind fun v5 => (if v5.1 = 0 then f_Sheet_openConflicts_L4  n x0 x1 x2 (x3 + 1) v5.2 else f_Sheet_openConflicts_L4  n x0 x1 (x2 ||| ((1 : Int32) <<< (x3 &&& 31))) (x3 + 1) v5.2))
set_option maxRecDepth 4000 in
theorem w_Sheet_openConflicts_L4 (C : ja_C) {w : Int32 × ja_S}    (n : Nat) : ∀ (x0 : Nat) (x1 : Nat) (x2 : Int32) (x3 : Int32) (sg : ja_S), ja_ob ja_L0 5 x0 → ja_ob ja_L0 4 x1 → f_Sheet_openConflicts_L4  n x0 x1 x2 x3 sg = some w → ja_J M_Sheet_openConflicts C 4 [(0, .ref x0), (1, .ref x1), (2, .int x2), (3, .int x3)] [] ja_L0 sg (some (.int w.1), ja_L0, w.2) := by
  induction n with
  | zero => intro _ _ _ _ _ _ _ hf; exact absurd (show (none : Option _) = some w from hf) (by simp)
  | succ n ih =>
    intro x0 x1 x2 x3 sg h0 h1 hf
    unfold f_Sheet_openConflicts_L4 at hf
    refine ja_iload_n (pc := 4) (f := 3) (i := 3) 3 (by decide +kernel) rfl rfl ?_
    refine ja_aload_n (pc := 5) (f := 0) (i := 0) 0 (by decide +kernel) rfl rfl ?_
    refine ja_geti (pc := 6) (idx := 37) (t := 5) (j := 8) (by decide +kernel) fd_Sheet_37 h0 ?_
    refine ja_icmp_ge (pc := 9) (off := 47) 56 (by decide +kernel) (by decide) hf (fun hf => ?_) (fun hf => ?_)
    · refine ja_iload_n (pc := 56) (f := 2) (i := 2) 2 (by decide +kernel) rfl rfl ?_
      exact ja_ret (pc := 57) (some (.int x2)) .ireturn (by decide +kernel) rfl (by cases hf; rfl)
    · refine ja_aload_n (pc := 12) (f := 0) (i := 0) 0 (by decide +kernel) rfl rfl ?_
      refine ja_aload_n (pc := 13) (f := 0) (i := 0) 0 (by decide +kernel) rfl rfl ?_
      refine ja_getr (pc := 14) (idx := 31) (t := 5) (j := 6) (by decide +kernel) fd_Sheet_31 h0 (fr_5_6 h0) ?_
      refine ja_iload_n (pc := 17) (f := 3) (i := 3) 3 (by decide +kernel) rfl rfl ?_
      refine ja_bind hf (fun v1 hv1 hf => ?_)
      refine ja_iald (pc := 18) (by decide +kernel) (fk_5_6 h0) hv1 ?_
      refine ja_bind hf (fun v2 hv2 hf => ?_)
      refine ja_callVi (pc := 19) (idx := 75) (t := 5) (b := x0) (as := [.int v1]) (st := []) (by decide +kernel) kv_Sheet_leversOfRoute lk_Sheet_75 ⟨by decide, by decide⟩ (c_Sheet_leversOfRoute _ _ x0 v1 h0 hv2) h0 rfl (Nat.le_of_ble_eq_true rfl) rfl ?_
      refine ja_aload_n (pc := 22) (f := 0) (i := 0) 0 (by decide +kernel) rfl rfl ?_
      refine ja_aload_n (pc := 23) (f := 0) (i := 0) 0 (by decide +kernel) rfl rfl ?_
      refine ja_getr (pc := 24) (idx := 34) (t := 5) (j := 7) (by decide +kernel) fd_Sheet_34 h0 (fr_5_7 h0) ?_
      refine ja_iload_n (pc := 27) (f := 3) (i := 3) 3 (by decide +kernel) rfl rfl ?_
      refine ja_bind hf (fun v3 hv3 hf => ?_)
      refine ja_iald (pc := 28) (by decide +kernel) (fk_5_7 h0) hv3 ?_
      refine ja_bind hf (fun v4 hv4 hf => ?_)
      refine ja_callVi (pc := 29) (idx := 75) (t := 5) (b := x0) (as := [.int v3]) (st := [.int v2.1]) (by decide +kernel) kv_Sheet_leversOfRoute lk_Sheet_75 ⟨by decide, by decide⟩ (c_Sheet_leversOfRoute _ _ x0 v3 h0 hv4) h0 rfl (Nat.le_of_ble_eq_true rfl) rfl ?_
      refine ja_ior (pc := 32) (by decide +kernel) ?_
      refine ja_istore (pc := 33) (i := 4) (lv' := [(4, .int (v2.1 ||| v4.1)), (0, .ref x0), (1, .ref x1), (2, .int x2), (3, .int x3)]) (by decide +kernel) (by decide) rfl ?_
      refine ja_aload_n (pc := 35) (f := 1) (i := 1) 2 (by decide +kernel) rfl rfl ?_
      refine ja_iload (pc := 36) (i := 4) 0 (by decide +kernel) rfl ?_
      refine ja_bind hf (fun v5 hv5 hf => ?_)
      refine ja_callVi (pc := 38) (idx := 70) (t := 4) (b := x1) (as := [.int (v2.1 ||| v4.1)]) (st := []) (by decide +kernel) kv_Search_someStateSets lk_Sheet_70 ⟨by decide, by decide⟩ (c_Search_someStateSets _ _ x1 (v2.1 ||| v4.1) h1 hv5) h1 rfl (Nat.le_of_ble_eq_true rfl) rfl ?_
      refine ja_if_eq (pc := 41) (off := 9) 50 (by decide +kernel) (by decide) hf (fun hf => ?_) (fun hf => ?_)
      · refine ja_iinc (pc := 50) (i := 3) (n := 1) (v := x3 + 1) (lv' := [(3, .int (x3 + 1)), (4, .int (v2.1 ||| v4.1)), (0, .ref x0), (1, .ref x1), (2, .int x2)]) 4 (by decide +kernel) rfl rfl (by decide) rfl ?_
        refine ja_goto (pc := 53) (off := (-49)) 4 (by decide +kernel) (by decide) ?_
        refine ja_lv [2, 3, 4, 0] rfl ?_
        exact ih x0 x1 x2 (x3 + 1) v5.2 h0 h1 hf
      · refine ja_iload_n (pc := 44) (f := 2) (i := 2) 3 (by decide +kernel) rfl rfl ?_
        refine ja_iconst (pc := 45) (n := 1) (v := 1) (by decide +kernel) (by decide +kernel) ?_
        refine ja_iload_n (pc := 46) (f := 3) (i := 3) 4 (by decide +kernel) rfl rfl ?_
        refine ja_ishl (pc := 47) (by decide +kernel) ?_
        refine ja_ior (pc := 48) (by decide +kernel) ?_
        refine ja_istore_n (pc := 49) (f := 2) (i := 2) (lv' := [(2, .int (x2 ||| ((1 : Int32) <<< (x3 &&& 31)))), (4, .int (v2.1 ||| v4.1)), (0, .ref x0), (1, .ref x1), (3, .int x3)]) (by decide +kernel) rfl (by decide) rfl ?_
        refine ja_iinc (pc := 50) (i := 3) (n := 1) (v := x3 + 1) (lv' := [(3, .int (x3 + 1)), (2, .int (x2 ||| ((1 : Int32) <<< (x3 &&& 31)))), (4, .int (v2.1 ||| v4.1)), (0, .ref x0), (1, .ref x1)]) 4 (by decide +kernel) rfl rfl (by decide) rfl ?_
        refine ja_goto (pc := 53) (off := (-49)) 4 (by decide +kernel) (by decide) ?_
        refine ja_lv [3, 4, 1, 0] rfl ?_
        exact ih x0 x1 (x2 ||| ((1 : Int32) <<< (x3 &&& 31))) (x3 + 1) v5.2 h0 h1 hf
def f_Sheet_openConflicts (x0 : Nat) (x1 : Nat) (sg : ja_S) : Option (Int32 × ja_S) := f_Sheet_openConflicts_L4  ja_FU x0 x1 (0 : Int32) (0 : Int32) sg
set_option maxRecDepth 4000 in
theorem c_Sheet_openConflicts (l : Launch) (x : ja_X) (x0 : Nat) (x1 : Nat) {sg : ja_S} {w : Int32 × ja_S} (h0 : ja_ob ja_L0 5 x0) (h1 : ja_ob ja_L0 4 x1) (hf : f_Sheet_openConflicts x0 x1 sg = some w) : ja_Ct l x y_Sheet_openConflicts M_Sheet_openConflicts [.ref x0, .ref x1] ja_L0 sg (some (.int w.1), ja_L0, w.2) := by
  refine ja_mk ⟨by decide, rfl, rfl⟩ (Nat.le_of_ble_eq_true rfl) (lv := [(0, .ref x0), (1, .ref x1)]) rfl (fun C hl hx _ _ _ _ => ?_)
  subst hl; subst hx
  unfold f_Sheet_openConflicts at hf
  refine ja_iconst (pc := 0) (n := 0) (v := 0) (by decide +kernel) (by decide +kernel) ?_
  refine ja_istore_n (pc := 1) (f := 2) (i := 2) (lv' := [(2, .int (0 : Int32)), (0, .ref x0), (1, .ref x1)]) (by decide +kernel) rfl (by decide) rfl ?_
  refine ja_iconst (pc := 2) (n := 0) (v := 0) (by decide +kernel) (by decide +kernel) ?_
  refine ja_istore_n (pc := 3) (f := 3) (i := 3) (lv' := [(3, .int (0 : Int32)), (2, .int (0 : Int32)), (0, .ref x0), (1, .ref x1)]) (by decide +kernel) rfl (by decide) rfl ?_
  refine ja_lv [2, 3, 1, 0] rfl ?_
  exact w_Sheet_openConflicts_L4 C  ja_FU x0 x1 (0 : Int32) (0 : Int32) sg h0 h1 hf
def f_Frame_unprotectedConflicts (x0 : Nat) (sg : ja_S) : Option (Int32 × ja_S) := (f_Frame_searchedHome x0 sg).bind fun v1 => (f_Sheet_openConflicts (ja_q x0 3) (ja_q x0 7) v1).bind fun v2 => some (v2.1, v2.2)
set_option maxRecDepth 4000 in
theorem c_Frame_unprotectedConflicts (l : Launch) (x : ja_X) (x0 : Nat) {sg : ja_S} {w : Int32 × ja_S} (h0 : ja_ob ja_L0 7 x0) (hf : f_Frame_unprotectedConflicts x0 sg = some w) : ja_Ct l x y_Frame_unprotectedConflicts M_Frame_unprotectedConflicts [.ref x0] ja_L0 sg (some (.int w.1), ja_L0, w.2) := by
  refine ja_mk ⟨by decide, rfl, rfl⟩ (Nat.le_of_ble_eq_true rfl) (lv := [(0, .ref x0)]) rfl (fun C hl hx _ _ _ _ => ?_)
  subst hl; subst hx
  unfold f_Frame_unprotectedConflicts at hf
  refine ja_aload_n (pc := 0) (f := 0) (i := 0) 0 (by decide +kernel) rfl rfl ?_
  refine ja_getr (pc := 1) (idx := 19) (t := 7) (j := 3) (by decide +kernel) fd_Frame_19 h0 (fr_7_3 h0) ?_
  refine ja_aload_n (pc := 4) (f := 0) (i := 0) 0 (by decide +kernel) rfl rfl ?_
  refine ja_bind hf (fun v1 hv1 hf => ?_)
  refine ja_callVr (pc := 5) (idx := 190) (t := 7) (b := x0) (as := []) (st := [.ref (ja_q x0 3)]) (by decide +kernel) kv_Frame_searchedHome lk_Frame_190 ⟨by decide, by decide⟩ (c_Frame_searchedHome _ _ x0 h0 hv1) h0 rfl (Nat.le_of_ble_eq_true rfl) rfl ?_
  refine ja_bind hf (fun v2 hv2 hf => ?_)
  refine ja_callVi (pc := 8) (idx := 217) (t := 5) (b := (ja_q x0 3)) (as := [.ref (ja_q x0 7)]) (st := []) (by decide +kernel) kv_Sheet_openConflicts lk_Frame_217 ⟨by decide, by decide⟩ (c_Sheet_openConflicts _ _ (ja_q x0 3) (ja_q x0 7) (fk_7_3 h0) (fk_7_7 h0) hv2) (fk_7_3 h0) rfl (Nat.le_of_ble_eq_true rfl) rfl ?_
  exact ja_ret (pc := 11) (some (.int v2.1)) .ireturn (by decide +kernel) rfl (by cases hf; rfl)
def f_Sheet_hasConflict (x0 : Nat) (x1 : Int32) (sg : ja_S) : Option (Int32 × ja_S) := (if x1 < 0 then some ((0 : Int32), sg) else (if (sg.1 x0 8) ≤ x1 then some ((0 : Int32), sg) else some ((1 : Int32), sg)))
set_option maxRecDepth 4000 in
theorem c_Sheet_hasConflict (l : Launch) (x : ja_X) (x0 : Nat) (x1 : Int32) {sg : ja_S} {w : Int32 × ja_S} (h0 : ja_ob ja_L0 5 x0) (hf : f_Sheet_hasConflict x0 x1 sg = some w) : ja_Ct l x y_Sheet_hasConflict M_Sheet_hasConflict [.ref x0, .int x1] ja_L0 sg (some (.int w.1), ja_L0, w.2) := by
  refine ja_mk ⟨by decide, rfl, rfl⟩ (Nat.le_of_ble_eq_true rfl) (lv := [(0, .ref x0), (1, .int x1)]) rfl (fun C hl hx _ _ _ _ => ?_)
  subst hl; subst hx
  unfold f_Sheet_hasConflict at hf
  refine ja_iload_n (pc := 0) (f := 1) (i := 1) 1 (by decide +kernel) rfl rfl ?_
  refine ja_if_lt (pc := 1) (off := 15) 16 (by decide +kernel) (by decide) hf (fun hf => ?_) (fun hf => ?_)
  · refine ja_iconst (pc := 16) (n := 0) (v := 0) (by decide +kernel) (by decide +kernel) ?_
    exact ja_ret (pc := 17) (some (.int (0 : Int32))) .ireturn (by decide +kernel) rfl (by cases hf; rfl)
  · refine ja_iload_n (pc := 4) (f := 1) (i := 1) 1 (by decide +kernel) rfl rfl ?_
    refine ja_aload_n (pc := 5) (f := 0) (i := 0) 0 (by decide +kernel) rfl rfl ?_
    refine ja_geti (pc := 6) (idx := 37) (t := 5) (j := 8) (by decide +kernel) fd_Sheet_37 h0 ?_
    refine ja_icmp_ge (pc := 9) (off := 7) 16 (by decide +kernel) (by decide) hf (fun hf => ?_) (fun hf => ?_)
    · refine ja_iconst (pc := 16) (n := 0) (v := 0) (by decide +kernel) (by decide +kernel) ?_
      exact ja_ret (pc := 17) (some (.int (0 : Int32))) .ireturn (by decide +kernel) rfl (by cases hf; rfl)
    · refine ja_iconst (pc := 12) (n := 1) (v := 1) (by decide +kernel) (by decide +kernel) ?_
      refine ja_goto (pc := 13) (off := 4) 17 (by decide +kernel) (by decide) ?_
      exact ja_ret (pc := 17) (some (.int (1 : Int32))) .ireturn (by decide +kernel) rfl (by cases hf; rfl)
def f_Sheet_settableRoutes_L4  : Nat → Nat → Nat → Int32 → Int32 → ja_S → Option (Int32 × ja_S)
  | 0, _, _, _, _, _ => none
  | n + 1, x0, x1, x2, x3, sg => (if (sg.1 x0 5) ≤ x3 then some (x2, sg) else (ja_ld ja_L0 sg (ja_q x0 4) x3).bind fun v1 => (f_Search_someStateSets x1 v1 sg).bind fun v2 => (if v2.1 = 0 then f_Sheet_settableRoutes_L4  n x0 x1 x2 (x3 + 1) v2.2 else f_Sheet_settableRoutes_L4  n x0 x1 (x2 ||| ((1 : Int32) <<< (x3 &&& 31))) (x3 + 1) v2.2))
set_option maxRecDepth 4000 in
theorem w_Sheet_settableRoutes_L4 (C : ja_C) {w : Int32 × ja_S}    (n : Nat) : ∀ (x0 : Nat) (x1 : Nat) (x2 : Int32) (x3 : Int32) (sg : ja_S), ja_ob ja_L0 5 x0 → ja_ob ja_L0 4 x1 → f_Sheet_settableRoutes_L4  n x0 x1 x2 x3 sg = some w → ja_J M_Sheet_settableRoutes C 4 [(0, .ref x0), (1, .ref x1), (2, .int x2), (3, .int x3)] [] ja_L0 sg (some (.int w.1), ja_L0, w.2) := by
  induction n with
  | zero => intro _ _ _ _ _ _ _ hf; exact absurd (show (none : Option _) = some w from hf) (by simp)
  | succ n ih =>
    intro x0 x1 x2 x3 sg h0 h1 hf
    unfold f_Sheet_settableRoutes_L4 at hf
    refine ja_iload_n (pc := 4) (f := 3) (i := 3) 3 (by decide +kernel) rfl rfl ?_
    refine ja_aload_n (pc := 5) (f := 0) (i := 0) 0 (by decide +kernel) rfl rfl ?_
    refine ja_geti (pc := 6) (idx := 28) (t := 5) (j := 5) (by decide +kernel) fd_Sheet_28 h0 ?_
    refine ja_icmp_ge (pc := 9) (off := 28) 37 (by decide +kernel) (by decide) hf (fun hf => ?_) (fun hf => ?_)
    · refine ja_iload_n (pc := 37) (f := 2) (i := 2) 2 (by decide +kernel) rfl rfl ?_
      exact ja_ret (pc := 38) (some (.int x2)) .ireturn (by decide +kernel) rfl (by cases hf; rfl)
    · refine ja_aload_n (pc := 12) (f := 1) (i := 1) 1 (by decide +kernel) rfl rfl ?_
      refine ja_aload_n (pc := 13) (f := 0) (i := 0) 0 (by decide +kernel) rfl rfl ?_
      refine ja_getr (pc := 14) (idx := 25) (t := 5) (j := 4) (by decide +kernel) fd_Sheet_25 h0 (fr_5_4 h0) ?_
      refine ja_iload_n (pc := 17) (f := 3) (i := 3) 3 (by decide +kernel) rfl rfl ?_
      refine ja_bind hf (fun v1 hv1 hf => ?_)
      refine ja_iald (pc := 18) (by decide +kernel) (fk_5_4 h0) hv1 ?_
      refine ja_bind hf (fun v2 hv2 hf => ?_)
      refine ja_callVi (pc := 19) (idx := 70) (t := 4) (b := x1) (as := [.int v1]) (st := []) (by decide +kernel) kv_Search_someStateSets lk_Sheet_70 ⟨by decide, by decide⟩ (c_Search_someStateSets _ _ x1 v1 h1 hv2) h1 rfl (Nat.le_of_ble_eq_true rfl) rfl ?_
      refine ja_if_eq (pc := 22) (off := 9) 31 (by decide +kernel) (by decide) hf (fun hf => ?_) (fun hf => ?_)
      · refine ja_iinc (pc := 31) (i := 3) (n := 1) (v := x3 + 1) (lv' := [(3, .int (x3 + 1)), (0, .ref x0), (1, .ref x1), (2, .int x2)]) 3 (by decide +kernel) rfl rfl (by decide) rfl ?_
        refine ja_goto (pc := 34) (off := (-30)) 4 (by decide +kernel) (by decide) ?_
        refine ja_lv [1, 2, 3, 0] rfl ?_
        exact ih x0 x1 x2 (x3 + 1) v2.2 h0 h1 hf
      · refine ja_iload_n (pc := 25) (f := 2) (i := 2) 2 (by decide +kernel) rfl rfl ?_
        refine ja_iconst (pc := 26) (n := 1) (v := 1) (by decide +kernel) (by decide +kernel) ?_
        refine ja_iload_n (pc := 27) (f := 3) (i := 3) 3 (by decide +kernel) rfl rfl ?_
        refine ja_ishl (pc := 28) (by decide +kernel) ?_
        refine ja_ior (pc := 29) (by decide +kernel) ?_
        refine ja_istore_n (pc := 30) (f := 2) (i := 2) (lv' := [(2, .int (x2 ||| ((1 : Int32) <<< (x3 &&& 31)))), (0, .ref x0), (1, .ref x1), (3, .int x3)]) (by decide +kernel) rfl (by decide) rfl ?_
        refine ja_iinc (pc := 31) (i := 3) (n := 1) (v := x3 + 1) (lv' := [(3, .int (x3 + 1)), (2, .int (x2 ||| ((1 : Int32) <<< (x3 &&& 31)))), (0, .ref x0), (1, .ref x1)]) 3 (by decide +kernel) rfl rfl (by decide) rfl ?_
        refine ja_goto (pc := 34) (off := (-30)) 4 (by decide +kernel) (by decide) ?_
        refine ja_lv [2, 3, 1, 0] rfl ?_
        exact ih x0 x1 (x2 ||| ((1 : Int32) <<< (x3 &&& 31))) (x3 + 1) v2.2 h0 h1 hf
def f_Sheet_settableRoutes (x0 : Nat) (x1 : Nat) (sg : ja_S) : Option (Int32 × ja_S) := f_Sheet_settableRoutes_L4  ja_FU x0 x1 (0 : Int32) (0 : Int32) sg
set_option maxRecDepth 4000 in
theorem c_Sheet_settableRoutes (l : Launch) (x : ja_X) (x0 : Nat) (x1 : Nat) {sg : ja_S} {w : Int32 × ja_S} (h0 : ja_ob ja_L0 5 x0) (h1 : ja_ob ja_L0 4 x1) (hf : f_Sheet_settableRoutes x0 x1 sg = some w) : ja_Ct l x y_Sheet_settableRoutes M_Sheet_settableRoutes [.ref x0, .ref x1] ja_L0 sg (some (.int w.1), ja_L0, w.2) := by
  refine ja_mk ⟨by decide, rfl, rfl⟩ (Nat.le_of_ble_eq_true rfl) (lv := [(0, .ref x0), (1, .ref x1)]) rfl (fun C hl hx _ _ _ _ => ?_)
  subst hl; subst hx
  unfold f_Sheet_settableRoutes at hf
  refine ja_iconst (pc := 0) (n := 0) (v := 0) (by decide +kernel) (by decide +kernel) ?_
  refine ja_istore_n (pc := 1) (f := 2) (i := 2) (lv' := [(2, .int (0 : Int32)), (0, .ref x0), (1, .ref x1)]) (by decide +kernel) rfl (by decide) rfl ?_
  refine ja_iconst (pc := 2) (n := 0) (v := 0) (by decide +kernel) (by decide +kernel) ?_
  refine ja_istore_n (pc := 3) (f := 3) (i := 3) (lv' := [(3, .int (0 : Int32)), (2, .int (0 : Int32)), (0, .ref x0), (1, .ref x1)]) (by decide +kernel) rfl (by decide) rfl ?_
  refine ja_lv [2, 3, 1, 0] rfl ?_
  exact w_Sheet_settableRoutes_L4 C  ja_FU x0 x1 (0 : Int32) (0 : Int32) sg h0 h1 hf
def f_LockPlanner_lockOf (x0 : Int32) (x1 : Int32) (sg : ja_S) : Option (Int32 × ja_S) := (f_Rule_pack (0 : Int32) x0 x1 (-1 : Int32) sg).bind fun v1 => some (v1.1, v1.2)
set_option maxRecDepth 4000 in
theorem c_LockPlanner_lockOf (l : Launch) (x : ja_X) (x0 : Int32) (x1 : Int32) {sg : ja_S} {w : Int32 × ja_S}  (hf : f_LockPlanner_lockOf x0 x1 sg = some w) : ja_Ct l x y_LockPlanner_lockOf M_LockPlanner_lockOf [.int x0, .int x1] ja_L0 sg (some (.int w.1), ja_L0, w.2) := by
  refine ja_mk ⟨by decide, rfl, rfl⟩ (Nat.le_of_ble_eq_true rfl) (lv := [(0, .int x0), (1, .int x1)]) rfl (fun C hl hx _ _ _ _ => ?_)
  subst hl; subst hx
  unfold f_LockPlanner_lockOf at hf
  refine ja_iconst (pc := 0) (n := 0) (v := 0) (by decide +kernel) (by decide +kernel) ?_
  refine ja_iload_n (pc := 1) (f := 0) (i := 0) 0 (by decide +kernel) rfl rfl ?_
  refine ja_iload_n (pc := 2) (f := 1) (i := 1) 1 (by decide +kernel) rfl rfl ?_
  refine ja_iconst (pc := 3) (n := (-1)) (v := (-1)) (by decide +kernel) (by decide +kernel) ?_
  refine ja_bind hf (fun v1 hv1 hf => ?_)
  refine ja_callSi (pc := 4) (idx := 92) (as := [.int (0 : Int32), .int x0, .int x1, .int (-1 : Int32)]) (st := []) (by decide +kernel) ks_Rule_pack lk_LockPlanner_92 ⟨by decide, by decide⟩ (c_Rule_pack _ _ (0 : Int32) x0 x1 (-1 : Int32)  hv1) rfl (Nat.le_of_ble_eq_true rfl) rfl ?_
  exact ja_ret (pc := 7) (some (.int v1.1)) .ireturn (by decide +kernel) rfl (by cases hf; rfl)
def f_LockPlanner_keepsRoutes (x0 : Nat) (x1 : Nat) (x2 : Nat) (x3 : Int32) (x4 : Int32) (sg : ja_S) : Option (Int32 × ja_S) := (f_Locking_copyFrom (ja_q x0 0) x2 sg).bind fun v1 => (f_Locking_enforce (ja_q x0 0) x3 v1).bind fun v2 => (f_Sheet_movableLevers x1 v2).bind fun v3 => (f_Search_explore x0 (0 : Int32) v3.1 v3.2).bind fun v4 => (f_Sheet_settableRoutes x1 x0 v4).bind fun v5 => (if (x4 &&& (v5.1 ^^^ (-1 : Int32))) = 0 then some ((1 : Int32), v5.2) else some ((0 : Int32), v5.2))
set_option maxRecDepth 4000 in
theorem c_LockPlanner_keepsRoutes (l : Launch) (x : ja_X) (x0 : Nat) (x1 : Nat) (x2 : Nat) (x3 : Int32) (x4 : Int32) {sg : ja_S} {w : Int32 × ja_S} (h0 : ja_ob ja_L0 4 x0) (h1 : ja_ob ja_L0 5 x1) (h2 : ja_ob ja_L0 2 x2) (hf : f_LockPlanner_keepsRoutes x0 x1 x2 x3 x4 sg = some w) : ja_Ct l x y_LockPlanner_keepsRoutes M_LockPlanner_keepsRoutes [.ref x0, .ref x1, .ref x2, .int x3, .int x4] ja_L0 sg (some (.int w.1), ja_L0, w.2) := by
  refine ja_mk ⟨by decide, rfl, rfl⟩ (Nat.le_of_ble_eq_true rfl) (lv := [(0, .ref x0), (1, .ref x1), (2, .ref x2), (3, .int x3), (4, .int x4)]) rfl (fun C hl hx _ _ _ _ => ?_)
  subst hl; subst hx
  unfold f_LockPlanner_keepsRoutes at hf
  refine ja_aload_n (pc := 0) (f := 0) (i := 0) 0 (by decide +kernel) rfl rfl ?_
  refine ja_getr (pc := 1) (idx := 57) (t := 4) (j := 0) (by decide +kernel) fd_LockPlanner_57 h0 (fr_4_0 h0) ?_
  refine ja_aload_n (pc := 4) (f := 2) (i := 2) 2 (by decide +kernel) rfl rfl ?_
  refine ja_bind hf (fun v1 hv1 hf => ?_)
  refine ja_callVv (pc := 5) (idx := 62) (t := 2) (b := (ja_q x0 0)) (as := [.ref x2]) (st := []) (by decide +kernel) kv_Locking_copyFrom lk_LockPlanner_62 ⟨by decide, by decide⟩ (c_Locking_copyFrom _ _ (ja_q x0 0) x2 (fk_4_0 h0) h2 hv1) (fk_4_0 h0) rfl (Nat.le_of_ble_eq_true rfl) rfl ?_
  refine ja_aload_n (pc := 8) (f := 0) (i := 0) 0 (by decide +kernel) rfl rfl ?_
  refine ja_getr (pc := 9) (idx := 57) (t := 4) (j := 0) (by decide +kernel) fd_LockPlanner_57 h0 (fr_4_0 h0) ?_
  refine ja_iload_n (pc := 12) (f := 3) (i := 3) 3 (by decide +kernel) rfl rfl ?_
  refine ja_bind hf (fun v2 hv2 hf => ?_)
  refine ja_callVv (pc := 13) (idx := 66) (t := 2) (b := (ja_q x0 0)) (as := [.int x3]) (st := []) (by decide +kernel) kv_Locking_enforce lk_LockPlanner_66 ⟨by decide, by decide⟩ (c_Locking_enforce _ _ (ja_q x0 0) x3 (fk_4_0 h0) hv2) (fk_4_0 h0) rfl (Nat.le_of_ble_eq_true rfl) rfl ?_
  refine ja_aload_n (pc := 16) (f := 0) (i := 0) 0 (by decide +kernel) rfl rfl ?_
  refine ja_iconst (pc := 17) (n := 0) (v := 0) (by decide +kernel) (by decide +kernel) ?_
  refine ja_aload_n (pc := 18) (f := 1) (i := 1) 1 (by decide +kernel) rfl rfl ?_
  refine ja_bind hf (fun v3 hv3 hf => ?_)
  refine ja_callVi (pc := 19) (idx := 70) (t := 5) (b := x1) (as := []) (st := [.int (0 : Int32), .ref x0]) (by decide +kernel) kv_Sheet_movableLevers lk_LockPlanner_70 ⟨by decide, by decide⟩ (c_Sheet_movableLevers _ _ x1 h1 hv3) h1 rfl (Nat.le_of_ble_eq_true rfl) rfl ?_
  refine ja_bind hf (fun v4 hv4 hf => ?_)
  refine ja_callVv (pc := 22) (idx := 74) (t := 4) (b := x0) (as := [.int (0 : Int32), .int v3.1]) (st := []) (by decide +kernel) kv_Search_explore lk_LockPlanner_74 ⟨by decide, by decide⟩ (c_Search_explore _ _ x0 (0 : Int32) v3.1 h0 hv4) h0 rfl (Nat.le_of_ble_eq_true rfl) rfl ?_
  refine ja_iload (pc := 25) (i := 4) 4 (by decide +kernel) rfl ?_
  refine ja_aload_n (pc := 27) (f := 1) (i := 1) 1 (by decide +kernel) rfl rfl ?_
  refine ja_aload_n (pc := 28) (f := 0) (i := 0) 0 (by decide +kernel) rfl rfl ?_
  refine ja_bind hf (fun v5 hv5 hf => ?_)
  refine ja_callVi (pc := 29) (idx := 78) (t := 5) (b := x1) (as := [.ref x0]) (st := [.int x4]) (by decide +kernel) kv_Sheet_settableRoutes lk_LockPlanner_78 ⟨by decide, by decide⟩ (c_Sheet_settableRoutes _ _ x1 x0 h1 h0 hv5) h1 rfl (Nat.le_of_ble_eq_true rfl) rfl ?_
  refine ja_iconst (pc := 32) (n := (-1)) (v := (-1)) (by decide +kernel) (by decide +kernel) ?_
  refine ja_ixor (pc := 33) (by decide +kernel) ?_
  refine ja_iand (pc := 34) (by decide +kernel) ?_
  refine ja_if_ne (pc := 35) (off := 7) 42 (by decide +kernel) (by decide) hf (fun hf => ?_) (fun hf => ?_)
  · refine ja_iconst (pc := 42) (n := 0) (v := 0) (by decide +kernel) (by decide +kernel) ?_
    exact ja_ret (pc := 43) (some (.int (0 : Int32))) .ireturn (by decide +kernel) rfl (by cases hf; rfl)
  · refine ja_iconst (pc := 38) (n := 1) (v := 1) (by decide +kernel) (by decide +kernel) ?_
    refine ja_goto (pc := 39) (off := 4) 43 (by decide +kernel) (by decide) ?_
    exact ja_ret (pc := 43) (some (.int (1 : Int32))) .ireturn (by decide +kernel) rfl (by cases hf; rfl)
def f_LockPlanner_propose_B83 (k47 : Nat → Nat → Nat → Int32 → Int32 → Int32 → Int32 → Int32 → ja_S → Option (Int32 × ja_S)) (x1 : Nat) (x2 : Nat) (x4 : Nat) (x5 : Int32) (x6 : Int32) (x7 : Int32) (x8 : Int32) (x9 : Int32) (y0 : Int32) (sg : ja_S) : Option (Int32 × ja_S) := (if y0 = 0 then k47 x1 x2 x4 x5 x6 x7 x8 (x9 + 1) sg else (f_LockPlanner_lockOf x8 x9 sg).bind fun v1 => (f_LockPlanner_keepsRoutes x1 x2 x4 v1.1 x5 v1.2).bind fun v2 => (if v2.1 = 0 then k47 x1 x2 x4 x5 x6 x7 x8 (x9 + 1) v2.2 else (f_Frame_leverPair x8 x9 v2.2).bind fun v3 => some (v3.1, v3.2)))
set_option maxRecDepth 4000 in
theorem w_LockPlanner_propose_B83 (C : ja_C) {w : Int32 × ja_S} {k47 : Nat → Nat → Nat → Int32 → Int32 → Int32 → Int32 → Int32 → ja_S → Option (Int32 × ja_S)} (e47 : ∀ (x1 : Nat) (x2 : Nat) (x4 : Nat) (x5 : Int32) (x6 : Int32) (x7 : Int32) (x8 : Int32) (x9 : Int32) (sg : ja_S), ja_ob ja_L0 4 x1 → ja_ob ja_L0 5 x2 → ja_ob ja_L0 2 x4 → k47 x1 x2 x4 x5 x6 x7 x8 x9 sg = some w → ja_J M_LockPlanner_propose C 47 [(1, .ref x1), (2, .ref x2), (4, .ref x4), (5, .int x5), (6, .int x6), (7, .int x7), (8, .int x8), (9, .int x9)] [] ja_L0 sg (some (.int w.1), ja_L0, w.2))  (x1 : Nat) (x2 : Nat) (x4 : Nat) (x5 : Int32) (x6 : Int32) (x7 : Int32) (x8 : Int32) (x9 : Int32) (y0 : Int32) (sg : ja_S) (h1 : ja_ob ja_L0 4 x1) (h2 : ja_ob ja_L0 5 x2) (h4 : ja_ob ja_L0 2 x4) (hf : f_LockPlanner_propose_B83 k47 x1 x2 x4 x5 x6 x7 x8 x9 y0 sg = some w) : ja_J M_LockPlanner_propose C 83 [(1, .ref x1), (2, .ref x2), (4, .ref x4), (5, .int x5), (6, .int x6), (7, .int x7), (8, .int x8), (9, .int x9)] [.int y0] ja_L0 sg (some (.int w.1), ja_L0, w.2) := by
  unfold f_LockPlanner_propose_B83 at hf
  refine ja_istore (pc := 83) (i := 10) (lv' := [(10, .int y0), (1, .ref x1), (2, .ref x2), (4, .ref x4), (5, .int x5), (6, .int x6), (7, .int x7), (8, .int x8), (9, .int x9)]) (by decide +kernel) (by decide) rfl ?_
  refine ja_iload (pc := 85) (i := 10) 0 (by decide +kernel) rfl ?_
  refine ja_if_eq (pc := 87) (off := 30) 117 (by decide +kernel) (by decide) hf (fun hf => ?_) (fun hf => ?_)
  · refine ja_iinc (pc := 117) (i := 9) (n := 1) (v := x9 + 1) (lv' := [(9, .int (x9 + 1)), (10, .int y0), (1, .ref x1), (2, .ref x2), (4, .ref x4), (5, .int x5), (6, .int x6), (7, .int x7), (8, .int x8)]) 8 (by decide +kernel) rfl rfl (by decide) rfl ?_
    refine ja_goto (pc := 120) (off := (-73)) 47 (by decide +kernel) (by decide) ?_
    refine ja_lv [2, 3, 4, 5, 6, 7, 8, 0] rfl ?_
    exact e47 x1 x2 x4 x5 x6 x7 x8 (x9 + 1) sg h1 h2 h4 hf
  · refine ja_aload_n (pc := 90) (f := 1) (i := 1) 1 (by decide +kernel) rfl rfl ?_
    refine ja_aload_n (pc := 91) (f := 2) (i := 2) 2 (by decide +kernel) rfl rfl ?_
    refine ja_aload (pc := 92) (i := 4) 3 (by decide +kernel) rfl ?_
    refine ja_iload (pc := 94) (i := 8) 7 (by decide +kernel) rfl ?_
    refine ja_iload (pc := 96) (i := 9) 8 (by decide +kernel) rfl ?_
    refine ja_bind hf (fun v1 hv1 hf => ?_)
    refine ja_callSi (pc := 98) (idx := 46) (as := [.int x8, .int x9]) (st := [.ref x4, .ref x2, .ref x1]) (by decide +kernel) ks_LockPlanner_lockOf lk_LockPlanner_46 ⟨by decide, by decide⟩ (c_LockPlanner_lockOf _ _ x8 x9  hv1) rfl (Nat.le_of_ble_eq_true rfl) rfl ?_
    refine ja_iload (pc := 101) (i := 5) 4 (by decide +kernel) rfl ?_
    refine ja_bind hf (fun v2 hv2 hf => ?_)
    refine ja_callSi (pc := 103) (idx := 50) (as := [.ref x1, .ref x2, .ref x4, .int v1.1, .int x5]) (st := []) (by decide +kernel) ks_LockPlanner_keepsRoutes lk_LockPlanner_50 ⟨by decide, by decide⟩ (c_LockPlanner_keepsRoutes _ _ x1 x2 x4 v1.1 x5 h1 h2 h4 hv2) rfl (Nat.le_of_ble_eq_true rfl) rfl ?_
    refine ja_if_eq (pc := 106) (off := 11) 117 (by decide +kernel) (by decide) hf (fun hf => ?_) (fun hf => ?_)
    · refine ja_iinc (pc := 117) (i := 9) (n := 1) (v := x9 + 1) (lv' := [(9, .int (x9 + 1)), (10, .int y0), (1, .ref x1), (2, .ref x2), (4, .ref x4), (5, .int x5), (6, .int x6), (7, .int x7), (8, .int x8)]) 8 (by decide +kernel) rfl rfl (by decide) rfl ?_
      refine ja_goto (pc := 120) (off := (-73)) 47 (by decide +kernel) (by decide) ?_
      refine ja_lv [2, 3, 4, 5, 6, 7, 8, 0] rfl ?_
      exact e47 x1 x2 x4 x5 x6 x7 x8 (x9 + 1) v2.2 h1 h2 h4 hf
    · refine ja_iload (pc := 109) (i := 8) 7 (by decide +kernel) rfl ?_
      refine ja_iload (pc := 111) (i := 9) 8 (by decide +kernel) rfl ?_
      refine ja_bind hf (fun v3 hv3 hf => ?_)
      refine ja_callNi (pc := 113) (idx := 54) (as := [.int x8, .int x9]) (st := []) 8 (by decide +kernel) ks_Frame_leverPair rfl ⟨by decide, by decide⟩ (c_Frame_leverPair _ _ x8 x9  hv3) rfl (Nat.le_of_ble_eq_true rfl) rfl ?_
      exact ja_ret (pc := 116) (some (.int v3.1)) .ireturn (by decide +kernel) rfl (by cases hf; rfl)
def f_LockPlanner_propose_B82 (k47 : Nat → Nat → Nat → Int32 → Int32 → Int32 → Int32 → Int32 → ja_S → Option (Int32 × ja_S)) (x1 : Nat) (x2 : Nat) (x4 : Nat) (x5 : Int32) (x6 : Int32) (x7 : Int32) (x8 : Int32) (x9 : Int32) (sg : ja_S) : Option (Int32 × ja_S) := f_LockPlanner_propose_B83 k47 x1 x2 x4 x5 x6 x7 x8 x9 (0 : Int32) sg
set_option maxRecDepth 4000 in
theorem w_LockPlanner_propose_B82 (C : ja_C) {w : Int32 × ja_S} {k47 : Nat → Nat → Nat → Int32 → Int32 → Int32 → Int32 → Int32 → ja_S → Option (Int32 × ja_S)} (e47 : ∀ (x1 : Nat) (x2 : Nat) (x4 : Nat) (x5 : Int32) (x6 : Int32) (x7 : Int32) (x8 : Int32) (x9 : Int32) (sg : ja_S), ja_ob ja_L0 4 x1 → ja_ob ja_L0 5 x2 → ja_ob ja_L0 2 x4 → k47 x1 x2 x4 x5 x6 x7 x8 x9 sg = some w → ja_J M_LockPlanner_propose C 47 [(1, .ref x1), (2, .ref x2), (4, .ref x4), (5, .int x5), (6, .int x6), (7, .int x7), (8, .int x8), (9, .int x9)] [] ja_L0 sg (some (.int w.1), ja_L0, w.2))  (x1 : Nat) (x2 : Nat) (x4 : Nat) (x5 : Int32) (x6 : Int32) (x7 : Int32) (x8 : Int32) (x9 : Int32) (sg : ja_S) (h1 : ja_ob ja_L0 4 x1) (h2 : ja_ob ja_L0 5 x2) (h4 : ja_ob ja_L0 2 x4) (hf : f_LockPlanner_propose_B82 k47 x1 x2 x4 x5 x6 x7 x8 x9 sg = some w) : ja_J M_LockPlanner_propose C 82 [(1, .ref x1), (2, .ref x2), (4, .ref x4), (5, .int x5), (6, .int x6), (7, .int x7), (8, .int x8), (9, .int x9)] [] ja_L0 sg (some (.int w.1), ja_L0, w.2) := by
  unfold f_LockPlanner_propose_B82 at hf
  refine ja_iconst (pc := 82) (n := 0) (v := 0) (by decide +kernel) (by decide +kernel) ?_
  exact w_LockPlanner_propose_B83 C e47 x1 x2 x4 x5 x6 x7 x8 x9 (0 : Int32) sg h1 h2 h4 hf
def f_LockPlanner_propose_L47 (k37 : Nat → Nat → Nat → Int32 → Int32 → Int32 → Int32 → ja_S → Option (Int32 × ja_S)) : Nat → Nat → Nat → Nat → Int32 → Int32 → Int32 → Int32 → Int32 → ja_S → Option (Int32 × ja_S)
  | 0, _, _, _, _, _, _, _, _, _ => none
  | n + 1, x1, x2, x4, x5, x6, x7, x8, x9, sg => (if (12 : Int32) ≤ x9 then k37 x1 x2 x4 x5 x6 x7 (x8 + 1) sg else (if x8 = x9 then f_LockPlanner_propose_B82 (f_LockPlanner_propose_L47 k37 n) x1 x2 x4 x5 x6 x7 x8 x9 sg else (if (((x6 >>> (x8 &&& 31)) &&& (x7 >>> (x9 &&& 31))) &&& (1 : Int32)) = (1 : Int32) then f_LockPlanner_propose_B83 (f_LockPlanner_propose_L47 k37 n) x1 x2 x4 x5 x6 x7 x8 x9 (1 : Int32) sg else f_LockPlanner_propose_B82 (f_LockPlanner_propose_L47 k37 n) x1 x2 x4 x5 x6 x7 x8 x9 sg)))
set_option maxRecDepth 4000 in
theorem w_LockPlanner_propose_L47 (C : ja_C) {w : Int32 × ja_S} {k37 : Nat → Nat → Nat → Int32 → Int32 → Int32 → Int32 → ja_S → Option (Int32 × ja_S)} (e37 : ∀ (x1 : Nat) (x2 : Nat) (x4 : Nat) (x5 : Int32) (x6 : Int32) (x7 : Int32) (x8 : Int32) (sg : ja_S), ja_ob ja_L0 4 x1 → ja_ob ja_L0 5 x2 → ja_ob ja_L0 2 x4 → k37 x1 x2 x4 x5 x6 x7 x8 sg = some w → ja_J M_LockPlanner_propose C 37 [(1, .ref x1), (2, .ref x2), (4, .ref x4), (5, .int x5), (6, .int x6), (7, .int x7), (8, .int x8)] [] ja_L0 sg (some (.int w.1), ja_L0, w.2))  (n : Nat) : ∀ (x1 : Nat) (x2 : Nat) (x4 : Nat) (x5 : Int32) (x6 : Int32) (x7 : Int32) (x8 : Int32) (x9 : Int32) (sg : ja_S), ja_ob ja_L0 4 x1 → ja_ob ja_L0 5 x2 → ja_ob ja_L0 2 x4 → f_LockPlanner_propose_L47 k37 n x1 x2 x4 x5 x6 x7 x8 x9 sg = some w → ja_J M_LockPlanner_propose C 47 [(1, .ref x1), (2, .ref x2), (4, .ref x4), (5, .int x5), (6, .int x6), (7, .int x7), (8, .int x8), (9, .int x9)] [] ja_L0 sg (some (.int w.1), ja_L0, w.2) := by
  induction n with
  | zero => intro _ _ _ _ _ _ _ _ _ _ _ _ hf; exact absurd (show (none : Option _) = some w from hf) (by simp)
  | succ n ih =>
    intro x1 x2 x4 x5 x6 x7 x8 x9 sg h1 h2 h4 hf
    unfold f_LockPlanner_propose_L47 at hf
    refine ja_iload (pc := 47) (i := 9) 7 (by decide +kernel) rfl ?_
    refine ja_bipush (pc := 49) (n := 12) (v := 12) (by decide +kernel) (by decide +kernel) ?_
    refine ja_icmp_ge (pc := 51) (off := 72) 123 (by decide +kernel) (by decide) hf (fun hf => ?_) (fun hf => ?_)
    · refine ja_iinc (pc := 123) (i := 8) (n := 1) (v := x8 + 1) (lv' := [(8, .int (x8 + 1)), (1, .ref x1), (2, .ref x2), (4, .ref x4), (5, .int x5), (6, .int x6), (7, .int x7), (9, .int x9)]) 6 (by decide +kernel) rfl rfl (by decide) rfl ?_
      refine ja_goto (pc := 126) (off := (-89)) 37 (by decide +kernel) (by decide) ?_
      refine ja_lv [1, 2, 3, 4, 5, 6, 0] rfl ?_
      exact e37 x1 x2 x4 x5 x6 x7 (x8 + 1) sg h1 h2 h4 hf
    · refine ja_iload (pc := 54) (i := 8) 6 (by decide +kernel) rfl ?_
      refine ja_iload (pc := 56) (i := 9) 7 (by decide +kernel) rfl ?_
      refine ja_icmp_eq (pc := 58) (off := 24) 82 (by decide +kernel) (by decide) hf (fun hf => ?_) (fun hf => ?_)
      · exact w_LockPlanner_propose_B82 C ih x1 x2 x4 x5 x6 x7 x8 x9 sg h1 h2 h4 hf
      · refine ja_iload (pc := 61) (i := 6) 4 (by decide +kernel) rfl ?_
        refine ja_iload (pc := 63) (i := 8) 6 (by decide +kernel) rfl ?_
        refine ja_ishr (pc := 65) (by decide +kernel) ?_
        refine ja_iload (pc := 66) (i := 7) 5 (by decide +kernel) rfl ?_
        refine ja_iload (pc := 68) (i := 9) 7 (by decide +kernel) rfl ?_
        refine ja_ishr (pc := 70) (by decide +kernel) ?_
        refine ja_iand (pc := 71) (by decide +kernel) ?_
        refine ja_iconst (pc := 72) (n := 1) (v := 1) (by decide +kernel) (by decide +kernel) ?_
        refine ja_iand (pc := 73) (by decide +kernel) ?_
        refine ja_iconst (pc := 74) (n := 1) (v := 1) (by decide +kernel) (by decide +kernel) ?_
        refine ja_icmp_ne (pc := 75) (off := 7) 82 (by decide +kernel) (by decide) hf (fun hf => ?_) (fun hf => ?_)
        · exact w_LockPlanner_propose_B82 C ih x1 x2 x4 x5 x6 x7 x8 x9 sg h1 h2 h4 hf
        · refine ja_iconst (pc := 78) (n := 1) (v := 1) (by decide +kernel) (by decide +kernel) ?_
          refine ja_goto (pc := 79) (off := 4) 83 (by decide +kernel) (by decide) ?_
          exact w_LockPlanner_propose_B83 C ih x1 x2 x4 x5 x6 x7 x8 x9 (1 : Int32) sg h1 h2 h4 hf
def f_LockPlanner_propose_L37  : Nat → Nat → Nat → Nat → Int32 → Int32 → Int32 → Int32 → ja_S → Option (Int32 × ja_S)
  | 0, _, _, _, _, _, _, _, _ => none
  | n + 1, x1, x2, x4, x5, x6, x7, x8, sg => (if (12 : Int32) ≤ x8 then some ((-1 : Int32), sg) else f_LockPlanner_propose_L47 (f_LockPlanner_propose_L37  n) ja_FU x1 x2 x4 x5 x6 x7 x8 (0 : Int32) sg)
set_option maxRecDepth 4000 in
theorem w_LockPlanner_propose_L37 (C : ja_C) {w : Int32 × ja_S}    (n : Nat) : ∀ (x1 : Nat) (x2 : Nat) (x4 : Nat) (x5 : Int32) (x6 : Int32) (x7 : Int32) (x8 : Int32) (sg : ja_S), ja_ob ja_L0 4 x1 → ja_ob ja_L0 5 x2 → ja_ob ja_L0 2 x4 → f_LockPlanner_propose_L37  n x1 x2 x4 x5 x6 x7 x8 sg = some w → ja_J M_LockPlanner_propose C 37 [(1, .ref x1), (2, .ref x2), (4, .ref x4), (5, .int x5), (6, .int x6), (7, .int x7), (8, .int x8)] [] ja_L0 sg (some (.int w.1), ja_L0, w.2) := by
  induction n with
  | zero => intro _ _ _ _ _ _ _ _ _ _ _ hf; exact absurd (show (none : Option _) = some w from hf) (by simp)
  | succ n ih =>
    intro x1 x2 x4 x5 x6 x7 x8 sg h1 h2 h4 hf
    unfold f_LockPlanner_propose_L37 at hf
    refine ja_iload (pc := 37) (i := 8) 6 (by decide +kernel) rfl ?_
    refine ja_bipush (pc := 39) (n := 12) (v := 12) (by decide +kernel) (by decide +kernel) ?_
    refine ja_icmp_ge (pc := 41) (off := 88) 129 (by decide +kernel) (by decide) hf (fun hf => ?_) (fun hf => ?_)
    · refine ja_iconst (pc := 129) (n := (-1)) (v := (-1)) (by decide +kernel) (by decide +kernel) ?_
      exact ja_ret (pc := 130) (some (.int (-1 : Int32))) .ireturn (by decide +kernel) rfl (by cases hf; rfl)
    · refine ja_iconst (pc := 44) (n := 0) (v := 0) (by decide +kernel) (by decide +kernel) ?_
      refine ja_istore (pc := 45) (i := 9) (lv' := [(9, .int (0 : Int32)), (1, .ref x1), (2, .ref x2), (4, .ref x4), (5, .int x5), (6, .int x6), (7, .int x7), (8, .int x8)]) (by decide +kernel) (by decide) rfl ?_
      refine ja_lv [1, 2, 3, 4, 5, 6, 7, 0] rfl ?_
      exact w_LockPlanner_propose_L47 C ih ja_FU x1 x2 x4 x5 x6 x7 x8 (0 : Int32) sg h1 h2 h4 hf
def f_LockPlanner_propose (x0 : Nat) (x1 : Nat) (x2 : Nat) (x3 : Int32) (x4 : Nat) (x5 : Int32) (sg : ja_S) : Option (Int32 × ja_S) := (f_Sheet_hasConflict x2 x3 sg).bind fun v1 => (if v1.1 = 0 then some ((-1 : Int32), v1.2) else (ja_ld ja_L0 v1.2 (ja_q x2 6) x3).bind fun v2 => (f_Sheet_leversOfRoute x2 v2 v1.2).bind fun v3 => (ja_ld ja_L0 v3.2 (ja_q x2 7) x3).bind fun v4 => (f_Sheet_leversOfRoute x2 v4 v3.2).bind fun v5 => f_LockPlanner_propose_L37  ja_FU x1 x2 x4 x5 v3.1 v5.1 (0 : Int32) v5.2)
set_option maxRecDepth 4000 in
theorem c_LockPlanner_propose (l : Launch) (x : ja_X) (x0 : Nat) (x1 : Nat) (x2 : Nat) (x3 : Int32) (x4 : Nat) (x5 : Int32) {sg : ja_S} {w : Int32 × ja_S} (h0 : ja_ob ja_L0 1 x0) (h1 : ja_ob ja_L0 4 x1) (h2 : ja_ob ja_L0 5 x2) (h4 : ja_ob ja_L0 2 x4) (hf : f_LockPlanner_propose x0 x1 x2 x3 x4 x5 sg = some w) : ja_Ct l x y_LockPlanner_propose M_LockPlanner_propose [.ref x0, .ref x1, .ref x2, .int x3, .ref x4, .int x5] ja_L0 sg (some (.int w.1), ja_L0, w.2) := by
  refine ja_mk ⟨by decide, rfl, rfl⟩ (Nat.le_of_ble_eq_true rfl) (lv := [(0, .ref x0), (1, .ref x1), (2, .ref x2), (3, .int x3), (4, .ref x4), (5, .int x5)]) rfl (fun C hl hx _ _ _ _ => ?_)
  subst hl; subst hx
  unfold f_LockPlanner_propose at hf
  refine ja_aload_n (pc := 0) (f := 2) (i := 2) 2 (by decide +kernel) rfl rfl ?_
  refine ja_iload_n (pc := 1) (f := 3) (i := 3) 3 (by decide +kernel) rfl rfl ?_
  refine ja_bind hf (fun v1 hv1 hf => ?_)
  refine ja_callVi (pc := 2) (idx := 30) (t := 5) (b := x2) (as := [.int x3]) (st := []) (by decide +kernel) kv_Sheet_hasConflict lk_LockPlanner_30 ⟨by decide, by decide⟩ (c_Sheet_hasConflict _ _ x2 x3 h2 hv1) h2 rfl (Nat.le_of_ble_eq_true rfl) rfl ?_
  refine ja_if_ne (pc := 5) (off := 5) 10 (by decide +kernel) (by decide) hf (fun hf => ?_) (fun hf => ?_)
  · refine ja_aload_n (pc := 10) (f := 2) (i := 2) 2 (by decide +kernel) rfl rfl ?_
    refine ja_aload_n (pc := 11) (f := 2) (i := 2) 2 (by decide +kernel) rfl rfl ?_
    refine ja_getr (pc := 12) (idx := 36) (t := 5) (j := 6) (by decide +kernel) fd_LockPlanner_36 h2 (fr_5_6 h2) ?_
    refine ja_iload_n (pc := 15) (f := 3) (i := 3) 3 (by decide +kernel) rfl rfl ?_
    refine ja_bind hf (fun v2 hv2 hf => ?_)
    refine ja_iald (pc := 16) (by decide +kernel) (fk_5_6 h2) hv2 ?_
    refine ja_bind hf (fun v3 hv3 hf => ?_)
    refine ja_callVi (pc := 17) (idx := 39) (t := 5) (b := x2) (as := [.int v2]) (st := []) (by decide +kernel) kv_Sheet_leversOfRoute lk_LockPlanner_39 ⟨by decide, by decide⟩ (c_Sheet_leversOfRoute _ _ x2 v2 h2 hv3) h2 rfl (Nat.le_of_ble_eq_true rfl) rfl ?_
    refine ja_istore (pc := 20) (i := 6) (lv' := [(6, .int v3.1), (0, .ref x0), (1, .ref x1), (2, .ref x2), (3, .int x3), (4, .ref x4), (5, .int x5)]) (by decide +kernel) (by decide) rfl ?_
    refine ja_aload_n (pc := 22) (f := 2) (i := 2) 3 (by decide +kernel) rfl rfl ?_
    refine ja_aload_n (pc := 23) (f := 2) (i := 2) 3 (by decide +kernel) rfl rfl ?_
    refine ja_getr (pc := 24) (idx := 43) (t := 5) (j := 7) (by decide +kernel) fd_LockPlanner_43 h2 (fr_5_7 h2) ?_
    refine ja_iload_n (pc := 27) (f := 3) (i := 3) 4 (by decide +kernel) rfl rfl ?_
    refine ja_bind hf (fun v4 hv4 hf => ?_)
    refine ja_iald (pc := 28) (by decide +kernel) (fk_5_7 h2) hv4 ?_
    refine ja_bind hf (fun v5 hv5 hf => ?_)
    refine ja_callVi (pc := 29) (idx := 39) (t := 5) (b := x2) (as := [.int v4]) (st := []) (by decide +kernel) kv_Sheet_leversOfRoute lk_LockPlanner_39 ⟨by decide, by decide⟩ (c_Sheet_leversOfRoute _ _ x2 v4 h2 hv5) h2 rfl (Nat.le_of_ble_eq_true rfl) rfl ?_
    refine ja_istore (pc := 32) (i := 7) (lv' := [(7, .int v5.1), (6, .int v3.1), (0, .ref x0), (1, .ref x1), (2, .ref x2), (3, .int x3), (4, .ref x4), (5, .int x5)]) (by decide +kernel) (by decide) rfl ?_
    refine ja_iconst (pc := 34) (n := 0) (v := 0) (by decide +kernel) (by decide +kernel) ?_
    refine ja_istore (pc := 35) (i := 8) (lv' := [(8, .int (0 : Int32)), (7, .int v5.1), (6, .int v3.1), (0, .ref x0), (1, .ref x1), (2, .ref x2), (3, .int x3), (4, .ref x4), (5, .int x5)]) (by decide +kernel) (by decide) rfl ?_
    refine ja_lv [4, 5, 7, 8, 2, 1, 0] rfl ?_
    exact w_LockPlanner_propose_L37 C  ja_FU x1 x2 x4 x5 v3.1 v5.1 (0 : Int32) v5.2 h1 h2 h4 hf
  · refine ja_iconst (pc := 8) (n := (-1)) (v := (-1)) (by decide +kernel) (by decide +kernel) ?_
    exact ja_ret (pc := 9) (some (.int (-1 : Int32))) .ireturn (by decide +kernel) rfl (by cases hf; rfl)
