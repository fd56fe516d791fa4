def f_Model_laysDue (x0 : Nat) (sg : ja_S) : Option (ja_S) := (f_Model_usesSheet x0 sg).bind fun v1 => (f_Model_laysFrom x0 (0 : Int32) v1).bind fun v2 => (f_Model_settable x0 v2).bind fun v3 => (ja_pu v3.2 x0 37 v3.1).bind fun s4 => (f_Model_unprotected x0 s4).bind fun v5 => (ja_pu v5.2 x0 38 ((((1 : Int32) <<< ((s4.1 x0 2) &&& 31)) - (1 : Int32)) &&& (v5.1 ^^^ (-1 : Int32)))).bind fun s6 => some s6
set_option maxRecDepth 4000 in
theorem c_Model_laysDue (l : Launch) (x : ja_X) (x0 : Nat) {sg : ja_S} {w : ja_S} (h0 : ja_ob ja_L0 8 x0) (hf : f_Model_laysDue x0 sg = some w) : ja_Ct l x y_Model_laysDue M_Model_laysDue [.ref x0] ja_L0 sg (none, ja_L0, w) := by
  refine ja_mk ⟨by decide, rfl, rfl⟩ (Nat.le_of_ble_eq_true rfl) (lv := [(0, .ref x0)]) rfl (fun C hl hx _ _ _ _ => ?_)
  subst hl; subst hx
  unfold f_Model_laysDue at hf
  refine ja_aload_n (pc := 0) (f := 0) (i := 0) 0 (by decide +kernel) rfl rfl ?_
  refine ja_bind hf (fun v1 hv1 hf => ?_)
  refine ja_callVv (pc := 1) (idx := 74) (t := 8) (b := x0) (as := []) (st := []) (by decide +kernel) kv_Model_usesSheet lk_Model_74 ⟨by decide, by decide⟩ (c_Model_usesSheet _ _ x0 h0 hv1) h0 rfl (Nat.le_of_ble_eq_true rfl) rfl ?_
  refine ja_aload_n (pc := 4) (f := 0) (i := 0) 0 (by decide +kernel) rfl rfl ?_
  refine ja_iconst (pc := 5) (n := 0) (v := 0) (by decide +kernel) (by decide +kernel) ?_
  refine ja_bind hf (fun v2 hv2 hf => ?_)
  refine ja_callVv (pc := 6) (idx := 248) (t := 8) (b := x0) (as := [.int (0 : Int32)]) (st := []) (by decide +kernel) kv_Model_laysFrom lk_Model_248 ⟨by decide, by decide⟩ (c_Model_laysFrom _ _ x0 (0 : Int32) h0 hv2) h0 rfl (Nat.le_of_ble_eq_true rfl) rfl ?_
  refine ja_aload_n (pc := 9) (f := 0) (i := 0) 0 (by decide +kernel) rfl rfl ?_
  refine ja_aload_n (pc := 10) (f := 0) (i := 0) 0 (by decide +kernel) rfl rfl ?_
  refine ja_bind hf (fun v3 hv3 hf => ?_)
  refine ja_callVi (pc := 11) (idx := 271) (t := 8) (b := x0) (as := []) (st := [.ref x0]) (by decide +kernel) kv_Model_settable lk_Model_271 ⟨by decide, by decide⟩ (c_Model_settable _ _ x0 h0 hv3) h0 rfl (Nat.le_of_ble_eq_true rfl) rfl ?_
  refine ja_bind hf (fun s4 hs4 hf => ?_)
  refine ja_puti2 (pc := 14) (idx := 305) (t := 8) (j := 37) (by decide +kernel) fd_Model_305 h0 ⟨rfl, rfl⟩ hs4 ?_
  refine ja_aload_n (pc := 17) (f := 0) (i := 0) 0 (by decide +kernel) rfl rfl ?_
  refine ja_iconst (pc := 18) (n := 1) (v := 1) (by decide +kernel) (by decide +kernel) ?_
  refine ja_aload_n (pc := 19) (f := 0) (i := 0) 0 (by decide +kernel) rfl rfl ?_
  refine ja_geti (pc := 20) (idx := 183) (t := 8) (j := 2) (by decide +kernel) fd_Model_183 h0 ?_
  refine ja_ishl (pc := 23) (by decide +kernel) ?_
  refine ja_iconst (pc := 24) (n := 1) (v := 1) (by decide +kernel) (by decide +kernel) ?_
  refine ja_isub (pc := 25) (by decide +kernel) ?_
  refine ja_aload_n (pc := 26) (f := 0) (i := 0) 0 (by decide +kernel) rfl rfl ?_
  refine ja_bind hf (fun v5 hv5 hf => ?_)
  refine ja_callVi (pc := 27) (idx := 265) (t := 8) (b := x0) (as := []) (st := [.int (((1 : Int32) <<< ((s4.1 x0 2) &&& 31)) - (1 : Int32)), .ref x0]) (by decide +kernel) kv_Model_unprotected lk_Model_265 ⟨by decide, by decide⟩ (c_Model_unprotected _ _ x0 h0 hv5) h0 rfl (Nat.le_of_ble_eq_true rfl) rfl ?_
  refine ja_iconst (pc := 30) (n := (-1)) (v := (-1)) (by decide +kernel) (by decide +kernel) ?_
  refine ja_ixor (pc := 31) (by decide +kernel) ?_
  refine ja_iand (pc := 32) (by decide +kernel) ?_
  refine ja_bind hf (fun s6 hs6 hf => ?_)
  refine ja_puti2 (pc := 33) (idx := 308) (t := 8) (j := 38) (by decide +kernel) fd_Model_308 h0 ⟨rfl, rfl⟩ hs6 ?_
  exact ja_ret (pc := 36) none .return_ (by decide +kernel) rfl (by cases hf; rfl)
def f_Model_isDue (x0 : Nat) (sg : ja_S) : Option (Int32 × ja_S) := (f_Model_laysFrom x0 (0 : Int32) sg).bind fun v1 => (f_Model_settable x0 v1).bind fun v2 => (if ((v1.1 x0 37) &&& (v2.1 ^^^ (-1 : Int32))) = 0 then (f_Model_unprotected x0 v2.2).bind fun v3 => (if ((v2.2.1 x0 38) &&& v3.1) = 0 then some ((1 : Int32), v3.2) else some ((0 : Int32), v3.2)) else some ((0 : Int32), v2.2))
set_option maxRecDepth 4000 in
theorem c_Model_isDue (l : Launch) (x : ja_X) (x0 : Nat) {sg : ja_S} {w : Int32 × ja_S} (h0 : ja_ob ja_L0 8 x0) (hf : f_Model_isDue x0 sg = some w) : ja_Ct l x y_Model_isDue M_Model_isDue [.ref x0] ja_L0 sg (some (.int w.1), ja_L0, w.2) := by
  refine ja_mk ⟨by decide, rfl, rfl⟩ (Nat.le_of_ble_eq_true rfl) (lv := [(0, .ref x0)]) rfl (fun C hl hx _ _ _ _ => ?_)
  subst hl; subst hx
  unfold f_Model_isDue at hf
  refine ja_aload_n (pc := 0) (f := 0) (i := 0) 0 (by decide +kernel) rfl rfl ?_
  refine ja_iconst (pc := 1) (n := 0) (v := 0) (by decide +kernel) (by decide +kernel) ?_
  refine ja_bind hf (fun v1 hv1 hf => ?_)
  refine ja_callVv (pc := 2) (idx := 248) (t := 8) (b := x0) (as := [.int (0 : Int32)]) (st := []) (by decide +kernel) kv_Model_laysFrom lk_Model_248 ⟨by decide, by decide⟩ (c_Model_laysFrom _ _ x0 (0 : Int32) h0 hv1) h0 rfl (Nat.le_of_ble_eq_true rfl) rfl ?_
  refine ja_aload_n (pc := 5) (f := 0) (i := 0) 0 (by decide +kernel) rfl rfl ?_
  refine ja_geti (pc := 6) (idx := 305) (t := 8) (j := 37) (by decide +kernel) fd_Model_305 h0 ?_
  refine ja_aload_n (pc := 9) (f := 0) (i := 0) 0 (by decide +kernel) rfl rfl ?_
  refine ja_bind hf (fun v2 hv2 hf => ?_)
  refine ja_callVi (pc := 10) (idx := 271) (t := 8) (b := x0) (as := []) (st := [.int (v1.1 x0 37)]) (by decide +kernel) kv_Model_settable lk_Model_271 ⟨by decide, by decide⟩ (c_Model_settable _ _ x0 h0 hv2) h0 rfl (Nat.le_of_ble_eq_true rfl) rfl ?_
  refine ja_iconst (pc := 13) (n := (-1)) (v := (-1)) (by decide +kernel) (by decide +kernel) ?_
  refine ja_ixor (pc := 14) (by decide +kernel) ?_
  refine ja_iand (pc := 15) (by decide +kernel) ?_
  refine ja_if_ne (pc := 16) (off := 19) 35 (by decide +kernel) (by decide) hf (fun hf => ?_) (fun hf => ?_)
  · refine ja_iconst (pc := 35) (n := 0) (v := 0) (by decide +kernel) (by decide +kernel) ?_
    exact ja_ret (pc := 36) (some (.int (0 : Int32))) .ireturn (by decide +kernel) rfl (by cases hf; rfl)
  · refine ja_aload_n (pc := 19) (f := 0) (i := 0) 0 (by decide +kernel) rfl rfl ?_
    refine ja_geti (pc := 20) (idx := 308) (t := 8) (j := 38) (by decide +kernel) fd_Model_308 h0 ?_
    refine ja_aload_n (pc := 23) (f := 0) (i := 0) 0 (by decide +kernel) rfl rfl ?_
    refine ja_bind hf (fun v3 hv3 hf => ?_)
    refine ja_callVi (pc := 24) (idx := 265) (t := 8) (b := x0) (as := []) (st := [.int (v2.2.1 x0 38)]) (by decide +kernel) kv_Model_unprotected lk_Model_265 ⟨by decide, by decide⟩ (c_Model_unprotected _ _ x0 h0 hv3) h0 rfl (Nat.le_of_ble_eq_true rfl) rfl ?_
    refine ja_iand (pc := 27) (by decide +kernel) ?_
    refine ja_if_ne (pc := 28) (off := 7) 35 (by decide +kernel) (by decide) hf (fun hf => ?_) (fun hf => ?_)
    · refine ja_iconst (pc := 35) (n := 0) (v := 0) (by decide +kernel) (by decide +kernel) ?_
      exact ja_ret (pc := 36) (some (.int (0 : Int32))) .ireturn (by decide +kernel) rfl (by cases hf; rfl)
    · refine ja_iconst (pc := 31) (n := 1) (v := 1) (by decide +kernel) (by decide +kernel) ?_
      refine ja_goto (pc := 32) (off := 4) 36 (by decide +kernel) (by decide) ?_
      exact ja_ret (pc := 36) (some (.int (1 : Int32))) .ireturn (by decide +kernel) rfl (by cases hf; rfl)
def f_Model_lower (x0 : Nat) (x1 : Int32) (x2 : Int32) (sg : ja_S) : Option (Int32 × ja_S) := (if x2 ≤ x1 then some (x2, sg) else some (x1, sg))
set_option maxRecDepth 4000 in
theorem c_Model_lower (l : Launch) (x : ja_X) (x0 : Nat) (x1 : Int32) (x2 : Int32) {sg : ja_S} {w : Int32 × ja_S} (h0 : ja_ob ja_L0 8 x0) (hf : f_Model_lower x0 x1 x2 sg = some w) : ja_Ct l x y_Model_lower M_Model_lower [.ref x0, .int x1, .int x2] ja_L0 sg (some (.int w.1), ja_L0, w.2) := by
  refine ja_mk ⟨by decide, rfl, rfl⟩ (Nat.le_of_ble_eq_true rfl) (lv := [(0, .ref x0), (1, .int x1), (2, .int x2)]) rfl (fun C hl hx _ _ _ _ => ?_)
  subst hl; subst hx
  unfold f_Model_lower at hf
  refine ja_iload_n (pc := 0) (f := 1) (i := 1) 1 (by decide +kernel) rfl rfl ?_
  refine ja_iload_n (pc := 1) (f := 2) (i := 2) 2 (by decide +kernel) rfl rfl ?_
  refine ja_icmp_ge (pc := 2) (off := 7) 9 (by decide +kernel) (by decide) hf (fun hf => ?_) (fun hf => ?_)
  · refine ja_iload_n (pc := 9) (f := 2) (i := 2) 2 (by decide +kernel) rfl rfl ?_
    exact ja_ret (pc := 10) (some (.int x2)) .ireturn (by decide +kernel) rfl (by cases hf; rfl)
  · refine ja_iload_n (pc := 5) (f := 1) (i := 1) 1 (by decide +kernel) rfl rfl ?_
    refine ja_goto (pc := 6) (off := 4) 10 (by decide +kernel) (by decide) ?_
    exact ja_ret (pc := 10) (some (.int x1)) .ireturn (by decide +kernel) rfl (by cases hf; rfl)
def f_Model_higher (x0 : Nat) (x1 : Int32) (x2 : Int32) (sg : ja_S) : Option (Int32 × ja_S) := (if x2 ≤ x1 then some (x1, sg) else some (x2, sg))
set_option maxRecDepth 4000 in
theorem c_Model_higher (l : Launch) (x : ja_X) (x0 : Nat) (x1 : Int32) (x2 : Int32) {sg : ja_S} {w : Int32 × ja_S} (h0 : ja_ob ja_L0 8 x0) (hf : f_Model_higher x0 x1 x2 sg = some w) : ja_Ct l x y_Model_higher M_Model_higher [.ref x0, .int x1, .int x2] ja_L0 sg (some (.int w.1), ja_L0, w.2) := by
  refine ja_mk ⟨by decide, rfl, rfl⟩ (Nat.le_of_ble_eq_true rfl) (lv := [(0, .ref x0), (1, .int x1), (2, .int x2)]) rfl (fun C hl hx _ _ _ _ => ?_)
  subst hl; subst hx
  unfold f_Model_higher at hf
  refine ja_iload_n (pc := 0) (f := 1) (i := 1) 1 (by decide +kernel) rfl rfl ?_
  refine ja_iload_n (pc := 1) (f := 2) (i := 2) 2 (by decide +kernel) rfl rfl ?_
  refine ja_icmp_ge (pc := 2) (off := 7) 9 (by decide +kernel) (by decide) hf (fun hf => ?_) (fun hf => ?_)
  · refine ja_iload_n (pc := 9) (f := 1) (i := 1) 1 (by decide +kernel) rfl rfl ?_
    exact ja_ret (pc := 10) (some (.int x1)) .ireturn (by decide +kernel) rfl (by cases hf; rfl)
  · refine ja_iload_n (pc := 5) (f := 2) (i := 2) 2 (by decide +kernel) rfl rfl ?_
    refine ja_goto (pc := 6) (off := 4) 10 (by decide +kernel) (by decide) ?_
    exact ja_ret (pc := 10) (some (.int x2)) .ireturn (by decide +kernel) rfl (by cases hf; rfl)
def f_Model_isMergeable (x0 : Nat) (x1 : Int32) (x2 : Int32) (sg : ja_S) : Option (Int32 × ja_S) := (ja_pu sg x0 9 (0 : Int32)).bind fun s1 => (f_Model_isLever x0 x1 s1).bind fun v2 => (if v2.1 = 0 then some ((-2 : Int32), v2.2) else (f_Model_isLever x0 x2 v2.2).bind fun v3 => (if v3.1 = 0 then some ((-2 : Int32), v3.2) else (if x1 = x2 then some ((-3 : Int32), v3.2) else (f_Model_laysDue x0 v3.2).bind fun v4 => (f_Model_lower x0 x1 x2 v4).bind fun v5 => (f_Model_higher x0 x1 x2 v5.2).bind fun v6 => (f_Model_merges x0 v5.1 v6.1 v6.2).bind fun v7 => (f_Model_isDue x0 v7).bind fun v8 => (if v8.1 = 0 then some ((0 : Int32), v8.2) else some ((1 : Int32), v8.2)))))
set_option maxRecDepth 4000 in
theorem c_Model_isMergeable (l : Launch) (x : ja_X) (x0 : Nat) (x1 : Int32) (x2 : Int32) {sg : ja_S} {w : Int32 × ja_S} (h0 : ja_ob ja_L0 8 x0) (hf : f_Model_isMergeable x0 x1 x2 sg = some w) : ja_Ct l x y_Model_isMergeable M_Model_isMergeable [.ref x0, .int x1, .int x2] ja_L0 sg (some (.int w.1), ja_L0, w.2) := by
  refine ja_mk ⟨by decide, rfl, rfl⟩ (Nat.le_of_ble_eq_true rfl) (lv := [(0, .ref x0), (1, .int x1), (2, .int x2)]) rfl (fun C hl hx _ _ _ _ => ?_)
  subst hl; subst hx
  unfold f_Model_isMergeable at hf
  refine ja_aload_n (pc := 0) (f := 0) (i := 0) 0 (by decide +kernel) rfl rfl ?_
  refine ja_iconst (pc := 1) (n := 0) (v := 0) (by decide +kernel) (by decide +kernel) ?_
  refine ja_bind hf (fun s1 hs1 hf => ?_)
  refine ja_puti2 (pc := 2) (idx := 1) (t := 8) (j := 9) (by decide +kernel) fd_Model_1 h0 ⟨rfl, rfl⟩ hs1 ?_
  refine ja_aload_n (pc := 5) (f := 0) (i := 0) 0 (by decide +kernel) rfl rfl ?_
  refine ja_iload_n (pc := 6) (f := 1) (i := 1) 1 (by decide +kernel) rfl rfl ?_
  refine ja_bind hf (fun v2 hv2 hf => ?_)
  refine ja_callVi (pc := 7) (idx := 233) (t := 8) (b := x0) (as := [.int x1]) (st := []) (by decide +kernel) kv_Model_isLever lk_Model_233 ⟨by decide, by decide⟩ (c_Model_isLever _ _ x0 x1 h0 hv2) h0 rfl (Nat.le_of_ble_eq_true rfl) rfl ?_
  refine ja_if_eq (pc := 10) (off := 11) 21 (by decide +kernel) (by decide) hf (fun hf => ?_) (fun hf => ?_)
  · refine ja_bipush (pc := 21) (n := (-2)) (v := (-2)) (by decide +kernel) (by decide +kernel) ?_
    exact ja_ret (pc := 23) (some (.int (-2 : Int32))) .ireturn (by decide +kernel) rfl (by cases hf; rfl)
  · refine ja_aload_n (pc := 13) (f := 0) (i := 0) 0 (by decide +kernel) rfl rfl ?_
    refine ja_iload_n (pc := 14) (f := 2) (i := 2) 2 (by decide +kernel) rfl rfl ?_
    refine ja_bind hf (fun v3 hv3 hf => ?_)
    refine ja_callVi (pc := 15) (idx := 233) (t := 8) (b := x0) (as := [.int x2]) (st := []) (by decide +kernel) kv_Model_isLever lk_Model_233 ⟨by decide, by decide⟩ (c_Model_isLever _ _ x0 x2 h0 hv3) h0 rfl (Nat.le_of_ble_eq_true rfl) rfl ?_
    refine ja_if_ne (pc := 18) (off := 6) 24 (by decide +kernel) (by decide) hf (fun hf => ?_) (fun hf => ?_)
    · refine ja_iload_n (pc := 24) (f := 1) (i := 1) 1 (by decide +kernel) rfl rfl ?_
      refine ja_iload_n (pc := 25) (f := 2) (i := 2) 2 (by decide +kernel) rfl rfl ?_
      refine ja_icmp_ne (pc := 26) (off := 6) 32 (by decide +kernel) (by decide) hf (fun hf => ?_) (fun hf => ?_)
      · refine ja_aload_n (pc := 32) (f := 0) (i := 0) 0 (by decide +kernel) rfl rfl ?_
        refine ja_bind hf (fun v4 hv4 hf => ?_)
        refine ja_callVv (pc := 33) (idx := 311) (t := 8) (b := x0) (as := []) (st := []) (by decide +kernel) kv_Model_laysDue lk_Model_311 ⟨by decide, by decide⟩ (c_Model_laysDue _ _ x0 h0 hv4) h0 rfl (Nat.le_of_ble_eq_true rfl) rfl ?_
        refine ja_aload_n (pc := 36) (f := 0) (i := 0) 0 (by decide +kernel) rfl rfl ?_
        refine ja_aload_n (pc := 37) (f := 0) (i := 0) 0 (by decide +kernel) rfl rfl ?_
        refine ja_iload_n (pc := 38) (f := 1) (i := 1) 1 (by decide +kernel) rfl rfl ?_
        refine ja_iload_n (pc := 39) (f := 2) (i := 2) 2 (by decide +kernel) rfl rfl ?_
        refine ja_bind hf (fun v5 hv5 hf => ?_)
        refine ja_callVi (pc := 40) (idx := 314) (t := 8) (b := x0) (as := [.int x1, .int x2]) (st := [.ref x0]) (by decide +kernel) kv_Model_lower lk_Model_314 ⟨by decide, by decide⟩ (c_Model_lower _ _ x0 x1 x2 h0 hv5) h0 rfl (Nat.le_of_ble_eq_true rfl) rfl ?_
        refine ja_aload_n (pc := 43) (f := 0) (i := 0) 0 (by decide +kernel) rfl rfl ?_
        refine ja_iload_n (pc := 44) (f := 1) (i := 1) 1 (by decide +kernel) rfl rfl ?_
        refine ja_iload_n (pc := 45) (f := 2) (i := 2) 2 (by decide +kernel) rfl rfl ?_
        refine ja_bind hf (fun v6 hv6 hf => ?_)
        refine ja_callVi (pc := 46) (idx := 317) (t := 8) (b := x0) (as := [.int x1, .int x2]) (st := [.int v5.1, .ref x0]) (by decide +kernel) kv_Model_higher lk_Model_317 ⟨by decide, by decide⟩ (c_Model_higher _ _ x0 x1 x2 h0 hv6) h0 rfl (Nat.le_of_ble_eq_true rfl) rfl ?_
        refine ja_bind hf (fun v7 hv7 hf => ?_)
        refine ja_callVv (pc := 49) (idx := 320) (t := 8) (b := x0) (as := [.int v5.1, .int v6.1]) (st := []) (by decide +kernel) kv_Model_merges lk_Model_320 ⟨by decide, by decide⟩ (c_Model_merges _ _ x0 v5.1 v6.1 h0 hv7) h0 rfl (Nat.le_of_ble_eq_true rfl) rfl ?_
        refine ja_aload_n (pc := 52) (f := 0) (i := 0) 0 (by decide +kernel) rfl rfl ?_
        refine ja_bind hf (fun v8 hv8 hf => ?_)
        refine ja_callVi (pc := 53) (idx := 323) (t := 8) (b := x0) (as := []) (st := []) (by decide +kernel) kv_Model_isDue lk_Model_323 ⟨by decide, by decide⟩ (c_Model_isDue _ _ x0 h0 hv8) h0 rfl (Nat.le_of_ble_eq_true rfl) rfl ?_
        refine ja_if_eq (pc := 56) (off := 7) 63 (by decide +kernel) (by decide) hf (fun hf => ?_) (fun hf => ?_)
        · refine ja_iconst (pc := 63) (n := 0) (v := 0) (by decide +kernel) (by decide +kernel) ?_
          exact ja_ret (pc := 64) (some (.int (0 : Int32))) .ireturn (by decide +kernel) rfl (by cases hf; rfl)
        · refine ja_iconst (pc := 59) (n := 1) (v := 1) (by decide +kernel) (by decide +kernel) ?_
          refine ja_goto (pc := 60) (off := 4) 64 (by decide +kernel) (by decide) ?_
          exact ja_ret (pc := 64) (some (.int (1 : Int32))) .ireturn (by decide +kernel) rfl (by cases hf; rfl)
      · refine ja_bipush (pc := 29) (n := (-3)) (v := (-3)) (by decide +kernel) (by decide +kernel) ?_
        exact ja_ret (pc := 31) (some (.int (-3 : Int32))) .ireturn (by decide +kernel) rfl (by cases hf; rfl)
    · refine ja_bipush (pc := 21) (n := (-2)) (v := (-2)) (by decide +kernel) (by decide +kernel) ?_
      exact ja_ret (pc := 23) (some (.int (-2 : Int32))) .ireturn (by decide +kernel) rfl (by cases hf; rfl)
def f_Model_mergedReachableCount (x0 : Nat) (x1 : Int32) (x2 : Int32) (sg : ja_S) : Option (Int32 × ja_S) := (ja_pu sg x0 9 (0 : Int32)).bind fun s1 => (f_Model_isLever x0 x1 s1).bind fun v2 => (if v2.1 = 0 then some ((-2 : Int32), v2.2) else (f_Model_isLever x0 x2 v2.2).bind fun v3 => (if v3.1 = 0 then some ((-2 : Int32), v3.2) else (if x1 = x2 then some ((-3 : Int32), v3.2) else (f_Model_usesSheet x0 v3.2).bind fun v4 => (f_Model_lower x0 x1 x2 v4).bind fun v5 => (f_Model_higher x0 x1 x2 v5.2).bind fun v6 => (f_Model_merges x0 v5.1 v6.1 v6.2).bind fun v7 => (f_Model_laysFrom x0 (0 : Int32) v7).bind fun v8 => some (v8.1 x0 32, v8))))
set_option maxRecDepth 4000 in
theorem c_Model_mergedReachableCount (l : Launch) (x : ja_X) (x0 : Nat) (x1 : Int32) (x2 : Int32) {sg : ja_S} {w : Int32 × ja_S} (h0 : ja_ob ja_L0 8 x0) (hf : f_Model_mergedReachableCount x0 x1 x2 sg = some w) : ja_Ct l x y_Model_mergedReachableCount M_Model_mergedReachableCount [.ref x0, .int x1, .int x2] ja_L0 sg (some (.int w.1), ja_L0, w.2) := by
  refine ja_mk ⟨by decide, rfl, rfl⟩ (Nat.le_of_ble_eq_true rfl) (lv := [(0, .ref x0), (1, .int x1), (2, .int x2)]) rfl (fun C hl hx _ _ _ _ => ?_)
  subst hl; subst hx
  unfold f_Model_mergedReachableCount at hf
  refine ja_aload_n (pc := 0) (f := 0) (i := 0) 0 (by decide +kernel) rfl rfl ?_
  refine ja_iconst (pc := 1) (n := 0) (v := 0) (by decide +kernel) (by decide +kernel) ?_
  refine ja_bind hf (fun s1 hs1 hf => ?_)
  refine ja_puti2 (pc := 2) (idx := 1) (t := 8) (j := 9) (by decide +kernel) fd_Model_1 h0 ⟨rfl, rfl⟩ hs1 ?_
  refine ja_aload_n (pc := 5) (f := 0) (i := 0) 0 (by decide +kernel) rfl rfl ?_
  refine ja_iload_n (pc := 6) (f := 1) (i := 1) 1 (by decide +kernel) rfl rfl ?_
  refine ja_bind hf (fun v2 hv2 hf => ?_)
  refine ja_callVi (pc := 7) (idx := 233) (t := 8) (b := x0) (as := [.int x1]) (st := []) (by decide +kernel) kv_Model_isLever lk_Model_233 ⟨by decide, by decide⟩ (c_Model_isLever _ _ x0 x1 h0 hv2) h0 rfl (Nat.le_of_ble_eq_true rfl) rfl ?_
  refine ja_if_eq (pc := 10) (off := 11) 21 (by decide +kernel) (by decide) hf (fun hf => ?_) (fun hf => ?_)
  · refine ja_bipush (pc := 21) (n := (-2)) (v := (-2)) (by decide +kernel) (by decide +kernel) ?_
    exact ja_ret (pc := 23) (some (.int (-2 : Int32))) .ireturn (by decide +kernel) rfl (by cases hf; rfl)
  · refine ja_aload_n (pc := 13) (f := 0) (i := 0) 0 (by decide +kernel) rfl rfl ?_
    refine ja_iload_n (pc := 14) (f := 2) (i := 2) 2 (by decide +kernel) rfl rfl ?_
    refine ja_bind hf (fun v3 hv3 hf => ?_)
    refine ja_callVi (pc := 15) (idx := 233) (t := 8) (b := x0) (as := [.int x2]) (st := []) (by decide +kernel) kv_Model_isLever lk_Model_233 ⟨by decide, by decide⟩ (c_Model_isLever _ _ x0 x2 h0 hv3) h0 rfl (Nat.le_of_ble_eq_true rfl) rfl ?_
    refine ja_if_ne (pc := 18) (off := 6) 24 (by decide +kernel) (by decide) hf (fun hf => ?_) (fun hf => ?_)
    · refine ja_iload_n (pc := 24) (f := 1) (i := 1) 1 (by decide +kernel) rfl rfl ?_
      refine ja_iload_n (pc := 25) (f := 2) (i := 2) 2 (by decide +kernel) rfl rfl ?_
      refine ja_icmp_ne (pc := 26) (off := 6) 32 (by decide +kernel) (by decide) hf (fun hf => ?_) (fun hf => ?_)
      · refine ja_aload_n (pc := 32) (f := 0) (i := 0) 0 (by decide +kernel) rfl rfl ?_
        refine ja_bind hf (fun v4 hv4 hf => ?_)
        refine ja_callVv (pc := 33) (idx := 74) (t := 8) (b := x0) (as := []) (st := []) (by decide +kernel) kv_Model_usesSheet lk_Model_74 ⟨by decide, by decide⟩ (c_Model_usesSheet _ _ x0 h0 hv4) h0 rfl (Nat.le_of_ble_eq_true rfl) rfl ?_
        refine ja_aload_n (pc := 36) (f := 0) (i := 0) 0 (by decide +kernel) rfl rfl ?_
        refine ja_aload_n (pc := 37) (f := 0) (i := 0) 0 (by decide +kernel) rfl rfl ?_
        refine ja_iload_n (pc := 38) (f := 1) (i := 1) 1 (by decide +kernel) rfl rfl ?_
        refine ja_iload_n (pc := 39) (f := 2) (i := 2) 2 (by decide +kernel) rfl rfl ?_
        refine ja_bind hf (fun v5 hv5 hf => ?_)
        refine ja_callVi (pc := 40) (idx := 314) (t := 8) (b := x0) (as := [.int x1, .int x2]) (st := [.ref x0]) (by decide +kernel) kv_Model_lower lk_Model_314 ⟨by decide, by decide⟩ (c_Model_lower _ _ x0 x1 x2 h0 hv5) h0 rfl (Nat.le_of_ble_eq_true rfl) rfl ?_
        refine ja_aload_n (pc := 43) (f := 0) (i := 0) 0 (by decide +kernel) rfl rfl ?_
        refine ja_iload_n (pc := 44) (f := 1) (i := 1) 1 (by decide +kernel) rfl rfl ?_
        refine ja_iload_n (pc := 45) (f := 2) (i := 2) 2 (by decide +kernel) rfl rfl ?_
        refine ja_bind hf (fun v6 hv6 hf => ?_)
        refine ja_callVi (pc := 46) (idx := 317) (t := 8) (b := x0) (as := [.int x1, .int x2]) (st := [.int v5.1, .ref x0]) (by decide +kernel) kv_Model_higher lk_Model_317 ⟨by decide, by decide⟩ (c_Model_higher _ _ x0 x1 x2 h0 hv6) h0 rfl (Nat.le_of_ble_eq_true rfl) rfl ?_
        refine ja_bind hf (fun v7 hv7 hf => ?_)
        refine ja_callVv (pc := 49) (idx := 320) (t := 8) (b := x0) (as := [.int v5.1, .int v6.1]) (st := []) (by decide +kernel) kv_Model_merges lk_Model_320 ⟨by decide, by decide⟩ (c_Model_merges _ _ x0 v5.1 v6.1 h0 hv7) h0 rfl (Nat.le_of_ble_eq_true rfl) rfl ?_
        refine ja_aload_n (pc := 52) (f := 0) (i := 0) 0 (by decide +kernel) rfl rfl ?_
        refine ja_iconst (pc := 53) (n := 0) (v := 0) (by decide +kernel) (by decide +kernel) ?_
        refine ja_bind hf (fun v8 hv8 hf => ?_)
        refine ja_callVv (pc := 54) (idx := 248) (t := 8) (b := x0) (as := [.int (0 : Int32)]) (st := []) (by decide +kernel) kv_Model_laysFrom lk_Model_248 ⟨by decide, by decide⟩ (c_Model_laysFrom _ _ x0 (0 : Int32) h0 hv8) h0 rfl (Nat.le_of_ble_eq_true rfl) rfl ?_
        refine ja_aload_n (pc := 57) (f := 0) (i := 0) 0 (by decide +kernel) rfl rfl ?_
        refine ja_geti (pc := 58) (idx := 218) (t := 8) (j := 32) (by decide +kernel) fd_Model_218 h0 ?_
        exact ja_ret (pc := 61) (some (.int (v8.1 x0 32))) .ireturn (by decide +kernel) rfl (by cases hf; rfl)
      · refine ja_bipush (pc := 29) (n := (-3)) (v := (-3)) (by decide +kernel) (by decide +kernel) ?_
        exact ja_ret (pc := 31) (some (.int (-3 : Int32))) .ireturn (by decide +kernel) rfl (by cases hf; rfl)
    · refine ja_bipush (pc := 21) (n := (-2)) (v := (-2)) (by decide +kernel) (by decide +kernel) ?_
      exact ja_ret (pc := 23) (some (.int (-2 : Int32))) .ireturn (by decide +kernel) rfl (by cases hf; rfl)
def f_Model_copies_L48  : Nat → Nat → Int32 → Int32 → ja_S → Option (ja_S)
  | 0, _, _, _, _ => none
  | n + 1, x0, x1, x2, sg => (if (8 : Int32) ≤ x2 then (if x1 = 0 then (ja_pu sg x0 41 (sg.1 x0 29)).bind fun s1 => some s1 else (ja_pu sg x0 29 (sg.1 x0 41)).bind fun s2 => some s2) else (if x1 = 0 then (ja_ld ja_L0 sg (ja_q x0 26) x2).bind fun v3 => (ja_st ja_L0 sg (ja_q x0 40) x2 v3).bind fun s4 => f_Model_copies_L48  n x0 x1 (x2 + 1) s4 else (ja_ld ja_L0 sg (ja_q x0 40) x2).bind fun v5 => (ja_st ja_L0 sg (ja_q x0 26) x2 v5).bind fun s6 => f_Model_copies_L48  n x0 x1 (x2 + 1) s6))
set_option maxRecDepth 4000 in
theorem w_Model_copies_L48 (C : ja_C) {w : ja_S}    (n : Nat) : ∀ (x0 : Nat) (x1 : Int32) (x2 : Int32) (sg : ja_S), ja_ob ja_L0 8 x0 → f_Model_copies_L48  n x0 x1 x2 sg = some w → ja_J M_Model_copies C 48 [(0, .ref x0), (1, .int x1), (2, .int x2)] [] ja_L0 sg (none, ja_L0, w) := by
  induction n with
  | zero => intro _ _ _ _ _ hf; exact absurd (show (none : Option _) = some w from hf) (by simp)
  | succ n ih =>
    intro x0 x1 x2 sg h0 hf
    unfold f_Model_copies_L48 at hf
    refine ja_iload_n (pc := 48) (f := 2) (i := 2) 2 (by decide +kernel) rfl rfl ?_
    refine ja_bipush (pc := 49) (n := 8) (v := 8) (by decide +kernel) (by decide +kernel) ?_
    refine ja_icmp_ge (pc := 51) (off := 40) 91 (by decide +kernel) (by decide) hf (fun hf => ?_) (fun hf => ?_)
    · refine ja_iload_n (pc := 91) (f := 1) (i := 1) 1 (by decide +kernel) rfl rfl ?_
      refine ja_if_eq (pc := 92) (off := 14) 106 (by decide +kernel) (by decide) hf (fun hf => ?_) (fun hf => ?_)
      · refine ja_aload_n (pc := 106) (f := 0) (i := 0) 0 (by decide +kernel) rfl rfl ?_
        refine ja_aload_n (pc := 107) (f := 0) (i := 0) 0 (by decide +kernel) rfl rfl ?_
        refine ja_geti (pc := 108) (idx := 202) (t := 8) (j := 29) (by decide +kernel) fd_Model_202 h0 ?_
        refine ja_bind hf (fun s1 hs1 hf => ?_)
        refine ja_puti2 (pc := 111) (idx := 326) (t := 8) (j := 41) (by decide +kernel) fd_Model_326 h0 ⟨rfl, rfl⟩ hs1 ?_
        exact ja_ret (pc := 114) none .return_ (by decide +kernel) rfl (by cases hf; rfl)
      · refine ja_aload_n (pc := 95) (f := 0) (i := 0) 0 (by decide +kernel) rfl rfl ?_
        refine ja_aload_n (pc := 96) (f := 0) (i := 0) 0 (by decide +kernel) rfl rfl ?_
        refine ja_geti (pc := 97) (idx := 326) (t := 8) (j := 41) (by decide +kernel) fd_Model_326 h0 ?_
        refine ja_bind hf (fun s2 hs2 hf => ?_)
        refine ja_puti2 (pc := 100) (idx := 202) (t := 8) (j := 29) (by decide +kernel) fd_Model_202 h0 ⟨rfl, rfl⟩ hs2 ?_
        refine ja_goto (pc := 103) (off := 11) 114 (by decide +kernel) (by decide) ?_
        exact ja_ret (pc := 114) none .return_ (by decide +kernel) rfl (by cases hf; rfl)
    · refine ja_iload_n (pc := 54) (f := 1) (i := 1) 1 (by decide +kernel) rfl rfl ?_
      refine ja_if_eq (pc := 55) (off := 18) 73 (by decide +kernel) (by decide) hf (fun hf => ?_) (fun hf => ?_)
      · refine ja_aload_n (pc := 73) (f := 0) (i := 0) 0 (by decide +kernel) rfl rfl ?_
        refine ja_getr (pc := 74) (idx := 71) (t := 8) (j := 40) (by decide +kernel) fd_Model_71 h0 (fr_8_40 h0) ?_
        refine ja_iload_n (pc := 77) (f := 2) (i := 2) 2 (by decide +kernel) rfl rfl ?_
        refine ja_aload_n (pc := 78) (f := 0) (i := 0) 0 (by decide +kernel) rfl rfl ?_
        refine ja_getr (pc := 79) (idx := 53) (t := 8) (j := 26) (by decide +kernel) fd_Model_53 h0 (fr_8_26 h0) ?_
        refine ja_iload_n (pc := 82) (f := 2) (i := 2) 2 (by decide +kernel) rfl rfl ?_
        refine ja_bind hf (fun v3 hv3 hf => ?_)
        refine ja_iald (pc := 83) (by decide +kernel) (fk_8_26 h0) hv3 ?_
        refine ja_bind hf (fun s4 hs4 hf => ?_)
        refine ja_iast (pc := 84) (by decide +kernel) (fk_8_40 h0) hs4 ?_
        refine ja_iinc (pc := 85) (i := 2) (n := 1) (v := x2 + 1) (lv' := [(2, .int (x2 + 1)), (0, .ref x0), (1, .int x1)]) 2 (by decide +kernel) rfl rfl (by decide) rfl ?_
        refine ja_goto (pc := 88) (off := (-40)) 48 (by decide +kernel) (by decide) ?_
        refine ja_lv [1, 2, 0] rfl ?_
        exact ih x0 x1 (x2 + 1) s4 h0 hf
      · refine ja_aload_n (pc := 58) (f := 0) (i := 0) 0 (by decide +kernel) rfl rfl ?_
        refine ja_getr (pc := 59) (idx := 53) (t := 8) (j := 26) (by decide +kernel) fd_Model_53 h0 (fr_8_26 h0) ?_
        refine ja_iload_n (pc := 62) (f := 2) (i := 2) 2 (by decide +kernel) rfl rfl ?_
        refine ja_aload_n (pc := 63) (f := 0) (i := 0) 0 (by decide +kernel) rfl rfl ?_
        refine ja_getr (pc := 64) (idx := 71) (t := 8) (j := 40) (by decide +kernel) fd_Model_71 h0 (fr_8_40 h0) ?_
        refine ja_iload_n (pc := 67) (f := 2) (i := 2) 2 (by decide +kernel) rfl rfl ?_
        refine ja_bind hf (fun v5 hv5 hf => ?_)
        refine ja_iald (pc := 68) (by decide +kernel) (fk_8_40 h0) hv5 ?_
        refine ja_bind hf (fun s6 hs6 hf => ?_)
        refine ja_iast (pc := 69) (by decide +kernel) (fk_8_26 h0) hs6 ?_
        refine ja_goto (pc := 70) (off := 15) 85 (by decide +kernel) (by decide) ?_
        refine ja_iinc (pc := 85) (i := 2) (n := 1) (v := x2 + 1) (lv' := [(2, .int (x2 + 1)), (0, .ref x0), (1, .int x1)]) 2 (by decide +kernel) rfl rfl (by decide) rfl ?_
        refine ja_goto (pc := 88) (off := (-40)) 48 (by decide +kernel) (by decide) ?_
        refine ja_lv [1, 2, 0] rfl ?_
        exact ih x0 x1 (x2 + 1) s6 h0 hf
def f_Model_copies_L2  : Nat → Nat → Int32 → Int32 → ja_S → Option (ja_S)
  | 0, _, _, _, _ => none
  | n + 1, x0, x1, x2, sg => (if (128 : Int32) ≤ x2 then f_Model_copies_L48  ja_FU x0 x1 (0 : Int32) sg else (if x1 = 0 then (ja_ld ja_L0 sg (ja_q x0 25) x2).bind fun v1 => (ja_st ja_L0 sg (ja_q x0 39) x2 v1).bind fun s2 => f_Model_copies_L2  n x0 x1 (x2 + 1) s2 else (ja_ld ja_L0 sg (ja_q x0 39) x2).bind fun v3 => (ja_st ja_L0 sg (ja_q x0 25) x2 v3).bind fun s4 => f_Model_copies_L2  n x0 x1 (x2 + 1) s4))
set_option maxRecDepth 4000 in
theorem w_Model_copies_L2 (C : ja_C) {w : ja_S}    (n : Nat) : ∀ (x0 : Nat) (x1 : Int32) (x2 : Int32) (sg : ja_S), ja_ob ja_L0 8 x0 → f_Model_copies_L2  n x0 x1 x2 sg = some w → ja_J M_Model_copies C 2 [(0, .ref x0), (1, .int x1), (2, .int x2)] [] ja_L0 sg (none, ja_L0, w) := by
  induction n with
  | zero => intro _ _ _ _ _ hf; exact absurd (show (none : Option _) = some w from hf) (by simp)
  | succ n ih =>
    intro x0 x1 x2 sg h0 hf
    unfold f_Model_copies_L2 at hf
    refine ja_iload_n (pc := 2) (f := 2) (i := 2) 2 (by decide +kernel) rfl rfl ?_
    refine ja_sipush (pc := 3) (n := 128) (v := 128) (by decide +kernel) (by decide +kernel) ?_
    refine ja_icmp_ge (pc := 6) (off := 40) 46 (by decide +kernel) (by decide) hf (fun hf => ?_) (fun hf => ?_)
    · refine ja_iconst (pc := 46) (n := 0) (v := 0) (by decide +kernel) (by decide +kernel) ?_
      refine ja_istore_n (pc := 47) (f := 2) (i := 2) (lv' := [(2, .int (0 : Int32)), (0, .ref x0), (1, .int x1)]) (by decide +kernel) rfl (by decide) rfl ?_
      refine ja_lv [1, 2, 0] rfl ?_
      exact w_Model_copies_L48 C  ja_FU x0 x1 (0 : Int32) sg h0 hf
    · refine ja_iload_n (pc := 9) (f := 1) (i := 1) 1 (by decide +kernel) rfl rfl ?_
      refine ja_if_eq (pc := 10) (off := 18) 28 (by decide +kernel) (by decide) hf (fun hf => ?_) (fun hf => ?_)
      · refine ja_aload_n (pc := 28) (f := 0) (i := 0) 0 (by decide +kernel) rfl rfl ?_
        refine ja_getr (pc := 29) (idx := 68) (t := 8) (j := 39) (by decide +kernel) fd_Model_68 h0 (fr_8_39 h0) ?_
        refine ja_iload_n (pc := 32) (f := 2) (i := 2) 2 (by decide +kernel) rfl rfl ?_
        refine ja_aload_n (pc := 33) (f := 0) (i := 0) 0 (by decide +kernel) rfl rfl ?_
        refine ja_getr (pc := 34) (idx := 50) (t := 8) (j := 25) (by decide +kernel) fd_Model_50 h0 (fr_8_25 h0) ?_
        refine ja_iload_n (pc := 37) (f := 2) (i := 2) 2 (by decide +kernel) rfl rfl ?_
        refine ja_bind hf (fun v1 hv1 hf => ?_)
        refine ja_iald (pc := 38) (by decide +kernel) (fk_8_25 h0) hv1 ?_
        refine ja_bind hf (fun s2 hs2 hf => ?_)
        refine ja_iast (pc := 39) (by decide +kernel) (fk_8_39 h0) hs2 ?_
        refine ja_iinc (pc := 40) (i := 2) (n := 1) (v := x2 + 1) (lv' := [(2, .int (x2 + 1)), (0, .ref x0), (1, .int x1)]) 2 (by decide +kernel) rfl rfl (by decide) rfl ?_
        refine ja_goto (pc := 43) (off := (-41)) 2 (by decide +kernel) (by decide) ?_
        refine ja_lv [1, 2, 0] rfl ?_
        exact ih x0 x1 (x2 + 1) s2 h0 hf
      · refine ja_aload_n (pc := 13) (f := 0) (i := 0) 0 (by decide +kernel) rfl rfl ?_
        refine ja_getr (pc := 14) (idx := 50) (t := 8) (j := 25) (by decide +kernel) fd_Model_50 h0 (fr_8_25 h0) ?_
        refine ja_iload_n (pc := 17) (f := 2) (i := 2) 2 (by decide +kernel) rfl rfl ?_
        refine ja_aload_n (pc := 18) (f := 0) (i := 0) 0 (by decide +kernel) rfl rfl ?_
        refine ja_getr (pc := 19) (idx := 68) (t := 8) (j := 39) (by decide +kernel) fd_Model_68 h0 (fr_8_39 h0) ?_
        refine ja_iload_n (pc := 22) (f := 2) (i := 2) 2 (by decide +kernel) rfl rfl ?_
        refine ja_bind hf (fun v3 hv3 hf => ?_)
        refine ja_iald (pc := 23) (by decide +kernel) (fk_8_39 h0) hv3 ?_
        refine ja_bind hf (fun s4 hs4 hf => ?_)
        refine ja_iast (pc := 24) (by decide +kernel) (fk_8_25 h0) hs4 ?_
        refine ja_goto (pc := 25) (off := 15) 40 (by decide +kernel) (by decide) ?_
        refine ja_iinc (pc := 40) (i := 2) (n := 1) (v := x2 + 1) (lv' := [(2, .int (x2 + 1)), (0, .ref x0), (1, .int x1)]) 2 (by decide +kernel) rfl rfl (by decide) rfl ?_
        refine ja_goto (pc := 43) (off := (-41)) 2 (by decide +kernel) (by decide) ?_
        refine ja_lv [1, 2, 0] rfl ?_
        exact ih x0 x1 (x2 + 1) s4 h0 hf
def f_Model_copies (x0 : Nat) (x1 : Int32) (sg : ja_S) : Option (ja_S) := f_Model_copies_L2  ja_FU x0 x1 (0 : Int32) sg
set_option maxRecDepth 4000 in
theorem c_Model_copies (l : Launch) (x : ja_X) (x0 : Nat) (x1 : Int32) {sg : ja_S} {w : ja_S} (h0 : ja_ob ja_L0 8 x0) (hf : f_Model_copies x0 x1 sg = some w) : ja_Ct l x y_Model_copies M_Model_copies [.ref x0, .int x1] ja_L0 sg (none, ja_L0, w) := by
  refine ja_mk ⟨by decide, rfl, rfl⟩ (Nat.le_of_ble_eq_true rfl) (lv := [(0, .ref x0), (1, .int x1)]) rfl (fun C hl hx _ _ _ _ => ?_)
  subst hl; subst hx
  unfold f_Model_copies at hf
  refine ja_iconst (pc := 0) (n := 0) (v := 0) (by decide +kernel) (by decide +kernel) ?_
  refine ja_istore_n (pc := 1) (f := 2) (i := 2) (lv' := [(2, .int (0 : Int32)), (0, .ref x0), (1, .int x1)]) (by decide +kernel) rfl (by decide) rfl ?_
  refine ja_lv [1, 2, 0] rfl ?_
  exact w_Model_copies_L2 C  ja_FU x0 x1 (0 : Int32) sg h0 hf
def f_Model_mergesOne_L14 (k2 : Nat → Int32 → ja_S → Option (Int32 × ja_S)) : Nat → Nat → Int32 → Int32 → ja_S → Option (Int32 × ja_S)
  | 0, _, _, _, _ => none
  | n + 1, x0, x1, x2, sg => (if (sg.1 x0 0) ≤ x2 then k2 x0 (x1 + 1) sg else (f_Model_has (sg.1 x0 29) x1 sg).bind fun v1 => (if v1.1 = 0 then (f_Model_has (v1.2.1 x0 29) x2 v1.2).bind fun v2 => (if v2.1 = 0 then (f_Model_copies x0 (0 : Int32) v2.2).bind fun v3 => (f_Model_merges x0 x1 x2 v3).bind fun v4 => (f_Model_isDue x0 v4).bind fun v5 => (if v5.1 = 0 then (f_Model_copies x0 (1 : Int32) v5.2).bind fun v6 => f_Model_mergesOne_L14 k2 n x0 x1 (x2 + 1) v6 else some ((1 : Int32), v5.2)) else f_Model_mergesOne_L14 k2 n x0 x1 (x2 + 1) v2.2) else f_Model_mergesOne_L14 k2 n x0 x1 (x2 + 1) v1.2))
set_option maxRecDepth 4000 in
theorem w_Model_mergesOne_L14 (C : ja_C) {w : Int32 × ja_S} {k2 : Nat → Int32 → ja_S → Option (Int32 × ja_S)} (e2 : ∀ (x0 : Nat) (x1 : Int32) (sg : ja_S), ja_ob ja_L0 8 x0 → k2 x0 x1 sg = some w → ja_J M_Model_mergesOne C 2 [(0, .ref x0), (1, .int x1)] [] ja_L0 sg (some (.int w.1), ja_L0, w.2))  (n : Nat) : ∀ (x0 : Nat) (x1 : Int32) (x2 : Int32) (sg : ja_S), ja_ob ja_L0 8 x0 → f_Model_mergesOne_L14 k2 n x0 x1 x2 sg = some w → ja_J M_Model_mergesOne C 14 [(0, .ref x0), (1, .int x1), (2, .int x2)] [] ja_L0 sg (some (.int w.1), ja_L0, w.2) := by
  induction n with
  | zero => intro _ _ _ _ _ hf; exact absurd (show (none : Option _) = some w from hf) (by simp)
  | succ n ih =>
    intro x0 x1 x2 sg h0 hf
    unfold f_Model_mergesOne_L14 at hf
    refine ja_iload_n (pc := 14) (f := 2) (i := 2) 2 (by decide +kernel) rfl rfl ?_
    refine ja_aload_n (pc := 15) (f := 0) (i := 0) 0 (by decide +kernel) rfl rfl ?_
    refine ja_geti (pc := 16) (idx := 13) (t := 8) (j := 0) (by decide +kernel) fd_Model_13 h0 ?_
    refine ja_icmp_ge (pc := 19) (off := 59) 78 (by decide +kernel) (by decide) hf (fun hf => ?_) (fun hf => ?_)
    · refine ja_iinc (pc := 78) (i := 1) (n := 1) (v := x1 + 1) (lv' := [(1, .int (x1 + 1)), (0, .ref x0), (2, .int x2)]) 1 (by decide +kernel) rfl rfl (by decide) rfl ?_
      refine ja_goto (pc := 81) (off := (-79)) 2 (by decide +kernel) (by decide) ?_
      refine ja_lv [1, 0] rfl ?_
      exact e2 x0 (x1 + 1) sg h0 hf
    · refine ja_aload_n (pc := 22) (f := 0) (i := 0) 0 (by decide +kernel) rfl rfl ?_
      refine ja_geti (pc := 23) (idx := 202) (t := 8) (j := 29) (by decide +kernel) fd_Model_202 h0 ?_
      refine ja_iload_n (pc := 26) (f := 1) (i := 1) 1 (by decide +kernel) rfl rfl ?_
      refine ja_bind hf (fun v1 hv1 hf => ?_)
      refine ja_callSi (pc := 27) (idx := 152) (as := [.int (sg.1 x0 29), .int x1]) (st := []) (by decide +kernel) ks_Model_has lk_Model_152 ⟨by decide, by decide⟩ (c_Model_has _ _ (sg.1 x0 29) x1  hv1) rfl (Nat.le_of_ble_eq_true rfl) rfl ?_
      refine ja_if_ne (pc := 30) (off := 42) 72 (by decide +kernel) (by decide) hf (fun hf => ?_) (fun hf => ?_)
      · refine ja_iinc (pc := 72) (i := 2) (n := 1) (v := x2 + 1) (lv' := [(2, .int (x2 + 1)), (0, .ref x0), (1, .int x1)]) 2 (by decide +kernel) rfl rfl (by decide) rfl ?_
        refine ja_goto (pc := 75) (off := (-61)) 14 (by decide +kernel) (by decide) ?_
        refine ja_lv [1, 2, 0] rfl ?_
        exact ih x0 x1 (x2 + 1) v1.2 h0 hf
      · refine ja_aload_n (pc := 33) (f := 0) (i := 0) 0 (by decide +kernel) rfl rfl ?_
        refine ja_geti (pc := 34) (idx := 202) (t := 8) (j := 29) (by decide +kernel) fd_Model_202 h0 ?_
        refine ja_iload_n (pc := 37) (f := 2) (i := 2) 2 (by decide +kernel) rfl rfl ?_
        refine ja_bind hf (fun v2 hv2 hf => ?_)
        refine ja_callSi (pc := 38) (idx := 152) (as := [.int (v1.2.1 x0 29), .int x2]) (st := []) (by decide +kernel) ks_Model_has lk_Model_152 ⟨by decide, by decide⟩ (c_Model_has _ _ (v1.2.1 x0 29) x2  hv2) rfl (Nat.le_of_ble_eq_true rfl) rfl ?_
        refine ja_if_eq (pc := 41) (off := 6) 47 (by decide +kernel) (by decide) hf (fun hf => ?_) (fun hf => ?_)
        · refine ja_aload_n (pc := 47) (f := 0) (i := 0) 0 (by decide +kernel) rfl rfl ?_
          refine ja_iconst (pc := 48) (n := 0) (v := 0) (by decide +kernel) (by decide +kernel) ?_
          refine ja_bind hf (fun v3 hv3 hf => ?_)
          refine ja_callVv (pc := 49) (idx := 329) (t := 8) (b := x0) (as := [.int (0 : Int32)]) (st := []) (by decide +kernel) kv_Model_copies lk_Model_329 ⟨by decide, by decide⟩ (c_Model_copies _ _ x0 (0 : Int32) h0 hv3) h0 rfl (Nat.le_of_ble_eq_true rfl) rfl ?_
          refine ja_aload_n (pc := 52) (f := 0) (i := 0) 0 (by decide +kernel) rfl rfl ?_
          refine ja_iload_n (pc := 53) (f := 1) (i := 1) 1 (by decide +kernel) rfl rfl ?_
          refine ja_iload_n (pc := 54) (f := 2) (i := 2) 2 (by decide +kernel) rfl rfl ?_
          refine ja_bind hf (fun v4 hv4 hf => ?_)
          refine ja_callVv (pc := 55) (idx := 320) (t := 8) (b := x0) (as := [.int x1, .int x2]) (st := []) (by decide +kernel) kv_Model_merges lk_Model_320 ⟨by decide, by decide⟩ (c_Model_merges _ _ x0 x1 x2 h0 hv4) h0 rfl (Nat.le_of_ble_eq_true rfl) rfl ?_
          refine ja_aload_n (pc := 58) (f := 0) (i := 0) 0 (by decide +kernel) rfl rfl ?_
          refine ja_bind hf (fun v5 hv5 hf => ?_)
          refine ja_callVi (pc := 59) (idx := 323) (t := 8) (b := x0) (as := []) (st := []) (by decide +kernel) kv_Model_isDue lk_Model_323 ⟨by decide, by decide⟩ (c_Model_isDue _ _ x0 h0 hv5) h0 rfl (Nat.le_of_ble_eq_true rfl) rfl ?_
          refine ja_if_eq (pc := 62) (off := 5) 67 (by decide +kernel) (by decide) hf (fun hf => ?_) (fun hf => ?_)
          · refine ja_aload_n (pc := 67) (f := 0) (i := 0) 0 (by decide +kernel) rfl rfl ?_
            refine ja_iconst (pc := 68) (n := 1) (v := 1) (by decide +kernel) (by decide +kernel) ?_
            refine ja_bind hf (fun v6 hv6 hf => ?_)
            refine ja_callVv (pc := 69) (idx := 329) (t := 8) (b := x0) (as := [.int (1 : Int32)]) (st := []) (by decide +kernel) kv_Model_copies lk_Model_329 ⟨by decide, by decide⟩ (c_Model_copies _ _ x0 (1 : Int32) h0 hv6) h0 rfl (Nat.le_of_ble_eq_true rfl) rfl ?_
            refine ja_iinc (pc := 72) (i := 2) (n := 1) (v := x2 + 1) (lv' := [(2, .int (x2 + 1)), (0, .ref x0), (1, .int x1)]) 2 (by decide +kernel) rfl rfl (by decide) rfl ?_
            refine ja_goto (pc := 75) (off := (-61)) 14 (by decide +kernel) (by decide) ?_
            refine ja_lv [1, 2, 0] rfl ?_
            exact ih x0 x1 (x2 + 1) v6 h0 hf
          · refine ja_iconst (pc := 65) (n := 1) (v := 1) (by decide +kernel) (by decide +kernel) ?_
            exact ja_ret (pc := 66) (some (.int (1 : Int32))) .ireturn (by decide +kernel) rfl (by cases hf; rfl)
        · refine ja_goto (pc := 44) (off := 28) 72 (by decide +kernel) (by decide) ?_
          refine ja_iinc (pc := 72) (i := 2) (n := 1) (v := x2 + 1) (lv' := [(2, .int (x2 + 1)), (0, .ref x0), (1, .int x1)]) 2 (by decide +kernel) rfl rfl (by decide) rfl ?_
          refine ja_goto (pc := 75) (off := (-61)) 14 (by decide +kernel) (by decide) ?_
          refine ja_lv [1, 2, 0] rfl ?_
          exact ih x0 x1 (x2 + 1) v2.2 h0 hf
def f_Model_mergesOne_L2  : Nat → Nat → Int32 → ja_S → Option (Int32 × ja_S)
  | 0, _, _, _ => none
  | n + 1, x0, x1, sg => (if (sg.1 x0 0) ≤ x1 then some ((0 : Int32), sg) else f_Model_mergesOne_L14 (f_Model_mergesOne_L2  n) ja_FU x0 x1 (x1 + (1 : Int32)) sg)
set_option maxRecDepth 4000 in
theorem w_Model_mergesOne_L2 (C : ja_C) {w : Int32 × ja_S}    (n : Nat) : ∀ (x0 : Nat) (x1 : Int32) (sg : ja_S), ja_ob ja_L0 8 x0 → f_Model_mergesOne_L2  n x0 x1 sg = some w → ja_J M_Model_mergesOne C 2 [(0, .ref x0), (1, .int x1)] [] ja_L0 sg (some (.int w.1), ja_L0, w.2) := by
  induction n with
  | zero => intro _ _ _ _ hf; exact absurd (show (none : Option _) = some w from hf) (by simp)
  | succ n ih =>
    intro x0 x1 sg h0 hf
    unfold f_Model_mergesOne_L2 at hf
    refine ja_iload_n (pc := 2) (f := 1) (i := 1) 1 (by decide +kernel) rfl rfl ?_
    refine ja_aload_n (pc := 3) (f := 0) (i := 0) 0 (by decide +kernel) rfl rfl ?_
    refine ja_geti (pc := 4) (idx := 13) (t := 8) (j := 0) (by decide +kernel) fd_Model_13 h0 ?_
    refine ja_icmp_ge (pc := 7) (off := 77) 84 (by decide +kernel) (by decide) hf (fun hf => ?_) (fun hf => ?_)
    · refine ja_iconst (pc := 84) (n := 0) (v := 0) (by decide +kernel) (by decide +kernel) ?_
      exact ja_ret (pc := 85) (some (.int (0 : Int32))) .ireturn (by decide +kernel) rfl (by cases hf; rfl)
    · refine ja_iload_n (pc := 10) (f := 1) (i := 1) 1 (by decide +kernel) rfl rfl ?_
      refine ja_iconst (pc := 11) (n := 1) (v := 1) (by decide +kernel) (by decide +kernel) ?_
      refine ja_iadd (pc := 12) (by decide +kernel) ?_
      refine ja_istore_n (pc := 13) (f := 2) (i := 2) (lv' := [(2, .int (x1 + (1 : Int32))), (0, .ref x0), (1, .int x1)]) (by decide +kernel) rfl (by decide) rfl ?_
      refine ja_lv [1, 2, 0] rfl ?_
      exact w_Model_mergesOne_L14 C ih ja_FU x0 x1 (x1 + (1 : Int32)) sg h0 hf
def f_Model_mergesOne (x0 : Nat) (sg : ja_S) : Option (Int32 × ja_S) := f_Model_mergesOne_L2  ja_FU x0 (0 : Int32) sg
set_option maxRecDepth 4000 in
theorem c_Model_mergesOne (l : Launch) (x : ja_X) (x0 : Nat) {sg : ja_S} {w : Int32 × ja_S} (h0 : ja_ob ja_L0 8 x0) (hf : f_Model_mergesOne x0 sg = some w) : ja_Ct l x y_Model_mergesOne M_Model_mergesOne [.ref x0] ja_L0 sg (some (.int w.1), ja_L0, w.2) := by
  refine ja_mk ⟨by decide, rfl, rfl⟩ (Nat.le_of_ble_eq_true rfl) (lv := [(0, .ref x0)]) rfl (fun C hl hx _ _ _ _ => ?_)
  subst hl; subst hx
  unfold f_Model_mergesOne at hf
  refine ja_iconst (pc := 0) (n := 0) (v := 0) (by decide +kernel) (by decide +kernel) ?_
  refine ja_istore_n (pc := 1) (f := 1) (i := 1) (lv' := [(1, .int (0 : Int32)), (0, .ref x0)]) (by decide +kernel) rfl (by decide) rfl ?_
  refine ja_lv [1, 0] rfl ?_
  exact w_Model_mergesOne_L2 C  ja_FU x0 (0 : Int32) sg h0 hf
def f_Model_leversAfterMerging_L14  : Nat → Nat → Int32 → ja_S → Option (Int32 × ja_S)
  | 0, _, _, _ => none
  | n + 1, x0, x1, sg => (f_Model_mergesOne x0 sg).bind fun v1 => (if v1.1 = 0 then some (x1, v1.2) else f_Model_leversAfterMerging_L14  n x0 (x1 + (-1)) v1.2)
set_option maxRecDepth 4000 in
theorem w_Model_leversAfterMerging_L14 (C : ja_C) {w : Int32 × ja_S}    (n : Nat) : ∀ (x0 : Nat) (x1 : Int32) (sg : ja_S), ja_ob ja_L0 8 x0 → f_Model_leversAfterMerging_L14  n x0 x1 sg = some w → ja_J M_Model_leversAfterMerging C 14 [(0, .ref x0), (1, .int x1)] [] ja_L0 sg (some (.int w.1), ja_L0, w.2) := by
  induction n with
  | zero => intro _ _ _ _ hf; exact absurd (show (none : Option _) = some w from hf) (by simp)
  | succ n ih =>
    intro x0 x1 sg h0 hf
    unfold f_Model_leversAfterMerging_L14 at hf
    refine ja_aload_n (pc := 14) (f := 0) (i := 0) 0 (by decide +kernel) rfl rfl ?_
    refine ja_bind hf (fun v1 hv1 hf => ?_)
    refine ja_callVi (pc := 15) (idx := 333) (t := 8) (b := x0) (as := []) (st := []) (by decide +kernel) kv_Model_mergesOne lk_Model_333 ⟨by decide, by decide⟩ (c_Model_mergesOne _ _ x0 h0 hv1) h0 rfl (Nat.le_of_ble_eq_true rfl) rfl ?_
    refine ja_if_eq (pc := 18) (off := 9) 27 (by decide +kernel) (by decide) hf (fun hf => ?_) (fun hf => ?_)
    · refine ja_iload_n (pc := 27) (f := 1) (i := 1) 1 (by decide +kernel) rfl rfl ?_
      exact ja_ret (pc := 28) (some (.int x1)) .ireturn (by decide +kernel) rfl (by cases hf; rfl)
    · refine ja_iinc (pc := 21) (i := 1) (n := (-1)) (v := x1 + (-1)) (lv' := [(1, .int (x1 + (-1))), (0, .ref x0)]) 1 (by decide +kernel) rfl rfl (by decide) rfl ?_
      refine ja_goto (pc := 24) (off := (-10)) 14 (by decide +kernel) (by decide) ?_
      refine ja_lv [1, 0] rfl ?_
      exact ih x0 (x1 + (-1)) v1.2 h0 hf
def f_Model_leversAfterMerging (x0 : Nat) (sg : ja_S) : Option (Int32 × ja_S) := (ja_pu sg x0 9 (0 : Int32)).bind fun s1 => (f_Model_laysDue x0 s1).bind fun v2 => f_Model_leversAfterMerging_L14  ja_FU x0 (v2.1 x0 0) v2
set_option maxRecDepth 4000 in
theorem c_Model_leversAfterMerging (l : Launch) (x : ja_X) (x0 : Nat) {sg : ja_S} {w : Int32 × ja_S} (h0 : ja_ob ja_L0 8 x0) (hf : f_Model_leversAfterMerging x0 sg = some w) : ja_Ct l x y_Model_leversAfterMerging M_Model_leversAfterMerging [.ref x0] ja_L0 sg (some (.int w.1), ja_L0, w.2) := by
  refine ja_mk ⟨by decide, rfl, rfl⟩ (Nat.le_of_ble_eq_true rfl) (lv := [(0, .ref x0)]) rfl (fun C hl hx _ _ _ _ => ?_)
  subst hl; subst hx
  unfold f_Model_leversAfterMerging at hf
  refine ja_aload_n (pc := 0) (f := 0) (i := 0) 0 (by decide +kernel) rfl rfl ?_
  refine ja_iconst (pc := 1) (n := 0) (v := 0) (by decide +kernel) (by decide +kernel) ?_
  refine ja_bind hf (fun s1 hs1 hf => ?_)
  refine ja_puti2 (pc := 2) (idx := 1) (t := 8) (j := 9) (by decide +kernel) fd_Model_1 h0 ⟨rfl, rfl⟩ hs1 ?_
  refine ja_aload_n (pc := 5) (f := 0) (i := 0) 0 (by decide +kernel) rfl rfl ?_
  refine ja_bind hf (fun v2 hv2 hf => ?_)
  refine ja_callVv (pc := 6) (idx := 311) (t := 8) (b := x0) (as := []) (st := []) (by decide +kernel) kv_Model_laysDue lk_Model_311 ⟨by decide, by decide⟩ (c_Model_laysDue _ _ x0 h0 hv2) h0 rfl (Nat.le_of_ble_eq_true rfl) rfl ?_
  refine ja_aload_n (pc := 9) (f := 0) (i := 0) 0 (by decide +kernel) rfl rfl ?_
  refine ja_geti (pc := 10) (idx := 13) (t := 8) (j := 0) (by decide +kernel) fd_Model_13 h0 ?_
  refine ja_istore_n (pc := 13) (f := 1) (i := 1) (lv' := [(1, .int (v2.1 x0 0)), (0, .ref x0)]) (by decide +kernel) rfl (by decide) rfl ?_
  refine ja_lv [1, 0] rfl ?_
  exact w_Model_leversAfterMerging_L14 C  ja_FU x0 (v2.1 x0 0) v2 h0 hf
def f_Arrays_fillI_L5  : Nat → Nat → Int32 → Int32 → Int32 → ja_S → Option (ja_S)
  | 0, _, _, _, _, _ => none
  | n + 1, x0, x1, x2, x3, sg => (if x3 ≤ x2 then some sg else (ja_st ja_L0 sg x0 x2 x1).bind fun s1 => f_Arrays_fillI_L5  n x0 x1 (x2 + 1) x3 s1)
set_option maxRecDepth 4000 in
theorem w_Arrays_fillI_L5 (C : ja_C) {w : ja_S}    (n : Nat) : ∀ (x0 : Nat) (x1 : Int32) (x2 : Int32) (x3 : Int32) (sg : ja_S), ja_ai ja_L0 x0 → f_Arrays_fillI_L5  n x0 x1 x2 x3 sg = some w → ja_J M_Arrays_fillI C 5 [(0, .ref x0), (1, .int x1), (2, .int x2), (3, .int x3)] [] ja_L0 sg (none, ja_L0, w) := by
  induction n with
  | zero => intro _ _ _ _ _ _ hf; exact absurd (show (none : Option _) = some w from hf) (by simp)
  | succ n ih =>
    intro x0 x1 x2 x3 sg h0 hf
    unfold f_Arrays_fillI_L5 at hf
    refine ja_iload_n (pc := 5) (f := 2) (i := 2) 2 (by decide +kernel) rfl rfl ?_
    refine ja_iload_n (pc := 6) (f := 3) (i := 3) 3 (by decide +kernel) rfl rfl ?_
    refine ja_icmp_ge (pc := 7) (off := 13) 20 (by decide +kernel) (by decide) hf (fun hf => ?_) (fun hf => ?_)
    · exact ja_ret (pc := 20) none .return_ (by decide +kernel) rfl (by cases hf; rfl)
    · refine ja_aload_n (pc := 10) (f := 0) (i := 0) 0 (by decide +kernel) rfl rfl ?_
      refine ja_iload_n (pc := 11) (f := 2) (i := 2) 2 (by decide +kernel) rfl rfl ?_
      refine ja_iload_n (pc := 12) (f := 1) (i := 1) 1 (by decide +kernel) rfl rfl ?_
      refine ja_bind hf (fun s1 hs1 hf => ?_)
      refine ja_iast (pc := 13) (by decide +kernel) h0 hs1 ?_
      refine ja_iinc (pc := 14) (i := 2) (n := 1) (v := x2 + 1) (lv' := [(2, .int (x2 + 1)), (0, .ref x0), (1, .int x1), (3, .int x3)]) 2 (by decide +kernel) rfl rfl (by decide) rfl ?_
      refine ja_goto (pc := 17) (off := (-12)) 5 (by decide +kernel) (by decide) ?_
      refine ja_lv [1, 2, 0, 3] rfl ?_
      exact ih x0 x1 (x2 + 1) x3 s1 h0 hf
def f_Arrays_fillI (x0 : Nat) (x1 : Int32) (sg : ja_S) : Option (ja_S) := f_Arrays_fillI_L5  ja_FU x0 x1 (0 : Int32) (Int32.ofNat (ja_len ja_L0 x0)) sg
set_option maxRecDepth 4000 in
theorem c_Arrays_fillI (l : Launch) (x : ja_X) (x0 : Nat) (x1 : Int32) {sg : ja_S} {w : ja_S} (h0 : ja_ai ja_L0 x0) (hf : f_Arrays_fillI x0 x1 sg = some w) : ja_Ct l x y_Arrays_fillI M_Arrays_fillI [.ref x0, .int x1] ja_L0 sg (none, ja_L0, w) := by
  refine ja_mk ⟨by decide, rfl, rfl⟩ (Nat.le_of_ble_eq_true rfl) (lv := [(0, .ref x0), (1, .int x1)]) rfl (fun C hl hx _ _ _ _ => ?_)
  subst hl; subst hx
  unfold f_Arrays_fillI at hf
  refine ja_iconst (pc := 0) (n := 0) (v := 0) (by decide +kernel) (by decide +kernel) ?_
  refine ja_istore_n (pc := 1) (f := 2) (i := 2) (lv' := [(2, .int (0 : Int32)), (0, .ref x0), (1, .int x1)]) (by decide +kernel) rfl (by decide) rfl ?_
  refine ja_aload_n (pc := 2) (f := 0) (i := 0) 1 (by decide +kernel) rfl rfl ?_
  refine ja_alen (pc := 3) (by decide +kernel) (Or.inl h0) ?_
  refine ja_istore_n (pc := 4) (f := 3) (i := 3) (lv' := [(3, .int (Int32.ofNat (ja_len ja_L0 x0))), (2, .int (0 : Int32)), (0, .ref x0), (1, .int x1)]) (by decide +kernel) rfl (by decide) rfl ?_
  refine ja_lv [2, 3, 1, 0] rfl ?_
  exact w_Arrays_fillI_L5 C  ja_FU x0 x1 (0 : Int32) (Int32.ofNat (ja_len ja_L0 x0)) sg h0 hf
