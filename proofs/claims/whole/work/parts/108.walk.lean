def f_Model_reachableCount (x0 : Nat) (sg : ja_S) : Option (Int32 × ja_S) := (ja_pu sg x0 9 (0 : Int32)).bind fun s1 => (f_Model_usesSheet x0 s1).bind fun v2 => (f_Model_laysFrom x0 (0 : Int32) v2).bind fun v3 => some (v3.1 x0 32, v3)
set_option maxRecDepth 4000 in
theorem c_Model_reachableCount (l : Launch) (x : ja_X) (x0 : Nat) {sg : ja_S} {w : Int32 × ja_S} (h0 : ja_ob ja_L0 8 x0) (hf : f_Model_reachableCount x0 sg = some w) : ja_Ct l x y_Model_reachableCount M_Model_reachableCount [.ref x0] ja_L0 sg (some (.int w.1), ja_L0, w.2) := by
  refine ja_mk ⟨by decide, rfl, rfl⟩ (Nat.le_of_ble_eq_true rfl) (lv := [(0, .ref x0)]) rfl (fun C hl hx _ _ _ _ => ?_)
  subst hl; subst hx
  unfold f_Model_reachableCount at hf
  refine ja_aload_n (pc := 0) (f := 0) (i := 0) 0 (by decide +kernel) rfl rfl ?_
  refine ja_iconst (pc := 1) (n := 0) (v := 0) (by decide +kernel) (by decide +kernel) ?_
  refine ja_bind hf (fun s1 hs1 hf => ?_)
  refine ja_puti2 (pc := 2) (idx := 1) (t := 8) (j := 9) (by decide +kernel) fd_Model_1 h0 ⟨rfl, rfl⟩ hs1 ?_
  refine ja_aload_n (pc := 5) (f := 0) (i := 0) 0 (by decide +kernel) rfl rfl ?_
  refine ja_bind hf (fun v2 hv2 hf => ?_)
  refine ja_callVv (pc := 6) (idx := 74) (t := 8) (b := x0) (as := []) (st := []) (by decide +kernel) kv_Model_usesSheet lk_Model_74 ⟨by decide, by decide⟩ (c_Model_usesSheet _ _ x0 h0 hv2) h0 rfl (Nat.le_of_ble_eq_true rfl) rfl ?_
  refine ja_aload_n (pc := 9) (f := 0) (i := 0) 0 (by decide +kernel) rfl rfl ?_
  refine ja_iconst (pc := 10) (n := 0) (v := 0) (by decide +kernel) (by decide +kernel) ?_
  refine ja_bind hf (fun v3 hv3 hf => ?_)
  refine ja_callVv (pc := 11) (idx := 248) (t := 8) (b := x0) (as := [.int (0 : Int32)]) (st := []) (by decide +kernel) kv_Model_laysFrom lk_Model_248 ⟨by decide, by decide⟩ (c_Model_laysFrom _ _ x0 (0 : Int32) h0 hv3) h0 rfl (Nat.le_of_ble_eq_true rfl) rfl ?_
  refine ja_aload_n (pc := 14) (f := 0) (i := 0) 0 (by decide +kernel) rfl rfl ?_
  refine ja_geti (pc := 15) (idx := 218) (t := 8) (j := 32) (by decide +kernel) fd_Model_218 h0 ?_
  exact ja_ret (pc := 18) (some (.int (v3.1 x0 32))) .ireturn (by decide +kernel) rfl (by cases hf; rfl)
def f_Model_areReachable (x0 : Nat) (x1 : Int32) (x2 : Int32) (sg : ja_S) : Option (Int32 × ja_S) := (f_Model_usesSheet x0 sg).bind fun v1 => (f_Model_laysFrom x0 (0 : Int32) v1).bind fun v2 => (ja_ld ja_L0 v2 (ja_q x0 30) x1).bind fun v3 => (if v3 = (-1 : Int32) then some ((0 : Int32), v2) else (ja_ld ja_L0 v2 (ja_q x0 30) x2).bind fun v4 => (if v4 = (-1 : Int32) then some ((0 : Int32), v2) else (f_Model_laysFrom x0 x1 v2).bind fun v5 => some ((1 : Int32), v5)))
set_option maxRecDepth 4000 in
theorem c_Model_areReachable (l : Launch) (x : ja_X) (x0 : Nat) (x1 : Int32) (x2 : Int32) {sg : ja_S} {w : Int32 × ja_S} (h0 : ja_ob ja_L0 8 x0) (hf : f_Model_areReachable x0 x1 x2 sg = some w) : ja_Ct l x y_Model_areReachable M_Model_areReachable [.ref x0, .int x1, .int x2] ja_L0 sg (some (.int w.1), ja_L0, w.2) := by
  refine ja_mk ⟨by decide, rfl, rfl⟩ (Nat.le_of_ble_eq_true rfl) (lv := [(0, .ref x0), (1, .int x1), (2, .int x2)]) rfl (fun C hl hx _ _ _ _ => ?_)
  subst hl; subst hx
  unfold f_Model_areReachable at hf
  refine ja_aload_n (pc := 0) (f := 0) (i := 0) 0 (by decide +kernel) rfl rfl ?_
  refine ja_bind hf (fun v1 hv1 hf => ?_)
  refine ja_callVv (pc := 1) (idx := 74) (t := 8) (b := x0) (as := []) (st := []) (by decide +kernel) kv_Model_usesSheet lk_Model_74 ⟨by decide, by decide⟩ (c_Model_usesSheet _ _ x0 h0 hv1) h0 rfl (Nat.le_of_ble_eq_true rfl) rfl ?_
  refine ja_aload_n (pc := 4) (f := 0) (i := 0) 0 (by decide +kernel) rfl rfl ?_
  refine ja_iconst (pc := 5) (n := 0) (v := 0) (by decide +kernel) (by decide +kernel) ?_
  refine ja_bind hf (fun v2 hv2 hf => ?_)
  refine ja_callVv (pc := 6) (idx := 248) (t := 8) (b := x0) (as := [.int (0 : Int32)]) (st := []) (by decide +kernel) kv_Model_laysFrom lk_Model_248 ⟨by decide, by decide⟩ (c_Model_laysFrom _ _ x0 (0 : Int32) h0 hv2) h0 rfl (Nat.le_of_ble_eq_true rfl) rfl ?_
  refine ja_aload_n (pc := 9) (f := 0) (i := 0) 0 (by decide +kernel) rfl rfl ?_
  refine ja_getr (pc := 10) (idx := 56) (t := 8) (j := 30) (by decide +kernel) fd_Model_56 h0 (fr_8_30 h0) ?_
  refine ja_iload_n (pc := 13) (f := 1) (i := 1) 1 (by decide +kernel) rfl rfl ?_
  refine ja_bind hf (fun v3 hv3 hf => ?_)
  refine ja_iald (pc := 14) (by decide +kernel) (fk_8_30 h0) hv3 ?_
  refine ja_iconst (pc := 15) (n := (-1)) (v := (-1)) (by decide +kernel) (by decide +kernel) ?_
  refine ja_icmp_eq (pc := 16) (off := 13) 29 (by decide +kernel) (by decide) hf (fun hf => ?_) (fun hf => ?_)
  · refine ja_iconst (pc := 29) (n := 0) (v := 0) (by decide +kernel) (by decide +kernel) ?_
    exact ja_ret (pc := 30) (some (.int (0 : Int32))) .ireturn (by decide +kernel) rfl (by cases hf; rfl)
  · refine ja_aload_n (pc := 19) (f := 0) (i := 0) 0 (by decide +kernel) rfl rfl ?_
    refine ja_getr (pc := 20) (idx := 56) (t := 8) (j := 30) (by decide +kernel) fd_Model_56 h0 (fr_8_30 h0) ?_
    refine ja_iload_n (pc := 23) (f := 2) (i := 2) 2 (by decide +kernel) rfl rfl ?_
    refine ja_bind hf (fun v4 hv4 hf => ?_)
    refine ja_iald (pc := 24) (by decide +kernel) (fk_8_30 h0) hv4 ?_
    refine ja_iconst (pc := 25) (n := (-1)) (v := (-1)) (by decide +kernel) (by decide +kernel) ?_
    refine ja_icmp_ne (pc := 26) (off := 5) 31 (by decide +kernel) (by decide) hf (fun hf => ?_) (fun hf => ?_)
    · refine ja_aload_n (pc := 31) (f := 0) (i := 0) 0 (by decide +kernel) rfl rfl ?_
      refine ja_iload_n (pc := 32) (f := 1) (i := 1) 1 (by decide +kernel) rfl rfl ?_
      refine ja_bind hf (fun v5 hv5 hf => ?_)
      refine ja_callVv (pc := 33) (idx := 248) (t := 8) (b := x0) (as := [.int x1]) (st := []) (by decide +kernel) kv_Model_laysFrom lk_Model_248 ⟨by decide, by decide⟩ (c_Model_laysFrom _ _ x0 x1 h0 hv5) h0 rfl (Nat.le_of_ble_eq_true rfl) rfl ?_
      refine ja_iconst (pc := 36) (n := 1) (v := 1) (by decide +kernel) (by decide +kernel) ?_
      exact ja_ret (pc := 37) (some (.int (1 : Int32))) .ireturn (by decide +kernel) rfl (by cases hf; rfl)
    · refine ja_iconst (pc := 29) (n := 0) (v := 0) (by decide +kernel) (by decide +kernel) ?_
      exact ja_ret (pc := 30) (some (.int (0 : Int32))) .ireturn (by decide +kernel) rfl (by cases hf; rfl)
def f_Model_distance (x0 : Nat) (x1 : Int32) (x2 : Int32) (sg : ja_S) : Option (Int32 × ja_S) := (ja_pu sg x0 9 (0 : Int32)).bind fun s1 => (f_Model_isState x0 x1 s1).bind fun v2 => (if v2.1 = 0 then some ((-3 : Int32), v2.2) else (f_Model_isState x0 x2 v2.2).bind fun v3 => (if v3.1 = 0 then some ((-3 : Int32), v3.2) else (f_Model_areReachable x0 x1 x2 v3.2).bind fun v4 => (if v4.1 = 0 then some ((-1 : Int32), v4.2) else (ja_ld ja_L0 v4.2 (ja_q x0 30) x2).bind fun v5 => some (v5, v4.2))))
set_option maxRecDepth 4000 in
theorem c_Model_distance (l : Launch) (x : ja_X) (x0 : Nat) (x1 : Int32) (x2 : Int32) {sg : ja_S} {w : Int32 × ja_S} (h0 : ja_ob ja_L0 8 x0) (hf : f_Model_distance x0 x1 x2 sg = some w) : ja_Ct l x y_Model_distance M_Model_distance [.ref x0, .int x1, .int x2] ja_L0 sg (some (.int w.1), ja_L0, w.2) := by
  refine ja_mk ⟨by decide, rfl, rfl⟩ (Nat.le_of_ble_eq_true rfl) (lv := [(0, .ref x0), (1, .int x1), (2, .int x2)]) rfl (fun C hl hx _ _ _ _ => ?_)
  subst hl; subst hx
  unfold f_Model_distance at hf
  refine ja_aload_n (pc := 0) (f := 0) (i := 0) 0 (by decide +kernel) rfl rfl ?_
  refine ja_iconst (pc := 1) (n := 0) (v := 0) (by decide +kernel) (by decide +kernel) ?_
  refine ja_bind hf (fun s1 hs1 hf => ?_)
  refine ja_puti2 (pc := 2) (idx := 1) (t := 8) (j := 9) (by decide +kernel) fd_Model_1 h0 ⟨rfl, rfl⟩ hs1 ?_
  refine ja_aload_n (pc := 5) (f := 0) (i := 0) 0 (by decide +kernel) rfl rfl ?_
  refine ja_iload_n (pc := 6) (f := 1) (i := 1) 1 (by decide +kernel) rfl rfl ?_
  refine ja_bind hf (fun v2 hv2 hf => ?_)
  refine ja_callVi (pc := 7) (idx := 245) (t := 8) (b := x0) (as := [.int x1]) (st := []) (by decide +kernel) kv_Model_isState lk_Model_245 ⟨by decide, by decide⟩ (c_Model_isState _ _ x0 x1 h0 hv2) h0 rfl (Nat.le_of_ble_eq_true rfl) rfl ?_
  refine ja_if_eq (pc := 10) (off := 11) 21 (by decide +kernel) (by decide) hf (fun hf => ?_) (fun hf => ?_)
  · refine ja_bipush (pc := 21) (n := (-3)) (v := (-3)) (by decide +kernel) (by decide +kernel) ?_
    exact ja_ret (pc := 23) (some (.int (-3 : Int32))) .ireturn (by decide +kernel) rfl (by cases hf; rfl)
  · refine ja_aload_n (pc := 13) (f := 0) (i := 0) 0 (by decide +kernel) rfl rfl ?_
    refine ja_iload_n (pc := 14) (f := 2) (i := 2) 2 (by decide +kernel) rfl rfl ?_
    refine ja_bind hf (fun v3 hv3 hf => ?_)
    refine ja_callVi (pc := 15) (idx := 245) (t := 8) (b := x0) (as := [.int x2]) (st := []) (by decide +kernel) kv_Model_isState lk_Model_245 ⟨by decide, by decide⟩ (c_Model_isState _ _ x0 x2 h0 hv3) h0 rfl (Nat.le_of_ble_eq_true rfl) rfl ?_
    refine ja_if_ne (pc := 18) (off := 6) 24 (by decide +kernel) (by decide) hf (fun hf => ?_) (fun hf => ?_)
    · refine ja_aload_n (pc := 24) (f := 0) (i := 0) 0 (by decide +kernel) rfl rfl ?_
      refine ja_iload_n (pc := 25) (f := 1) (i := 1) 1 (by decide +kernel) rfl rfl ?_
      refine ja_iload_n (pc := 26) (f := 2) (i := 2) 2 (by decide +kernel) rfl rfl ?_
      refine ja_bind hf (fun v4 hv4 hf => ?_)
      refine ja_callVi (pc := 27) (idx := 252) (t := 8) (b := x0) (as := [.int x1, .int x2]) (st := []) (by decide +kernel) kv_Model_areReachable lk_Model_252 ⟨by decide, by decide⟩ (c_Model_areReachable _ _ x0 x1 x2 h0 hv4) h0 rfl (Nat.le_of_ble_eq_true rfl) rfl ?_
      refine ja_if_eq (pc := 30) (off := 12) 42 (by decide +kernel) (by decide) hf (fun hf => ?_) (fun hf => ?_)
      · refine ja_iconst (pc := 42) (n := (-1)) (v := (-1)) (by decide +kernel) (by decide +kernel) ?_
        exact ja_ret (pc := 43) (some (.int (-1 : Int32))) .ireturn (by decide +kernel) rfl (by cases hf; rfl)
      · refine ja_aload_n (pc := 33) (f := 0) (i := 0) 0 (by decide +kernel) rfl rfl ?_
        refine ja_getr (pc := 34) (idx := 56) (t := 8) (j := 30) (by decide +kernel) fd_Model_56 h0 (fr_8_30 h0) ?_
        refine ja_iload_n (pc := 37) (f := 2) (i := 2) 2 (by decide +kernel) rfl rfl ?_
        refine ja_bind hf (fun v5 hv5 hf => ?_)
        refine ja_iald (pc := 38) (by decide +kernel) (fk_8_30 h0) hv5 ?_
        refine ja_goto (pc := 39) (off := 4) 43 (by decide +kernel) (by decide) ?_
        exact ja_ret (pc := 43) (some (.int v5)) .ireturn (by decide +kernel) rfl (by cases hf; rfl)
    · refine ja_bipush (pc := 21) (n := (-3)) (v := (-3)) (by decide +kernel) (by decide +kernel) ?_
      exact ja_ret (pc := 23) (some (.int (-3 : Int32))) .ireturn (by decide +kernel) rfl (by cases hf; rfl)
def f_Model_nextMove_L37  : Nat → Nat → Int32 → Int32 → ja_S → Option (Int32 × ja_S)
  | 0, _, _, _, _ => none
  | n + 1, x0, x1, x3, sg => (if (sg.1 x0 0) ≤ x3 then some ((-1 : Int32), sg) else (f_Model_isFree x0 x1 x3 sg).bind fun v1 => (if v1.1 = 0 then f_Model_nextMove_L37  n x0 x1 (x3 + 1) v1.2 else (ja_ld ja_L0 v1.2 (ja_q x0 30) (x1 ^^^ ((1 : Int32) <<< (x3 &&& 31)))).bind fun v2 => (ja_ld ja_L0 v1.2 (ja_q x0 30) x1).bind fun v3 => (if v2 = (v3 - (1 : Int32)) then some (x3, v1.2) else f_Model_nextMove_L37  n x0 x1 (x3 + 1) v1.2)))
set_option maxRecDepth 4000 in
theorem w_Model_nextMove_L37 (C : ja_C) {w : Int32 × ja_S}    (n : Nat) : ∀ (x0 : Nat) (x1 : Int32) (x3 : Int32) (sg : ja_S), ja_ob ja_L0 8 x0 → f_Model_nextMove_L37  n x0 x1 x3 sg = some w → ja_J M_Model_nextMove C 37 [(0, .ref x0), (1, .int x1), (3, .int x3)] [] ja_L0 sg (some (.int w.1), ja_L0, w.2) := by
  induction n with
  | zero => intro _ _ _ _ _ hf; exact absurd (show (none : Option _) = some w from hf) (by simp)
  | succ n ih =>
    intro x0 x1 x3 sg h0 hf
    unfold f_Model_nextMove_L37 at hf
    refine ja_iload_n (pc := 37) (f := 3) (i := 3) 2 (by decide +kernel) rfl rfl ?_
    refine ja_aload_n (pc := 38) (f := 0) (i := 0) 0 (by decide +kernel) rfl rfl ?_
    refine ja_geti (pc := 39) (idx := 13) (t := 8) (j := 0) (by decide +kernel) fd_Model_13 h0 ?_
    refine ja_icmp_ge (pc := 42) (off := 41) 83 (by decide +kernel) (by decide) hf (fun hf => ?_) (fun hf => ?_)
    · refine ja_iconst (pc := 83) (n := (-1)) (v := (-1)) (by decide +kernel) (by decide +kernel) ?_
      exact ja_ret (pc := 84) (some (.int (-1 : Int32))) .ireturn (by decide +kernel) rfl (by cases hf; rfl)
    · refine ja_aload_n (pc := 45) (f := 0) (i := 0) 0 (by decide +kernel) rfl rfl ?_
      refine ja_iload_n (pc := 46) (f := 1) (i := 1) 1 (by decide +kernel) rfl rfl ?_
      refine ja_iload_n (pc := 47) (f := 3) (i := 3) 2 (by decide +kernel) rfl rfl ?_
      refine ja_bind hf (fun v1 hv1 hf => ?_)
      refine ja_callVi (pc := 48) (idx := 221) (t := 8) (b := x0) (as := [.int x1, .int x3]) (st := []) (by decide +kernel) kv_Model_isFree lk_Model_221 ⟨by decide, by decide⟩ (c_Model_isFree _ _ x0 x1 x3 h0 hv1) h0 rfl (Nat.le_of_ble_eq_true rfl) rfl ?_
      refine ja_if_eq (pc := 51) (off := 26) 77 (by decide +kernel) (by decide) hf (fun hf => ?_) (fun hf => ?_)
      · refine ja_iinc (pc := 77) (i := 3) (n := 1) (v := x3 + 1) (lv' := [(3, .int (x3 + 1)), (0, .ref x0), (1, .int x1)]) 2 (by decide +kernel) rfl rfl (by decide) rfl ?_
        refine ja_goto (pc := 80) (off := (-43)) 37 (by decide +kernel) (by decide) ?_
        refine ja_lv [1, 2, 0] rfl ?_
        exact ih x0 x1 (x3 + 1) v1.2 h0 hf
      · refine ja_aload_n (pc := 54) (f := 0) (i := 0) 0 (by decide +kernel) rfl rfl ?_
        refine ja_getr (pc := 55) (idx := 56) (t := 8) (j := 30) (by decide +kernel) fd_Model_56 h0 (fr_8_30 h0) ?_
        refine ja_iload_n (pc := 58) (f := 1) (i := 1) 1 (by decide +kernel) rfl rfl ?_
        refine ja_iconst (pc := 59) (n := 1) (v := 1) (by decide +kernel) (by decide +kernel) ?_
        refine ja_iload_n (pc := 60) (f := 3) (i := 3) 2 (by decide +kernel) rfl rfl ?_
        refine ja_ishl (pc := 61) (by decide +kernel) ?_
        refine ja_ixor (pc := 62) (by decide +kernel) ?_
        refine ja_bind hf (fun v2 hv2 hf => ?_)
        refine ja_iald (pc := 63) (by decide +kernel) (fk_8_30 h0) hv2 ?_
        refine ja_aload_n (pc := 64) (f := 0) (i := 0) 0 (by decide +kernel) rfl rfl ?_
        refine ja_getr (pc := 65) (idx := 56) (t := 8) (j := 30) (by decide +kernel) fd_Model_56 h0 (fr_8_30 h0) ?_
        refine ja_iload_n (pc := 68) (f := 1) (i := 1) 1 (by decide +kernel) rfl rfl ?_
        refine ja_bind hf (fun v3 hv3 hf => ?_)
        refine ja_iald (pc := 69) (by decide +kernel) (fk_8_30 h0) hv3 ?_
        refine ja_iconst (pc := 70) (n := 1) (v := 1) (by decide +kernel) (by decide +kernel) ?_
        refine ja_isub (pc := 71) (by decide +kernel) ?_
        refine ja_icmp_ne (pc := 72) (off := 5) 77 (by decide +kernel) (by decide) hf (fun hf => ?_) (fun hf => ?_)
        · refine ja_iinc (pc := 77) (i := 3) (n := 1) (v := x3 + 1) (lv' := [(3, .int (x3 + 1)), (0, .ref x0), (1, .int x1)]) 2 (by decide +kernel) rfl rfl (by decide) rfl ?_
          refine ja_goto (pc := 80) (off := (-43)) 37 (by decide +kernel) (by decide) ?_
          refine ja_lv [1, 2, 0] rfl ?_
          exact ih x0 x1 (x3 + 1) v1.2 h0 hf
        · refine ja_iload_n (pc := 75) (f := 3) (i := 3) 2 (by decide +kernel) rfl rfl ?_
          exact ja_ret (pc := 76) (some (.int x3)) .ireturn (by decide +kernel) rfl (by cases hf; rfl)
def f_Model_nextMove (x0 : Nat) (x1 : Int32) (x2 : Int32) (sg : ja_S) : Option (Int32 × ja_S) := (ja_pu sg x0 9 (0 : Int32)).bind fun s1 => (f_Model_isState x0 x1 s1).bind fun v2 => (if v2.1 = 0 then some ((-3 : Int32), v2.2) else (f_Model_isState x0 x2 v2.2).bind fun v3 => (if v3.1 = 0 then some ((-3 : Int32), v3.2) else (f_Model_areReachable x0 x2 x1 v3.2).bind fun v4 => (if v4.1 = 0 then some ((-1 : Int32), v4.2) else f_Model_nextMove_L37  ja_FU x0 x1 (0 : Int32) v4.2)))
set_option maxRecDepth 4000 in
theorem c_Model_nextMove (l : Launch) (x : ja_X) (x0 : Nat) (x1 : Int32) (x2 : Int32) {sg : ja_S} {w : Int32 × ja_S} (h0 : ja_ob ja_L0 8 x0) (hf : f_Model_nextMove x0 x1 x2 sg = some w) : ja_Ct l x y_Model_nextMove M_Model_nextMove [.ref x0, .int x1, .int x2] ja_L0 sg (some (.int w.1), ja_L0, w.2) := by
  refine ja_mk ⟨by decide, rfl, rfl⟩ (Nat.le_of_ble_eq_true rfl) (lv := [(0, .ref x0), (1, .int x1), (2, .int x2)]) rfl (fun C hl hx _ _ _ _ => ?_)
  subst hl; subst hx
  unfold f_Model_nextMove at hf
  refine ja_aload_n (pc := 0) (f := 0) (i := 0) 0 (by decide +kernel) rfl rfl ?_
  refine ja_iconst (pc := 1) (n := 0) (v := 0) (by decide +kernel) (by decide +kernel) ?_
  refine ja_bind hf (fun s1 hs1 hf => ?_)
  refine ja_puti2 (pc := 2) (idx := 1) (t := 8) (j := 9) (by decide +kernel) fd_Model_1 h0 ⟨rfl, rfl⟩ hs1 ?_
  refine ja_aload_n (pc := 5) (f := 0) (i := 0) 0 (by decide +kernel) rfl rfl ?_
  refine ja_iload_n (pc := 6) (f := 1) (i := 1) 1 (by decide +kernel) rfl rfl ?_
  refine ja_bind hf (fun v2 hv2 hf => ?_)
  refine ja_callVi (pc := 7) (idx := 245) (t := 8) (b := x0) (as := [.int x1]) (st := []) (by decide +kernel) kv_Model_isState lk_Model_245 ⟨by decide, by decide⟩ (c_Model_isState _ _ x0 x1 h0 hv2) h0 rfl (Nat.le_of_ble_eq_true rfl) rfl ?_
  refine ja_if_eq (pc := 10) (off := 11) 21 (by decide +kernel) (by decide) hf (fun hf => ?_) (fun hf => ?_)
  · refine ja_bipush (pc := 21) (n := (-3)) (v := (-3)) (by decide +kernel) (by decide +kernel) ?_
    exact ja_ret (pc := 23) (some (.int (-3 : Int32))) .ireturn (by decide +kernel) rfl (by cases hf; rfl)
  · refine ja_aload_n (pc := 13) (f := 0) (i := 0) 0 (by decide +kernel) rfl rfl ?_
    refine ja_iload_n (pc := 14) (f := 2) (i := 2) 2 (by decide +kernel) rfl rfl ?_
    refine ja_bind hf (fun v3 hv3 hf => ?_)
    refine ja_callVi (pc := 15) (idx := 245) (t := 8) (b := x0) (as := [.int x2]) (st := []) (by decide +kernel) kv_Model_isState lk_Model_245 ⟨by decide, by decide⟩ (c_Model_isState _ _ x0 x2 h0 hv3) h0 rfl (Nat.le_of_ble_eq_true rfl) rfl ?_
    refine ja_if_ne (pc := 18) (off := 6) 24 (by decide +kernel) (by decide) hf (fun hf => ?_) (fun hf => ?_)
    · refine ja_aload_n (pc := 24) (f := 0) (i := 0) 0 (by decide +kernel) rfl rfl ?_
      refine ja_iload_n (pc := 25) (f := 2) (i := 2) 2 (by decide +kernel) rfl rfl ?_
      refine ja_iload_n (pc := 26) (f := 1) (i := 1) 1 (by decide +kernel) rfl rfl ?_
      refine ja_bind hf (fun v4 hv4 hf => ?_)
      refine ja_callVi (pc := 27) (idx := 252) (t := 8) (b := x0) (as := [.int x2, .int x1]) (st := []) (by decide +kernel) kv_Model_areReachable lk_Model_252 ⟨by decide, by decide⟩ (c_Model_areReachable _ _ x0 x2 x1 h0 hv4) h0 rfl (Nat.le_of_ble_eq_true rfl) rfl ?_
      refine ja_if_ne (pc := 30) (off := 5) 35 (by decide +kernel) (by decide) hf (fun hf => ?_) (fun hf => ?_)
      · refine ja_iconst (pc := 35) (n := 0) (v := 0) (by decide +kernel) (by decide +kernel) ?_
        refine ja_istore_n (pc := 36) (f := 3) (i := 3) (lv' := [(3, .int (0 : Int32)), (0, .ref x0), (1, .int x1), (2, .int x2)]) (by decide +kernel) rfl (by decide) rfl ?_
        refine ja_lv [1, 2, 0] rfl ?_
        exact w_Model_nextMove_L37 C  ja_FU x0 x1 (0 : Int32) v4.2 h0 hf
      · refine ja_iconst (pc := 33) (n := (-1)) (v := (-1)) (by decide +kernel) (by decide +kernel) ?_
        exact ja_ret (pc := 34) (some (.int (-1 : Int32))) .ireturn (by decide +kernel) rfl (by cases hf; rfl)
    · refine ja_bipush (pc := 21) (n := (-3)) (v := (-3)) (by decide +kernel) (by decide +kernel) ?_
      exact ja_ret (pc := 23) (some (.int (-3 : Int32))) .ireturn (by decide +kernel) rfl (by cases hf; rfl)
def f_Model_excludedLevers_L29  : Nat → Nat → Int32 → Int32 → Int32 → ja_S → Option (Int32 × ja_S)
  | 0, _, _, _, _, _ => none
  | n + 1, x0, x1, x2, x3, sg => (if (sg.1 x0 32) ≤ x3 then some (((((1 : Int32) <<< ((sg.1 x0 0) &&& 31)) - (1 : Int32)) &&& (x2 ^^^ (-1 : Int32))) &&& (((1 : Int32) <<< (x1 &&& 31)) ^^^ (-1 : Int32)), sg) else (ja_ld ja_L0 sg (ja_q x0 31) x3).bind fun v1 => (f_Model_has v1 x1 sg).bind fun v2 => (if v2.1 = 0 then f_Model_excludedLevers_L29  n x0 x1 (x2 ||| (0 : Int32)) (x3 + 1) v2.2 else (ja_ld ja_L0 v2.2 (ja_q x0 31) x3).bind fun v3 => f_Model_excludedLevers_L29  n x0 x1 (x2 ||| v3) (x3 + 1) v2.2))
set_option maxRecDepth 4000 in
theorem w_Model_excludedLevers_L29 (C : ja_C) {w : Int32 × ja_S}    (n : Nat) : ∀ (x0 : Nat) (x1 : Int32) (x2 : Int32) (x3 : Int32) (sg : ja_S), ja_ob ja_L0 8 x0 → f_Model_excludedLevers_L29  n x0 x1 x2 x3 sg = some w → ja_J M_Model_excludedLevers C 29 [(0, .ref x0), (1, .int x1), (2, .int x2), (3, .int x3)] [] ja_L0 sg (some (.int w.1), ja_L0, w.2) := by
  induction n with
  | zero => intro _ _ _ _ _ _ hf; exact absurd (show (none : Option _) = some w from hf) (by simp)
  | succ n ih =>
    intro x0 x1 x2 x3 sg h0 hf
    unfold f_Model_excludedLevers_L29 at hf
    refine ja_iload_n (pc := 29) (f := 3) (i := 3) 3 (by decide +kernel) rfl rfl ?_
    refine ja_aload_n (pc := 30) (f := 0) (i := 0) 0 (by decide +kernel) rfl rfl ?_
    refine ja_geti (pc := 31) (idx := 218) (t := 8) (j := 32) (by decide +kernel) fd_Model_218 h0 ?_
    refine ja_icmp_ge (pc := 34) (off := 35) 69 (by decide +kernel) (by decide) hf (fun hf => ?_) (fun hf => ?_)
    · refine ja_iconst (pc := 69) (n := 1) (v := 1) (by decide +kernel) (by decide +kernel) ?_
      refine ja_aload_n (pc := 70) (f := 0) (i := 0) 0 (by decide +kernel) rfl rfl ?_
      refine ja_geti (pc := 71) (idx := 13) (t := 8) (j := 0) (by decide +kernel) fd_Model_13 h0 ?_
      refine ja_ishl (pc := 74) (by decide +kernel) ?_
      refine ja_iconst (pc := 75) (n := 1) (v := 1) (by decide +kernel) (by decide +kernel) ?_
      refine ja_isub (pc := 76) (by decide +kernel) ?_
      refine ja_iload_n (pc := 77) (f := 2) (i := 2) 2 (by decide +kernel) rfl rfl ?_
      refine ja_iconst (pc := 78) (n := (-1)) (v := (-1)) (by decide +kernel) (by decide +kernel) ?_
      refine ja_ixor (pc := 79) (by decide +kernel) ?_
      refine ja_iand (pc := 80) (by decide +kernel) ?_
      refine ja_iconst (pc := 81) (n := 1) (v := 1) (by decide +kernel) (by decide +kernel) ?_
      refine ja_iload_n (pc := 82) (f := 1) (i := 1) 1 (by decide +kernel) rfl rfl ?_
      refine ja_ishl (pc := 83) (by decide +kernel) ?_
      refine ja_iconst (pc := 84) (n := (-1)) (v := (-1)) (by decide +kernel) (by decide +kernel) ?_
      refine ja_ixor (pc := 85) (by decide +kernel) ?_
      refine ja_iand (pc := 86) (by decide +kernel) ?_
      exact ja_ret (pc := 87) (some (.int (((((1 : Int32) <<< ((sg.1 x0 0) &&& 31)) - (1 : Int32)) &&& (x2 ^^^ (-1 : Int32))) &&& (((1 : Int32) <<< (x1 &&& 31)) ^^^ (-1 : Int32))))) .ireturn (by decide +kernel) rfl (by cases hf; rfl)
    · refine ja_iload_n (pc := 37) (f := 2) (i := 2) 2 (by decide +kernel) rfl rfl ?_
      refine ja_aload_n (pc := 38) (f := 0) (i := 0) 0 (by decide +kernel) rfl rfl ?_
      refine ja_getr (pc := 39) (idx := 59) (t := 8) (j := 31) (by decide +kernel) fd_Model_59 h0 (fr_8_31 h0) ?_
      refine ja_iload_n (pc := 42) (f := 3) (i := 3) 3 (by decide +kernel) rfl rfl ?_
      refine ja_bind hf (fun v1 hv1 hf => ?_)
      refine ja_iald (pc := 43) (by decide +kernel) (fk_8_31 h0) hv1 ?_
      refine ja_iload_n (pc := 44) (f := 1) (i := 1) 1 (by decide +kernel) rfl rfl ?_
      refine ja_bind hf (fun v2 hv2 hf => ?_)
      refine ja_callSi (pc := 45) (idx := 152) (as := [.int v1, .int x1]) (st := [.int x2]) (by decide +kernel) ks_Model_has lk_Model_152 ⟨by decide, by decide⟩ (c_Model_has _ _ v1 x1  hv2) rfl (Nat.le_of_ble_eq_true rfl) rfl ?_
      refine ja_if_eq (pc := 48) (off := 12) 60 (by decide +kernel) (by decide) hf (fun hf => ?_) (fun hf => ?_)
      · refine ja_iconst (pc := 60) (n := 0) (v := 0) (by decide +kernel) (by decide +kernel) ?_
        refine ja_ior (pc := 61) (by decide +kernel) ?_
        refine ja_istore_n (pc := 62) (f := 2) (i := 2) (lv' := [(2, .int (x2 ||| (0 : Int32))), (0, .ref x0), (1, .int x1), (3, .int x3)]) (by decide +kernel) rfl (by decide) rfl ?_
        refine ja_iinc (pc := 63) (i := 3) (n := 1) (v := x3 + 1) (lv' := [(3, .int (x3 + 1)), (2, .int (x2 ||| (0 : Int32))), (0, .ref x0), (1, .int x1)]) 3 (by decide +kernel) rfl rfl (by decide) rfl ?_
        refine ja_goto (pc := 66) (off := (-37)) 29 (by decide +kernel) (by decide) ?_
        refine ja_lv [2, 3, 1, 0] rfl ?_
        exact ih x0 x1 (x2 ||| (0 : Int32)) (x3 + 1) v2.2 h0 hf
      · refine ja_aload_n (pc := 51) (f := 0) (i := 0) 0 (by decide +kernel) rfl rfl ?_
        refine ja_getr (pc := 52) (idx := 59) (t := 8) (j := 31) (by decide +kernel) fd_Model_59 h0 (fr_8_31 h0) ?_
        refine ja_iload_n (pc := 55) (f := 3) (i := 3) 3 (by decide +kernel) rfl rfl ?_
        refine ja_bind hf (fun v3 hv3 hf => ?_)
        refine ja_iald (pc := 56) (by decide +kernel) (fk_8_31 h0) hv3 ?_
        refine ja_goto (pc := 57) (off := 4) 61 (by decide +kernel) (by decide) ?_
        refine ja_ior (pc := 61) (by decide +kernel) ?_
        refine ja_istore_n (pc := 62) (f := 2) (i := 2) (lv' := [(2, .int (x2 ||| v3)), (0, .ref x0), (1, .int x1), (3, .int x3)]) (by decide +kernel) rfl (by decide) rfl ?_
        refine ja_iinc (pc := 63) (i := 3) (n := 1) (v := x3 + 1) (lv' := [(3, .int (x3 + 1)), (2, .int (x2 ||| v3)), (0, .ref x0), (1, .int x1)]) 3 (by decide +kernel) rfl rfl (by decide) rfl ?_
        refine ja_goto (pc := 66) (off := (-37)) 29 (by decide +kernel) (by decide) ?_
        refine ja_lv [2, 3, 1, 0] rfl ?_
        exact ih x0 x1 (x2 ||| v3) (x3 + 1) v2.2 h0 hf
def f_Model_excludedLevers (x0 : Nat) (x1 : Int32) (sg : ja_S) : Option (Int32 × ja_S) := (ja_pu sg x0 9 (0 : Int32)).bind fun s1 => (f_Model_isLever x0 x1 s1).bind fun v2 => (if v2.1 = 0 then some ((-2 : Int32), v2.2) else (f_Model_usesSheet x0 v2.2).bind fun v3 => (f_Model_laysFrom x0 (0 : Int32) v3).bind fun v4 => f_Model_excludedLevers_L29  ja_FU x0 x1 (0 : Int32) (0 : Int32) v4)
set_option maxRecDepth 4000 in
theorem c_Model_excludedLevers (l : Launch) (x : ja_X) (x0 : Nat) (x1 : Int32) {sg : ja_S} {w : Int32 × ja_S} (h0 : ja_ob ja_L0 8 x0) (hf : f_Model_excludedLevers x0 x1 sg = some w) : ja_Ct l x y_Model_excludedLevers M_Model_excludedLevers [.ref x0, .int x1] ja_L0 sg (some (.int w.1), ja_L0, w.2) := by
  refine ja_mk ⟨by decide, rfl, rfl⟩ (Nat.le_of_ble_eq_true rfl) (lv := [(0, .ref x0), (1, .int x1)]) rfl (fun C hl hx _ _ _ _ => ?_)
  subst hl; subst hx
  unfold f_Model_excludedLevers at hf
  refine ja_aload_n (pc := 0) (f := 0) (i := 0) 0 (by decide +kernel) rfl rfl ?_
  refine ja_iconst (pc := 1) (n := 0) (v := 0) (by decide +kernel) (by decide +kernel) ?_
  refine ja_bind hf (fun s1 hs1 hf => ?_)
  refine ja_puti2 (pc := 2) (idx := 1) (t := 8) (j := 9) (by decide +kernel) fd_Model_1 h0 ⟨rfl, rfl⟩ hs1 ?_
  refine ja_aload_n (pc := 5) (f := 0) (i := 0) 0 (by decide +kernel) rfl rfl ?_
  refine ja_iload_n (pc := 6) (f := 1) (i := 1) 1 (by decide +kernel) rfl rfl ?_
  refine ja_bind hf (fun v2 hv2 hf => ?_)
  refine ja_callVi (pc := 7) (idx := 233) (t := 8) (b := x0) (as := [.int x1]) (st := []) (by decide +kernel) kv_Model_isLever lk_Model_233 ⟨by decide, by decide⟩ (c_Model_isLever _ _ x0 x1 h0 hv2) h0 rfl (Nat.le_of_ble_eq_true rfl) rfl ?_
  refine ja_if_ne (pc := 10) (off := 6) 16 (by decide +kernel) (by decide) hf (fun hf => ?_) (fun hf => ?_)
  · refine ja_aload_n (pc := 16) (f := 0) (i := 0) 0 (by decide +kernel) rfl rfl ?_
    refine ja_bind hf (fun v3 hv3 hf => ?_)
    refine ja_callVv (pc := 17) (idx := 74) (t := 8) (b := x0) (as := []) (st := []) (by decide +kernel) kv_Model_usesSheet lk_Model_74 ⟨by decide, by decide⟩ (c_Model_usesSheet _ _ x0 h0 hv3) h0 rfl (Nat.le_of_ble_eq_true rfl) rfl ?_
    refine ja_aload_n (pc := 20) (f := 0) (i := 0) 0 (by decide +kernel) rfl rfl ?_
    refine ja_iconst (pc := 21) (n := 0) (v := 0) (by decide +kernel) (by decide +kernel) ?_
    refine ja_bind hf (fun v4 hv4 hf => ?_)
    refine ja_callVv (pc := 22) (idx := 248) (t := 8) (b := x0) (as := [.int (0 : Int32)]) (st := []) (by decide +kernel) kv_Model_laysFrom lk_Model_248 ⟨by decide, by decide⟩ (c_Model_laysFrom _ _ x0 (0 : Int32) h0 hv4) h0 rfl (Nat.le_of_ble_eq_true rfl) rfl ?_
    refine ja_iconst (pc := 25) (n := 0) (v := 0) (by decide +kernel) (by decide +kernel) ?_
    refine ja_istore_n (pc := 26) (f := 2) (i := 2) (lv' := [(2, .int (0 : Int32)), (0, .ref x0), (1, .int x1)]) (by decide +kernel) rfl (by decide) rfl ?_
    refine ja_iconst (pc := 27) (n := 0) (v := 0) (by decide +kernel) (by decide +kernel) ?_
    refine ja_istore_n (pc := 28) (f := 3) (i := 3) (lv' := [(3, .int (0 : Int32)), (2, .int (0 : Int32)), (0, .ref x0), (1, .int x1)]) (by decide +kernel) rfl (by decide) rfl ?_
    refine ja_lv [2, 3, 1, 0] rfl ?_
    exact w_Model_excludedLevers_L29 C  ja_FU x0 x1 (0 : Int32) (0 : Int32) v4 h0 hf
  · refine ja_bipush (pc := 13) (n := (-2)) (v := (-2)) (by decide +kernel) (by decide +kernel) ?_
    exact ja_ret (pc := 15) (some (.int (-2 : Int32))) .ireturn (by decide +kernel) rfl (by cases hf; rfl)
def f_Model_sets (x0 : Nat) (x1 : Int32) (x2 : Int32) (sg : ja_S) : Option (Int32 × ja_S) := (ja_ld ja_L0 sg (ja_q x0 26) x2).bind fun v1 => (if (v1 &&& (x1 ^^^ (-1 : Int32))) = 0 then some ((1 : Int32), sg) else some ((0 : Int32), sg))
set_option maxRecDepth 4000 in
theorem c_Model_sets (l : Launch) (x : ja_X) (x0 : Nat) (x1 : Int32) (x2 : Int32) {sg : ja_S} {w : Int32 × ja_S} (h0 : ja_ob ja_L0 8 x0) (hf : f_Model_sets x0 x1 x2 sg = some w) : ja_Ct l x y_Model_sets M_Model_sets [.ref x0, .int x1, .int x2] ja_L0 sg (some (.int w.1), ja_L0, w.2) := by
  refine ja_mk ⟨by decide, rfl, rfl⟩ (Nat.le_of_ble_eq_true rfl) (lv := [(0, .ref x0), (1, .int x1), (2, .int x2)]) rfl (fun C hl hx _ _ _ _ => ?_)
  subst hl; subst hx
  unfold f_Model_sets at hf
  refine ja_aload_n (pc := 0) (f := 0) (i := 0) 0 (by decide +kernel) rfl rfl ?_
  refine ja_getr (pc := 1) (idx := 53) (t := 8) (j := 26) (by decide +kernel) fd_Model_53 h0 (fr_8_26 h0) ?_
  refine ja_iload_n (pc := 4) (f := 2) (i := 2) 2 (by decide +kernel) rfl rfl ?_
  refine ja_bind hf (fun v1 hv1 hf => ?_)
  refine ja_iald (pc := 5) (by decide +kernel) (fk_8_26 h0) hv1 ?_
  refine ja_iload_n (pc := 6) (f := 1) (i := 1) 1 (by decide +kernel) rfl rfl ?_
  refine ja_iconst (pc := 7) (n := (-1)) (v := (-1)) (by decide +kernel) (by decide +kernel) ?_
  refine ja_ixor (pc := 8) (by decide +kernel) ?_
  refine ja_iand (pc := 9) (by decide +kernel) ?_
  refine ja_if_ne (pc := 10) (off := 7) 17 (by decide +kernel) (by decide) hf (fun hf => ?_) (fun hf => ?_)
  · refine ja_iconst (pc := 17) (n := 0) (v := 0) (by decide +kernel) (by decide +kernel) ?_
    exact ja_ret (pc := 18) (some (.int (0 : Int32))) .ireturn (by decide +kernel) rfl (by cases hf; rfl)
  · refine ja_iconst (pc := 13) (n := 1) (v := 1) (by decide +kernel) (by decide +kernel) ?_
    refine ja_goto (pc := 14) (off := 4) 18 (by decide +kernel) (by decide) ?_
    exact ja_ret (pc := 18) (some (.int (1 : Int32))) .ireturn (by decide +kernel) rfl (by cases hf; rfl)
def f_Model_settingOf_L4  : Nat → Nat → Int32 → Int32 → Int32 → ja_S → Option (Int32 × ja_S)
  | 0, _, _, _, _, _ => none
  | n + 1, x0, x1, x2, x3, sg => (if (4096 : Int32) ≤ x3 then some (x2, sg) else (ja_ld ja_L0 sg (ja_q x0 30) x3).bind fun v1 => (if v1 = (-1 : Int32) then f_Model_settingOf_L4  n x0 x1 x2 (x3 + 1) sg else (f_Model_sets x0 x3 x1 sg).bind fun v2 => (if v2.1 = 0 then f_Model_settingOf_L4  n x0 x1 x2 (x3 + 1) v2.2 else (if x2 = (-1 : Int32) then f_Model_settingOf_L4  n x0 x1 x3 (x3 + 1) v2.2 else (ja_ld ja_L0 v2.2 (ja_q x0 30) x3).bind fun v3 => (ja_ld ja_L0 v2.2 (ja_q x0 30) x2).bind fun v4 => (if v4 ≤ v3 then f_Model_settingOf_L4  n x0 x1 x2 (x3 + 1) v2.2 else f_Model_settingOf_L4  n x0 x1 x3 (x3 + 1) v2.2)))))
set_option maxRecDepth 4000 in
theorem w_Model_settingOf_L4 (C : ja_C) {w : Int32 × ja_S}    (n : Nat) : ∀ (x0 : Nat) (x1 : Int32) (x2 : Int32) (x3 : Int32) (sg : ja_S), ja_ob ja_L0 8 x0 → f_Model_settingOf_L4  n x0 x1 x2 x3 sg = some w → ja_J M_Model_settingOf C 4 [(0, .ref x0), (1, .int x1), (2, .int x2), (3, .int x3)] [] ja_L0 sg (some (.int w.1), ja_L0, w.2) := by
  induction n with
  | zero => intro _ _ _ _ _ _ hf; exact absurd (show (none : Option _) = some w from hf) (by simp)
  | succ n ih =>
    intro x0 x1 x2 x3 sg h0 hf
    unfold f_Model_settingOf_L4 at hf
    refine ja_iload_n (pc := 4) (f := 3) (i := 3) 3 (by decide +kernel) rfl rfl ?_
    refine ja_sipush (pc := 5) (n := 4096) (v := 4096) (by decide +kernel) (by decide +kernel) ?_
    refine ja_icmp_ge (pc := 8) (off := 53) 61 (by decide +kernel) (by decide) hf (fun hf => ?_) (fun hf => ?_)
    · refine ja_iload_n (pc := 61) (f := 2) (i := 2) 2 (by decide +kernel) rfl rfl ?_
      exact ja_ret (pc := 62) (some (.int x2)) .ireturn (by decide +kernel) rfl (by cases hf; rfl)
    · refine ja_aload_n (pc := 11) (f := 0) (i := 0) 0 (by decide +kernel) rfl rfl ?_
      refine ja_getr (pc := 12) (idx := 56) (t := 8) (j := 30) (by decide +kernel) fd_Model_56 h0 (fr_8_30 h0) ?_
      refine ja_iload_n (pc := 15) (f := 3) (i := 3) 3 (by decide +kernel) rfl rfl ?_
      refine ja_bind hf (fun v1 hv1 hf => ?_)
      refine ja_iald (pc := 16) (by decide +kernel) (fk_8_30 h0) hv1 ?_
      refine ja_iconst (pc := 17) (n := (-1)) (v := (-1)) (by decide +kernel) (by decide +kernel) ?_
      refine ja_icmp_eq (pc := 18) (off := 37) 55 (by decide +kernel) (by decide) hf (fun hf => ?_) (fun hf => ?_)
      · refine ja_iinc (pc := 55) (i := 3) (n := 1) (v := x3 + 1) (lv' := [(3, .int (x3 + 1)), (0, .ref x0), (1, .int x1), (2, .int x2)]) 3 (by decide +kernel) rfl rfl (by decide) rfl ?_
        refine ja_goto (pc := 58) (off := (-54)) 4 (by decide +kernel) (by decide) ?_
        refine ja_lv [1, 2, 3, 0] rfl ?_
        exact ih x0 x1 x2 (x3 + 1) sg h0 hf
      · refine ja_aload_n (pc := 21) (f := 0) (i := 0) 0 (by decide +kernel) rfl rfl ?_
        refine ja_iload_n (pc := 22) (f := 3) (i := 3) 3 (by decide +kernel) rfl rfl ?_
        refine ja_iload_n (pc := 23) (f := 1) (i := 1) 1 (by decide +kernel) rfl rfl ?_
        refine ja_bind hf (fun v2 hv2 hf => ?_)
        refine ja_callVi (pc := 24) (idx := 255) (t := 8) (b := x0) (as := [.int x3, .int x1]) (st := []) (by decide +kernel) kv_Model_sets lk_Model_255 ⟨by decide, by decide⟩ (c_Model_sets _ _ x0 x3 x1 h0 hv2) h0 rfl (Nat.le_of_ble_eq_true rfl) rfl ?_
        refine ja_if_ne (pc := 27) (off := 6) 33 (by decide +kernel) (by decide) hf (fun hf => ?_) (fun hf => ?_)
        · refine ja_iload_n (pc := 33) (f := 2) (i := 2) 2 (by decide +kernel) rfl rfl ?_
          refine ja_iconst (pc := 34) (n := (-1)) (v := (-1)) (by decide +kernel) (by decide +kernel) ?_
          refine ja_icmp_eq (pc := 35) (off := 18) 53 (by decide +kernel) (by decide) hf (fun hf => ?_) (fun hf => ?_)
          · refine ja_iload_n (pc := 53) (f := 3) (i := 3) 3 (by decide +kernel) rfl rfl ?_
            refine ja_istore_n (pc := 54) (f := 2) (i := 2) (lv' := [(2, .int x3), (0, .ref x0), (1, .int x1), (3, .int x3)]) (by decide +kernel) rfl (by decide) rfl ?_
            refine ja_iinc (pc := 55) (i := 3) (n := 1) (v := x3 + 1) (lv' := [(3, .int (x3 + 1)), (2, .int x3), (0, .ref x0), (1, .int x1)]) 3 (by decide +kernel) rfl rfl (by decide) rfl ?_
            refine ja_goto (pc := 58) (off := (-54)) 4 (by decide +kernel) (by decide) ?_
            refine ja_lv [2, 3, 1, 0] rfl ?_
            exact ih x0 x1 x3 (x3 + 1) v2.2 h0 hf
          · refine ja_aload_n (pc := 38) (f := 0) (i := 0) 0 (by decide +kernel) rfl rfl ?_
            refine ja_getr (pc := 39) (idx := 56) (t := 8) (j := 30) (by decide +kernel) fd_Model_56 h0 (fr_8_30 h0) ?_
            refine ja_iload_n (pc := 42) (f := 3) (i := 3) 3 (by decide +kernel) rfl rfl ?_
            refine ja_bind hf (fun v3 hv3 hf => ?_)
            refine ja_iald (pc := 43) (by decide +kernel) (fk_8_30 h0) hv3 ?_
            refine ja_aload_n (pc := 44) (f := 0) (i := 0) 0 (by decide +kernel) rfl rfl ?_
            refine ja_getr (pc := 45) (idx := 56) (t := 8) (j := 30) (by decide +kernel) fd_Model_56 h0 (fr_8_30 h0) ?_
            refine ja_iload_n (pc := 48) (f := 2) (i := 2) 2 (by decide +kernel) rfl rfl ?_
            refine ja_bind hf (fun v4 hv4 hf => ?_)
            refine ja_iald (pc := 49) (by decide +kernel) (fk_8_30 h0) hv4 ?_
            refine ja_icmp_ge (pc := 50) (off := 5) 55 (by decide +kernel) (by decide) hf (fun hf => ?_) (fun hf => ?_)
            · refine ja_iinc (pc := 55) (i := 3) (n := 1) (v := x3 + 1) (lv' := [(3, .int (x3 + 1)), (0, .ref x0), (1, .int x1), (2, .int x2)]) 3 (by decide +kernel) rfl rfl (by decide) rfl ?_
              refine ja_goto (pc := 58) (off := (-54)) 4 (by decide +kernel) (by decide) ?_
              refine ja_lv [1, 2, 3, 0] rfl ?_
              exact ih x0 x1 x2 (x3 + 1) v2.2 h0 hf
            · refine ja_iload_n (pc := 53) (f := 3) (i := 3) 3 (by decide +kernel) rfl rfl ?_
              refine ja_istore_n (pc := 54) (f := 2) (i := 2) (lv' := [(2, .int x3), (0, .ref x0), (1, .int x1), (3, .int x3)]) (by decide +kernel) rfl (by decide) rfl ?_
              refine ja_iinc (pc := 55) (i := 3) (n := 1) (v := x3 + 1) (lv' := [(3, .int (x3 + 1)), (2, .int x3), (0, .ref x0), (1, .int x1)]) 3 (by decide +kernel) rfl rfl (by decide) rfl ?_
              refine ja_goto (pc := 58) (off := (-54)) 4 (by decide +kernel) (by decide) ?_
              refine ja_lv [2, 3, 1, 0] rfl ?_
              exact ih x0 x1 x3 (x3 + 1) v2.2 h0 hf
        · refine ja_goto (pc := 30) (off := 25) 55 (by decide +kernel) (by decide) ?_
          refine ja_iinc (pc := 55) (i := 3) (n := 1) (v := x3 + 1) (lv' := [(3, .int (x3 + 1)), (0, .ref x0), (1, .int x1), (2, .int x2)]) 3 (by decide +kernel) rfl rfl (by decide) rfl ?_
          refine ja_goto (pc := 58) (off := (-54)) 4 (by decide +kernel) (by decide) ?_
          refine ja_lv [1, 2, 3, 0] rfl ?_
          exact ih x0 x1 x2 (x3 + 1) v2.2 h0 hf
def f_Model_settingOf (x0 : Nat) (x1 : Int32) (sg : ja_S) : Option (Int32 × ja_S) := f_Model_settingOf_L4  ja_FU x0 x1 (-1 : Int32) (0 : Int32) sg
set_option maxRecDepth 4000 in
theorem c_Model_settingOf (l : Launch) (x : ja_X) (x0 : Nat) (x1 : Int32) {sg : ja_S} {w : Int32 × ja_S} (h0 : ja_ob ja_L0 8 x0) (hf : f_Model_settingOf x0 x1 sg = some w) : ja_Ct l x y_Model_settingOf M_Model_settingOf [.ref x0, .int x1] ja_L0 sg (some (.int w.1), ja_L0, w.2) := by
  refine ja_mk ⟨by decide, rfl, rfl⟩ (Nat.le_of_ble_eq_true rfl) (lv := [(0, .ref x0), (1, .int x1)]) rfl (fun C hl hx _ _ _ _ => ?_)
  subst hl; subst hx
  unfold f_Model_settingOf at hf
  refine ja_iconst (pc := 0) (n := (-1)) (v := (-1)) (by decide +kernel) (by decide +kernel) ?_
  refine ja_istore_n (pc := 1) (f := 2) (i := 2) (lv' := [(2, .int (-1 : Int32)), (0, .ref x0), (1, .int x1)]) (by decide +kernel) rfl (by decide) rfl ?_
  refine ja_iconst (pc := 2) (n := 0) (v := 0) (by decide +kernel) (by decide +kernel) ?_
  refine ja_istore_n (pc := 3) (f := 3) (i := 3) (lv' := [(3, .int (0 : Int32)), (2, .int (-1 : Int32)), (0, .ref x0), (1, .int x1)]) (by decide +kernel) rfl (by decide) rfl ?_
  refine ja_lv [2, 3, 1, 0] rfl ?_
  exact w_Model_settingOf_L4 C  ja_FU x0 x1 (-1 : Int32) (0 : Int32) sg h0 hf
def f_Model_settingState (x0 : Nat) (x1 : Int32) (sg : ja_S) : Option (Int32 × ja_S) := (ja_pu sg x0 9 (0 : Int32)).bind fun s1 => (f_Model_isRoute x0 x1 s1).bind fun v2 => (if v2.1 = 0 then some ((-2 : Int32), v2.2) else (f_Model_usesSheet x0 v2.2).bind fun v3 => (f_Model_laysFrom x0 (0 : Int32) v3).bind fun v4 => (f_Model_settingOf x0 x1 v4).bind fun v5 => some (v5.1, v5.2))
set_option maxRecDepth 4000 in
theorem c_Model_settingState (l : Launch) (x : ja_X) (x0 : Nat) (x1 : Int32) {sg : ja_S} {w : Int32 × ja_S} (h0 : ja_ob ja_L0 8 x0) (hf : f_Model_settingState x0 x1 sg = some w) : ja_Ct l x y_Model_settingState M_Model_settingState [.ref x0, .int x1] ja_L0 sg (some (.int w.1), ja_L0, w.2) := by
  refine ja_mk ⟨by decide, rfl, rfl⟩ (Nat.le_of_ble_eq_true rfl) (lv := [(0, .ref x0), (1, .int x1)]) rfl (fun C hl hx _ _ _ _ => ?_)
  subst hl; subst hx
  unfold f_Model_settingState at hf
  refine ja_aload_n (pc := 0) (f := 0) (i := 0) 0 (by decide +kernel) rfl rfl ?_
  refine ja_iconst (pc := 1) (n := 0) (v := 0) (by decide +kernel) (by decide +kernel) ?_
  refine ja_bind hf (fun s1 hs1 hf => ?_)
  refine ja_puti2 (pc := 2) (idx := 1) (t := 8) (j := 9) (by decide +kernel) fd_Model_1 h0 ⟨rfl, rfl⟩ hs1 ?_
  refine ja_aload_n (pc := 5) (f := 0) (i := 0) 0 (by decide +kernel) rfl rfl ?_
  refine ja_iload_n (pc := 6) (f := 1) (i := 1) 1 (by decide +kernel) rfl rfl ?_
  refine ja_bind hf (fun v2 hv2 hf => ?_)
  refine ja_callVi (pc := 7) (idx := 193) (t := 8) (b := x0) (as := [.int x1]) (st := []) (by decide +kernel) kv_Model_isRoute lk_Model_193 ⟨by decide, by decide⟩ (c_Model_isRoute _ _ x0 x1 h0 hv2) h0 rfl (Nat.le_of_ble_eq_true rfl) rfl ?_
  refine ja_if_ne (pc := 10) (off := 6) 16 (by decide +kernel) (by decide) hf (fun hf => ?_) (fun hf => ?_)
  · refine ja_aload_n (pc := 16) (f := 0) (i := 0) 0 (by decide +kernel) rfl rfl ?_
    refine ja_bind hf (fun v3 hv3 hf => ?_)
    refine ja_callVv (pc := 17) (idx := 74) (t := 8) (b := x0) (as := []) (st := []) (by decide +kernel) kv_Model_usesSheet lk_Model_74 ⟨by decide, by decide⟩ (c_Model_usesSheet _ _ x0 h0 hv3) h0 rfl (Nat.le_of_ble_eq_true rfl) rfl ?_
    refine ja_aload_n (pc := 20) (f := 0) (i := 0) 0 (by decide +kernel) rfl rfl ?_
    refine ja_iconst (pc := 21) (n := 0) (v := 0) (by decide +kernel) (by decide +kernel) ?_
    refine ja_bind hf (fun v4 hv4 hf => ?_)
    refine ja_callVv (pc := 22) (idx := 248) (t := 8) (b := x0) (as := [.int (0 : Int32)]) (st := []) (by decide +kernel) kv_Model_laysFrom lk_Model_248 ⟨by decide, by decide⟩ (c_Model_laysFrom _ _ x0 (0 : Int32) h0 hv4) h0 rfl (Nat.le_of_ble_eq_true rfl) rfl ?_
    refine ja_aload_n (pc := 25) (f := 0) (i := 0) 0 (by decide +kernel) rfl rfl ?_
    refine ja_iload_n (pc := 26) (f := 1) (i := 1) 1 (by decide +kernel) rfl rfl ?_
    refine ja_bind hf (fun v5 hv5 hf => ?_)
    refine ja_callVi (pc := 27) (idx := 258) (t := 8) (b := x0) (as := [.int x1]) (st := []) (by decide +kernel) kv_Model_settingOf lk_Model_258 ⟨by decide, by decide⟩ (c_Model_settingOf _ _ x0 x1 h0 hv5) h0 rfl (Nat.le_of_ble_eq_true rfl) rfl ?_
    exact ja_ret (pc := 30) (some (.int v5.1)) .ireturn (by decide +kernel) rfl (by cases hf; rfl)
  · refine ja_bipush (pc := 13) (n := (-2)) (v := (-2)) (by decide +kernel) (by decide +kernel) ?_
    exact ja_ret (pc := 15) (some (.int (-2 : Int32))) .ireturn (by decide +kernel) rfl (by cases hf; rfl)
def f_Model_settingMoves (x0 : Nat) (x1 : Int32) (sg : ja_S) : Option (Int32 × ja_S) := (ja_pu sg x0 9 (0 : Int32)).bind fun s1 => (f_Model_isRoute x0 x1 s1).bind fun v2 => (if v2.1 = 0 then some ((-2 : Int32), v2.2) else (f_Model_usesSheet x0 v2.2).bind fun v3 => (f_Model_laysFrom x0 (0 : Int32) v3).bind fun v4 => (f_Model_settingOf x0 x1 v4).bind fun v5 => (if v5.1 = (-1 : Int32) then some ((-1 : Int32), v5.2) else (ja_ld ja_L0 v5.2 (ja_q x0 30) v5.1).bind fun v6 => some (v6, v5.2)))
set_option maxRecDepth 4000 in
theorem c_Model_settingMoves (l : Launch) (x : ja_X) (x0 : Nat) (x1 : Int32) {sg : ja_S} {w : Int32 × ja_S} (h0 : ja_ob ja_L0 8 x0) (hf : f_Model_settingMoves x0 x1 sg = some w) : ja_Ct l x y_Model_settingMoves M_Model_settingMoves [.ref x0, .int x1] ja_L0 sg (some (.int w.1), ja_L0, w.2) := by
  refine ja_mk ⟨by decide, rfl, rfl⟩ (Nat.le_of_ble_eq_true rfl) (lv := [(0, .ref x0), (1, .int x1)]) rfl (fun C hl hx _ _ _ _ => ?_)
  subst hl; subst hx
  unfold f_Model_settingMoves at hf
  refine ja_aload_n (pc := 0) (f := 0) (i := 0) 0 (by decide +kernel) rfl rfl ?_
  refine ja_iconst (pc := 1) (n := 0) (v := 0) (by decide +kernel) (by decide +kernel) ?_
  refine ja_bind hf (fun s1 hs1 hf => ?_)
  refine ja_puti2 (pc := 2) (idx := 1) (t := 8) (j := 9) (by decide +kernel) fd_Model_1 h0 ⟨rfl, rfl⟩ hs1 ?_
  refine ja_aload_n (pc := 5) (f := 0) (i := 0) 0 (by decide +kernel) rfl rfl ?_
  refine ja_iload_n (pc := 6) (f := 1) (i := 1) 1 (by decide +kernel) rfl rfl ?_
  refine ja_bind hf (fun v2 hv2 hf => ?_)
  refine ja_callVi (pc := 7) (idx := 193) (t := 8) (b := x0) (as := [.int x1]) (st := []) (by decide +kernel) kv_Model_isRoute lk_Model_193 ⟨by decide, by decide⟩ (c_Model_isRoute _ _ x0 x1 h0 hv2) h0 rfl (Nat.le_of_ble_eq_true rfl) rfl ?_
  refine ja_if_ne (pc := 10) (off := 6) 16 (by decide +kernel) (by decide) hf (fun hf => ?_) (fun hf => ?_)
  · refine ja_aload_n (pc := 16) (f := 0) (i := 0) 0 (by decide +kernel) rfl rfl ?_
    refine ja_bind hf (fun v3 hv3 hf => ?_)
    refine ja_callVv (pc := 17) (idx := 74) (t := 8) (b := x0) (as := []) (st := []) (by decide +kernel) kv_Model_usesSheet lk_Model_74 ⟨by decide, by decide⟩ (c_Model_usesSheet _ _ x0 h0 hv3) h0 rfl (Nat.le_of_ble_eq_true rfl) rfl ?_
    refine ja_aload_n (pc := 20) (f := 0) (i := 0) 0 (by decide +kernel) rfl rfl ?_
    refine ja_iconst (pc := 21) (n := 0) (v := 0) (by decide +kernel) (by decide +kernel) ?_
    refine ja_bind hf (fun v4 hv4 hf => ?_)
    refine ja_callVv (pc := 22) (idx := 248) (t := 8) (b := x0) (as := [.int (0 : Int32)]) (st := []) (by decide +kernel) kv_Model_laysFrom lk_Model_248 ⟨by decide, by decide⟩ (c_Model_laysFrom _ _ x0 (0 : Int32) h0 hv4) h0 rfl (Nat.le_of_ble_eq_true rfl) rfl ?_
    refine ja_aload_n (pc := 25) (f := 0) (i := 0) 0 (by decide +kernel) rfl rfl ?_
    refine ja_iload_n (pc := 26) (f := 1) (i := 1) 1 (by decide +kernel) rfl rfl ?_
    refine ja_bind hf (fun v5 hv5 hf => ?_)
    refine ja_callVi (pc := 27) (idx := 258) (t := 8) (b := x0) (as := [.int x1]) (st := []) (by decide +kernel) kv_Model_settingOf lk_Model_258 ⟨by decide, by decide⟩ (c_Model_settingOf _ _ x0 x1 h0 hv5) h0 rfl (Nat.le_of_ble_eq_true rfl) rfl ?_
    refine ja_istore_n (pc := 30) (f := 2) (i := 2) (lv' := [(2, .int v5.1), (0, .ref x0), (1, .int x1)]) (by decide +kernel) rfl (by decide) rfl ?_
    refine ja_iload_n (pc := 31) (f := 2) (i := 2) 0 (by decide +kernel) rfl rfl ?_
    refine ja_iconst (pc := 32) (n := (-1)) (v := (-1)) (by decide +kernel) (by decide +kernel) ?_
    refine ja_icmp_ne (pc := 33) (off := 7) 40 (by decide +kernel) (by decide) hf (fun hf => ?_) (fun hf => ?_)
    · refine ja_aload_n (pc := 40) (f := 0) (i := 0) 1 (by decide +kernel) rfl rfl ?_
      refine ja_getr (pc := 41) (idx := 56) (t := 8) (j := 30) (by decide +kernel) fd_Model_56 h0 (fr_8_30 h0) ?_
      refine ja_iload_n (pc := 44) (f := 2) (i := 2) 0 (by decide +kernel) rfl rfl ?_
      refine ja_bind hf (fun v6 hv6 hf => ?_)
      refine ja_iald (pc := 45) (by decide +kernel) (fk_8_30 h0) hv6 ?_
      exact ja_ret (pc := 46) (some (.int v6)) .ireturn (by decide +kernel) rfl (by cases hf; rfl)
    · refine ja_iconst (pc := 36) (n := (-1)) (v := (-1)) (by decide +kernel) (by decide +kernel) ?_
      refine ja_goto (pc := 37) (off := 9) 46 (by decide +kernel) (by decide) ?_
      exact ja_ret (pc := 46) (some (.int (-1 : Int32))) .ireturn (by decide +kernel) rfl (by cases hf; rfl)
  · refine ja_bipush (pc := 13) (n := (-2)) (v := (-2)) (by decide +kernel) (by decide +kernel) ?_
    exact ja_ret (pc := 15) (some (.int (-2 : Int32))) .ireturn (by decide +kernel) rfl (by cases hf; rfl)
def f_Model_joint_L5  : Nat → Nat → Int32 → Int32 → Int32 → Int32 → ja_S → Option (Int32 × ja_S)
  | 0, _, _, _, _, _, _ => none
  | n + 1, x0, x1, x2, x3, x4, sg => (if (sg.1 x0 32) ≤ x4 then some (x3, sg) else (ja_ld ja_L0 sg (ja_q x0 31) x4).bind fun v1 => (f_Model_sets x0 v1 x1 sg).bind fun v2 => (if v2.1 = 0 then f_Model_joint_L5  n x0 x1 x2 (x3 + (0 : Int32)) (x4 + 1) v2.2 else (ja_ld ja_L0 v2.2 (ja_q x0 31) x4).bind fun v3 => (f_Model_sets x0 v3 x2 v2.2).bind fun v4 => (if v4.1 = 0 then f_Model_joint_L5  n x0 x1 x2 (x3 + (0 : Int32)) (x4 + 1) v4.2 else f_Model_joint_L5  n x0 x1 x2 (x3 + (1 : Int32)) (x4 + 1) v4.2)))
set_option maxRecDepth 4000 in
theorem w_Model_joint_L5 (C : ja_C) {w : Int32 × ja_S}    (n : Nat) : ∀ (x0 : Nat) (x1 : Int32) (x2 : Int32) (x3 : Int32) (x4 : Int32) (sg : ja_S), ja_ob ja_L0 8 x0 → f_Model_joint_L5  n x0 x1 x2 x3 x4 sg = some w → ja_J M_Model_joint C 5 [(0, .ref x0), (1, .int x1), (2, .int x2), (3, .int x3), (4, .int x4)] [] ja_L0 sg (some (.int w.1), ja_L0, w.2) := by
  induction n with
  | zero => intro _ _ _ _ _ _ _ hf; exact absurd (show (none : Option _) = some w from hf) (by simp)
  | succ n ih =>
    intro x0 x1 x2 x3 x4 sg h0 hf
    unfold f_Model_joint_L5 at hf
    refine ja_iload (pc := 5) (i := 4) 4 (by decide +kernel) rfl ?_
    refine ja_aload_n (pc := 7) (f := 0) (i := 0) 0 (by decide +kernel) rfl rfl ?_
    refine ja_geti (pc := 8) (idx := 218) (t := 8) (j := 32) (by decide +kernel) fd_Model_218 h0 ?_
    refine ja_icmp_ge (pc := 11) (off := 47) 58 (by decide +kernel) (by decide) hf (fun hf => ?_) (fun hf => ?_)
    · refine ja_iload_n (pc := 58) (f := 3) (i := 3) 3 (by decide +kernel) rfl rfl ?_
      exact ja_ret (pc := 59) (some (.int x3)) .ireturn (by decide +kernel) rfl (by cases hf; rfl)
    · refine ja_iload_n (pc := 14) (f := 3) (i := 3) 3 (by decide +kernel) rfl rfl ?_
      refine ja_aload_n (pc := 15) (f := 0) (i := 0) 0 (by decide +kernel) rfl rfl ?_
      refine ja_aload_n (pc := 16) (f := 0) (i := 0) 0 (by decide +kernel) rfl rfl ?_
      refine ja_getr (pc := 17) (idx := 59) (t := 8) (j := 31) (by decide +kernel) fd_Model_59 h0 (fr_8_31 h0) ?_
      refine ja_iload (pc := 20) (i := 4) 4 (by decide +kernel) rfl ?_
      refine ja_bind hf (fun v1 hv1 hf => ?_)
      refine ja_iald (pc := 22) (by decide +kernel) (fk_8_31 h0) hv1 ?_
      refine ja_iload_n (pc := 23) (f := 1) (i := 1) 1 (by decide +kernel) rfl rfl ?_
      refine ja_bind hf (fun v2 hv2 hf => ?_)
      refine ja_callVi (pc := 24) (idx := 255) (t := 8) (b := x0) (as := [.int v1, .int x1]) (st := [.int x3]) (by decide +kernel) kv_Model_sets lk_Model_255 ⟨by decide, by decide⟩ (c_Model_sets _ _ x0 v1 x1 h0 hv2) h0 rfl (Nat.le_of_ble_eq_true rfl) rfl ?_
      refine ja_if_eq (pc := 27) (off := 22) 49 (by decide +kernel) (by decide) hf (fun hf => ?_) (fun hf => ?_)
      · refine ja_iconst (pc := 49) (n := 0) (v := 0) (by decide +kernel) (by decide +kernel) ?_
        refine ja_iadd (pc := 50) (by decide +kernel) ?_
        refine ja_istore_n (pc := 51) (f := 3) (i := 3) (lv' := [(3, .int (x3 + (0 : Int32))), (0, .ref x0), (1, .int x1), (2, .int x2), (4, .int x4)]) (by decide +kernel) rfl (by decide) rfl ?_
        refine ja_iinc (pc := 52) (i := 4) (n := 1) (v := x4 + 1) (lv' := [(4, .int (x4 + 1)), (3, .int (x3 + (0 : Int32))), (0, .ref x0), (1, .int x1), (2, .int x2)]) 4 (by decide +kernel) rfl rfl (by decide) rfl ?_
        refine ja_goto (pc := 55) (off := (-50)) 5 (by decide +kernel) (by decide) ?_
        refine ja_lv [2, 3, 4, 1, 0] rfl ?_
        exact ih x0 x1 x2 (x3 + (0 : Int32)) (x4 + 1) v2.2 h0 hf
      · refine ja_aload_n (pc := 30) (f := 0) (i := 0) 0 (by decide +kernel) rfl rfl ?_
        refine ja_aload_n (pc := 31) (f := 0) (i := 0) 0 (by decide +kernel) rfl rfl ?_
        refine ja_getr (pc := 32) (idx := 59) (t := 8) (j := 31) (by decide +kernel) fd_Model_59 h0 (fr_8_31 h0) ?_
        refine ja_iload (pc := 35) (i := 4) 4 (by decide +kernel) rfl ?_
        refine ja_bind hf (fun v3 hv3 hf => ?_)
        refine ja_iald (pc := 37) (by decide +kernel) (fk_8_31 h0) hv3 ?_
        refine ja_iload_n (pc := 38) (f := 2) (i := 2) 2 (by decide +kernel) rfl rfl ?_
        refine ja_bind hf (fun v4 hv4 hf => ?_)
        refine ja_callVi (pc := 39) (idx := 255) (t := 8) (b := x0) (as := [.int v3, .int x2]) (st := [.int x3]) (by decide +kernel) kv_Model_sets lk_Model_255 ⟨by decide, by decide⟩ (c_Model_sets _ _ x0 v3 x2 h0 hv4) h0 rfl (Nat.le_of_ble_eq_true rfl) rfl ?_
        refine ja_if_eq (pc := 42) (off := 7) 49 (by decide +kernel) (by decide) hf (fun hf => ?_) (fun hf => ?_)
        · refine ja_iconst (pc := 49) (n := 0) (v := 0) (by decide +kernel) (by decide +kernel) ?_
          refine ja_iadd (pc := 50) (by decide +kernel) ?_
          refine ja_istore_n (pc := 51) (f := 3) (i := 3) (lv' := [(3, .int (x3 + (0 : Int32))), (0, .ref x0), (1, .int x1), (2, .int x2), (4, .int x4)]) (by decide +kernel) rfl (by decide) rfl ?_
          refine ja_iinc (pc := 52) (i := 4) (n := 1) (v := x4 + 1) (lv' := [(4, .int (x4 + 1)), (3, .int (x3 + (0 : Int32))), (0, .ref x0), (1, .int x1), (2, .int x2)]) 4 (by decide +kernel) rfl rfl (by decide) rfl ?_
          refine ja_goto (pc := 55) (off := (-50)) 5 (by decide +kernel) (by decide) ?_
          refine ja_lv [2, 3, 4, 1, 0] rfl ?_
          exact ih x0 x1 x2 (x3 + (0 : Int32)) (x4 + 1) v4.2 h0 hf
        · refine ja_iconst (pc := 45) (n := 1) (v := 1) (by decide +kernel) (by decide +kernel) ?_
          refine ja_goto (pc := 46) (off := 4) 50 (by decide +kernel) (by decide) ?_
          refine ja_iadd (pc := 50) (by decide +kernel) ?_
          refine ja_istore_n (pc := 51) (f := 3) (i := 3) (lv' := [(3, .int (x3 + (1 : Int32))), (0, .ref x0), (1, .int x1), (2, .int x2), (4, .int x4)]) (by decide +kernel) rfl (by decide) rfl ?_
          refine ja_iinc (pc := 52) (i := 4) (n := 1) (v := x4 + 1) (lv' := [(4, .int (x4 + 1)), (3, .int (x3 + (1 : Int32))), (0, .ref x0), (1, .int x1), (2, .int x2)]) 4 (by decide +kernel) rfl rfl (by decide) rfl ?_
          refine ja_goto (pc := 55) (off := (-50)) 5 (by decide +kernel) (by decide) ?_
          refine ja_lv [2, 3, 4, 1, 0] rfl ?_
          exact ih x0 x1 x2 (x3 + (1 : Int32)) (x4 + 1) v4.2 h0 hf
def f_Model_joint (x0 : Nat) (x1 : Int32) (x2 : Int32) (sg : ja_S) : Option (Int32 × ja_S) := f_Model_joint_L5  ja_FU x0 x1 x2 (0 : Int32) (0 : Int32) sg
set_option maxRecDepth 4000 in
theorem c_Model_joint (l : Launch) (x : ja_X) (x0 : Nat) (x1 : Int32) (x2 : Int32) {sg : ja_S} {w : Int32 × ja_S} (h0 : ja_ob ja_L0 8 x0) (hf : f_Model_joint x0 x1 x2 sg = some w) : ja_Ct l x y_Model_joint M_Model_joint [.ref x0, .int x1, .int x2] ja_L0 sg (some (.int w.1), ja_L0, w.2) := by
  refine ja_mk ⟨by decide, rfl, rfl⟩ (Nat.le_of_ble_eq_true rfl) (lv := [(0, .ref x0), (1, .int x1), (2, .int x2)]) rfl (fun C hl hx _ _ _ _ => ?_)
  subst hl; subst hx
  unfold f_Model_joint at hf
  refine ja_iconst (pc := 0) (n := 0) (v := 0) (by decide +kernel) (by decide +kernel) ?_
  refine ja_istore_n (pc := 1) (f := 3) (i := 3) (lv' := [(3, .int (0 : Int32)), (0, .ref x0), (1, .int x1), (2, .int x2)]) (by decide +kernel) rfl (by decide) rfl ?_
  refine ja_iconst (pc := 2) (n := 0) (v := 0) (by decide +kernel) (by decide +kernel) ?_
  refine ja_istore (pc := 3) (i := 4) (lv' := [(4, .int (0 : Int32)), (3, .int (0 : Int32)), (0, .ref x0), (1, .int x1), (2, .int x2)]) (by decide +kernel) (by decide) rfl ?_
  refine ja_lv [2, 3, 4, 1, 0] rfl ?_
  exact w_Model_joint_L5 C  ja_FU x0 x1 x2 (0 : Int32) (0 : Int32) sg h0 hf
def f_Model_jointStates (x0 : Nat) (x1 : Int32) (x2 : Int32) (sg : ja_S) : Option (Int32 × ja_S) := (ja_pu sg x0 9 (0 : Int32)).bind fun s1 => (f_Model_isRoute x0 x1 s1).bind fun v2 => (if v2.1 = 0 then some ((-2 : Int32), v2.2) else (f_Model_isRoute x0 x2 v2.2).bind fun v3 => (if v3.1 = 0 then some ((-2 : Int32), v3.2) else (f_Model_usesSheet x0 v3.2).bind fun v4 => (f_Model_laysFrom x0 (0 : Int32) v4).bind fun v5 => (f_Model_joint x0 x1 x2 v5).bind fun v6 => some (v6.1, v6.2)))
set_option maxRecDepth 4000 in
theorem c_Model_jointStates (l : Launch) (x : ja_X) (x0 : Nat) (x1 : Int32) (x2 : Int32) {sg : ja_S} {w : Int32 × ja_S} (h0 : ja_ob ja_L0 8 x0) (hf : f_Model_jointStates x0 x1 x2 sg = some w) : ja_Ct l x y_Model_jointStates M_Model_jointStates [.ref x0, .int x1, .int x2] ja_L0 sg (some (.int w.1), ja_L0, w.2) := by
  refine ja_mk ⟨by decide, rfl, rfl⟩ (Nat.le_of_ble_eq_true rfl) (lv := [(0, .ref x0), (1, .int x1), (2, .int x2)]) rfl (fun C hl hx _ _ _ _ => ?_)
  subst hl; subst hx
  unfold f_Model_jointStates at hf
  refine ja_aload_n (pc := 0) (f := 0) (i := 0) 0 (by decide +kernel) rfl rfl ?_
  refine ja_iconst (pc := 1) (n := 0) (v := 0) (by decide +kernel) (by decide +kernel) ?_
  refine ja_bind hf (fun s1 hs1 hf => ?_)
  refine ja_puti2 (pc := 2) (idx := 1) (t := 8) (j := 9) (by decide +kernel) fd_Model_1 h0 ⟨rfl, rfl⟩ hs1 ?_
  refine ja_aload_n (pc := 5) (f := 0) (i := 0) 0 (by decide +kernel) rfl rfl ?_
  refine ja_iload_n (pc := 6) (f := 1) (i := 1) 1 (by decide +kernel) rfl rfl ?_
  refine ja_bind hf (fun v2 hv2 hf => ?_)
  refine ja_callVi (pc := 7) (idx := 193) (t := 8) (b := x0) (as := [.int x1]) (st := []) (by decide +kernel) kv_Model_isRoute lk_Model_193 ⟨by decide, by decide⟩ (c_Model_isRoute _ _ x0 x1 h0 hv2) h0 rfl (Nat.le_of_ble_eq_true rfl) rfl ?_
  refine ja_if_eq (pc := 10) (off := 11) 21 (by decide +kernel) (by decide) hf (fun hf => ?_) (fun hf => ?_)
  · refine ja_bipush (pc := 21) (n := (-2)) (v := (-2)) (by decide +kernel) (by decide +kernel) ?_
    exact ja_ret (pc := 23) (some (.int (-2 : Int32))) .ireturn (by decide +kernel) rfl (by cases hf; rfl)
  · refine ja_aload_n (pc := 13) (f := 0) (i := 0) 0 (by decide +kernel) rfl rfl ?_
    refine ja_iload_n (pc := 14) (f := 2) (i := 2) 2 (by decide +kernel) rfl rfl ?_
    refine ja_bind hf (fun v3 hv3 hf => ?_)
    refine ja_callVi (pc := 15) (idx := 193) (t := 8) (b := x0) (as := [.int x2]) (st := []) (by decide +kernel) kv_Model_isRoute lk_Model_193 ⟨by decide, by decide⟩ (c_Model_isRoute _ _ x0 x2 h0 hv3) h0 rfl (Nat.le_of_ble_eq_true rfl) rfl ?_
    refine ja_if_ne (pc := 18) (off := 6) 24 (by decide +kernel) (by decide) hf (fun hf => ?_) (fun hf => ?_)
    · refine ja_aload_n (pc := 24) (f := 0) (i := 0) 0 (by decide +kernel) rfl rfl ?_
      refine ja_bind hf (fun v4 hv4 hf => ?_)
      refine ja_callVv (pc := 25) (idx := 74) (t := 8) (b := x0) (as := []) (st := []) (by decide +kernel) kv_Model_usesSheet lk_Model_74 ⟨by decide, by decide⟩ (c_Model_usesSheet _ _ x0 h0 hv4) h0 rfl (Nat.le_of_ble_eq_true rfl) rfl ?_
      refine ja_aload_n (pc := 28) (f := 0) (i := 0) 0 (by decide +kernel) rfl rfl ?_
      refine ja_iconst (pc := 29) (n := 0) (v := 0) (by decide +kernel) (by decide +kernel) ?_
      refine ja_bind hf (fun v5 hv5 hf => ?_)
      refine ja_callVv (pc := 30) (idx := 248) (t := 8) (b := x0) (as := [.int (0 : Int32)]) (st := []) (by decide +kernel) kv_Model_laysFrom lk_Model_248 ⟨by decide, by decide⟩ (c_Model_laysFrom _ _ x0 (0 : Int32) h0 hv5) h0 rfl (Nat.le_of_ble_eq_true rfl) rfl ?_
      refine ja_aload_n (pc := 33) (f := 0) (i := 0) 0 (by decide +kernel) rfl rfl ?_
      refine ja_iload_n (pc := 34) (f := 1) (i := 1) 1 (by decide +kernel) rfl rfl ?_
      refine ja_iload_n (pc := 35) (f := 2) (i := 2) 2 (by decide +kernel) rfl rfl ?_
      refine ja_bind hf (fun v6 hv6 hf => ?_)
      refine ja_callVi (pc := 36) (idx := 262) (t := 8) (b := x0) (as := [.int x1, .int x2]) (st := []) (by decide +kernel) kv_Model_joint lk_Model_262 ⟨by decide, by decide⟩ (c_Model_joint _ _ x0 x1 x2 h0 hv6) h0 rfl (Nat.le_of_ble_eq_true rfl) rfl ?_
      exact ja_ret (pc := 39) (some (.int v6.1)) .ireturn (by decide +kernel) rfl (by cases hf; rfl)
    · refine ja_bipush (pc := 21) (n := (-2)) (v := (-2)) (by decide +kernel) (by decide +kernel) ?_
      exact ja_ret (pc := 23) (some (.int (-2 : Int32))) .ireturn (by decide +kernel) rfl (by cases hf; rfl)
def f_Model_unprotected_L4  : Nat → Nat → Int32 → Int32 → ja_S → Option (Int32 × ja_S)
  | 0, _, _, _, _ => none
  | n + 1, x0, x1, x2, sg => (if (sg.1 x0 2) ≤ x2 then some (x1, sg) else (ja_ld ja_L0 sg (ja_q x0 6) x2).bind fun v1 => (ja_ld ja_L0 sg (ja_q x0 7) x2).bind fun v2 => (f_Model_joint x0 v1 v2 sg).bind fun v3 => (if v3.1 ≤ 0 then f_Model_unprotected_L4  n x0 (x1 ||| (0 : Int32)) (x2 + 1) v3.2 else f_Model_unprotected_L4  n x0 (x1 ||| ((1 : Int32) <<< (x2 &&& 31))) (x2 + 1) v3.2))
set_option maxRecDepth 4000 in
theorem w_Model_unprotected_L4 (C : ja_C) {w : Int32 × ja_S}    (n : Nat) : ∀ (x0 : Nat) (x1 : Int32) (x2 : Int32) (sg : ja_S), ja_ob ja_L0 8 x0 → f_Model_unprotected_L4  n x0 x1 x2 sg = some w → ja_J M_Model_unprotected C 4 [(0, .ref x0), (1, .int x1), (2, .int x2)] [] ja_L0 sg (some (.int w.1), ja_L0, w.2) := by
  induction n with
  | zero => intro _ _ _ _ _ hf; exact absurd (show (none : Option _) = some w from hf) (by simp)
  | succ n ih =>
    intro x0 x1 x2 sg h0 hf
    unfold f_Model_unprotected_L4 at hf
    refine ja_iload_n (pc := 4) (f := 2) (i := 2) 2 (by decide +kernel) rfl rfl ?_
    refine ja_aload_n (pc := 5) (f := 0) (i := 0) 0 (by decide +kernel) rfl rfl ?_
    refine ja_geti (pc := 6) (idx := 183) (t := 8) (j := 2) (by decide +kernel) fd_Model_183 h0 ?_
    refine ja_icmp_ge (pc := 9) (off := 38) 47 (by decide +kernel) (by decide) hf (fun hf => ?_) (fun hf => ?_)
    · refine ja_iload_n (pc := 47) (f := 1) (i := 1) 1 (by decide +kernel) rfl rfl ?_
      exact ja_ret (pc := 48) (some (.int x1)) .ireturn (by decide +kernel) rfl (by cases hf; rfl)
    · refine ja_iload_n (pc := 12) (f := 1) (i := 1) 1 (by decide +kernel) rfl rfl ?_
      refine ja_aload_n (pc := 13) (f := 0) (i := 0) 0 (by decide +kernel) rfl rfl ?_
      refine ja_aload_n (pc := 14) (f := 0) (i := 0) 0 (by decide +kernel) rfl rfl ?_
      refine ja_getr (pc := 15) (idx := 26) (t := 8) (j := 6) (by decide +kernel) fd_Model_26 h0 (fr_8_6 h0) ?_
      refine ja_iload_n (pc := 18) (f := 2) (i := 2) 2 (by decide +kernel) rfl rfl ?_
      refine ja_bind hf (fun v1 hv1 hf => ?_)
      refine ja_iald (pc := 19) (by decide +kernel) (fk_8_6 h0) hv1 ?_
      refine ja_aload_n (pc := 20) (f := 0) (i := 0) 0 (by decide +kernel) rfl rfl ?_
      refine ja_getr (pc := 21) (idx := 29) (t := 8) (j := 7) (by decide +kernel) fd_Model_29 h0 (fr_8_7 h0) ?_
      refine ja_iload_n (pc := 24) (f := 2) (i := 2) 2 (by decide +kernel) rfl rfl ?_
      refine ja_bind hf (fun v2 hv2 hf => ?_)
      refine ja_iald (pc := 25) (by decide +kernel) (fk_8_7 h0) hv2 ?_
      refine ja_bind hf (fun v3 hv3 hf => ?_)
      refine ja_callVi (pc := 26) (idx := 262) (t := 8) (b := x0) (as := [.int v1, .int v2]) (st := [.int x1]) (by decide +kernel) kv_Model_joint lk_Model_262 ⟨by decide, by decide⟩ (c_Model_joint _ _ x0 v1 v2 h0 hv3) h0 rfl (Nat.le_of_ble_eq_true rfl) rfl ?_
      refine ja_if_le (pc := 29) (off := 9) 38 (by decide +kernel) (by decide) hf (fun hf => ?_) (fun hf => ?_)
      · refine ja_iconst (pc := 38) (n := 0) (v := 0) (by decide +kernel) (by decide +kernel) ?_
        refine ja_ior (pc := 39) (by decide +kernel) ?_
        refine ja_istore_n (pc := 40) (f := 1) (i := 1) (lv' := [(1, .int (x1 ||| (0 : Int32))), (0, .ref x0), (2, .int x2)]) (by decide +kernel) rfl (by decide) rfl ?_
        refine ja_iinc (pc := 41) (i := 2) (n := 1) (v := x2 + 1) (lv' := [(2, .int (x2 + 1)), (1, .int (x1 ||| (0 : Int32))), (0, .ref x0)]) 2 (by decide +kernel) rfl rfl (by decide) rfl ?_
        refine ja_goto (pc := 44) (off := (-40)) 4 (by decide +kernel) (by decide) ?_
        refine ja_lv [2, 1, 0] rfl ?_
        exact ih x0 (x1 ||| (0 : Int32)) (x2 + 1) v3.2 h0 hf
      · refine ja_iconst (pc := 32) (n := 1) (v := 1) (by decide +kernel) (by decide +kernel) ?_
        refine ja_iload_n (pc := 33) (f := 2) (i := 2) 2 (by decide +kernel) rfl rfl ?_
        refine ja_ishl (pc := 34) (by decide +kernel) ?_
        refine ja_goto (pc := 35) (off := 4) 39 (by decide +kernel) (by decide) ?_
        refine ja_ior (pc := 39) (by decide +kernel) ?_
        refine ja_istore_n (pc := 40) (f := 1) (i := 1) (lv' := [(1, .int (x1 ||| ((1 : Int32) <<< (x2 &&& 31)))), (0, .ref x0), (2, .int x2)]) (by decide +kernel) rfl (by decide) rfl ?_
        refine ja_iinc (pc := 41) (i := 2) (n := 1) (v := x2 + 1) (lv' := [(2, .int (x2 + 1)), (1, .int (x1 ||| ((1 : Int32) <<< (x2 &&& 31)))), (0, .ref x0)]) 2 (by decide +kernel) rfl rfl (by decide) rfl ?_
        refine ja_goto (pc := 44) (off := (-40)) 4 (by decide +kernel) (by decide) ?_
        refine ja_lv [2, 1, 0] rfl ?_
        exact ih x0 (x1 ||| ((1 : Int32) <<< (x2 &&& 31))) (x2 + 1) v3.2 h0 hf
def f_Model_unprotected (x0 : Nat) (sg : ja_S) : Option (Int32 × ja_S) := f_Model_unprotected_L4  ja_FU x0 (0 : Int32) (0 : Int32) sg
set_option maxRecDepth 4000 in
theorem c_Model_unprotected (l : Launch) (x : ja_X) (x0 : Nat) {sg : ja_S} {w : Int32 × ja_S} (h0 : ja_ob ja_L0 8 x0) (hf : f_Model_unprotected x0 sg = some w) : ja_Ct l x y_Model_unprotected M_Model_unprotected [.ref x0] ja_L0 sg (some (.int w.1), ja_L0, w.2) := by
  refine ja_mk ⟨by decide, rfl, rfl⟩ (Nat.le_of_ble_eq_true rfl) (lv := [(0, .ref x0)]) rfl (fun C hl hx _ _ _ _ => ?_)
  subst hl; subst hx
  unfold f_Model_unprotected at hf
  refine ja_iconst (pc := 0) (n := 0) (v := 0) (by decide +kernel) (by decide +kernel) ?_
  refine ja_istore_n (pc := 1) (f := 1) (i := 1) (lv' := [(1, .int (0 : Int32)), (0, .ref x0)]) (by decide +kernel) rfl (by decide) rfl ?_
  refine ja_iconst (pc := 2) (n := 0) (v := 0) (by decide +kernel) (by decide +kernel) ?_
  refine ja_istore_n (pc := 3) (f := 2) (i := 2) (lv' := [(2, .int (0 : Int32)), (1, .int (0 : Int32)), (0, .ref x0)]) (by decide +kernel) rfl (by decide) rfl ?_
  refine ja_lv [2, 1, 0] rfl ?_
  exact w_Model_unprotected_L4 C  ja_FU x0 (0 : Int32) (0 : Int32) sg h0 hf
def f_Model_settable_L4  : Nat → Nat → Int32 → Int32 → ja_S → Option (Int32 × ja_S)
  | 0, _, _, _, _ => none
  | n + 1, x0, x1, x2, sg => (if (sg.1 x0 1) ≤ x2 then some (x1, sg) else (f_Model_joint x0 x2 x2 sg).bind fun v1 => (if v1.1 ≤ 0 then f_Model_settable_L4  n x0 (x1 ||| (0 : Int32)) (x2 + 1) v1.2 else f_Model_settable_L4  n x0 (x1 ||| ((1 : Int32) <<< (x2 &&& 31))) (x2 + 1) v1.2))
set_option maxRecDepth 4000 in
theorem w_Model_settable_L4 (C : ja_C) {w : Int32 × ja_S}    (n : Nat) : ∀ (x0 : Nat) (x1 : Int32) (x2 : Int32) (sg : ja_S), ja_ob ja_L0 8 x0 → f_Model_settable_L4  n x0 x1 x2 sg = some w → ja_J M_Model_settable C 4 [(0, .ref x0), (1, .int x1), (2, .int x2)] [] ja_L0 sg (some (.int w.1), ja_L0, w.2) := by
  induction n with
  | zero => intro _ _ _ _ _ hf; exact absurd (show (none : Option _) = some w from hf) (by simp)
  | succ n ih =>
    intro x0 x1 x2 sg h0 hf
    unfold f_Model_settable_L4 at hf
    refine ja_iload_n (pc := 4) (f := 2) (i := 2) 2 (by decide +kernel) rfl rfl ?_
    refine ja_aload_n (pc := 5) (f := 0) (i := 0) 0 (by decide +kernel) rfl rfl ?_
    refine ja_geti (pc := 6) (idx := 180) (t := 8) (j := 1) (by decide +kernel) fd_Model_180 h0 ?_
    refine ja_icmp_ge (pc := 9) (off := 28) 37 (by decide +kernel) (by decide) hf (fun hf => ?_) (fun hf => ?_)
    · refine ja_iload_n (pc := 37) (f := 1) (i := 1) 1 (by decide +kernel) rfl rfl ?_
      exact ja_ret (pc := 38) (some (.int x1)) .ireturn (by decide +kernel) rfl (by cases hf; rfl)
    · refine ja_iload_n (pc := 12) (f := 1) (i := 1) 1 (by decide +kernel) rfl rfl ?_
      refine ja_aload_n (pc := 13) (f := 0) (i := 0) 0 (by decide +kernel) rfl rfl ?_
      refine ja_iload_n (pc := 14) (f := 2) (i := 2) 2 (by decide +kernel) rfl rfl ?_
      refine ja_iload_n (pc := 15) (f := 2) (i := 2) 2 (by decide +kernel) rfl rfl ?_
      refine ja_bind hf (fun v1 hv1 hf => ?_)
      refine ja_callVi (pc := 16) (idx := 262) (t := 8) (b := x0) (as := [.int x2, .int x2]) (st := [.int x1]) (by decide +kernel) kv_Model_joint lk_Model_262 ⟨by decide, by decide⟩ (c_Model_joint _ _ x0 x2 x2 h0 hv1) h0 rfl (Nat.le_of_ble_eq_true rfl) rfl ?_
      refine ja_if_le (pc := 19) (off := 9) 28 (by decide +kernel) (by decide) hf (fun hf => ?_) (fun hf => ?_)
      · refine ja_iconst (pc := 28) (n := 0) (v := 0) (by decide +kernel) (by decide +kernel) ?_
        refine ja_ior (pc := 29) (by decide +kernel) ?_
        refine ja_istore_n (pc := 30) (f := 1) (i := 1) (lv' := [(1, .int (x1 ||| (0 : Int32))), (0, .ref x0), (2, .int x2)]) (by decide +kernel) rfl (by decide) rfl ?_
        refine ja_iinc (pc := 31) (i := 2) (n := 1) (v := x2 + 1) (lv' := [(2, .int (x2 + 1)), (1, .int (x1 ||| (0 : Int32))), (0, .ref x0)]) 2 (by decide +kernel) rfl rfl (by decide) rfl ?_
        refine ja_goto (pc := 34) (off := (-30)) 4 (by decide +kernel) (by decide) ?_
        refine ja_lv [2, 1, 0] rfl ?_
        exact ih x0 (x1 ||| (0 : Int32)) (x2 + 1) v1.2 h0 hf
      · refine ja_iconst (pc := 22) (n := 1) (v := 1) (by decide +kernel) (by decide +kernel) ?_
        refine ja_iload_n (pc := 23) (f := 2) (i := 2) 2 (by decide +kernel) rfl rfl ?_
        refine ja_ishl (pc := 24) (by decide +kernel) ?_
        refine ja_goto (pc := 25) (off := 4) 29 (by decide +kernel) (by decide) ?_
        refine ja_ior (pc := 29) (by decide +kernel) ?_
        refine ja_istore_n (pc := 30) (f := 1) (i := 1) (lv' := [(1, .int (x1 ||| ((1 : Int32) <<< (x2 &&& 31)))), (0, .ref x0), (2, .int x2)]) (by decide +kernel) rfl (by decide) rfl ?_
        refine ja_iinc (pc := 31) (i := 2) (n := 1) (v := x2 + 1) (lv' := [(2, .int (x2 + 1)), (1, .int (x1 ||| ((1 : Int32) <<< (x2 &&& 31)))), (0, .ref x0)]) 2 (by decide +kernel) rfl rfl (by decide) rfl ?_
        refine ja_goto (pc := 34) (off := (-30)) 4 (by decide +kernel) (by decide) ?_
        refine ja_lv [2, 1, 0] rfl ?_
        exact ih x0 (x1 ||| ((1 : Int32) <<< (x2 &&& 31))) (x2 + 1) v1.2 h0 hf
def f_Model_settable (x0 : Nat) (sg : ja_S) : Option (Int32 × ja_S) := f_Model_settable_L4  ja_FU x0 (0 : Int32) (0 : Int32) sg
set_option maxRecDepth 4000 in
theorem c_Model_settable (l : Launch) (x : ja_X) (x0 : Nat) {sg : ja_S} {w : Int32 × ja_S} (h0 : ja_ob ja_L0 8 x0) (hf : f_Model_settable x0 sg = some w) : ja_Ct l x y_Model_settable M_Model_settable [.ref x0] ja_L0 sg (some (.int w.1), ja_L0, w.2) := by
  refine ja_mk ⟨by decide, rfl, rfl⟩ (Nat.le_of_ble_eq_true rfl) (lv := [(0, .ref x0)]) rfl (fun C hl hx _ _ _ _ => ?_)
  subst hl; subst hx
  unfold f_Model_settable at hf
  refine ja_iconst (pc := 0) (n := 0) (v := 0) (by decide +kernel) (by decide +kernel) ?_
  refine ja_istore_n (pc := 1) (f := 1) (i := 1) (lv' := [(1, .int (0 : Int32)), (0, .ref x0)]) (by decide +kernel) rfl (by decide) rfl ?_
  refine ja_iconst (pc := 2) (n := 0) (v := 0) (by decide +kernel) (by decide +kernel) ?_
  refine ja_istore_n (pc := 3) (f := 2) (i := 2) (lv' := [(2, .int (0 : Int32)), (1, .int (0 : Int32)), (0, .ref x0)]) (by decide +kernel) rfl (by decide) rfl ?_
  refine ja_lv [2, 1, 0] rfl ?_
  exact w_Model_settable_L4 C  ja_FU x0 (0 : Int32) (0 : Int32) sg h0 hf
def f_Model_unprotectedConflicts (x0 : Nat) (sg : ja_S) : Option (Int32 × ja_S) := (ja_pu sg x0 9 (0 : Int32)).bind fun s1 => (f_Model_usesSheet x0 s1).bind fun v2 => (f_Model_laysFrom x0 (0 : Int32) v2).bind fun v3 => (f_Model_unprotected x0 v3).bind fun v4 => some (v4.1, v4.2)
set_option maxRecDepth 4000 in
theorem c_Model_unprotectedConflicts (l : Launch) (x : ja_X) (x0 : Nat) {sg : ja_S} {w : Int32 × ja_S} (h0 : ja_ob ja_L0 8 x0) (hf : f_Model_unprotectedConflicts x0 sg = some w) : ja_Ct l x y_Model_unprotectedConflicts M_Model_unprotectedConflicts [.ref x0] ja_L0 sg (some (.int w.1), ja_L0, w.2) := by
  refine ja_mk ⟨by decide, rfl, rfl⟩ (Nat.le_of_ble_eq_true rfl) (lv := [(0, .ref x0)]) rfl (fun C hl hx _ _ _ _ => ?_)
  subst hl; subst hx
  unfold f_Model_unprotectedConflicts at hf
  refine ja_aload_n (pc := 0) (f := 0) (i := 0) 0 (by decide +kernel) rfl rfl ?_
  refine ja_iconst (pc := 1) (n := 0) (v := 0) (by decide +kernel) (by decide +kernel) ?_
  refine ja_bind hf (fun s1 hs1 hf => ?_)
  refine ja_puti2 (pc := 2) (idx := 1) (t := 8) (j := 9) (by decide +kernel) fd_Model_1 h0 ⟨rfl, rfl⟩ hs1 ?_
  refine ja_aload_n (pc := 5) (f := 0) (i := 0) 0 (by decide +kernel) rfl rfl ?_
  refine ja_bind hf (fun v2 hv2 hf => ?_)
  refine ja_callVv (pc := 6) (idx := 74) (t := 8) (b := x0) (as := []) (st := []) (by decide +kernel) kv_Model_usesSheet lk_Model_74 ⟨by decide, by decide⟩ (c_Model_usesSheet _ _ x0 h0 hv2) h0 rfl (Nat.le_of_ble_eq_true rfl) rfl ?_
  refine ja_aload_n (pc := 9) (f := 0) (i := 0) 0 (by decide +kernel) rfl rfl ?_
  refine ja_iconst (pc := 10) (n := 0) (v := 0) (by decide +kernel) (by decide +kernel) ?_
  refine ja_bind hf (fun v3 hv3 hf => ?_)
  refine ja_callVv (pc := 11) (idx := 248) (t := 8) (b := x0) (as := [.int (0 : Int32)]) (st := []) (by decide +kernel) kv_Model_laysFrom lk_Model_248 ⟨by decide, by decide⟩ (c_Model_laysFrom _ _ x0 (0 : Int32) h0 hv3) h0 rfl (Nat.le_of_ble_eq_true rfl) rfl ?_
  refine ja_aload_n (pc := 14) (f := 0) (i := 0) 0 (by decide +kernel) rfl rfl ?_
  refine ja_bind hf (fun v4 hv4 hf => ?_)
  refine ja_callVi (pc := 15) (idx := 265) (t := 8) (b := x0) (as := []) (st := []) (by decide +kernel) kv_Model_unprotected lk_Model_265 ⟨by decide, by decide⟩ (c_Model_unprotected _ _ x0 h0 hv4) h0 rfl (Nat.le_of_ble_eq_true rfl) rfl ?_
  exact ja_ret (pc := 18) (some (.int v4.1)) .ireturn (by decide +kernel) rfl (by cases hf; rfl)
def f_Model_lockFor_L52 (k40 : Nat → Int32 → Int32 → Int32 → Int32 → ja_S → Option (Int32 × ja_S)) : Nat → Nat → Int32 → Int32 → Int32 → Int32 → Int32 → ja_S → Option (Int32 × ja_S)
  | 0, _, _, _, _, _, _, _ => none
  | n + 1, x0, x1, x2, x3, x4, x5, sg => (if (sg.1 x0 0) ≤ x5 then k40 x0 x1 x2 x3 (x4 + 1) sg else (if x4 = x5 then f_Model_lockFor_L52 k40 n x0 x1 x2 x3 x4 (x5 + 1) sg else (ja_ld ja_L0 sg (ja_q x0 6) x1).bind fun v1 => (ja_ld ja_L0 sg (ja_q x0 26) v1).bind fun v2 => (f_Model_has v2 x4 sg).bind fun v3 => (if v3.1 = 0 then f_Model_lockFor_L52 k40 n x0 x1 x2 x3 x4 (x5 + 1) v3.2 else (ja_ld ja_L0 v3.2 (ja_q x0 7) x1).bind fun v4 => (ja_ld ja_L0 v3.2 (ja_q x0 26) v4).bind fun v5 => (f_Model_has v5 x5 v3.2).bind fun v6 => (if v6.1 = 0 then f_Model_lockFor_L52 k40 n x0 x1 x2 x3 x4 (x5 + 1) v6.2 else (f_Model_puts x0 x3 (0 : Int32) x4 x5 (-1 : Int32) v6.2).bind fun v7 => (f_Model_laysFrom x0 (0 : Int32) v7).bind fun v8 => (f_Model_settable x0 v8).bind fun v9 => (if v9.1 = x2 then (f_Model_unprotected x0 v9.2).bind fun v10 => (f_Model_has v10.1 x1 v10.2).bind fun v11 => (if v11.1 = 0 then some (((100 : Int32) * x4) + x5, v11.2) else f_Model_lockFor_L52 k40 n x0 x1 x2 x3 x4 (x5 + 1) v11.2) else f_Model_lockFor_L52 k40 n x0 x1 x2 x3 x4 (x5 + 1) v9.2)))))
set_option maxRecDepth 4000 in
theorem w_Model_lockFor_L52 (C : ja_C) {w : Int32 × ja_S} {k40 : Nat → Int32 → Int32 → Int32 → Int32 → ja_S → Option (Int32 × ja_S)} (e40 : ∀ (x0 : Nat) (x1 : Int32) (x2 : Int32) (x3 : Int32) (x4 : Int32) (sg : ja_S), ja_ob ja_L0 8 x0 → k40 x0 x1 x2 x3 x4 sg = some w → ja_J M_Model_lockFor C 40 [(0, .ref x0), (1, .int x1), (2, .int x2), (3, .int x3), (4, .int x4)] [] ja_L0 sg (some (.int w.1), ja_L0, w.2))  (n : Nat) : ∀ (x0 : Nat) (x1 : Int32) (x2 : Int32) (x3 : Int32) (x4 : Int32) (x5 : Int32) (sg : ja_S), ja_ob ja_L0 8 x0 → f_Model_lockFor_L52 k40 n x0 x1 x2 x3 x4 x5 sg = some w → ja_J M_Model_lockFor C 52 [(0, .ref x0), (1, .int x1), (2, .int x2), (3, .int x3), (4, .int x4), (5, .int x5)] [] ja_L0 sg (some (.int w.1), ja_L0, w.2) := by
  induction n with
  | zero => intro _ _ _ _ _ _ _ _ hf; exact absurd (show (none : Option _) = some w from hf) (by simp)
  | succ n ih =>
    intro x0 x1 x2 x3 x4 x5 sg h0 hf
    unfold f_Model_lockFor_L52 at hf
    refine ja_iload (pc := 52) (i := 5) 5 (by decide +kernel) rfl ?_
    refine ja_aload_n (pc := 54) (f := 0) (i := 0) 0 (by decide +kernel) rfl rfl ?_
    refine ja_geti (pc := 55) (idx := 13) (t := 8) (j := 0) (by decide +kernel) fd_Model_13 h0 ?_
    refine ja_icmp_ge (pc := 58) (off := 101) 159 (by decide +kernel) (by decide) hf (fun hf => ?_) (fun hf => ?_)
    · refine ja_iinc (pc := 159) (i := 4) (n := 1) (v := x4 + 1) (lv' := [(4, .int (x4 + 1)), (0, .ref x0), (1, .int x1), (2, .int x2), (3, .int x3), (5, .int x5)]) 4 (by decide +kernel) rfl rfl (by decide) rfl ?_
      refine ja_goto (pc := 162) (off := (-122)) 40 (by decide +kernel) (by decide) ?_
      refine ja_lv [1, 2, 3, 4, 0] rfl ?_
      exact e40 x0 x1 x2 x3 (x4 + 1) sg h0 hf
    · refine ja_iload (pc := 61) (i := 4) 4 (by decide +kernel) rfl ?_
      refine ja_iload (pc := 63) (i := 5) 5 (by decide +kernel) rfl ?_
      refine ja_icmp_eq (pc := 65) (off := 88) 153 (by decide +kernel) (by decide) hf (fun hf => ?_) (fun hf => ?_)
      · refine ja_iinc (pc := 153) (i := 5) (n := 1) (v := x5 + 1) (lv' := [(5, .int (x5 + 1)), (0, .ref x0), (1, .int x1), (2, .int x2), (3, .int x3), (4, .int x4)]) 5 (by decide +kernel) rfl rfl (by decide) rfl ?_
        refine ja_goto (pc := 156) (off := (-104)) 52 (by decide +kernel) (by decide) ?_
        refine ja_lv [1, 2, 3, 4, 5, 0] rfl ?_
        exact ih x0 x1 x2 x3 x4 (x5 + 1) sg h0 hf
      · refine ja_aload_n (pc := 68) (f := 0) (i := 0) 0 (by decide +kernel) rfl rfl ?_
        refine ja_getr (pc := 69) (idx := 53) (t := 8) (j := 26) (by decide +kernel) fd_Model_53 h0 (fr_8_26 h0) ?_
        refine ja_aload_n (pc := 72) (f := 0) (i := 0) 0 (by decide +kernel) rfl rfl ?_
        refine ja_getr (pc := 73) (idx := 26) (t := 8) (j := 6) (by decide +kernel) fd_Model_26 h0 (fr_8_6 h0) ?_
        refine ja_iload_n (pc := 76) (f := 1) (i := 1) 1 (by decide +kernel) rfl rfl ?_
        refine ja_bind hf (fun v1 hv1 hf => ?_)
        refine ja_iald (pc := 77) (by decide +kernel) (fk_8_6 h0) hv1 ?_
        refine ja_bind hf (fun v2 hv2 hf => ?_)
        refine ja_iald (pc := 78) (by decide +kernel) (fk_8_26 h0) hv2 ?_
        refine ja_iload (pc := 79) (i := 4) 4 (by decide +kernel) rfl ?_
        refine ja_bind hf (fun v3 hv3 hf => ?_)
        refine ja_callSi (pc := 81) (idx := 152) (as := [.int v2, .int x4]) (st := []) (by decide +kernel) ks_Model_has lk_Model_152 ⟨by decide, by decide⟩ (c_Model_has _ _ v2 x4  hv3) rfl (Nat.le_of_ble_eq_true rfl) rfl ?_
        refine ja_if_eq (pc := 84) (off := 69) 153 (by decide +kernel) (by decide) hf (fun hf => ?_) (fun hf => ?_)
        · refine ja_iinc (pc := 153) (i := 5) (n := 1) (v := x5 + 1) (lv' := [(5, .int (x5 + 1)), (0, .ref x0), (1, .int x1), (2, .int x2), (3, .int x3), (4, .int x4)]) 5 (by decide +kernel) rfl rfl (by decide) rfl ?_
          refine ja_goto (pc := 156) (off := (-104)) 52 (by decide +kernel) (by decide) ?_
          refine ja_lv [1, 2, 3, 4, 5, 0] rfl ?_
          exact ih x0 x1 x2 x3 x4 (x5 + 1) v3.2 h0 hf
        · refine ja_aload_n (pc := 87) (f := 0) (i := 0) 0 (by decide +kernel) rfl rfl ?_
          refine ja_getr (pc := 88) (idx := 53) (t := 8) (j := 26) (by decide +kernel) fd_Model_53 h0 (fr_8_26 h0) ?_
          refine ja_aload_n (pc := 91) (f := 0) (i := 0) 0 (by decide +kernel) rfl rfl ?_
          refine ja_getr (pc := 92) (idx := 29) (t := 8) (j := 7) (by decide +kernel) fd_Model_29 h0 (fr_8_7 h0) ?_
          refine ja_iload_n (pc := 95) (f := 1) (i := 1) 1 (by decide +kernel) rfl rfl ?_
          refine ja_bind hf (fun v4 hv4 hf => ?_)
          refine ja_iald (pc := 96) (by decide +kernel) (fk_8_7 h0) hv4 ?_
          refine ja_bind hf (fun v5 hv5 hf => ?_)
          refine ja_iald (pc := 97) (by decide +kernel) (fk_8_26 h0) hv5 ?_
          refine ja_iload (pc := 98) (i := 5) 5 (by decide +kernel) rfl ?_
          refine ja_bind hf (fun v6 hv6 hf => ?_)
          refine ja_callSi (pc := 100) (idx := 152) (as := [.int v5, .int x5]) (st := []) (by decide +kernel) ks_Model_has lk_Model_152 ⟨by decide, by decide⟩ (c_Model_has _ _ v5 x5  hv6) rfl (Nat.le_of_ble_eq_true rfl) rfl ?_
          refine ja_if_ne (pc := 103) (off := 6) 109 (by decide +kernel) (by decide) hf (fun hf => ?_) (fun hf => ?_)
          · refine ja_aload_n (pc := 109) (f := 0) (i := 0) 0 (by decide +kernel) rfl rfl ?_
            refine ja_iload_n (pc := 110) (f := 3) (i := 3) 3 (by decide +kernel) rfl rfl ?_
            refine ja_iconst (pc := 111) (n := 0) (v := 0) (by decide +kernel) (by decide +kernel) ?_
            refine ja_iload (pc := 112) (i := 4) 4 (by decide +kernel) rfl ?_
            refine ja_iload (pc := 114) (i := 5) 5 (by decide +kernel) rfl ?_
            refine ja_iconst (pc := 116) (n := (-1)) (v := (-1)) (by decide +kernel) (by decide +kernel) ?_
            refine ja_bind hf (fun v7 hv7 hf => ?_)
            refine ja_callVv (pc := 117) (idx := 241) (t := 8) (b := x0) (as := [.int x3, .int (0 : Int32), .int x4, .int x5, .int (-1 : Int32)]) (st := []) (by decide +kernel) kv_Model_puts lk_Model_241 ⟨by decide, by decide⟩ (c_Model_puts _ _ x0 x3 (0 : Int32) x4 x5 (-1 : Int32) h0 hv7) h0 rfl (Nat.le_of_ble_eq_true rfl) rfl ?_
            refine ja_aload_n (pc := 120) (f := 0) (i := 0) 0 (by decide +kernel) rfl rfl ?_
            refine ja_iconst (pc := 121) (n := 0) (v := 0) (by decide +kernel) (by decide +kernel) ?_
            refine ja_bind hf (fun v8 hv8 hf => ?_)
            refine ja_callVv (pc := 122) (idx := 248) (t := 8) (b := x0) (as := [.int (0 : Int32)]) (st := []) (by decide +kernel) kv_Model_laysFrom lk_Model_248 ⟨by decide, by decide⟩ (c_Model_laysFrom _ _ x0 (0 : Int32) h0 hv8) h0 rfl (Nat.le_of_ble_eq_true rfl) rfl ?_
            refine ja_aload_n (pc := 125) (f := 0) (i := 0) 0 (by decide +kernel) rfl rfl ?_
            refine ja_bind hf (fun v9 hv9 hf => ?_)
            refine ja_callVi (pc := 126) (idx := 271) (t := 8) (b := x0) (as := []) (st := []) (by decide +kernel) kv_Model_settable lk_Model_271 ⟨by decide, by decide⟩ (c_Model_settable _ _ x0 h0 hv9) h0 rfl (Nat.le_of_ble_eq_true rfl) rfl ?_
            refine ja_iload_n (pc := 129) (f := 2) (i := 2) 2 (by decide +kernel) rfl rfl ?_
            refine ja_icmp_ne (pc := 130) (off := 23) 153 (by decide +kernel) (by decide) hf (fun hf => ?_) (fun hf => ?_)
            · refine ja_iinc (pc := 153) (i := 5) (n := 1) (v := x5 + 1) (lv' := [(5, .int (x5 + 1)), (0, .ref x0), (1, .int x1), (2, .int x2), (3, .int x3), (4, .int x4)]) 5 (by decide +kernel) rfl rfl (by decide) rfl ?_
              refine ja_goto (pc := 156) (off := (-104)) 52 (by decide +kernel) (by decide) ?_
              refine ja_lv [1, 2, 3, 4, 5, 0] rfl ?_
              exact ih x0 x1 x2 x3 x4 (x5 + 1) v9.2 h0 hf
            · refine ja_aload_n (pc := 133) (f := 0) (i := 0) 0 (by decide +kernel) rfl rfl ?_
              refine ja_bind hf (fun v10 hv10 hf => ?_)
              refine ja_callVi (pc := 134) (idx := 265) (t := 8) (b := x0) (as := []) (st := []) (by decide +kernel) kv_Model_unprotected lk_Model_265 ⟨by decide, by decide⟩ (c_Model_unprotected _ _ x0 h0 hv10) h0 rfl (Nat.le_of_ble_eq_true rfl) rfl ?_
              refine ja_iload_n (pc := 137) (f := 1) (i := 1) 1 (by decide +kernel) rfl rfl ?_
              refine ja_bind hf (fun v11 hv11 hf => ?_)
              refine ja_callSi (pc := 138) (idx := 152) (as := [.int v10.1, .int x1]) (st := []) (by decide +kernel) ks_Model_has lk_Model_152 ⟨by decide, by decide⟩ (c_Model_has _ _ v10.1 x1  hv11) rfl (Nat.le_of_ble_eq_true rfl) rfl ?_
              refine ja_if_ne (pc := 141) (off := 12) 153 (by decide +kernel) (by decide) hf (fun hf => ?_) (fun hf => ?_)
              · refine ja_iinc (pc := 153) (i := 5) (n := 1) (v := x5 + 1) (lv' := [(5, .int (x5 + 1)), (0, .ref x0), (1, .int x1), (2, .int x2), (3, .int x3), (4, .int x4)]) 5 (by decide +kernel) rfl rfl (by decide) rfl ?_
                refine ja_goto (pc := 156) (off := (-104)) 52 (by decide +kernel) (by decide) ?_
                refine ja_lv [1, 2, 3, 4, 5, 0] rfl ?_
                exact ih x0 x1 x2 x3 x4 (x5 + 1) v11.2 h0 hf
              · refine ja_bipush (pc := 144) (n := 100) (v := 100) (by decide +kernel) (by decide +kernel) ?_
                refine ja_iload (pc := 146) (i := 4) 4 (by decide +kernel) rfl ?_
                refine ja_imul (pc := 148) (by decide +kernel) ?_
                refine ja_iload (pc := 149) (i := 5) 5 (by decide +kernel) rfl ?_
                refine ja_iadd (pc := 151) (by decide +kernel) ?_
                exact ja_ret (pc := 152) (some (.int (((100 : Int32) * x4) + x5))) .ireturn (by decide +kernel) rfl (by cases hf; rfl)
          · refine ja_goto (pc := 106) (off := 47) 153 (by decide +kernel) (by decide) ?_
            refine ja_iinc (pc := 153) (i := 5) (n := 1) (v := x5 + 1) (lv' := [(5, .int (x5 + 1)), (0, .ref x0), (1, .int x1), (2, .int x2), (3, .int x3), (4, .int x4)]) 5 (by decide +kernel) rfl rfl (by decide) rfl ?_
            refine ja_goto (pc := 156) (off := (-104)) 52 (by decide +kernel) (by decide) ?_
            refine ja_lv [1, 2, 3, 4, 5, 0] rfl ?_
            exact ih x0 x1 x2 x3 x4 (x5 + 1) v6.2 h0 hf
def f_Model_lockFor_L40  : Nat → Nat → Int32 → Int32 → Int32 → Int32 → ja_S → Option (Int32 × ja_S)
  | 0, _, _, _, _, _, _ => none
  | n + 1, x0, x1, x2, x3, x4, sg => (if (sg.1 x0 0) ≤ x4 then (ja_pu sg x0 27 ((sg.1 x0 27) - (1 : Int32))).bind fun s1 => (ja_pu s1 x0 28 ((s1.1 x0 28) &&& (((1 : Int32) <<< (x3 &&& 31)) ^^^ (-1 : Int32)))).bind fun s2 => some ((-1 : Int32), s2) else f_Model_lockFor_L52 (f_Model_lockFor_L40  n) ja_FU x0 x1 x2 x3 x4 (0 : Int32) sg)
set_option maxRecDepth 4000 in
theorem w_Model_lockFor_L40 (C : ja_C) {w : Int32 × ja_S}    (n : Nat) : ∀ (x0 : Nat) (x1 : Int32) (x2 : Int32) (x3 : Int32) (x4 : Int32) (sg : ja_S), ja_ob ja_L0 8 x0 → f_Model_lockFor_L40  n x0 x1 x2 x3 x4 sg = some w → ja_J M_Model_lockFor C 40 [(0, .ref x0), (1, .int x1), (2, .int x2), (3, .int x3), (4, .int x4)] [] ja_L0 sg (some (.int w.1), ja_L0, w.2) := by
  induction n with
  | zero => intro _ _ _ _ _ _ _ hf; exact absurd (show (none : Option _) = some w from hf) (by simp)
  | succ n ih =>
    intro x0 x1 x2 x3 x4 sg h0 hf
    unfold f_Model_lockFor_L40 at hf
    refine ja_iload (pc := 40) (i := 4) 4 (by decide +kernel) rfl ?_
    refine ja_aload_n (pc := 42) (f := 0) (i := 0) 0 (by decide +kernel) rfl rfl ?_
    refine ja_geti (pc := 43) (idx := 13) (t := 8) (j := 0) (by decide +kernel) fd_Model_13 h0 ?_
    refine ja_icmp_ge (pc := 46) (off := 119) 165 (by decide +kernel) (by decide) hf (fun hf => ?_) (fun hf => ?_)
    · refine ja_aload_n (pc := 165) (f := 0) (i := 0) 0 (by decide +kernel) rfl rfl ?_
      refine ja_dup (pc := 166) (by decide +kernel) rfl ?_
      refine ja_geti (pc := 167) (idx := 196) (t := 8) (j := 27) (by decide +kernel) fd_Model_196 h0 ?_
      refine ja_iconst (pc := 170) (n := 1) (v := 1) (by decide +kernel) (by decide +kernel) ?_
      refine ja_isub (pc := 171) (by decide +kernel) ?_
      refine ja_bind hf (fun s1 hs1 hf => ?_)
      refine ja_puti2 (pc := 172) (idx := 196) (t := 8) (j := 27) (by decide +kernel) fd_Model_196 h0 ⟨rfl, rfl⟩ hs1 ?_
      refine ja_aload_n (pc := 175) (f := 0) (i := 0) 0 (by decide +kernel) rfl rfl ?_
      refine ja_dup (pc := 176) (by decide +kernel) rfl ?_
      refine ja_geti (pc := 177) (idx := 199) (t := 8) (j := 28) (by decide +kernel) fd_Model_199 h0 ?_
      refine ja_iconst (pc := 180) (n := 1) (v := 1) (by decide +kernel) (by decide +kernel) ?_
      refine ja_iload_n (pc := 181) (f := 3) (i := 3) 3 (by decide +kernel) rfl rfl ?_
      refine ja_ishl (pc := 182) (by decide +kernel) ?_
      refine ja_iconst (pc := 183) (n := (-1)) (v := (-1)) (by decide +kernel) (by decide +kernel) ?_
      refine ja_ixor (pc := 184) (by decide +kernel) ?_
      refine ja_iand (pc := 185) (by decide +kernel) ?_
      refine ja_bind hf (fun s2 hs2 hf => ?_)
      refine ja_puti2 (pc := 186) (idx := 199) (t := 8) (j := 28) (by decide +kernel) fd_Model_199 h0 ⟨rfl, rfl⟩ hs2 ?_
      refine ja_iconst (pc := 189) (n := (-1)) (v := (-1)) (by decide +kernel) (by decide +kernel) ?_
      exact ja_ret (pc := 190) (some (.int (-1 : Int32))) .ireturn (by decide +kernel) rfl (by cases hf; rfl)
    · refine ja_iconst (pc := 49) (n := 0) (v := 0) (by decide +kernel) (by decide +kernel) ?_
      refine ja_istore (pc := 50) (i := 5) (lv' := [(5, .int (0 : Int32)), (0, .ref x0), (1, .int x1), (2, .int x2), (3, .int x3), (4, .int x4)]) (by decide +kernel) (by decide) rfl ?_
      refine ja_lv [1, 2, 3, 4, 5, 0] rfl ?_
      exact w_Model_lockFor_L52 C ih ja_FU x0 x1 x2 x3 x4 (0 : Int32) sg h0 hf
def f_Model_lockFor (x0 : Nat) (x1 : Int32) (sg : ja_S) : Option (Int32 × ja_S) := (f_Model_laysFrom x0 (0 : Int32) sg).bind fun v1 => (f_Model_settable x0 v1).bind fun v2 => (ja_pu v2.2 x0 27 ((v2.2.1 x0 27) + (1 : Int32))).bind fun s3 => (ja_pu s3 x0 28 ((s3.1 x0 28) ||| ((1 : Int32) <<< ((v2.2.1 x0 27) &&& 31)))).bind fun s4 => f_Model_lockFor_L40  ja_FU x0 x1 v2.1 (v2.2.1 x0 27) (0 : Int32) s4
set_option maxRecDepth 4000 in
theorem c_Model_lockFor (l : Launch) (x : ja_X) (x0 : Nat) (x1 : Int32) {sg : ja_S} {w : Int32 × ja_S} (h0 : ja_ob ja_L0 8 x0) (hf : f_Model_lockFor x0 x1 sg = some w) : ja_Ct l x y_Model_lockFor M_Model_lockFor [.ref x0, .int x1] ja_L0 sg (some (.int w.1), ja_L0, w.2) := by
  refine ja_mk ⟨by decide, rfl, rfl⟩ (Nat.le_of_ble_eq_true rfl) (lv := [(0, .ref x0), (1, .int x1)]) rfl (fun C hl hx _ _ _ _ => ?_)
  subst hl; subst hx
  unfold f_Model_lockFor at hf
  refine ja_aload_n (pc := 0) (f := 0) (i := 0) 0 (by decide +kernel) rfl rfl ?_
  refine ja_iconst (pc := 1) (n := 0) (v := 0) (by decide +kernel) (by decide +kernel) ?_
  refine ja_bind hf (fun v1 hv1 hf => ?_)
  refine ja_callVv (pc := 2) (idx := 248) (t := 8) (b := x0) (as := [.int (0 : Int32)]) (st := []) (by decide +kernel) kv_Model_laysFrom lk_Model_248 ⟨by decide, by decide⟩ (c_Model_laysFrom _ _ x0 (0 : Int32) h0 hv1) h0 rfl (Nat.le_of_ble_eq_true rfl) rfl ?_
  refine ja_aload_n (pc := 5) (f := 0) (i := 0) 0 (by decide +kernel) rfl rfl ?_
  refine ja_bind hf (fun v2 hv2 hf => ?_)
  refine ja_callVi (pc := 6) (idx := 271) (t := 8) (b := x0) (as := []) (st := []) (by decide +kernel) kv_Model_settable lk_Model_271 ⟨by decide, by decide⟩ (c_Model_settable _ _ x0 h0 hv2) h0 rfl (Nat.le_of_ble_eq_true rfl) rfl ?_
  refine ja_istore_n (pc := 9) (f := 2) (i := 2) (lv' := [(2, .int v2.1), (0, .ref x0), (1, .int x1)]) (by decide +kernel) rfl (by decide) rfl ?_
  refine ja_aload_n (pc := 10) (f := 0) (i := 0) 1 (by decide +kernel) rfl rfl ?_
  refine ja_geti (pc := 11) (idx := 196) (t := 8) (j := 27) (by decide +kernel) fd_Model_196 h0 ?_
  refine ja_istore_n (pc := 14) (f := 3) (i := 3) (lv' := [(3, .int (v2.2.1 x0 27)), (2, .int v2.1), (0, .ref x0), (1, .int x1)]) (by decide +kernel) rfl (by decide) rfl ?_
  refine ja_aload_n (pc := 15) (f := 0) (i := 0) 2 (by decide +kernel) rfl rfl ?_
  refine ja_dup (pc := 16) (by decide +kernel) rfl ?_
  refine ja_geti (pc := 17) (idx := 196) (t := 8) (j := 27) (by decide +kernel) fd_Model_196 h0 ?_
  refine ja_iconst (pc := 20) (n := 1) (v := 1) (by decide +kernel) (by decide +kernel) ?_
  refine ja_iadd (pc := 21) (by decide +kernel) ?_
  refine ja_bind hf (fun s3 hs3 hf => ?_)
  refine ja_puti2 (pc := 22) (idx := 196) (t := 8) (j := 27) (by decide +kernel) fd_Model_196 h0 ⟨rfl, rfl⟩ hs3 ?_
  refine ja_aload_n (pc := 25) (f := 0) (i := 0) 2 (by decide +kernel) rfl rfl ?_
  refine ja_dup (pc := 26) (by decide +kernel) rfl ?_
  refine ja_geti (pc := 27) (idx := 199) (t := 8) (j := 28) (by decide +kernel) fd_Model_199 h0 ?_
  refine ja_iconst (pc := 30) (n := 1) (v := 1) (by decide +kernel) (by decide +kernel) ?_
  refine ja_iload_n (pc := 31) (f := 3) (i := 3) 0 (by decide +kernel) rfl rfl ?_
  refine ja_ishl (pc := 32) (by decide +kernel) ?_
  refine ja_ior (pc := 33) (by decide +kernel) ?_
  refine ja_bind hf (fun s4 hs4 hf => ?_)
  refine ja_puti2 (pc := 34) (idx := 199) (t := 8) (j := 28) (by decide +kernel) fd_Model_199 h0 ⟨rfl, rfl⟩ hs4 ?_
  refine ja_iconst (pc := 37) (n := 0) (v := 0) (by decide +kernel) (by decide +kernel) ?_
  refine ja_istore (pc := 38) (i := 4) (lv' := [(4, .int (0 : Int32)), (3, .int (v2.2.1 x0 27)), (2, .int v2.1), (0, .ref x0), (1, .int x1)]) (by decide +kernel) (by decide) rfl ?_
  refine ja_lv [3, 4, 2, 1, 0] rfl ?_
  exact w_Model_lockFor_L40 C  ja_FU x0 x1 v2.1 (v2.2.1 x0 27) (0 : Int32) s4 h0 hf
def f_Model_proposedLock (x0 : Nat) (x1 : Int32) (sg : ja_S) : Option (Int32 × ja_S) := (ja_pu sg x0 9 (0 : Int32)).bind fun s1 => (f_Model_isIn ((x1 : Int32).toInt64) (0 : Int64) (((s1.1 x0 2) - (1 : Int32) : Int32).toInt64) s1).bind fun v2 => (if v2.1 = 0 then some ((-2 : Int32), v2.2) else (f_Model_usesSheet x0 v2.2).bind fun v3 => (f_Model_lockFor x0 x1 v3).bind fun v4 => some (v4.1, v4.2))
set_option maxRecDepth 4000 in
theorem c_Model_proposedLock (l : Launch) (x : ja_X) (x0 : Nat) (x1 : Int32) {sg : ja_S} {w : Int32 × ja_S} (h0 : ja_ob ja_L0 8 x0) (hf : f_Model_proposedLock x0 x1 sg = some w) : ja_Ct l x y_Model_proposedLock M_Model_proposedLock [.ref x0, .int x1] ja_L0 sg (some (.int w.1), ja_L0, w.2) := by
  refine ja_mk ⟨by decide, rfl, rfl⟩ (Nat.le_of_ble_eq_true rfl) (lv := [(0, .ref x0), (1, .int x1)]) rfl (fun C hl hx _ _ _ _ => ?_)
  subst hl; subst hx
  unfold f_Model_proposedLock at hf
  refine ja_aload_n (pc := 0) (f := 0) (i := 0) 0 (by decide +kernel) rfl rfl ?_
  refine ja_iconst (pc := 1) (n := 0) (v := 0) (by decide +kernel) (by decide +kernel) ?_
  refine ja_bind hf (fun s1 hs1 hf => ?_)
  refine ja_puti2 (pc := 2) (idx := 1) (t := 8) (j := 9) (by decide +kernel) fd_Model_1 h0 ⟨rfl, rfl⟩ hs1 ?_
  refine ja_iload_n (pc := 5) (f := 1) (i := 1) 1 (by decide +kernel) rfl rfl ?_
  refine ja_i2l (pc := 6) (by decide +kernel) ?_
  refine ja_lconst (pc := 7) (n := 0) (v := 0) (by decide +kernel) (by decide +kernel) ?_
  refine ja_aload_n (pc := 8) (f := 0) (i := 0) 0 (by decide +kernel) rfl rfl ?_
  refine ja_geti (pc := 9) (idx := 183) (t := 8) (j := 2) (by decide +kernel) fd_Model_183 h0 ?_
  refine ja_iconst (pc := 12) (n := 1) (v := 1) (by decide +kernel) (by decide +kernel) ?_
  refine ja_isub (pc := 13) (by decide +kernel) ?_
  refine ja_i2l (pc := 14) (by decide +kernel) ?_
  refine ja_bind hf (fun v2 hv2 hf => ?_)
  refine ja_callSi (pc := 15) (idx := 93) (as := [.long ((x1 : Int32).toInt64), .long (0 : Int64), .long (((s1.1 x0 2) - (1 : Int32) : Int32).toInt64)]) (st := []) (by decide +kernel) ks_Model_isIn lk_Model_93 ⟨by decide, by decide⟩ (c_Model_isIn _ _ ((x1 : Int32).toInt64) (0 : Int64) (((s1.1 x0 2) - (1 : Int32) : Int32).toInt64)  hv2) rfl (Nat.le_of_ble_eq_true rfl) rfl ?_
  refine ja_if_ne (pc := 18) (off := 6) 24 (by decide +kernel) (by decide) hf (fun hf => ?_) (fun hf => ?_)
  · refine ja_aload_n (pc := 24) (f := 0) (i := 0) 0 (by decide +kernel) rfl rfl ?_
    refine ja_bind hf (fun v3 hv3 hf => ?_)
    refine ja_callVv (pc := 25) (idx := 74) (t := 8) (b := x0) (as := []) (st := []) (by decide +kernel) kv_Model_usesSheet lk_Model_74 ⟨by decide, by decide⟩ (c_Model_usesSheet _ _ x0 h0 hv3) h0 rfl (Nat.le_of_ble_eq_true rfl) rfl ?_
    refine ja_aload_n (pc := 28) (f := 0) (i := 0) 0 (by decide +kernel) rfl rfl ?_
    refine ja_iload_n (pc := 29) (f := 1) (i := 1) 1 (by decide +kernel) rfl rfl ?_
    refine ja_bind hf (fun v4 hv4 hf => ?_)
    refine ja_callVi (pc := 30) (idx := 268) (t := 8) (b := x0) (as := [.int x1]) (st := []) (by decide +kernel) kv_Model_lockFor lk_Model_268 ⟨by decide, by decide⟩ (c_Model_lockFor _ _ x0 x1 h0 hv4) h0 rfl (Nat.le_of_ble_eq_true rfl) rfl ?_
    exact ja_ret (pc := 33) (some (.int v4.1)) .ireturn (by decide +kernel) rfl (by cases hf; rfl)
  · refine ja_bipush (pc := 21) (n := (-2)) (v := (-2)) (by decide +kernel) (by decide +kernel) ?_
    exact ja_ret (pc := 23) (some (.int (-2 : Int32))) .ireturn (by decide +kernel) rfl (by cases hf; rfl)
def f_Model_completes_L11  : Nat → Nat → Int32 → ja_S → Option (Int32 × ja_S)
  | 0, _, _, _ => none
  | n + 1, x0, x1, sg => (if (sg.1 x0 2) ≤ x1 then some ((1 : Int32), sg) else (f_Model_laysFrom x0 (0 : Int32) sg).bind fun v1 => (f_Model_unprotected x0 v1).bind fun v2 => (f_Model_has v2.1 x1 v2.2).bind fun v3 => (if v3.1 = 0 then f_Model_completes_L11  n x0 (x1 + 1) v3.2 else (f_Model_lockFor x0 x1 v3.2).bind fun v4 => (ja_st ja_L0 v4.2 (ja_q x0 33) (v3.2.1 x0 34) v4.1).bind fun s5 => (ja_ld ja_L0 s5 (ja_q x0 33) (s5.1 x0 34)).bind fun v6 => (if v6 = (-1 : Int32) then some ((0 : Int32), s5) else (ja_pu s5 x0 34 ((s5.1 x0 34) + (1 : Int32))).bind fun s7 => f_Model_completes_L11  n x0 (x1 + 1) s7)))
set_option maxRecDepth 4000 in
theorem w_Model_completes_L11 (C : ja_C) {w : Int32 × ja_S}    (n : Nat) : ∀ (x0 : Nat) (x1 : Int32) (sg : ja_S), ja_ob ja_L0 8 x0 → f_Model_completes_L11  n x0 x1 sg = some w → ja_J M_Model_completes C 11 [(0, .ref x0), (1, .int x1)] [] ja_L0 sg (some (.int w.1), ja_L0, w.2) := by
  induction n with
  | zero => intro _ _ _ _ hf; exact absurd (show (none : Option _) = some w from hf) (by simp)
  | succ n ih =>
    intro x0 x1 sg h0 hf
    unfold f_Model_completes_L11 at hf
    refine ja_iload_n (pc := 11) (f := 1) (i := 1) 1 (by decide +kernel) rfl rfl ?_
    refine ja_aload_n (pc := 12) (f := 0) (i := 0) 0 (by decide +kernel) rfl rfl ?_
    refine ja_geti (pc := 13) (idx := 183) (t := 8) (j := 2) (by decide +kernel) fd_Model_183 h0 ?_
    refine ja_icmp_ge (pc := 16) (off := 67) 83 (by decide +kernel) (by decide) hf (fun hf => ?_) (fun hf => ?_)
    · refine ja_iconst (pc := 83) (n := 1) (v := 1) (by decide +kernel) (by decide +kernel) ?_
      exact ja_ret (pc := 84) (some (.int (1 : Int32))) .ireturn (by decide +kernel) rfl (by cases hf; rfl)
    · refine ja_aload_n (pc := 19) (f := 0) (i := 0) 0 (by decide +kernel) rfl rfl ?_
      refine ja_iconst (pc := 20) (n := 0) (v := 0) (by decide +kernel) (by decide +kernel) ?_
      refine ja_bind hf (fun v1 hv1 hf => ?_)
      refine ja_callVv (pc := 21) (idx := 248) (t := 8) (b := x0) (as := [.int (0 : Int32)]) (st := []) (by decide +kernel) kv_Model_laysFrom lk_Model_248 ⟨by decide, by decide⟩ (c_Model_laysFrom _ _ x0 (0 : Int32) h0 hv1) h0 rfl (Nat.le_of_ble_eq_true rfl) rfl ?_
      refine ja_aload_n (pc := 24) (f := 0) (i := 0) 0 (by decide +kernel) rfl rfl ?_
      refine ja_bind hf (fun v2 hv2 hf => ?_)
      refine ja_callVi (pc := 25) (idx := 265) (t := 8) (b := x0) (as := []) (st := []) (by decide +kernel) kv_Model_unprotected lk_Model_265 ⟨by decide, by decide⟩ (c_Model_unprotected _ _ x0 h0 hv2) h0 rfl (Nat.le_of_ble_eq_true rfl) rfl ?_
      refine ja_iload_n (pc := 28) (f := 1) (i := 1) 1 (by decide +kernel) rfl rfl ?_
      refine ja_bind hf (fun v3 hv3 hf => ?_)
      refine ja_callSi (pc := 29) (idx := 152) (as := [.int v2.1, .int x1]) (st := []) (by decide +kernel) ks_Model_has lk_Model_152 ⟨by decide, by decide⟩ (c_Model_has _ _ v2.1 x1  hv3) rfl (Nat.le_of_ble_eq_true rfl) rfl ?_
      refine ja_if_ne (pc := 32) (off := 6) 38 (by decide +kernel) (by decide) hf (fun hf => ?_) (fun hf => ?_)
      · refine ja_aload_n (pc := 38) (f := 0) (i := 0) 0 (by decide +kernel) rfl rfl ?_
        refine ja_getr (pc := 39) (idx := 62) (t := 8) (j := 33) (by decide +kernel) fd_Model_62 h0 (fr_8_33 h0) ?_
        refine ja_aload_n (pc := 42) (f := 0) (i := 0) 0 (by decide +kernel) rfl rfl ?_
        refine ja_geti (pc := 43) (idx := 274) (t := 8) (j := 34) (by decide +kernel) fd_Model_274 h0 ?_
        refine ja_aload_n (pc := 46) (f := 0) (i := 0) 0 (by decide +kernel) rfl rfl ?_
        refine ja_iload_n (pc := 47) (f := 1) (i := 1) 1 (by decide +kernel) rfl rfl ?_
        refine ja_bind hf (fun v4 hv4 hf => ?_)
        refine ja_callVi (pc := 48) (idx := 268) (t := 8) (b := x0) (as := [.int x1]) (st := [.int (v3.2.1 x0 34), .ref (ja_q x0 33)]) (by decide +kernel) kv_Model_lockFor lk_Model_268 ⟨by decide, by decide⟩ (c_Model_lockFor _ _ x0 x1 h0 hv4) h0 rfl (Nat.le_of_ble_eq_true rfl) rfl ?_
        refine ja_bind hf (fun s5 hs5 hf => ?_)
        refine ja_iast (pc := 51) (by decide +kernel) (fk_8_33 h0) hs5 ?_
        refine ja_aload_n (pc := 52) (f := 0) (i := 0) 0 (by decide +kernel) rfl rfl ?_
        refine ja_getr (pc := 53) (idx := 62) (t := 8) (j := 33) (by decide +kernel) fd_Model_62 h0 (fr_8_33 h0) ?_
        refine ja_aload_n (pc := 56) (f := 0) (i := 0) 0 (by decide +kernel) rfl rfl ?_
        refine ja_geti (pc := 57) (idx := 274) (t := 8) (j := 34) (by decide +kernel) fd_Model_274 h0 ?_
        refine ja_bind hf (fun v6 hv6 hf => ?_)
        refine ja_iald (pc := 60) (by decide +kernel) (fk_8_33 h0) hv6 ?_
        refine ja_iconst (pc := 61) (n := (-1)) (v := (-1)) (by decide +kernel) (by decide +kernel) ?_
        refine ja_icmp_ne (pc := 62) (off := 5) 67 (by decide +kernel) (by decide) hf (fun hf => ?_) (fun hf => ?_)
        · refine ja_aload_n (pc := 67) (f := 0) (i := 0) 0 (by decide +kernel) rfl rfl ?_
          refine ja_dup (pc := 68) (by decide +kernel) rfl ?_
          refine ja_geti (pc := 69) (idx := 274) (t := 8) (j := 34) (by decide +kernel) fd_Model_274 h0 ?_
          refine ja_iconst (pc := 72) (n := 1) (v := 1) (by decide +kernel) (by decide +kernel) ?_
          refine ja_iadd (pc := 73) (by decide +kernel) ?_
          refine ja_bind hf (fun s7 hs7 hf => ?_)
          refine ja_puti2 (pc := 74) (idx := 274) (t := 8) (j := 34) (by decide +kernel) fd_Model_274 h0 ⟨rfl, rfl⟩ hs7 ?_
          refine ja_iinc (pc := 77) (i := 1) (n := 1) (v := x1 + 1) (lv' := [(1, .int (x1 + 1)), (0, .ref x0)]) 1 (by decide +kernel) rfl rfl (by decide) rfl ?_
          refine ja_goto (pc := 80) (off := (-69)) 11 (by decide +kernel) (by decide) ?_
          refine ja_lv [1, 0] rfl ?_
          exact ih x0 (x1 + 1) s7 h0 hf
        · refine ja_iconst (pc := 65) (n := 0) (v := 0) (by decide +kernel) (by decide +kernel) ?_
          exact ja_ret (pc := 66) (some (.int (0 : Int32))) .ireturn (by decide +kernel) rfl (by cases hf; rfl)
      · refine ja_goto (pc := 35) (off := 42) 77 (by decide +kernel) (by decide) ?_
        refine ja_iinc (pc := 77) (i := 1) (n := 1) (v := x1 + 1) (lv' := [(1, .int (x1 + 1)), (0, .ref x0)]) 1 (by decide +kernel) rfl rfl (by decide) rfl ?_
        refine ja_goto (pc := 80) (off := (-69)) 11 (by decide +kernel) (by decide) ?_
        refine ja_lv [1, 0] rfl ?_
        exact ih x0 (x1 + 1) v3.2 h0 hf
def f_Model_completes (x0 : Nat) (sg : ja_S) : Option (Int32 × ja_S) := (f_Model_usesSheet x0 sg).bind fun v1 => (ja_pu v1 x0 34 (0 : Int32)).bind fun s2 => f_Model_completes_L11  ja_FU x0 (0 : Int32) s2
set_option maxRecDepth 4000 in
theorem c_Model_completes (l : Launch) (x : ja_X) (x0 : Nat) {sg : ja_S} {w : Int32 × ja_S} (h0 : ja_ob ja_L0 8 x0) (hf : f_Model_completes x0 sg = some w) : ja_Ct l x y_Model_completes M_Model_completes [.ref x0] ja_L0 sg (some (.int w.1), ja_L0, w.2) := by
  refine ja_mk ⟨by decide, rfl, rfl⟩ (Nat.le_of_ble_eq_true rfl) (lv := [(0, .ref x0)]) rfl (fun C hl hx _ _ _ _ => ?_)
  subst hl; subst hx
  unfold f_Model_completes at hf
  refine ja_aload_n (pc := 0) (f := 0) (i := 0) 0 (by decide +kernel) rfl rfl ?_
  refine ja_bind hf (fun v1 hv1 hf => ?_)
  refine ja_callVv (pc := 1) (idx := 74) (t := 8) (b := x0) (as := []) (st := []) (by decide +kernel) kv_Model_usesSheet lk_Model_74 ⟨by decide, by decide⟩ (c_Model_usesSheet _ _ x0 h0 hv1) h0 rfl (Nat.le_of_ble_eq_true rfl) rfl ?_
  refine ja_aload_n (pc := 4) (f := 0) (i := 0) 0 (by decide +kernel) rfl rfl ?_
  refine ja_iconst (pc := 5) (n := 0) (v := 0) (by decide +kernel) (by decide +kernel) ?_
  refine ja_bind hf (fun s2 hs2 hf => ?_)
  refine ja_puti2 (pc := 6) (idx := 274) (t := 8) (j := 34) (by decide +kernel) fd_Model_274 h0 ⟨rfl, rfl⟩ hs2 ?_
  refine ja_iconst (pc := 9) (n := 0) (v := 0) (by decide +kernel) (by decide +kernel) ?_
  refine ja_istore_n (pc := 10) (f := 1) (i := 1) (lv' := [(1, .int (0 : Int32)), (0, .ref x0)]) (by decide +kernel) rfl (by decide) rfl ?_
  refine ja_lv [1, 0] rfl ?_
  exact w_Model_completes_L11 C  ja_FU x0 (0 : Int32) s2 h0 hf
