def f_Model_completionSize (x0 : Nat) (sg : ja_S) : Option (Int32 × ja_S) := (ja_pu sg x0 9 (0 : Int32)).bind fun s1 => (f_Model_completes x0 s1).bind fun v2 => (if v2.1 = 0 then some ((-1 : Int32), v2.2) else some (v2.2.1 x0 34, v2.2))
set_option maxRecDepth 4000 in
theorem c_Model_completionSize (l : Launch) (x : ja_X) (x0 : Nat) {sg : ja_S} {w : Int32 × ja_S} (h0 : ja_ob ja_L0 8 x0) (hf : f_Model_completionSize x0 sg = some w) : ja_Ct l x y_Model_completionSize M_Model_completionSize [.ref x0] ja_L0 sg (some (.int w.1), ja_L0, w.2) := by
  refine ja_mk ⟨by decide, rfl, rfl⟩ (Nat.le_of_ble_eq_true rfl) (lv := [(0, .ref x0)]) rfl (fun C hl hx _ _ _ _ => ?_)
  subst hl; subst hx
  unfold f_Model_completionSize at hf
  refine ja_aload_n (pc := 0) (f := 0) (i := 0) 0 (by decide +kernel) rfl rfl ?_
  refine ja_iconst (pc := 1) (n := 0) (v := 0) (by decide +kernel) (by decide +kernel) ?_
  refine ja_bind hf (fun s1 hs1 hf => ?_)
  refine ja_puti2 (pc := 2) (idx := 1) (t := 8) (j := 9) (by decide +kernel) fd_Model_1 h0 ⟨rfl, rfl⟩ hs1 ?_
  refine ja_aload_n (pc := 5) (f := 0) (i := 0) 0 (by decide +kernel) rfl rfl ?_
  refine ja_bind hf (fun v2 hv2 hf => ?_)
  refine ja_callVi (pc := 6) (idx := 277) (t := 8) (b := x0) (as := []) (st := []) (by decide +kernel) kv_Model_completes lk_Model_277 ⟨by decide, by decide⟩ (c_Model_completes _ _ x0 h0 hv2) h0 rfl (Nat.le_of_ble_eq_true rfl) rfl ?_
  refine ja_if_eq (pc := 9) (off := 10) 19 (by decide +kernel) (by decide) hf (fun hf => ?_) (fun hf => ?_)
  · refine ja_iconst (pc := 19) (n := (-1)) (v := (-1)) (by decide +kernel) (by decide +kernel) ?_
    exact ja_ret (pc := 20) (some (.int (-1 : Int32))) .ireturn (by decide +kernel) rfl (by cases hf; rfl)
  · refine ja_aload_n (pc := 12) (f := 0) (i := 0) 0 (by decide +kernel) rfl rfl ?_
    refine ja_geti (pc := 13) (idx := 274) (t := 8) (j := 34) (by decide +kernel) fd_Model_274 h0 ?_
    refine ja_goto (pc := 16) (off := 4) 20 (by decide +kernel) (by decide) ?_
    exact ja_ret (pc := 20) (some (.int (v2.2.1 x0 34))) .ireturn (by decide +kernel) rfl (by cases hf; rfl)
def f_Model_completionLock (x0 : Nat) (x1 : Int32) (sg : ja_S) : Option (Int32 × ja_S) := (ja_pu sg x0 9 (0 : Int32)).bind fun s1 => (if 0 ≤ x1 then (f_Model_completes x0 s1).bind fun v2 => (if v2.1 = 0 then some ((-1 : Int32), v2.2) else (if (v2.2.1 x0 34) ≤ x1 then some ((-1 : Int32), v2.2) else (ja_ld ja_L0 v2.2 (ja_q x0 33) x1).bind fun v3 => some (v3, v2.2))) else some ((-3 : Int32), s1))
set_option maxRecDepth 4000 in
theorem c_Model_completionLock (l : Launch) (x : ja_X) (x0 : Nat) (x1 : Int32) {sg : ja_S} {w : Int32 × ja_S} (h0 : ja_ob ja_L0 8 x0) (hf : f_Model_completionLock x0 x1 sg = some w) : ja_Ct l x y_Model_completionLock M_Model_completionLock [.ref x0, .int x1] ja_L0 sg (some (.int w.1), ja_L0, w.2) := by
  refine ja_mk ⟨by decide, rfl, rfl⟩ (Nat.le_of_ble_eq_true rfl) (lv := [(0, .ref x0), (1, .int x1)]) rfl (fun C hl hx _ _ _ _ => ?_)
  subst hl; subst hx
  unfold f_Model_completionLock at hf
  refine ja_aload_n (pc := 0) (f := 0) (i := 0) 0 (by decide +kernel) rfl rfl ?_
  refine ja_iconst (pc := 1) (n := 0) (v := 0) (by decide +kernel) (by decide +kernel) ?_
  refine ja_bind hf (fun s1 hs1 hf => ?_)
  refine ja_puti2 (pc := 2) (idx := 1) (t := 8) (j := 9) (by decide +kernel) fd_Model_1 h0 ⟨rfl, rfl⟩ hs1 ?_
  refine ja_iload_n (pc := 5) (f := 1) (i := 1) 1 (by decide +kernel) rfl rfl ?_
  refine ja_if_ge (pc := 6) (off := 6) 12 (by decide +kernel) (by decide) hf (fun hf => ?_) (fun hf => ?_)
  · refine ja_aload_n (pc := 12) (f := 0) (i := 0) 0 (by decide +kernel) rfl rfl ?_
    refine ja_bind hf (fun v2 hv2 hf => ?_)
    refine ja_callVi (pc := 13) (idx := 277) (t := 8) (b := x0) (as := []) (st := []) (by decide +kernel) kv_Model_completes lk_Model_277 ⟨by decide, by decide⟩ (c_Model_completes _ _ x0 h0 hv2) h0 rfl (Nat.le_of_ble_eq_true rfl) rfl ?_
    refine ja_if_eq (pc := 16) (off := 20) 36 (by decide +kernel) (by decide) hf (fun hf => ?_) (fun hf => ?_)
    · refine ja_iconst (pc := 36) (n := (-1)) (v := (-1)) (by decide +kernel) (by decide +kernel) ?_
      exact ja_ret (pc := 37) (some (.int (-1 : Int32))) .ireturn (by decide +kernel) rfl (by cases hf; rfl)
    · refine ja_iload_n (pc := 19) (f := 1) (i := 1) 1 (by decide +kernel) rfl rfl ?_
      refine ja_aload_n (pc := 20) (f := 0) (i := 0) 0 (by decide +kernel) rfl rfl ?_
      refine ja_geti (pc := 21) (idx := 274) (t := 8) (j := 34) (by decide +kernel) fd_Model_274 h0 ?_
      refine ja_icmp_ge (pc := 24) (off := 12) 36 (by decide +kernel) (by decide) hf (fun hf => ?_) (fun hf => ?_)
      · refine ja_iconst (pc := 36) (n := (-1)) (v := (-1)) (by decide +kernel) (by decide +kernel) ?_
        exact ja_ret (pc := 37) (some (.int (-1 : Int32))) .ireturn (by decide +kernel) rfl (by cases hf; rfl)
      · refine ja_aload_n (pc := 27) (f := 0) (i := 0) 0 (by decide +kernel) rfl rfl ?_
        refine ja_getr (pc := 28) (idx := 62) (t := 8) (j := 33) (by decide +kernel) fd_Model_62 h0 (fr_8_33 h0) ?_
        refine ja_iload_n (pc := 31) (f := 1) (i := 1) 1 (by decide +kernel) rfl rfl ?_
        refine ja_bind hf (fun v3 hv3 hf => ?_)
        refine ja_iald (pc := 32) (by decide +kernel) (fk_8_33 h0) hv3 ?_
        refine ja_goto (pc := 33) (off := 4) 37 (by decide +kernel) (by decide) ?_
        exact ja_ret (pc := 37) (some (.int v3)) .ireturn (by decide +kernel) rfl (by cases hf; rfl)
  · refine ja_bipush (pc := 9) (n := (-3)) (v := (-3)) (by decide +kernel) (by decide +kernel) ?_
    exact ja_ret (pc := 11) (some (.int (-3 : Int32))) .ireturn (by decide +kernel) rfl (by cases hf; rfl)
def f_Model_bits_L4  : Nat → Int32 → Int32 → ja_S → Option (Int32 × ja_S)
  | 0, _, _, _ => none
  | n + 1, x1, x2, sg => (if x2 = 0 then some (x1, sg) else f_Model_bits_L4  n (x1 + 1) (x2 &&& (x2 - (1 : Int32))) sg)
set_option maxRecDepth 4000 in
theorem w_Model_bits_L4 (C : ja_C) {w : Int32 × ja_S}    (n : Nat) : ∀ (x1 : Int32) (x2 : Int32) (sg : ja_S), f_Model_bits_L4  n x1 x2 sg = some w → ja_J M_Model_bits C 4 [(1, .int x1), (2, .int x2)] [] ja_L0 sg (some (.int w.1), ja_L0, w.2) := by
  induction n with
  | zero => intro _ _ _ hf; exact absurd (show (none : Option _) = some w from hf) (by simp)
  | succ n ih =>
    intro x1 x2 sg  hf
    unfold f_Model_bits_L4 at hf
    refine ja_iload_n (pc := 4) (f := 2) (i := 2) 1 (by decide +kernel) rfl rfl ?_
    refine ja_if_eq (pc := 5) (off := 15) 20 (by decide +kernel) (by decide) hf (fun hf => ?_) (fun hf => ?_)
    · refine ja_iload_n (pc := 20) (f := 1) (i := 1) 0 (by decide +kernel) rfl rfl ?_
      exact ja_ret (pc := 21) (some (.int x1)) .ireturn (by decide +kernel) rfl (by cases hf; rfl)
    · refine ja_iinc (pc := 8) (i := 1) (n := 1) (v := x1 + 1) (lv' := [(1, .int (x1 + 1)), (2, .int x2)]) 0 (by decide +kernel) rfl rfl (by decide) rfl ?_
      refine ja_iload_n (pc := 11) (f := 2) (i := 2) 1 (by decide +kernel) rfl rfl ?_
      refine ja_iload_n (pc := 12) (f := 2) (i := 2) 1 (by decide +kernel) rfl rfl ?_
      refine ja_iconst (pc := 13) (n := 1) (v := 1) (by decide +kernel) (by decide +kernel) ?_
      refine ja_isub (pc := 14) (by decide +kernel) ?_
      refine ja_iand (pc := 15) (by decide +kernel) ?_
      refine ja_istore_n (pc := 16) (f := 2) (i := 2) (lv' := [(2, .int (x2 &&& (x2 - (1 : Int32)))), (1, .int (x1 + 1))]) (by decide +kernel) rfl (by decide) rfl ?_
      refine ja_goto (pc := 17) (off := (-13)) 4 (by decide +kernel) (by decide) ?_
      refine ja_lv [1, 0] rfl ?_
      exact ih (x1 + 1) (x2 &&& (x2 - (1 : Int32))) sg  hf
def f_Model_bits (x0 : Int32) (sg : ja_S) : Option (Int32 × ja_S) := f_Model_bits_L4  ja_FU (0 : Int32) x0 sg
set_option maxRecDepth 4000 in
theorem c_Model_bits (l : Launch) (x : ja_X) (x0 : Int32) {sg : ja_S} {w : Int32 × ja_S}  (hf : f_Model_bits x0 sg = some w) : ja_Ct l x y_Model_bits M_Model_bits [.int x0] ja_L0 sg (some (.int w.1), ja_L0, w.2) := by
  refine ja_mk ⟨by decide, rfl, rfl⟩ (Nat.le_of_ble_eq_true rfl) (lv := [(0, .int x0)]) rfl (fun C hl hx _ _ _ _ => ?_)
  subst hl; subst hx
  unfold f_Model_bits at hf
  refine ja_iconst (pc := 0) (n := 0) (v := 0) (by decide +kernel) (by decide +kernel) ?_
  refine ja_istore_n (pc := 1) (f := 1) (i := 1) (lv' := [(1, .int (0 : Int32)), (0, .int x0)]) (by decide +kernel) rfl (by decide) rfl ?_
  refine ja_iload_n (pc := 2) (f := 0) (i := 0) 1 (by decide +kernel) rfl rfl ?_
  refine ja_istore_n (pc := 3) (f := 2) (i := 2) (lv' := [(2, .int x0), (1, .int (0 : Int32)), (0, .int x0)]) (by decide +kernel) rfl (by decide) rfl ?_
  refine ja_lv [1, 0] rfl ?_
  exact w_Model_bits_L4 C  ja_FU (0 : Int32) x0 sg  hf
def f_Model_largestRouteSet_L31 (k18 : Nat → Int32 → Int32 → ja_S → Option (Int32 × ja_S)) : Nat → Nat → Int32 → Int32 → Int32 → Int32 → ja_S → Option (Int32 × ja_S)
  | 0, _, _, _, _, _, _ => none
  | n + 1, x0, x1, x2, x3, x4, sg => (if (sg.1 x0 1) ≤ x4 then (f_Model_bits x3 sg).bind fun v1 => (f_Model_bits x1 v1.2).bind fun v2 => (if v2.1 < v1.1 then k18 x0 x3 (x2 + 1) v2.2 else (f_Model_bits x3 v2.2).bind fun v3 => (f_Model_bits x1 v3.2).bind fun v4 => (if v3.1 = v4.1 then (if x1 ≤ x3 then k18 x0 x1 (x2 + 1) v4.2 else k18 x0 x3 (x2 + 1) v4.2) else k18 x0 x1 (x2 + 1) v4.2)) else (ja_ld ja_L0 sg (ja_q x0 31) x2).bind fun v5 => (f_Model_sets x0 v5 x4 sg).bind fun v6 => (if v6.1 = 0 then f_Model_largestRouteSet_L31 k18 n x0 x1 x2 (x3 ||| (0 : Int32)) (x4 + 1) v6.2 else f_Model_largestRouteSet_L31 k18 n x0 x1 x2 (x3 ||| ((1 : Int32) <<< (x4 &&& 31))) (x4 + 1) v6.2))
set_option maxRecDepth 4000 in
theorem w_Model_largestRouteSet_L31 (C : ja_C) {w : Int32 × ja_S} {k18 : Nat → Int32 → Int32 → ja_S → Option (Int32 × ja_S)} (e18 : ∀ (x0 : Nat) (x1 : Int32) (x2 : Int32) (sg : ja_S), ja_ob ja_L0 8 x0 → k18 x0 x1 x2 sg = some w → ja_J M_Model_largestRouteSet C 18 [(0, .ref x0), (1, .int x1), (2, .int x2)] [] ja_L0 sg (some (.int w.1), ja_L0, w.2))  (n : Nat) : ∀ (x0 : Nat) (x1 : Int32) (x2 : Int32) (x3 : Int32) (x4 : Int32) (sg : ja_S), ja_ob ja_L0 8 x0 → f_Model_largestRouteSet_L31 k18 n x0 x1 x2 x3 x4 sg = some w → ja_J M_Model_largestRouteSet C 31 [(0, .ref x0), (1, .int x1), (2, .int x2), (3, .int x3), (4, .int x4)] [] ja_L0 sg (some (.int w.1), ja_L0, w.2) := by
  induction n with
  | zero => intro _ _ _ _ _ _ _ hf; exact absurd (show (none : Option _) = some w from hf) (by simp)
  | succ n ih =>
    intro x0 x1 x2 x3 x4 sg h0 hf
    unfold f_Model_largestRouteSet_L31 at hf
    refine ja_iload (pc := 31) (i := 4) 4 (by decide +kernel) rfl ?_
    refine ja_aload_n (pc := 33) (f := 0) (i := 0) 0 (by decide +kernel) rfl rfl ?_
    refine ja_geti (pc := 34) (idx := 180) (t := 8) (j := 1) (by decide +kernel) fd_Model_180 h0 ?_
    refine ja_icmp_ge (pc := 37) (off := 35) 72 (by decide +kernel) (by decide) hf (fun hf => ?_) (fun hf => ?_)
    · refine ja_iload_n (pc := 72) (f := 3) (i := 3) 3 (by decide +kernel) rfl rfl ?_
      refine ja_bind hf (fun v1 hv1 hf => ?_)
      refine ja_callSi (pc := 73) (idx := 280) (as := [.int x3]) (st := []) (by decide +kernel) ks_Model_bits lk_Model_280 ⟨by decide, by decide⟩ (c_Model_bits _ _ x3  hv1) rfl (Nat.le_of_ble_eq_true rfl) rfl ?_
      refine ja_iload_n (pc := 76) (f := 1) (i := 1) 1 (by decide +kernel) rfl rfl ?_
      refine ja_bind hf (fun v2 hv2 hf => ?_)
      refine ja_callSi (pc := 77) (idx := 280) (as := [.int x1]) (st := [.int v1.1]) (by decide +kernel) ks_Model_bits lk_Model_280 ⟨by decide, by decide⟩ (c_Model_bits _ _ x1  hv2) rfl (Nat.le_of_ble_eq_true rfl) rfl ?_
      refine ja_icmp_gt (pc := 80) (off := 19) 99 (by decide +kernel) (by decide) hf (fun hf => ?_) (fun hf => ?_)
      · refine ja_iload_n (pc := 99) (f := 3) (i := 3) 3 (by decide +kernel) rfl rfl ?_
        refine ja_istore_n (pc := 100) (f := 1) (i := 1) (lv' := [(1, .int x3), (0, .ref x0), (2, .int x2), (3, .int x3), (4, .int x4)]) (by decide +kernel) rfl (by decide) rfl ?_
        refine ja_iinc (pc := 101) (i := 2) (n := 1) (v := x2 + 1) (lv' := [(2, .int (x2 + 1)), (1, .int x3), (0, .ref x0), (3, .int x3), (4, .int x4)]) 2 (by decide +kernel) rfl rfl (by decide) rfl ?_
        refine ja_goto (pc := 104) (off := (-86)) 18 (by decide +kernel) (by decide) ?_
        refine ja_lv [2, 1, 0] rfl ?_
        exact e18 x0 x3 (x2 + 1) v2.2 h0 hf
      · refine ja_iload_n (pc := 83) (f := 3) (i := 3) 3 (by decide +kernel) rfl rfl ?_
        refine ja_bind hf (fun v3 hv3 hf => ?_)
        refine ja_callSi (pc := 84) (idx := 280) (as := [.int x3]) (st := []) (by decide +kernel) ks_Model_bits lk_Model_280 ⟨by decide, by decide⟩ (c_Model_bits _ _ x3  hv3) rfl (Nat.le_of_ble_eq_true rfl) rfl ?_
        refine ja_iload_n (pc := 87) (f := 1) (i := 1) 1 (by decide +kernel) rfl rfl ?_
        refine ja_bind hf (fun v4 hv4 hf => ?_)
        refine ja_callSi (pc := 88) (idx := 280) (as := [.int x1]) (st := [.int v3.1]) (by decide +kernel) ks_Model_bits lk_Model_280 ⟨by decide, by decide⟩ (c_Model_bits _ _ x1  hv4) rfl (Nat.le_of_ble_eq_true rfl) rfl ?_
        refine ja_icmp_ne (pc := 91) (off := 10) 101 (by decide +kernel) (by decide) hf (fun hf => ?_) (fun hf => ?_)
        · refine ja_iinc (pc := 101) (i := 2) (n := 1) (v := x2 + 1) (lv' := [(2, .int (x2 + 1)), (0, .ref x0), (1, .int x1), (3, .int x3), (4, .int x4)]) 2 (by decide +kernel) rfl rfl (by decide) rfl ?_
          refine ja_goto (pc := 104) (off := (-86)) 18 (by decide +kernel) (by decide) ?_
          refine ja_lv [1, 2, 0] rfl ?_
          exact e18 x0 x1 (x2 + 1) v4.2 h0 hf
        · refine ja_iload_n (pc := 94) (f := 3) (i := 3) 3 (by decide +kernel) rfl rfl ?_
          refine ja_iload_n (pc := 95) (f := 1) (i := 1) 1 (by decide +kernel) rfl rfl ?_
          refine ja_icmp_ge (pc := 96) (off := 5) 101 (by decide +kernel) (by decide) hf (fun hf => ?_) (fun hf => ?_)
          · refine ja_iinc (pc := 101) (i := 2) (n := 1) (v := x2 + 1) (lv' := [(2, .int (x2 + 1)), (0, .ref x0), (1, .int x1), (3, .int x3), (4, .int x4)]) 2 (by decide +kernel) rfl rfl (by decide) rfl ?_
            refine ja_goto (pc := 104) (off := (-86)) 18 (by decide +kernel) (by decide) ?_
            refine ja_lv [1, 2, 0] rfl ?_
            exact e18 x0 x1 (x2 + 1) v4.2 h0 hf
          · refine ja_iload_n (pc := 99) (f := 3) (i := 3) 3 (by decide +kernel) rfl rfl ?_
            refine ja_istore_n (pc := 100) (f := 1) (i := 1) (lv' := [(1, .int x3), (0, .ref x0), (2, .int x2), (3, .int x3), (4, .int x4)]) (by decide +kernel) rfl (by decide) rfl ?_
            refine ja_iinc (pc := 101) (i := 2) (n := 1) (v := x2 + 1) (lv' := [(2, .int (x2 + 1)), (1, .int x3), (0, .ref x0), (3, .int x3), (4, .int x4)]) 2 (by decide +kernel) rfl rfl (by decide) rfl ?_
            refine ja_goto (pc := 104) (off := (-86)) 18 (by decide +kernel) (by decide) ?_
            refine ja_lv [2, 1, 0] rfl ?_
            exact e18 x0 x3 (x2 + 1) v4.2 h0 hf
    · refine ja_iload_n (pc := 40) (f := 3) (i := 3) 3 (by decide +kernel) rfl rfl ?_
      refine ja_aload_n (pc := 41) (f := 0) (i := 0) 0 (by decide +kernel) rfl rfl ?_
      refine ja_aload_n (pc := 42) (f := 0) (i := 0) 0 (by decide +kernel) rfl rfl ?_
      refine ja_getr (pc := 43) (idx := 59) (t := 8) (j := 31) (by decide +kernel) fd_Model_59 h0 (fr_8_31 h0) ?_
      refine ja_iload_n (pc := 46) (f := 2) (i := 2) 2 (by decide +kernel) rfl rfl ?_
      refine ja_bind hf (fun v5 hv5 hf => ?_)
      refine ja_iald (pc := 47) (by decide +kernel) (fk_8_31 h0) hv5 ?_
      refine ja_iload (pc := 48) (i := 4) 4 (by decide +kernel) rfl ?_
      refine ja_bind hf (fun v6 hv6 hf => ?_)
      refine ja_callVi (pc := 50) (idx := 255) (t := 8) (b := x0) (as := [.int v5, .int x4]) (st := [.int x3]) (by decide +kernel) kv_Model_sets lk_Model_255 ⟨by decide, by decide⟩ (c_Model_sets _ _ x0 v5 x4 h0 hv6) h0 rfl (Nat.le_of_ble_eq_true rfl) rfl ?_
      refine ja_if_eq (pc := 53) (off := 10) 63 (by decide +kernel) (by decide) hf (fun hf => ?_) (fun hf => ?_)
      · refine ja_iconst (pc := 63) (n := 0) (v := 0) (by decide +kernel) (by decide +kernel) ?_
        refine ja_ior (pc := 64) (by decide +kernel) ?_
        refine ja_istore_n (pc := 65) (f := 3) (i := 3) (lv' := [(3, .int (x3 ||| (0 : Int32))), (0, .ref x0), (1, .int x1), (2, .int x2), (4, .int x4)]) (by decide +kernel) rfl (by decide) rfl ?_
        refine ja_iinc (pc := 66) (i := 4) (n := 1) (v := x4 + 1) (lv' := [(4, .int (x4 + 1)), (3, .int (x3 ||| (0 : Int32))), (0, .ref x0), (1, .int x1), (2, .int x2)]) 4 (by decide +kernel) rfl rfl (by decide) rfl ?_
        refine ja_goto (pc := 69) (off := (-38)) 31 (by decide +kernel) (by decide) ?_
        refine ja_lv [2, 3, 4, 1, 0] rfl ?_
        exact ih x0 x1 x2 (x3 ||| (0 : Int32)) (x4 + 1) v6.2 h0 hf
      · refine ja_iconst (pc := 56) (n := 1) (v := 1) (by decide +kernel) (by decide +kernel) ?_
        refine ja_iload (pc := 57) (i := 4) 4 (by decide +kernel) rfl ?_
        refine ja_ishl (pc := 59) (by decide +kernel) ?_
        refine ja_goto (pc := 60) (off := 4) 64 (by decide +kernel) (by decide) ?_
        refine ja_ior (pc := 64) (by decide +kernel) ?_
        refine ja_istore_n (pc := 65) (f := 3) (i := 3) (lv' := [(3, .int (x3 ||| ((1 : Int32) <<< (x4 &&& 31)))), (0, .ref x0), (1, .int x1), (2, .int x2), (4, .int x4)]) (by decide +kernel) rfl (by decide) rfl ?_
        refine ja_iinc (pc := 66) (i := 4) (n := 1) (v := x4 + 1) (lv' := [(4, .int (x4 + 1)), (3, .int (x3 ||| ((1 : Int32) <<< (x4 &&& 31)))), (0, .ref x0), (1, .int x1), (2, .int x2)]) 4 (by decide +kernel) rfl rfl (by decide) rfl ?_
        refine ja_goto (pc := 69) (off := (-38)) 31 (by decide +kernel) (by decide) ?_
        refine ja_lv [2, 3, 4, 1, 0] rfl ?_
        exact ih x0 x1 x2 (x3 ||| ((1 : Int32) <<< (x4 &&& 31))) (x4 + 1) v6.2 h0 hf
def f_Model_largestRouteSet_L18  : Nat → Nat → Int32 → Int32 → ja_S → Option (Int32 × ja_S)
  | 0, _, _, _, _ => none
  | n + 1, x0, x1, x2, sg => (if (sg.1 x0 32) ≤ x2 then some (x1, sg) else f_Model_largestRouteSet_L31 (f_Model_largestRouteSet_L18  n) ja_FU x0 x1 x2 (0 : Int32) (0 : Int32) sg)
set_option maxRecDepth 4000 in
theorem w_Model_largestRouteSet_L18 (C : ja_C) {w : Int32 × ja_S}    (n : Nat) : ∀ (x0 : Nat) (x1 : Int32) (x2 : Int32) (sg : ja_S), ja_ob ja_L0 8 x0 → f_Model_largestRouteSet_L18  n x0 x1 x2 sg = some w → ja_J M_Model_largestRouteSet C 18 [(0, .ref x0), (1, .int x1), (2, .int x2)] [] ja_L0 sg (some (.int w.1), ja_L0, w.2) := by
  induction n with
  | zero => intro _ _ _ _ _ hf; exact absurd (show (none : Option _) = some w from hf) (by simp)
  | succ n ih =>
    intro x0 x1 x2 sg h0 hf
    unfold f_Model_largestRouteSet_L18 at hf
    refine ja_iload_n (pc := 18) (f := 2) (i := 2) 2 (by decide +kernel) rfl rfl ?_
    refine ja_aload_n (pc := 19) (f := 0) (i := 0) 0 (by decide +kernel) rfl rfl ?_
    refine ja_geti (pc := 20) (idx := 218) (t := 8) (j := 32) (by decide +kernel) fd_Model_218 h0 ?_
    refine ja_icmp_ge (pc := 23) (off := 84) 107 (by decide +kernel) (by decide) hf (fun hf => ?_) (fun hf => ?_)
    · refine ja_iload_n (pc := 107) (f := 1) (i := 1) 1 (by decide +kernel) rfl rfl ?_
      exact ja_ret (pc := 108) (some (.int x1)) .ireturn (by decide +kernel) rfl (by cases hf; rfl)
    · refine ja_iconst (pc := 26) (n := 0) (v := 0) (by decide +kernel) (by decide +kernel) ?_
      refine ja_istore_n (pc := 27) (f := 3) (i := 3) (lv' := [(3, .int (0 : Int32)), (0, .ref x0), (1, .int x1), (2, .int x2)]) (by decide +kernel) rfl (by decide) rfl ?_
      refine ja_iconst (pc := 28) (n := 0) (v := 0) (by decide +kernel) (by decide +kernel) ?_
      refine ja_istore (pc := 29) (i := 4) (lv' := [(4, .int (0 : Int32)), (3, .int (0 : Int32)), (0, .ref x0), (1, .int x1), (2, .int x2)]) (by decide +kernel) (by decide) rfl ?_
      refine ja_lv [2, 3, 4, 1, 0] rfl ?_
      exact w_Model_largestRouteSet_L31 C ih ja_FU x0 x1 x2 (0 : Int32) (0 : Int32) sg h0 hf
def f_Model_largestRouteSet (x0 : Nat) (sg : ja_S) : Option (Int32 × ja_S) := (ja_pu sg x0 9 (0 : Int32)).bind fun s1 => (f_Model_usesSheet x0 s1).bind fun v2 => (f_Model_laysFrom x0 (0 : Int32) v2).bind fun v3 => f_Model_largestRouteSet_L18  ja_FU x0 (0 : Int32) (0 : Int32) v3
set_option maxRecDepth 4000 in
theorem c_Model_largestRouteSet (l : Launch) (x : ja_X) (x0 : Nat) {sg : ja_S} {w : Int32 × ja_S} (h0 : ja_ob ja_L0 8 x0) (hf : f_Model_largestRouteSet x0 sg = some w) : ja_Ct l x y_Model_largestRouteSet M_Model_largestRouteSet [.ref x0] ja_L0 sg (some (.int w.1), ja_L0, w.2) := by
  refine ja_mk ⟨by decide, rfl, rfl⟩ (Nat.le_of_ble_eq_true rfl) (lv := [(0, .ref x0)]) rfl (fun C hl hx _ _ _ _ => ?_)
  subst hl; subst hx
  unfold f_Model_largestRouteSet at hf
  refine ja_aload_n (pc := 0) (f := 0) (i := 0) 0 (by decide +kernel) rfl rfl ?_
  refine ja_iconst (pc := 1) (n := 0) (v := 0) (by decide +kernel) (by decide +kernel) ?_
  refine ja_bind hf (fun s1 hs1 hf => ?_)
  refine ja_puti2 (pc := 2) (idx := 1) (t := 8) (j := 9) (by decide +kernel) fd_Model_1 h0 ⟨rfl, rfl⟩ hs1 ?_
  refine ja_aload_n (pc := 5) (f := 0) (i := 0) 0 (by decide +kernel) rfl rfl ?_
  refine ja_bind hf (fun v2 hv2 hf => ?_)
  refine ja_callVv (pc := 6) (idx := 74) (t := 8) (b := x0) (as := []) (st := []) (by decide +kernel) kv_Model_usesSheet lk_Model_74 ⟨by decide, by decide⟩ (c_Model_usesSheet _ _ x0 h0 hv2) h0 rfl (Nat.le_of_ble_eq_true rfl) rfl ?_
  refine ja_aload_n (pc := 9) (f := 0) (i := 0) 0 (by decide +kernel) rfl rfl ?_
  refine ja_iconst (pc := 10) (n := 0) (v := 0) (by decide +kernel) (by decide +kernel) ?_
  refine ja_bind hf (fun v3 hv3 hf => ?_)
  refine ja_callVv (pc := 11) (idx := 248) (t := 8) (b := x0) (as := [.int (0 : Int32)]) (st := []) (by decide +kernel) kv_Model_laysFrom lk_Model_248 ⟨by decide, by decide⟩ (c_Model_laysFrom _ _ x0 (0 : Int32) h0 hv3) h0 rfl (Nat.le_of_ble_eq_true rfl) rfl ?_
  refine ja_iconst (pc := 14) (n := 0) (v := 0) (by decide +kernel) (by decide +kernel) ?_
  refine ja_istore_n (pc := 15) (f := 1) (i := 1) (lv' := [(1, .int (0 : Int32)), (0, .ref x0)]) (by decide +kernel) rfl (by decide) rfl ?_
  refine ja_iconst (pc := 16) (n := 0) (v := 0) (by decide +kernel) (by decide +kernel) ?_
  refine ja_istore_n (pc := 17) (f := 2) (i := 2) (lv' := [(2, .int (0 : Int32)), (1, .int (0 : Int32)), (0, .ref x0)]) (by decide +kernel) rfl (by decide) rfl ?_
  refine ja_lv [2, 1, 0] rfl ?_
  exact w_Model_largestRouteSet_L18 C  ja_FU x0 (0 : Int32) (0 : Int32) v3 h0 hf
def f_Model_farthestState_L18  : Nat → Nat → Int32 → Int32 → ja_S → Option (Int32 × ja_S)
  | 0, _, _, _, _ => none
  | n + 1, x0, x1, x2, sg => (if (4096 : Int32) ≤ x2 then some (x1, sg) else (ja_ld ja_L0 sg (ja_q x0 30) x2).bind fun v1 => (ja_ld ja_L0 sg (ja_q x0 30) x1).bind fun v2 => (if v1 ≤ v2 then f_Model_farthestState_L18  n x0 x1 (x2 + 1) sg else f_Model_farthestState_L18  n x0 x2 (x2 + 1) sg))
set_option maxRecDepth 4000 in
theorem w_Model_farthestState_L18 (C : ja_C) {w : Int32 × ja_S}    (n : Nat) : ∀ (x0 : Nat) (x1 : Int32) (x2 : Int32) (sg : ja_S), ja_ob ja_L0 8 x0 → f_Model_farthestState_L18  n x0 x1 x2 sg = some w → ja_J M_Model_farthestState C 18 [(0, .ref x0), (1, .int x1), (2, .int x2)] [] ja_L0 sg (some (.int w.1), ja_L0, w.2) := by
  induction n with
  | zero => intro _ _ _ _ _ hf; exact absurd (show (none : Option _) = some w from hf) (by simp)
  | succ n ih =>
    intro x0 x1 x2 sg h0 hf
    unfold f_Model_farthestState_L18 at hf
    refine ja_iload_n (pc := 18) (f := 2) (i := 2) 2 (by decide +kernel) rfl rfl ?_
    refine ja_sipush (pc := 19) (n := 4096) (v := 4096) (by decide +kernel) (by decide +kernel) ?_
    refine ja_icmp_ge (pc := 22) (off := 26) 48 (by decide +kernel) (by decide) hf (fun hf => ?_) (fun hf => ?_)
    · refine ja_iload_n (pc := 48) (f := 1) (i := 1) 1 (by decide +kernel) rfl rfl ?_
      exact ja_ret (pc := 49) (some (.int x1)) .ireturn (by decide +kernel) rfl (by cases hf; rfl)
    · refine ja_aload_n (pc := 25) (f := 0) (i := 0) 0 (by decide +kernel) rfl rfl ?_
      refine ja_getr (pc := 26) (idx := 56) (t := 8) (j := 30) (by decide +kernel) fd_Model_56 h0 (fr_8_30 h0) ?_
      refine ja_iload_n (pc := 29) (f := 2) (i := 2) 2 (by decide +kernel) rfl rfl ?_
      refine ja_bind hf (fun v1 hv1 hf => ?_)
      refine ja_iald (pc := 30) (by decide +kernel) (fk_8_30 h0) hv1 ?_
      refine ja_aload_n (pc := 31) (f := 0) (i := 0) 0 (by decide +kernel) rfl rfl ?_
      refine ja_getr (pc := 32) (idx := 56) (t := 8) (j := 30) (by decide +kernel) fd_Model_56 h0 (fr_8_30 h0) ?_
      refine ja_iload_n (pc := 35) (f := 1) (i := 1) 1 (by decide +kernel) rfl rfl ?_
      refine ja_bind hf (fun v2 hv2 hf => ?_)
      refine ja_iald (pc := 36) (by decide +kernel) (fk_8_30 h0) hv2 ?_
      refine ja_icmp_le (pc := 37) (off := 5) 42 (by decide +kernel) (by decide) hf (fun hf => ?_) (fun hf => ?_)
      · refine ja_iinc (pc := 42) (i := 2) (n := 1) (v := x2 + 1) (lv' := [(2, .int (x2 + 1)), (0, .ref x0), (1, .int x1)]) 2 (by decide +kernel) rfl rfl (by decide) rfl ?_
        refine ja_goto (pc := 45) (off := (-27)) 18 (by decide +kernel) (by decide) ?_
        refine ja_lv [1, 2, 0] rfl ?_
        exact ih x0 x1 (x2 + 1) sg h0 hf
      · refine ja_iload_n (pc := 40) (f := 2) (i := 2) 2 (by decide +kernel) rfl rfl ?_
        refine ja_istore_n (pc := 41) (f := 1) (i := 1) (lv' := [(1, .int x2), (0, .ref x0), (2, .int x2)]) (by decide +kernel) rfl (by decide) rfl ?_
        refine ja_iinc (pc := 42) (i := 2) (n := 1) (v := x2 + 1) (lv' := [(2, .int (x2 + 1)), (1, .int x2), (0, .ref x0)]) 2 (by decide +kernel) rfl rfl (by decide) rfl ?_
        refine ja_goto (pc := 45) (off := (-27)) 18 (by decide +kernel) (by decide) ?_
        refine ja_lv [2, 1, 0] rfl ?_
        exact ih x0 x2 (x2 + 1) sg h0 hf
def f_Model_farthestState (x0 : Nat) (sg : ja_S) : Option (Int32 × ja_S) := (ja_pu sg x0 9 (0 : Int32)).bind fun s1 => (f_Model_usesSheet x0 s1).bind fun v2 => (f_Model_laysFrom x0 (0 : Int32) v2).bind fun v3 => f_Model_farthestState_L18  ja_FU x0 (0 : Int32) (0 : Int32) v3
set_option maxRecDepth 4000 in
theorem c_Model_farthestState (l : Launch) (x : ja_X) (x0 : Nat) {sg : ja_S} {w : Int32 × ja_S} (h0 : ja_ob ja_L0 8 x0) (hf : f_Model_farthestState x0 sg = some w) : ja_Ct l x y_Model_farthestState M_Model_farthestState [.ref x0] ja_L0 sg (some (.int w.1), ja_L0, w.2) := by
  refine ja_mk ⟨by decide, rfl, rfl⟩ (Nat.le_of_ble_eq_true rfl) (lv := [(0, .ref x0)]) rfl (fun C hl hx _ _ _ _ => ?_)
  subst hl; subst hx
  unfold f_Model_farthestState at hf
  refine ja_aload_n (pc := 0) (f := 0) (i := 0) 0 (by decide +kernel) rfl rfl ?_
  refine ja_iconst (pc := 1) (n := 0) (v := 0) (by decide +kernel) (by decide +kernel) ?_
  refine ja_bind hf (fun s1 hs1 hf => ?_)
  refine ja_puti2 (pc := 2) (idx := 1) (t := 8) (j := 9) (by decide +kernel) fd_Model_1 h0 ⟨rfl, rfl⟩ hs1 ?_
  refine ja_aload_n (pc := 5) (f := 0) (i := 0) 0 (by decide +kernel) rfl rfl ?_
  refine ja_bind hf (fun v2 hv2 hf => ?_)
  refine ja_callVv (pc := 6) (idx := 74) (t := 8) (b := x0) (as := []) (st := []) (by decide +kernel) kv_Model_usesSheet lk_Model_74 ⟨by decide, by decide⟩ (c_Model_usesSheet _ _ x0 h0 hv2) h0 rfl (Nat.le_of_ble_eq_true rfl) rfl ?_
  refine ja_aload_n (pc := 9) (f := 0) (i := 0) 0 (by decide +kernel) rfl rfl ?_
  refine ja_iconst (pc := 10) (n := 0) (v := 0) (by decide +kernel) (by decide +kernel) ?_
  refine ja_bind hf (fun v3 hv3 hf => ?_)
  refine ja_callVv (pc := 11) (idx := 248) (t := 8) (b := x0) (as := [.int (0 : Int32)]) (st := []) (by decide +kernel) kv_Model_laysFrom lk_Model_248 ⟨by decide, by decide⟩ (c_Model_laysFrom _ _ x0 (0 : Int32) h0 hv3) h0 rfl (Nat.le_of_ble_eq_true rfl) rfl ?_
  refine ja_iconst (pc := 14) (n := 0) (v := 0) (by decide +kernel) (by decide +kernel) ?_
  refine ja_istore_n (pc := 15) (f := 1) (i := 1) (lv' := [(1, .int (0 : Int32)), (0, .ref x0)]) (by decide +kernel) rfl (by decide) rfl ?_
  refine ja_iconst (pc := 16) (n := 0) (v := 0) (by decide +kernel) (by decide +kernel) ?_
  refine ja_istore_n (pc := 17) (f := 2) (i := 2) (lv' := [(2, .int (0 : Int32)), (1, .int (0 : Int32)), (0, .ref x0)]) (by decide +kernel) rfl (by decide) rfl ?_
  refine ja_lv [2, 1, 0] rfl ?_
  exact w_Model_farthestState_L18 C  ja_FU x0 (0 : Int32) (0 : Int32) v3 h0 hf
def f_Model_isTold_L15  : Nat → Nat → Int32 → Int32 → Int32 → Int32 → ja_S → Option (Int32 × ja_S)
  | 0, _, _, _, _, _, _ => none
  | n + 1, x0, x1, x2, x3, x4, sg => (if (sg.1 x0 27) ≤ x4 then some ((1 : Int32), sg) else (if x4 = x1 then f_Model_isTold_L15  n x0 x1 x2 x3 (x4 + 1) sg else (f_Model_has (sg.1 x0 28) x4 sg).bind fun v1 => (if v1.1 = 0 then f_Model_isTold_L15  n x0 x1 x2 x3 (x4 + 1) v1.2 else (f_Model_blocks x0 x4 x2 x3 v1.2).bind fun v2 => (if v2.1 = 0 then f_Model_isTold_L15  n x0 x1 x2 x3 (x4 + 1) v2.2 else some ((0 : Int32), v2.2)))))
set_option maxRecDepth 4000 in
theorem w_Model_isTold_L15 (C : ja_C) {w : Int32 × ja_S}    (n : Nat) : ∀ (x0 : Nat) (x1 : Int32) (x2 : Int32) (x3 : Int32) (x4 : Int32) (sg : ja_S), ja_ob ja_L0 8 x0 → f_Model_isTold_L15  n x0 x1 x2 x3 x4 sg = some w → ja_J M_Model_isTold C 15 [(0, .ref x0), (1, .int x1), (2, .int x2), (3, .int x3), (4, .int x4)] [] ja_L0 sg (some (.int w.1), ja_L0, w.2) := by
  induction n with
  | zero => intro _ _ _ _ _ _ _ hf; exact absurd (show (none : Option _) = some w from hf) (by simp)
  | succ n ih =>
    intro x0 x1 x2 x3 x4 sg h0 hf
    unfold f_Model_isTold_L15 at hf
    refine ja_iload (pc := 15) (i := 4) 4 (by decide +kernel) rfl ?_
    refine ja_aload_n (pc := 17) (f := 0) (i := 0) 0 (by decide +kernel) rfl rfl ?_
    refine ja_geti (pc := 18) (idx := 196) (t := 8) (j := 27) (by decide +kernel) fd_Model_196 h0 ?_
    refine ja_icmp_ge (pc := 21) (off := 40) 61 (by decide +kernel) (by decide) hf (fun hf => ?_) (fun hf => ?_)
    · refine ja_iconst (pc := 61) (n := 1) (v := 1) (by decide +kernel) (by decide +kernel) ?_
      exact ja_ret (pc := 62) (some (.int (1 : Int32))) .ireturn (by decide +kernel) rfl (by cases hf; rfl)
    · refine ja_iload (pc := 24) (i := 4) 4 (by decide +kernel) rfl ?_
      refine ja_iload_n (pc := 26) (f := 1) (i := 1) 1 (by decide +kernel) rfl rfl ?_
      refine ja_icmp_eq (pc := 27) (off := 28) 55 (by decide +kernel) (by decide) hf (fun hf => ?_) (fun hf => ?_)
      · refine ja_iinc (pc := 55) (i := 4) (n := 1) (v := x4 + 1) (lv' := [(4, .int (x4 + 1)), (0, .ref x0), (1, .int x1), (2, .int x2), (3, .int x3)]) 4 (by decide +kernel) rfl rfl (by decide) rfl ?_
        refine ja_goto (pc := 58) (off := (-43)) 15 (by decide +kernel) (by decide) ?_
        refine ja_lv [1, 2, 3, 4, 0] rfl ?_
        exact ih x0 x1 x2 x3 (x4 + 1) sg h0 hf
      · refine ja_aload_n (pc := 30) (f := 0) (i := 0) 0 (by decide +kernel) rfl rfl ?_
        refine ja_geti (pc := 31) (idx := 199) (t := 8) (j := 28) (by decide +kernel) fd_Model_199 h0 ?_
        refine ja_iload (pc := 34) (i := 4) 4 (by decide +kernel) rfl ?_
        refine ja_bind hf (fun v1 hv1 hf => ?_)
        refine ja_callSi (pc := 36) (idx := 152) (as := [.int (sg.1 x0 28), .int x4]) (st := []) (by decide +kernel) ks_Model_has lk_Model_152 ⟨by decide, by decide⟩ (c_Model_has _ _ (sg.1 x0 28) x4  hv1) rfl (Nat.le_of_ble_eq_true rfl) rfl ?_
        refine ja_if_eq (pc := 39) (off := 16) 55 (by decide +kernel) (by decide) hf (fun hf => ?_) (fun hf => ?_)
        · refine ja_iinc (pc := 55) (i := 4) (n := 1) (v := x4 + 1) (lv' := [(4, .int (x4 + 1)), (0, .ref x0), (1, .int x1), (2, .int x2), (3, .int x3)]) 4 (by decide +kernel) rfl rfl (by decide) rfl ?_
          refine ja_goto (pc := 58) (off := (-43)) 15 (by decide +kernel) (by decide) ?_
          refine ja_lv [1, 2, 3, 4, 0] rfl ?_
          exact ih x0 x1 x2 x3 (x4 + 1) v1.2 h0 hf
        · refine ja_aload_n (pc := 42) (f := 0) (i := 0) 0 (by decide +kernel) rfl rfl ?_
          refine ja_iload (pc := 43) (i := 4) 4 (by decide +kernel) rfl ?_
          refine ja_iload_n (pc := 45) (f := 2) (i := 2) 2 (by decide +kernel) rfl rfl ?_
          refine ja_iload_n (pc := 46) (f := 3) (i := 3) 3 (by decide +kernel) rfl rfl ?_
          refine ja_bind hf (fun v2 hv2 hf => ?_)
          refine ja_callVi (pc := 47) (idx := 211) (t := 8) (b := x0) (as := [.int x4, .int x2, .int x3]) (st := []) (by decide +kernel) kv_Model_blocks lk_Model_211 ⟨by decide, by decide⟩ (c_Model_blocks _ _ x0 x4 x2 x3 h0 hv2) h0 rfl (Nat.le_of_ble_eq_true rfl) rfl ?_
          refine ja_if_eq (pc := 50) (off := 5) 55 (by decide +kernel) (by decide) hf (fun hf => ?_) (fun hf => ?_)
          · refine ja_iinc (pc := 55) (i := 4) (n := 1) (v := x4 + 1) (lv' := [(4, .int (x4 + 1)), (0, .ref x0), (1, .int x1), (2, .int x2), (3, .int x3)]) 4 (by decide +kernel) rfl rfl (by decide) rfl ?_
            refine ja_goto (pc := 58) (off := (-43)) 15 (by decide +kernel) (by decide) ?_
            refine ja_lv [1, 2, 3, 4, 0] rfl ?_
            exact ih x0 x1 x2 x3 (x4 + 1) v2.2 h0 hf
          · refine ja_iconst (pc := 53) (n := 0) (v := 0) (by decide +kernel) (by decide +kernel) ?_
            exact ja_ret (pc := 54) (some (.int (0 : Int32))) .ireturn (by decide +kernel) rfl (by cases hf; rfl)
def f_Model_isTold (x0 : Nat) (x1 : Int32) (x2 : Int32) (x3 : Int32) (sg : ja_S) : Option (Int32 × ja_S) := (f_Model_blocks x0 x1 x2 x3 sg).bind fun v1 => (if v1.1 = 0 then some ((0 : Int32), v1.2) else f_Model_isTold_L15  ja_FU x0 x1 x2 x3 (0 : Int32) v1.2)
set_option maxRecDepth 4000 in
theorem c_Model_isTold (l : Launch) (x : ja_X) (x0 : Nat) (x1 : Int32) (x2 : Int32) (x3 : Int32) {sg : ja_S} {w : Int32 × ja_S} (h0 : ja_ob ja_L0 8 x0) (hf : f_Model_isTold x0 x1 x2 x3 sg = some w) : ja_Ct l x y_Model_isTold M_Model_isTold [.ref x0, .int x1, .int x2, .int x3] ja_L0 sg (some (.int w.1), ja_L0, w.2) := by
  refine ja_mk ⟨by decide, rfl, rfl⟩ (Nat.le_of_ble_eq_true rfl) (lv := [(0, .ref x0), (1, .int x1), (2, .int x2), (3, .int x3)]) rfl (fun C hl hx _ _ _ _ => ?_)
  subst hl; subst hx
  unfold f_Model_isTold at hf
  refine ja_aload_n (pc := 0) (f := 0) (i := 0) 0 (by decide +kernel) rfl rfl ?_
  refine ja_iload_n (pc := 1) (f := 1) (i := 1) 1 (by decide +kernel) rfl rfl ?_
  refine ja_iload_n (pc := 2) (f := 2) (i := 2) 2 (by decide +kernel) rfl rfl ?_
  refine ja_iload_n (pc := 3) (f := 3) (i := 3) 3 (by decide +kernel) rfl rfl ?_
  refine ja_bind hf (fun v1 hv1 hf => ?_)
  refine ja_callVi (pc := 4) (idx := 211) (t := 8) (b := x0) (as := [.int x1, .int x2, .int x3]) (st := []) (by decide +kernel) kv_Model_blocks lk_Model_211 ⟨by decide, by decide⟩ (c_Model_blocks _ _ x0 x1 x2 x3 h0 hv1) h0 rfl (Nat.le_of_ble_eq_true rfl) rfl ?_
  refine ja_if_ne (pc := 7) (off := 5) 12 (by decide +kernel) (by decide) hf (fun hf => ?_) (fun hf => ?_)
  · refine ja_iconst (pc := 12) (n := 0) (v := 0) (by decide +kernel) (by decide +kernel) ?_
    refine ja_istore (pc := 13) (i := 4) (lv' := [(4, .int (0 : Int32)), (0, .ref x0), (1, .int x1), (2, .int x2), (3, .int x3)]) (by decide +kernel) (by decide) rfl ?_
    refine ja_lv [1, 2, 3, 4, 0] rfl ?_
    exact w_Model_isTold_L15 C  ja_FU x0 x1 x2 x3 (0 : Int32) v1.2 h0 hf
  · refine ja_iconst (pc := 10) (n := 0) (v := 0) (by decide +kernel) (by decide +kernel) ?_
    exact ja_ret (pc := 11) (some (.int (0 : Int32))) .ireturn (by decide +kernel) rfl (by cases hf; rfl)
def f_Model_tellingLever_L2  : Nat → Nat → Int32 → Int32 → Int32 → ja_S → Option (Int32 × ja_S)
  | 0, _, _, _, _, _ => none
  | n + 1, x0, x1, x2, x3, sg => (if (sg.1 x0 0) ≤ x3 then some ((-1 : Int32), sg) else (f_Model_isTold x0 x1 x2 x3 sg).bind fun v1 => (if v1.1 = 0 then f_Model_tellingLever_L2  n x0 x1 x2 (x3 + 1) v1.2 else some (x3, v1.2)))
set_option maxRecDepth 4000 in
theorem w_Model_tellingLever_L2 (C : ja_C) {w : Int32 × ja_S}    (n : Nat) : ∀ (x0 : Nat) (x1 : Int32) (x2 : Int32) (x3 : Int32) (sg : ja_S), ja_ob ja_L0 8 x0 → f_Model_tellingLever_L2  n x0 x1 x2 x3 sg = some w → ja_J M_Model_tellingLever C 2 [(0, .ref x0), (1, .int x1), (2, .int x2), (3, .int x3)] [] ja_L0 sg (some (.int w.1), ja_L0, w.2) := by
  induction n with
  | zero => intro _ _ _ _ _ _ hf; exact absurd (show (none : Option _) = some w from hf) (by simp)
  | succ n ih =>
    intro x0 x1 x2 x3 sg h0 hf
    unfold f_Model_tellingLever_L2 at hf
    refine ja_iload_n (pc := 2) (f := 3) (i := 3) 3 (by decide +kernel) rfl rfl ?_
    refine ja_aload_n (pc := 3) (f := 0) (i := 0) 0 (by decide +kernel) rfl rfl ?_
    refine ja_geti (pc := 4) (idx := 13) (t := 8) (j := 0) (by decide +kernel) fd_Model_13 h0 ?_
    refine ja_icmp_ge (pc := 7) (off := 21) 28 (by decide +kernel) (by decide) hf (fun hf => ?_) (fun hf => ?_)
    · refine ja_iconst (pc := 28) (n := (-1)) (v := (-1)) (by decide +kernel) (by decide +kernel) ?_
      exact ja_ret (pc := 29) (some (.int (-1 : Int32))) .ireturn (by decide +kernel) rfl (by cases hf; rfl)
    · refine ja_aload_n (pc := 10) (f := 0) (i := 0) 0 (by decide +kernel) rfl rfl ?_
      refine ja_iload_n (pc := 11) (f := 1) (i := 1) 1 (by decide +kernel) rfl rfl ?_
      refine ja_iload_n (pc := 12) (f := 2) (i := 2) 2 (by decide +kernel) rfl rfl ?_
      refine ja_iload_n (pc := 13) (f := 3) (i := 3) 3 (by decide +kernel) rfl rfl ?_
      refine ja_bind hf (fun v1 hv1 hf => ?_)
      refine ja_callVi (pc := 14) (idx := 283) (t := 8) (b := x0) (as := [.int x1, .int x2, .int x3]) (st := []) (by decide +kernel) kv_Model_isTold lk_Model_283 ⟨by decide, by decide⟩ (c_Model_isTold _ _ x0 x1 x2 x3 h0 hv1) h0 rfl (Nat.le_of_ble_eq_true rfl) rfl ?_
      refine ja_if_eq (pc := 17) (off := 5) 22 (by decide +kernel) (by decide) hf (fun hf => ?_) (fun hf => ?_)
      · refine ja_iinc (pc := 22) (i := 3) (n := 1) (v := x3 + 1) (lv' := [(3, .int (x3 + 1)), (0, .ref x0), (1, .int x1), (2, .int x2)]) 3 (by decide +kernel) rfl rfl (by decide) rfl ?_
        refine ja_goto (pc := 25) (off := (-23)) 2 (by decide +kernel) (by decide) ?_
        refine ja_lv [1, 2, 3, 0] rfl ?_
        exact ih x0 x1 x2 (x3 + 1) v1.2 h0 hf
      · refine ja_iload_n (pc := 20) (f := 3) (i := 3) 3 (by decide +kernel) rfl rfl ?_
        exact ja_ret (pc := 21) (some (.int x3)) .ireturn (by decide +kernel) rfl (by cases hf; rfl)
def f_Model_tellingLever (x0 : Nat) (x1 : Int32) (x2 : Int32) (sg : ja_S) : Option (Int32 × ja_S) := f_Model_tellingLever_L2  ja_FU x0 x1 x2 (0 : Int32) sg
set_option maxRecDepth 4000 in
theorem c_Model_tellingLever (l : Launch) (x : ja_X) (x0 : Nat) (x1 : Int32) (x2 : Int32) {sg : ja_S} {w : Int32 × ja_S} (h0 : ja_ob ja_L0 8 x0) (hf : f_Model_tellingLever x0 x1 x2 sg = some w) : ja_Ct l x y_Model_tellingLever M_Model_tellingLever [.ref x0, .int x1, .int x2] ja_L0 sg (some (.int w.1), ja_L0, w.2) := by
  refine ja_mk ⟨by decide, rfl, rfl⟩ (Nat.le_of_ble_eq_true rfl) (lv := [(0, .ref x0), (1, .int x1), (2, .int x2)]) rfl (fun C hl hx _ _ _ _ => ?_)
  subst hl; subst hx
  unfold f_Model_tellingLever at hf
  refine ja_iconst (pc := 0) (n := 0) (v := 0) (by decide +kernel) (by decide +kernel) ?_
  refine ja_istore_n (pc := 1) (f := 3) (i := 3) (lv' := [(3, .int (0 : Int32)), (0, .ref x0), (1, .int x1), (2, .int x2)]) (by decide +kernel) rfl (by decide) rfl ?_
  refine ja_lv [1, 2, 3, 0] rfl ?_
  exact w_Model_tellingLever_L2 C  ja_FU x0 x1 x2 (0 : Int32) sg h0 hf
def f_Model_isImpliedBy_L7  : Nat → Nat → Int32 → Int32 → ja_S → Option (Int32 × ja_S)
  | 0, _, _, _, _ => none
  | n + 1, x0, x1, x2, sg => (if (sg.1 x0 32) ≤ x2 then some ((1 : Int32), sg) else (ja_ld ja_L0 sg (ja_q x0 31) x2).bind fun v1 => (f_Model_tellingLever x0 x1 v1 sg).bind fun v2 => (if v2.1 = (-1 : Int32) then f_Model_isImpliedBy_L7  n x0 x1 (x2 + 1) v2.2 else some ((0 : Int32), v2.2)))
set_option maxRecDepth 4000 in
theorem w_Model_isImpliedBy_L7 (C : ja_C) {w : Int32 × ja_S}    (n : Nat) : ∀ (x0 : Nat) (x1 : Int32) (x2 : Int32) (sg : ja_S), ja_ob ja_L0 8 x0 → f_Model_isImpliedBy_L7  n x0 x1 x2 sg = some w → ja_J M_Model_isImpliedBy C 7 [(0, .ref x0), (1, .int x1), (2, .int x2)] [] ja_L0 sg (some (.int w.1), ja_L0, w.2) := by
  induction n with
  | zero => intro _ _ _ _ _ hf; exact absurd (show (none : Option _) = some w from hf) (by simp)
  | succ n ih =>
    intro x0 x1 x2 sg h0 hf
    unfold f_Model_isImpliedBy_L7 at hf
    refine ja_iload_n (pc := 7) (f := 2) (i := 2) 2 (by decide +kernel) rfl rfl ?_
    refine ja_aload_n (pc := 8) (f := 0) (i := 0) 0 (by decide +kernel) rfl rfl ?_
    refine ja_geti (pc := 9) (idx := 218) (t := 8) (j := 32) (by decide +kernel) fd_Model_218 h0 ?_
    refine ja_icmp_ge (pc := 12) (off := 26) 38 (by decide +kernel) (by decide) hf (fun hf => ?_) (fun hf => ?_)
    · refine ja_iconst (pc := 38) (n := 1) (v := 1) (by decide +kernel) (by decide +kernel) ?_
      exact ja_ret (pc := 39) (some (.int (1 : Int32))) .ireturn (by decide +kernel) rfl (by cases hf; rfl)
    · refine ja_aload_n (pc := 15) (f := 0) (i := 0) 0 (by decide +kernel) rfl rfl ?_
      refine ja_iload_n (pc := 16) (f := 1) (i := 1) 1 (by decide +kernel) rfl rfl ?_
      refine ja_aload_n (pc := 17) (f := 0) (i := 0) 0 (by decide +kernel) rfl rfl ?_
      refine ja_getr (pc := 18) (idx := 59) (t := 8) (j := 31) (by decide +kernel) fd_Model_59 h0 (fr_8_31 h0) ?_
      refine ja_iload_n (pc := 21) (f := 2) (i := 2) 2 (by decide +kernel) rfl rfl ?_
      refine ja_bind hf (fun v1 hv1 hf => ?_)
      refine ja_iald (pc := 22) (by decide +kernel) (fk_8_31 h0) hv1 ?_
      refine ja_bind hf (fun v2 hv2 hf => ?_)
      refine ja_callVi (pc := 23) (idx := 286) (t := 8) (b := x0) (as := [.int x1, .int v1]) (st := []) (by decide +kernel) kv_Model_tellingLever lk_Model_286 ⟨by decide, by decide⟩ (c_Model_tellingLever _ _ x0 x1 v1 h0 hv2) h0 rfl (Nat.le_of_ble_eq_true rfl) rfl ?_
      refine ja_iconst (pc := 26) (n := (-1)) (v := (-1)) (by decide +kernel) (by decide +kernel) ?_
      refine ja_icmp_eq (pc := 27) (off := 5) 32 (by decide +kernel) (by decide) hf (fun hf => ?_) (fun hf => ?_)
      · refine ja_iinc (pc := 32) (i := 2) (n := 1) (v := x2 + 1) (lv' := [(2, .int (x2 + 1)), (0, .ref x0), (1, .int x1)]) 2 (by decide +kernel) rfl rfl (by decide) rfl ?_
        refine ja_goto (pc := 35) (off := (-28)) 7 (by decide +kernel) (by decide) ?_
        refine ja_lv [1, 2, 0] rfl ?_
        exact ih x0 x1 (x2 + 1) v2.2 h0 hf
      · refine ja_iconst (pc := 30) (n := 0) (v := 0) (by decide +kernel) (by decide +kernel) ?_
        exact ja_ret (pc := 31) (some (.int (0 : Int32))) .ireturn (by decide +kernel) rfl (by cases hf; rfl)
def f_Model_isImpliedBy (x0 : Nat) (x1 : Int32) (sg : ja_S) : Option (Int32 × ja_S) := (f_Model_laysFrom x0 (0 : Int32) sg).bind fun v1 => f_Model_isImpliedBy_L7  ja_FU x0 x1 (0 : Int32) v1
set_option maxRecDepth 4000 in
theorem c_Model_isImpliedBy (l : Launch) (x : ja_X) (x0 : Nat) (x1 : Int32) {sg : ja_S} {w : Int32 × ja_S} (h0 : ja_ob ja_L0 8 x0) (hf : f_Model_isImpliedBy x0 x1 sg = some w) : ja_Ct l x y_Model_isImpliedBy M_Model_isImpliedBy [.ref x0, .int x1] ja_L0 sg (some (.int w.1), ja_L0, w.2) := by
  refine ja_mk ⟨by decide, rfl, rfl⟩ (Nat.le_of_ble_eq_true rfl) (lv := [(0, .ref x0), (1, .int x1)]) rfl (fun C hl hx _ _ _ _ => ?_)
  subst hl; subst hx
  unfold f_Model_isImpliedBy at hf
  refine ja_aload_n (pc := 0) (f := 0) (i := 0) 0 (by decide +kernel) rfl rfl ?_
  refine ja_iconst (pc := 1) (n := 0) (v := 0) (by decide +kernel) (by decide +kernel) ?_
  refine ja_bind hf (fun v1 hv1 hf => ?_)
  refine ja_callVv (pc := 2) (idx := 248) (t := 8) (b := x0) (as := [.int (0 : Int32)]) (st := []) (by decide +kernel) kv_Model_laysFrom lk_Model_248 ⟨by decide, by decide⟩ (c_Model_laysFrom _ _ x0 (0 : Int32) h0 hv1) h0 rfl (Nat.le_of_ble_eq_true rfl) rfl ?_
  refine ja_iconst (pc := 5) (n := 0) (v := 0) (by decide +kernel) (by decide +kernel) ?_
  refine ja_istore_n (pc := 6) (f := 2) (i := 2) (lv' := [(2, .int (0 : Int32)), (0, .ref x0), (1, .int x1)]) (by decide +kernel) rfl (by decide) rfl ?_
  refine ja_lv [1, 2, 0] rfl ?_
  exact w_Model_isImpliedBy_L7 C  ja_FU x0 x1 (0 : Int32) v1 h0 hf
def f_Model_isImplied (x0 : Nat) (x1 : Int32) (sg : ja_S) : Option (Int32 × ja_S) := (ja_pu sg x0 9 (0 : Int32)).bind fun s1 => (f_Model_isRule x0 x1 s1).bind fun v2 => (if v2.1 = 0 then some ((-2 : Int32), v2.2) else (f_Model_usesSheet x0 v2.2).bind fun v3 => (f_Model_isImpliedBy x0 x1 v3).bind fun v4 => (if v4.1 = 0 then some ((0 : Int32), v4.2) else some ((1 : Int32), v4.2)))
set_option maxRecDepth 4000 in
theorem c_Model_isImplied (l : Launch) (x : ja_X) (x0 : Nat) (x1 : Int32) {sg : ja_S} {w : Int32 × ja_S} (h0 : ja_ob ja_L0 8 x0) (hf : f_Model_isImplied x0 x1 sg = some w) : ja_Ct l x y_Model_isImplied M_Model_isImplied [.ref x0, .int x1] ja_L0 sg (some (.int w.1), ja_L0, w.2) := by
  refine ja_mk ⟨by decide, rfl, rfl⟩ (Nat.le_of_ble_eq_true rfl) (lv := [(0, .ref x0), (1, .int x1)]) rfl (fun C hl hx _ _ _ _ => ?_)
  subst hl; subst hx
  unfold f_Model_isImplied at hf
  refine ja_aload_n (pc := 0) (f := 0) (i := 0) 0 (by decide +kernel) rfl rfl ?_
  refine ja_iconst (pc := 1) (n := 0) (v := 0) (by decide +kernel) (by decide +kernel) ?_
  refine ja_bind hf (fun s1 hs1 hf => ?_)
  refine ja_puti2 (pc := 2) (idx := 1) (t := 8) (j := 9) (by decide +kernel) fd_Model_1 h0 ⟨rfl, rfl⟩ hs1 ?_
  refine ja_aload_n (pc := 5) (f := 0) (i := 0) 0 (by decide +kernel) rfl rfl ?_
  refine ja_iload_n (pc := 6) (f := 1) (i := 1) 1 (by decide +kernel) rfl rfl ?_
  refine ja_bind hf (fun v2 hv2 hf => ?_)
  refine ja_callVi (pc := 7) (idx := 189) (t := 8) (b := x0) (as := [.int x1]) (st := []) (by decide +kernel) kv_Model_isRule lk_Model_189 ⟨by decide, by decide⟩ (c_Model_isRule _ _ x0 x1 h0 hv2) h0 rfl (Nat.le_of_ble_eq_true rfl) rfl ?_
  refine ja_if_ne (pc := 10) (off := 6) 16 (by decide +kernel) (by decide) hf (fun hf => ?_) (fun hf => ?_)
  · refine ja_aload_n (pc := 16) (f := 0) (i := 0) 0 (by decide +kernel) rfl rfl ?_
    refine ja_bind hf (fun v3 hv3 hf => ?_)
    refine ja_callVv (pc := 17) (idx := 74) (t := 8) (b := x0) (as := []) (st := []) (by decide +kernel) kv_Model_usesSheet lk_Model_74 ⟨by decide, by decide⟩ (c_Model_usesSheet _ _ x0 h0 hv3) h0 rfl (Nat.le_of_ble_eq_true rfl) rfl ?_
    refine ja_aload_n (pc := 20) (f := 0) (i := 0) 0 (by decide +kernel) rfl rfl ?_
    refine ja_iload_n (pc := 21) (f := 1) (i := 1) 1 (by decide +kernel) rfl rfl ?_
    refine ja_bind hf (fun v4 hv4 hf => ?_)
    refine ja_callVi (pc := 22) (idx := 289) (t := 8) (b := x0) (as := [.int x1]) (st := []) (by decide +kernel) kv_Model_isImpliedBy lk_Model_289 ⟨by decide, by decide⟩ (c_Model_isImpliedBy _ _ x0 x1 h0 hv4) h0 rfl (Nat.le_of_ble_eq_true rfl) rfl ?_
    refine ja_if_eq (pc := 25) (off := 7) 32 (by decide +kernel) (by decide) hf (fun hf => ?_) (fun hf => ?_)
    · refine ja_iconst (pc := 32) (n := 0) (v := 0) (by decide +kernel) (by decide +kernel) ?_
      exact ja_ret (pc := 33) (some (.int (0 : Int32))) .ireturn (by decide +kernel) rfl (by cases hf; rfl)
    · refine ja_iconst (pc := 28) (n := 1) (v := 1) (by decide +kernel) (by decide +kernel) ?_
      refine ja_goto (pc := 29) (off := 4) 33 (by decide +kernel) (by decide) ?_
      exact ja_ret (pc := 33) (some (.int (1 : Int32))) .ireturn (by decide +kernel) rfl (by cases hf; rfl)
  · refine ja_bipush (pc := 13) (n := (-2)) (v := (-2)) (by decide +kernel) (by decide +kernel) ?_
    exact ja_ret (pc := 15) (some (.int (-2 : Int32))) .ireturn (by decide +kernel) rfl (by cases hf; rfl)
def f_Model_reducedSheet_L16  : Nat → Nat → Int32 → ja_S → Option (Int32 × ja_S)
  | 0, _, _, _ => none
  | n + 1, x0, x1, sg => (if x1 < 0 then some (sg.1 x0 28, sg) else (f_Model_isImpliedBy x0 x1 sg).bind fun v1 => (if v1.1 = 0 then f_Model_reducedSheet_L16  n x0 (x1 + (-1)) v1.2 else (ja_pu v1.2 x0 28 ((v1.2.1 x0 28) &&& (((1 : Int32) <<< (x1 &&& 31)) ^^^ (-1 : Int32)))).bind fun s2 => f_Model_reducedSheet_L16  n x0 (x1 + (-1)) s2))
set_option maxRecDepth 4000 in
theorem w_Model_reducedSheet_L16 (C : ja_C) {w : Int32 × ja_S}    (n : Nat) : ∀ (x0 : Nat) (x1 : Int32) (sg : ja_S), ja_ob ja_L0 8 x0 → f_Model_reducedSheet_L16  n x0 x1 sg = some w → ja_J M_Model_reducedSheet C 16 [(0, .ref x0), (1, .int x1)] [] ja_L0 sg (some (.int w.1), ja_L0, w.2) := by
  induction n with
  | zero => intro _ _ _ _ hf; exact absurd (show (none : Option _) = some w from hf) (by simp)
  | succ n ih =>
    intro x0 x1 sg h0 hf
    unfold f_Model_reducedSheet_L16 at hf
    refine ja_iload_n (pc := 16) (f := 1) (i := 1) 1 (by decide +kernel) rfl rfl ?_
    refine ja_if_lt (pc := 17) (off := 31) 48 (by decide +kernel) (by decide) hf (fun hf => ?_) (fun hf => ?_)
    · refine ja_aload_n (pc := 48) (f := 0) (i := 0) 0 (by decide +kernel) rfl rfl ?_
      refine ja_geti (pc := 49) (idx := 199) (t := 8) (j := 28) (by decide +kernel) fd_Model_199 h0 ?_
      exact ja_ret (pc := 52) (some (.int (sg.1 x0 28))) .ireturn (by decide +kernel) rfl (by cases hf; rfl)
    · refine ja_aload_n (pc := 20) (f := 0) (i := 0) 0 (by decide +kernel) rfl rfl ?_
      refine ja_iload_n (pc := 21) (f := 1) (i := 1) 1 (by decide +kernel) rfl rfl ?_
      refine ja_bind hf (fun v1 hv1 hf => ?_)
      refine ja_callVi (pc := 22) (idx := 289) (t := 8) (b := x0) (as := [.int x1]) (st := []) (by decide +kernel) kv_Model_isImpliedBy lk_Model_289 ⟨by decide, by decide⟩ (c_Model_isImpliedBy _ _ x0 x1 h0 hv1) h0 rfl (Nat.le_of_ble_eq_true rfl) rfl ?_
      refine ja_if_eq (pc := 25) (off := 17) 42 (by decide +kernel) (by decide) hf (fun hf => ?_) (fun hf => ?_)
      · refine ja_iinc (pc := 42) (i := 1) (n := (-1)) (v := x1 + (-1)) (lv' := [(1, .int (x1 + (-1))), (0, .ref x0)]) 1 (by decide +kernel) rfl rfl (by decide) rfl ?_
        refine ja_goto (pc := 45) (off := (-29)) 16 (by decide +kernel) (by decide) ?_
        refine ja_lv [1, 0] rfl ?_
        exact ih x0 (x1 + (-1)) v1.2 h0 hf
      · refine ja_aload_n (pc := 28) (f := 0) (i := 0) 0 (by decide +kernel) rfl rfl ?_
        refine ja_dup (pc := 29) (by decide +kernel) rfl ?_
        refine ja_geti (pc := 30) (idx := 199) (t := 8) (j := 28) (by decide +kernel) fd_Model_199 h0 ?_
        refine ja_iconst (pc := 33) (n := 1) (v := 1) (by decide +kernel) (by decide +kernel) ?_
        refine ja_iload_n (pc := 34) (f := 1) (i := 1) 1 (by decide +kernel) rfl rfl ?_
        refine ja_ishl (pc := 35) (by decide +kernel) ?_
        refine ja_iconst (pc := 36) (n := (-1)) (v := (-1)) (by decide +kernel) (by decide +kernel) ?_
        refine ja_ixor (pc := 37) (by decide +kernel) ?_
        refine ja_iand (pc := 38) (by decide +kernel) ?_
        refine ja_bind hf (fun s2 hs2 hf => ?_)
        refine ja_puti2 (pc := 39) (idx := 199) (t := 8) (j := 28) (by decide +kernel) fd_Model_199 h0 ⟨rfl, rfl⟩ hs2 ?_
        refine ja_iinc (pc := 42) (i := 1) (n := (-1)) (v := x1 + (-1)) (lv' := [(1, .int (x1 + (-1))), (0, .ref x0)]) 1 (by decide +kernel) rfl rfl (by decide) rfl ?_
        refine ja_goto (pc := 45) (off := (-29)) 16 (by decide +kernel) (by decide) ?_
        refine ja_lv [1, 0] rfl ?_
        exact ih x0 (x1 + (-1)) s2 h0 hf
def f_Model_reducedSheet (x0 : Nat) (sg : ja_S) : Option (Int32 × ja_S) := (ja_pu sg x0 9 (0 : Int32)).bind fun s1 => (f_Model_usesSheet x0 s1).bind fun v2 => f_Model_reducedSheet_L16  ja_FU x0 ((v2.1 x0 27) - (1 : Int32)) v2
set_option maxRecDepth 4000 in
theorem c_Model_reducedSheet (l : Launch) (x : ja_X) (x0 : Nat) {sg : ja_S} {w : Int32 × ja_S} (h0 : ja_ob ja_L0 8 x0) (hf : f_Model_reducedSheet x0 sg = some w) : ja_Ct l x y_Model_reducedSheet M_Model_reducedSheet [.ref x0] ja_L0 sg (some (.int w.1), ja_L0, w.2) := by
  refine ja_mk ⟨by decide, rfl, rfl⟩ (Nat.le_of_ble_eq_true rfl) (lv := [(0, .ref x0)]) rfl (fun C hl hx _ _ _ _ => ?_)
  subst hl; subst hx
  unfold f_Model_reducedSheet at hf
  refine ja_aload_n (pc := 0) (f := 0) (i := 0) 0 (by decide +kernel) rfl rfl ?_
  refine ja_iconst (pc := 1) (n := 0) (v := 0) (by decide +kernel) (by decide +kernel) ?_
  refine ja_bind hf (fun s1 hs1 hf => ?_)
  refine ja_puti2 (pc := 2) (idx := 1) (t := 8) (j := 9) (by decide +kernel) fd_Model_1 h0 ⟨rfl, rfl⟩ hs1 ?_
  refine ja_aload_n (pc := 5) (f := 0) (i := 0) 0 (by decide +kernel) rfl rfl ?_
  refine ja_bind hf (fun v2 hv2 hf => ?_)
  refine ja_callVv (pc := 6) (idx := 74) (t := 8) (b := x0) (as := []) (st := []) (by decide +kernel) kv_Model_usesSheet lk_Model_74 ⟨by decide, by decide⟩ (c_Model_usesSheet _ _ x0 h0 hv2) h0 rfl (Nat.le_of_ble_eq_true rfl) rfl ?_
  refine ja_aload_n (pc := 9) (f := 0) (i := 0) 0 (by decide +kernel) rfl rfl ?_
  refine ja_geti (pc := 10) (idx := 196) (t := 8) (j := 27) (by decide +kernel) fd_Model_196 h0 ?_
  refine ja_iconst (pc := 13) (n := 1) (v := 1) (by decide +kernel) (by decide +kernel) ?_
  refine ja_isub (pc := 14) (by decide +kernel) ?_
  refine ja_istore_n (pc := 15) (f := 1) (i := 1) (lv' := [(1, .int ((v2.1 x0 27) - (1 : Int32))), (0, .ref x0)]) (by decide +kernel) rfl (by decide) rfl ?_
  refine ja_lv [1, 0] rfl ?_
  exact w_Model_reducedSheet_L16 C  ja_FU x0 ((v2.1 x0 27) - (1 : Int32)) v2 h0 hf
def f_Model_laysTest_L70  : Nat → Nat → Int32 → ja_S → Option (ja_S)
  | 0, _, _, _ => none
  | n + 1, x0, x3, sg => (if (sg.1 x0 36) ≤ x3 then (ja_pu sg x0 36 (0 : Int32)).bind fun s1 => (f_Model_spreads x0 s1).bind fun v2 => some v2 else (ja_ld ja_L0 sg (ja_q x0 35) x3).bind fun v3 => (f_Model_reaches x0 v3 (0 : Int32) sg).bind fun v4 => f_Model_laysTest_L70  n x0 (x3 + 1) v4)
set_option maxRecDepth 4000 in
theorem w_Model_laysTest_L70 (C : ja_C) {w : ja_S}    (n : Nat) : ∀ (x0 : Nat) (x3 : Int32) (sg : ja_S), ja_ob ja_L0 8 x0 → f_Model_laysTest_L70  n x0 x3 sg = some w → ja_J M_Model_laysTest C 70 [(0, .ref x0), (3, .int x3)] [] ja_L0 sg (none, ja_L0, w) := by
  induction n with
  | zero => intro _ _ _ _ hf; exact absurd (show (none : Option _) = some w from hf) (by simp)
  | succ n ih =>
    intro x0 x3 sg h0 hf
    unfold f_Model_laysTest_L70 at hf
    refine ja_iload_n (pc := 70) (f := 3) (i := 3) 1 (by decide +kernel) rfl rfl ?_
    refine ja_aload_n (pc := 71) (f := 0) (i := 0) 0 (by decide +kernel) rfl rfl ?_
    refine ja_geti (pc := 72) (idx := 292) (t := 8) (j := 36) (by decide +kernel) fd_Model_292 h0 ?_
    refine ja_icmp_ge (pc := 75) (off := 20) 95 (by decide +kernel) (by decide) hf (fun hf => ?_) (fun hf => ?_)
    · refine ja_aload_n (pc := 95) (f := 0) (i := 0) 0 (by decide +kernel) rfl rfl ?_
      refine ja_iconst (pc := 96) (n := 0) (v := 0) (by decide +kernel) (by decide +kernel) ?_
      refine ja_bind hf (fun s1 hs1 hf => ?_)
      refine ja_puti2 (pc := 97) (idx := 292) (t := 8) (j := 36) (by decide +kernel) fd_Model_292 h0 ⟨rfl, rfl⟩ hs1 ?_
      refine ja_aload_n (pc := 100) (f := 0) (i := 0) 0 (by decide +kernel) rfl rfl ?_
      refine ja_bind hf (fun v2 hv2 hf => ?_)
      refine ja_callVv (pc := 101) (idx := 230) (t := 8) (b := x0) (as := []) (st := []) (by decide +kernel) kv_Model_spreads lk_Model_230 ⟨by decide, by decide⟩ (c_Model_spreads _ _ x0 h0 hv2) h0 rfl (Nat.le_of_ble_eq_true rfl) rfl ?_
      exact ja_ret (pc := 104) none .return_ (by decide +kernel) rfl (by cases hf; rfl)
    · refine ja_aload_n (pc := 78) (f := 0) (i := 0) 0 (by decide +kernel) rfl rfl ?_
      refine ja_aload_n (pc := 79) (f := 0) (i := 0) 0 (by decide +kernel) rfl rfl ?_
      refine ja_getr (pc := 80) (idx := 65) (t := 8) (j := 35) (by decide +kernel) fd_Model_65 h0 (fr_8_35 h0) ?_
      refine ja_iload_n (pc := 83) (f := 3) (i := 3) 1 (by decide +kernel) rfl rfl ?_
      refine ja_bind hf (fun v3 hv3 hf => ?_)
      refine ja_iald (pc := 84) (by decide +kernel) (fk_8_35 h0) hv3 ?_
      refine ja_iconst (pc := 85) (n := 0) (v := 0) (by decide +kernel) (by decide +kernel) ?_
      refine ja_bind hf (fun v4 hv4 hf => ?_)
      refine ja_callVv (pc := 86) (idx := 224) (t := 8) (b := x0) (as := [.int v3, .int (0 : Int32)]) (st := []) (by decide +kernel) kv_Model_reaches lk_Model_224 ⟨by decide, by decide⟩ (c_Model_reaches _ _ x0 v3 (0 : Int32) h0 hv4) h0 rfl (Nat.le_of_ble_eq_true rfl) rfl ?_
      refine ja_iinc (pc := 89) (i := 3) (n := 1) (v := x3 + 1) (lv' := [(3, .int (x3 + 1)), (0, .ref x0)]) 1 (by decide +kernel) rfl rfl (by decide) rfl ?_
      refine ja_goto (pc := 92) (off := (-22)) 70 (by decide +kernel) (by decide) ?_
      refine ja_lv [1, 0] rfl ?_
      exact ih x0 (x3 + 1) v4 h0 hf
def f_Model_laysTest_L20  : Nat → Nat → Int32 → Int32 → Int32 → ja_S → Option (ja_S)
  | 0, _, _, _, _, _ => none
  | n + 1, x0, x1, x2, x3, sg => (if x2 ≤ x3 then f_Model_laysTest_L70  ja_FU x0 (0 : Int32) sg else (ja_ld ja_L0 sg (ja_q x0 31) x3).bind fun v1 => (f_Model_tellingLever x0 x1 v1 sg).bind fun v2 => (if v2.1 = (-1 : Int32) then f_Model_laysTest_L20  n x0 x1 x2 (x3 + 1) v2.2 else (ja_pu v2.2 x0 36 ((v2.2.1 x0 36) + (1 : Int32))).bind fun s3 => (ja_ld ja_L0 s3 (ja_q x0 31) x3).bind fun v4 => (ja_st ja_L0 s3 (ja_q x0 35) (v2.2.1 x0 36) v4).bind fun s5 => f_Model_laysTest_L20  n x0 x1 x2 (x3 + 1) s5))
set_option maxRecDepth 4000 in
theorem w_Model_laysTest_L20 (C : ja_C) {w : ja_S}    (n : Nat) : ∀ (x0 : Nat) (x1 : Int32) (x2 : Int32) (x3 : Int32) (sg : ja_S), ja_ob ja_L0 8 x0 → f_Model_laysTest_L20  n x0 x1 x2 x3 sg = some w → ja_J M_Model_laysTest C 20 [(0, .ref x0), (1, .int x1), (2, .int x2), (3, .int x3)] [] ja_L0 sg (none, ja_L0, w) := by
  induction n with
  | zero => intro _ _ _ _ _ _ hf; exact absurd (show (none : Option _) = some w from hf) (by simp)
  | succ n ih =>
    intro x0 x1 x2 x3 sg h0 hf
    unfold f_Model_laysTest_L20 at hf
    refine ja_iload_n (pc := 20) (f := 3) (i := 3) 3 (by decide +kernel) rfl rfl ?_
    refine ja_iload_n (pc := 21) (f := 2) (i := 2) 2 (by decide +kernel) rfl rfl ?_
    refine ja_icmp_ge (pc := 22) (off := 46) 68 (by decide +kernel) (by decide) hf (fun hf => ?_) (fun hf => ?_)
    · refine ja_iconst (pc := 68) (n := 0) (v := 0) (by decide +kernel) (by decide +kernel) ?_
      refine ja_istore_n (pc := 69) (f := 3) (i := 3) (lv' := [(3, .int (0 : Int32)), (0, .ref x0), (1, .int x1), (2, .int x2)]) (by decide +kernel) rfl (by decide) rfl ?_
      refine ja_lv [1, 0] rfl ?_
      exact w_Model_laysTest_L70 C  ja_FU x0 (0 : Int32) sg h0 hf
    · refine ja_aload_n (pc := 25) (f := 0) (i := 0) 0 (by decide +kernel) rfl rfl ?_
      refine ja_iload_n (pc := 26) (f := 1) (i := 1) 1 (by decide +kernel) rfl rfl ?_
      refine ja_aload_n (pc := 27) (f := 0) (i := 0) 0 (by decide +kernel) rfl rfl ?_
      refine ja_getr (pc := 28) (idx := 59) (t := 8) (j := 31) (by decide +kernel) fd_Model_59 h0 (fr_8_31 h0) ?_
      refine ja_iload_n (pc := 31) (f := 3) (i := 3) 3 (by decide +kernel) rfl rfl ?_
      refine ja_bind hf (fun v1 hv1 hf => ?_)
      refine ja_iald (pc := 32) (by decide +kernel) (fk_8_31 h0) hv1 ?_
      refine ja_bind hf (fun v2 hv2 hf => ?_)
      refine ja_callVi (pc := 33) (idx := 286) (t := 8) (b := x0) (as := [.int x1, .int v1]) (st := []) (by decide +kernel) kv_Model_tellingLever lk_Model_286 ⟨by decide, by decide⟩ (c_Model_tellingLever _ _ x0 x1 v1 h0 hv2) h0 rfl (Nat.le_of_ble_eq_true rfl) rfl ?_
      refine ja_iconst (pc := 36) (n := (-1)) (v := (-1)) (by decide +kernel) (by decide +kernel) ?_
      refine ja_icmp_eq (pc := 37) (off := 25) 62 (by decide +kernel) (by decide) hf (fun hf => ?_) (fun hf => ?_)
      · refine ja_iinc (pc := 62) (i := 3) (n := 1) (v := x3 + 1) (lv' := [(3, .int (x3 + 1)), (0, .ref x0), (1, .int x1), (2, .int x2)]) 3 (by decide +kernel) rfl rfl (by decide) rfl ?_
        refine ja_goto (pc := 65) (off := (-45)) 20 (by decide +kernel) (by decide) ?_
        refine ja_lv [1, 2, 3, 0] rfl ?_
        exact ih x0 x1 x2 (x3 + 1) v2.2 h0 hf
      · refine ja_aload_n (pc := 40) (f := 0) (i := 0) 0 (by decide +kernel) rfl rfl ?_
        refine ja_getr (pc := 41) (idx := 65) (t := 8) (j := 35) (by decide +kernel) fd_Model_65 h0 (fr_8_35 h0) ?_
        refine ja_aload_n (pc := 44) (f := 0) (i := 0) 0 (by decide +kernel) rfl rfl ?_
        refine ja_dup (pc := 45) (by decide +kernel) rfl ?_
        refine ja_geti (pc := 46) (idx := 292) (t := 8) (j := 36) (by decide +kernel) fd_Model_292 h0 ?_
        refine ja_dup_x1 (pc := 49) (by decide +kernel) rfl rfl ?_
        refine ja_iconst (pc := 50) (n := 1) (v := 1) (by decide +kernel) (by decide +kernel) ?_
        refine ja_iadd (pc := 51) (by decide +kernel) ?_
        refine ja_bind hf (fun s3 hs3 hf => ?_)
        refine ja_puti2 (pc := 52) (idx := 292) (t := 8) (j := 36) (by decide +kernel) fd_Model_292 h0 ⟨rfl, rfl⟩ hs3 ?_
        refine ja_aload_n (pc := 55) (f := 0) (i := 0) 0 (by decide +kernel) rfl rfl ?_
        refine ja_getr (pc := 56) (idx := 59) (t := 8) (j := 31) (by decide +kernel) fd_Model_59 h0 (fr_8_31 h0) ?_
        refine ja_iload_n (pc := 59) (f := 3) (i := 3) 3 (by decide +kernel) rfl rfl ?_
        refine ja_bind hf (fun v4 hv4 hf => ?_)
        refine ja_iald (pc := 60) (by decide +kernel) (fk_8_31 h0) hv4 ?_
        refine ja_bind hf (fun s5 hs5 hf => ?_)
        refine ja_iast (pc := 61) (by decide +kernel) (fk_8_35 h0) hs5 ?_
        refine ja_iinc (pc := 62) (i := 3) (n := 1) (v := x3 + 1) (lv' := [(3, .int (x3 + 1)), (0, .ref x0), (1, .int x1), (2, .int x2)]) 3 (by decide +kernel) rfl rfl (by decide) rfl ?_
        refine ja_goto (pc := 65) (off := (-45)) 20 (by decide +kernel) (by decide) ?_
        refine ja_lv [1, 2, 3, 0] rfl ?_
        exact ih x0 x1 x2 (x3 + 1) s5 h0 hf
def f_Model_laysTest (x0 : Nat) (x1 : Int32) (sg : ja_S) : Option (ja_S) := (f_Model_usesSheet x0 sg).bind fun v1 => (f_Model_laysFrom x0 (0 : Int32) v1).bind fun v2 => (f_Model_clears x0 v2).bind fun v3 => f_Model_laysTest_L20  ja_FU x0 x1 (v2.1 x0 32) (0 : Int32) v3
set_option maxRecDepth 4000 in
theorem c_Model_laysTest (l : Launch) (x : ja_X) (x0 : Nat) (x1 : Int32) {sg : ja_S} {w : ja_S} (h0 : ja_ob ja_L0 8 x0) (hf : f_Model_laysTest x0 x1 sg = some w) : ja_Ct l x y_Model_laysTest M_Model_laysTest [.ref x0, .int x1] ja_L0 sg (none, ja_L0, w) := by
  refine ja_mk ⟨by decide, rfl, rfl⟩ (Nat.le_of_ble_eq_true rfl) (lv := [(0, .ref x0), (1, .int x1)]) rfl (fun C hl hx _ _ _ _ => ?_)
  subst hl; subst hx
  unfold f_Model_laysTest at hf
  refine ja_aload_n (pc := 0) (f := 0) (i := 0) 0 (by decide +kernel) rfl rfl ?_
  refine ja_bind hf (fun v1 hv1 hf => ?_)
  refine ja_callVv (pc := 1) (idx := 74) (t := 8) (b := x0) (as := []) (st := []) (by decide +kernel) kv_Model_usesSheet lk_Model_74 ⟨by decide, by decide⟩ (c_Model_usesSheet _ _ x0 h0 hv1) h0 rfl (Nat.le_of_ble_eq_true rfl) rfl ?_
  refine ja_aload_n (pc := 4) (f := 0) (i := 0) 0 (by decide +kernel) rfl rfl ?_
  refine ja_iconst (pc := 5) (n := 0) (v := 0) (by decide +kernel) (by decide +kernel) ?_
  refine ja_bind hf (fun v2 hv2 hf => ?_)
  refine ja_callVv (pc := 6) (idx := 248) (t := 8) (b := x0) (as := [.int (0 : Int32)]) (st := []) (by decide +kernel) kv_Model_laysFrom lk_Model_248 ⟨by decide, by decide⟩ (c_Model_laysFrom _ _ x0 (0 : Int32) h0 hv2) h0 rfl (Nat.le_of_ble_eq_true rfl) rfl ?_
  refine ja_aload_n (pc := 9) (f := 0) (i := 0) 0 (by decide +kernel) rfl rfl ?_
  refine ja_geti (pc := 10) (idx := 218) (t := 8) (j := 32) (by decide +kernel) fd_Model_218 h0 ?_
  refine ja_istore_n (pc := 13) (f := 2) (i := 2) (lv' := [(2, .int (v2.1 x0 32)), (0, .ref x0), (1, .int x1)]) (by decide +kernel) rfl (by decide) rfl ?_
  refine ja_aload_n (pc := 14) (f := 0) (i := 0) 1 (by decide +kernel) rfl rfl ?_
  refine ja_bind hf (fun v3 hv3 hf => ?_)
  refine ja_callVv (pc := 15) (idx := 227) (t := 8) (b := x0) (as := []) (st := []) (by decide +kernel) kv_Model_clears lk_Model_227 ⟨by decide, by decide⟩ (c_Model_clears _ _ x0 h0 hv3) h0 rfl (Nat.le_of_ble_eq_true rfl) rfl ?_
  refine ja_iconst (pc := 18) (n := 0) (v := 0) (by decide +kernel) (by decide +kernel) ?_
  refine ja_istore_n (pc := 19) (f := 3) (i := 3) (lv' := [(3, .int (0 : Int32)), (2, .int (v2.1 x0 32)), (0, .ref x0), (1, .int x1)]) (by decide +kernel) rfl (by decide) rfl ?_
  refine ja_lv [2, 3, 1, 0] rfl ?_
  exact w_Model_laysTest_L20 C  ja_FU x0 x1 (v2.1 x0 32) (0 : Int32) v3 h0 hf
def f_Model_testLength (x0 : Nat) (x1 : Int32) (sg : ja_S) : Option (Int32 × ja_S) := (ja_pu sg x0 9 (0 : Int32)).bind fun s1 => (f_Model_isRule x0 x1 s1).bind fun v2 => (if v2.1 = 0 then some ((-2 : Int32), v2.2) else (f_Model_laysTest x0 x1 v2.2).bind fun v3 => (ja_ld ja_L0 v3 (ja_q x0 30) (0 : Int32)).bind fun v4 => (if v4 = (-1 : Int32) then some ((-1 : Int32), v3) else (ja_ld ja_L0 v3 (ja_q x0 30) (0 : Int32)).bind fun v5 => some (v5 + (1 : Int32), v3)))
set_option maxRecDepth 4000 in
theorem c_Model_testLength (l : Launch) (x : ja_X) (x0 : Nat) (x1 : Int32) {sg : ja_S} {w : Int32 × ja_S} (h0 : ja_ob ja_L0 8 x0) (hf : f_Model_testLength x0 x1 sg = some w) : ja_Ct l x y_Model_testLength M_Model_testLength [.ref x0, .int x1] ja_L0 sg (some (.int w.1), ja_L0, w.2) := by
  refine ja_mk ⟨by decide, rfl, rfl⟩ (Nat.le_of_ble_eq_true rfl) (lv := [(0, .ref x0), (1, .int x1)]) rfl (fun C hl hx _ _ _ _ => ?_)
  subst hl; subst hx
  unfold f_Model_testLength at hf
  refine ja_aload_n (pc := 0) (f := 0) (i := 0) 0 (by decide +kernel) rfl rfl ?_
  refine ja_iconst (pc := 1) (n := 0) (v := 0) (by decide +kernel) (by decide +kernel) ?_
  refine ja_bind hf (fun s1 hs1 hf => ?_)
  refine ja_puti2 (pc := 2) (idx := 1) (t := 8) (j := 9) (by decide +kernel) fd_Model_1 h0 ⟨rfl, rfl⟩ hs1 ?_
  refine ja_aload_n (pc := 5) (f := 0) (i := 0) 0 (by decide +kernel) rfl rfl ?_
  refine ja_iload_n (pc := 6) (f := 1) (i := 1) 1 (by decide +kernel) rfl rfl ?_
  refine ja_bind hf (fun v2 hv2 hf => ?_)
  refine ja_callVi (pc := 7) (idx := 189) (t := 8) (b := x0) (as := [.int x1]) (st := []) (by decide +kernel) kv_Model_isRule lk_Model_189 ⟨by decide, by decide⟩ (c_Model_isRule _ _ x0 x1 h0 hv2) h0 rfl (Nat.le_of_ble_eq_true rfl) rfl ?_
  refine ja_if_ne (pc := 10) (off := 6) 16 (by decide +kernel) (by decide) hf (fun hf => ?_) (fun hf => ?_)
  · refine ja_aload_n (pc := 16) (f := 0) (i := 0) 0 (by decide +kernel) rfl rfl ?_
    refine ja_iload_n (pc := 17) (f := 1) (i := 1) 1 (by decide +kernel) rfl rfl ?_
    refine ja_bind hf (fun v3 hv3 hf => ?_)
    refine ja_callVv (pc := 18) (idx := 295) (t := 8) (b := x0) (as := [.int x1]) (st := []) (by decide +kernel) kv_Model_laysTest lk_Model_295 ⟨by decide, by decide⟩ (c_Model_laysTest _ _ x0 x1 h0 hv3) h0 rfl (Nat.le_of_ble_eq_true rfl) rfl ?_
    refine ja_aload_n (pc := 21) (f := 0) (i := 0) 0 (by decide +kernel) rfl rfl ?_
    refine ja_getr (pc := 22) (idx := 56) (t := 8) (j := 30) (by decide +kernel) fd_Model_56 h0 (fr_8_30 h0) ?_
    refine ja_iconst (pc := 25) (n := 0) (v := 0) (by decide +kernel) (by decide +kernel) ?_
    refine ja_bind hf (fun v4 hv4 hf => ?_)
    refine ja_iald (pc := 26) (by decide +kernel) (fk_8_30 h0) hv4 ?_
    refine ja_iconst (pc := 27) (n := (-1)) (v := (-1)) (by decide +kernel) (by decide +kernel) ?_
    refine ja_icmp_ne (pc := 28) (off := 7) 35 (by decide +kernel) (by decide) hf (fun hf => ?_) (fun hf => ?_)
    · refine ja_aload_n (pc := 35) (f := 0) (i := 0) 0 (by decide +kernel) rfl rfl ?_
      refine ja_getr (pc := 36) (idx := 56) (t := 8) (j := 30) (by decide +kernel) fd_Model_56 h0 (fr_8_30 h0) ?_
      refine ja_iconst (pc := 39) (n := 0) (v := 0) (by decide +kernel) (by decide +kernel) ?_
      refine ja_bind hf (fun v5 hv5 hf => ?_)
      refine ja_iald (pc := 40) (by decide +kernel) (fk_8_30 h0) hv5 ?_
      refine ja_iconst (pc := 41) (n := 1) (v := 1) (by decide +kernel) (by decide +kernel) ?_
      refine ja_iadd (pc := 42) (by decide +kernel) ?_
      exact ja_ret (pc := 43) (some (.int (v5 + (1 : Int32)))) .ireturn (by decide +kernel) rfl (by cases hf; rfl)
    · refine ja_iconst (pc := 31) (n := (-1)) (v := (-1)) (by decide +kernel) (by decide +kernel) ?_
      refine ja_goto (pc := 32) (off := 11) 43 (by decide +kernel) (by decide) ?_
      exact ja_ret (pc := 43) (some (.int (-1 : Int32))) .ireturn (by decide +kernel) rfl (by cases hf; rfl)
  · refine ja_bipush (pc := 13) (n := (-2)) (v := (-2)) (by decide +kernel) (by decide +kernel) ?_
    exact ja_ret (pc := 15) (some (.int (-2 : Int32))) .ireturn (by decide +kernel) rfl (by cases hf; rfl)
def f_Model_nearer_L2  : Nat → Nat → Int32 → Int32 → ja_S → Option (Int32 × ja_S)
  | 0, _, _, _, _ => none
  | n + 1, x0, x1, x2, sg => (f_Model_isFree x0 x1 x2 sg).bind fun v1 => (if v1.1 = 0 then f_Model_nearer_L2  n x0 x1 (x2 + 1) v1.2 else (ja_ld ja_L0 v1.2 (ja_q x0 30) (x1 ^^^ ((1 : Int32) <<< (x2 &&& 31)))).bind fun v2 => (ja_ld ja_L0 v1.2 (ja_q x0 30) x1).bind fun v3 => (if v2 = (v3 - (1 : Int32)) then some (x2, v1.2) else f_Model_nearer_L2  n x0 x1 (x2 + 1) v1.2))
set_option maxRecDepth 4000 in
theorem w_Model_nearer_L2 (C : ja_C) {w : Int32 × ja_S}    (n : Nat) : ∀ (x0 : Nat) (x1 : Int32) (x2 : Int32) (sg : ja_S), ja_ob ja_L0 8 x0 → f_Model_nearer_L2  n x0 x1 x2 sg = some w → ja_J M_Model_nearer C 2 [(0, .ref x0), (1, .int x1), (2, .int x2)] [] ja_L0 sg (some (.int w.1), ja_L0, w.2) := by
  induction n with
  | zero => intro _ _ _ _ _ hf; exact absurd (show (none : Option _) = some w from hf) (by simp)
  | succ n ih =>
    intro x0 x1 x2 sg h0 hf
    unfold f_Model_nearer_L2 at hf
    refine ja_aload_n (pc := 2) (f := 0) (i := 0) 0 (by decide +kernel) rfl rfl ?_
    refine ja_iload_n (pc := 3) (f := 1) (i := 1) 1 (by decide +kernel) rfl rfl ?_
    refine ja_iload_n (pc := 4) (f := 2) (i := 2) 2 (by decide +kernel) rfl rfl ?_
    refine ja_bind hf (fun v1 hv1 hf => ?_)
    refine ja_callVi (pc := 5) (idx := 221) (t := 8) (b := x0) (as := [.int x1, .int x2]) (st := []) (by decide +kernel) kv_Model_isFree lk_Model_221 ⟨by decide, by decide⟩ (c_Model_isFree _ _ x0 x1 x2 h0 hv1) h0 rfl (Nat.le_of_ble_eq_true rfl) rfl ?_
    refine ja_if_eq (pc := 8) (off := 24) 32 (by decide +kernel) (by decide) hf (fun hf => ?_) (fun hf => ?_)
    · refine ja_iinc (pc := 32) (i := 2) (n := 1) (v := x2 + 1) (lv' := [(2, .int (x2 + 1)), (0, .ref x0), (1, .int x1)]) 2 (by decide +kernel) rfl rfl (by decide) rfl ?_
      refine ja_goto (pc := 35) (off := (-33)) 2 (by decide +kernel) (by decide) ?_
      refine ja_lv [1, 2, 0] rfl ?_
      exact ih x0 x1 (x2 + 1) v1.2 h0 hf
    · refine ja_aload_n (pc := 11) (f := 0) (i := 0) 0 (by decide +kernel) rfl rfl ?_
      refine ja_getr (pc := 12) (idx := 56) (t := 8) (j := 30) (by decide +kernel) fd_Model_56 h0 (fr_8_30 h0) ?_
      refine ja_iload_n (pc := 15) (f := 1) (i := 1) 1 (by decide +kernel) rfl rfl ?_
      refine ja_iconst (pc := 16) (n := 1) (v := 1) (by decide +kernel) (by decide +kernel) ?_
      refine ja_iload_n (pc := 17) (f := 2) (i := 2) 2 (by decide +kernel) rfl rfl ?_
      refine ja_ishl (pc := 18) (by decide +kernel) ?_
      refine ja_ixor (pc := 19) (by decide +kernel) ?_
      refine ja_bind hf (fun v2 hv2 hf => ?_)
      refine ja_iald (pc := 20) (by decide +kernel) (fk_8_30 h0) hv2 ?_
      refine ja_aload_n (pc := 21) (f := 0) (i := 0) 0 (by decide +kernel) rfl rfl ?_
      refine ja_getr (pc := 22) (idx := 56) (t := 8) (j := 30) (by decide +kernel) fd_Model_56 h0 (fr_8_30 h0) ?_
      refine ja_iload_n (pc := 25) (f := 1) (i := 1) 1 (by decide +kernel) rfl rfl ?_
      refine ja_bind hf (fun v3 hv3 hf => ?_)
      refine ja_iald (pc := 26) (by decide +kernel) (fk_8_30 h0) hv3 ?_
      refine ja_iconst (pc := 27) (n := 1) (v := 1) (by decide +kernel) (by decide +kernel) ?_
      refine ja_isub (pc := 28) (by decide +kernel) ?_
      refine ja_icmp_eq (pc := 29) (off := 9) 38 (by decide +kernel) (by decide) hf (fun hf => ?_) (fun hf => ?_)
      · refine ja_iload_n (pc := 38) (f := 2) (i := 2) 2 (by decide +kernel) rfl rfl ?_
        exact ja_ret (pc := 39) (some (.int x2)) .ireturn (by decide +kernel) rfl (by cases hf; rfl)
      · refine ja_iinc (pc := 32) (i := 2) (n := 1) (v := x2 + 1) (lv' := [(2, .int (x2 + 1)), (0, .ref x0), (1, .int x1)]) 2 (by decide +kernel) rfl rfl (by decide) rfl ?_
        refine ja_goto (pc := 35) (off := (-33)) 2 (by decide +kernel) (by decide) ?_
        refine ja_lv [1, 2, 0] rfl ?_
        exact ih x0 x1 (x2 + 1) v1.2 h0 hf
def f_Model_nearer (x0 : Nat) (x1 : Int32) (sg : ja_S) : Option (Int32 × ja_S) := f_Model_nearer_L2  ja_FU x0 x1 (0 : Int32) sg
set_option maxRecDepth 4000 in
theorem c_Model_nearer (l : Launch) (x : ja_X) (x0 : Nat) (x1 : Int32) {sg : ja_S} {w : Int32 × ja_S} (h0 : ja_ob ja_L0 8 x0) (hf : f_Model_nearer x0 x1 sg = some w) : ja_Ct l x y_Model_nearer M_Model_nearer [.ref x0, .int x1] ja_L0 sg (some (.int w.1), ja_L0, w.2) := by
  refine ja_mk ⟨by decide, rfl, rfl⟩ (Nat.le_of_ble_eq_true rfl) (lv := [(0, .ref x0), (1, .int x1)]) rfl (fun C hl hx _ _ _ _ => ?_)
  subst hl; subst hx
  unfold f_Model_nearer at hf
  refine ja_iconst (pc := 0) (n := 0) (v := 0) (by decide +kernel) (by decide +kernel) ?_
  refine ja_istore_n (pc := 1) (f := 2) (i := 2) (lv' := [(2, .int (0 : Int32)), (0, .ref x0), (1, .int x1)]) (by decide +kernel) rfl (by decide) rfl ?_
  refine ja_lv [1, 2, 0] rfl ?_
  exact w_Model_nearer_L2 C  ja_FU x0 x1 (0 : Int32) sg h0 hf
def f_Model_testMove_L55  : Nat → Nat → Int32 → Int32 → Int32 → Int32 → ja_S → Option (Int32 × ja_S)
  | 0, _, _, _, _, _, _ => none
  | n + 1, x0, x1, x2, x3, x4, sg => (if x2 ≤ x4 then (ja_ld ja_L0 sg (ja_q x0 30) x3).bind fun v1 => (if v1 = 0 then (f_Model_tellingLever x0 x1 x3 sg).bind fun v3 => some (v3.1, v3.2) else (f_Model_nearer x0 x3 sg).bind fun v2 => some (v2.1, v2.2)) else (f_Model_nearer x0 x3 sg).bind fun v4 => f_Model_testMove_L55  n x0 x1 x2 (x3 ^^^ ((1 : Int32) <<< (v4.1 &&& 31))) (x4 + 1) v4.2)
set_option maxRecDepth 4000 in
theorem w_Model_testMove_L55 (C : ja_C) {w : Int32 × ja_S}    (n : Nat) : ∀ (x0 : Nat) (x1 : Int32) (x2 : Int32) (x3 : Int32) (x4 : Int32) (sg : ja_S), ja_ob ja_L0 8 x0 → f_Model_testMove_L55  n x0 x1 x2 x3 x4 sg = some w → ja_J M_Model_testMove C 55 [(0, .ref x0), (1, .int x1), (2, .int x2), (3, .int x3), (4, .int x4)] [] ja_L0 sg (some (.int w.1), ja_L0, w.2) := by
  induction n with
  | zero => intro _ _ _ _ _ _ _ hf; exact absurd (show (none : Option _) = some w from hf) (by simp)
  | succ n ih =>
    intro x0 x1 x2 x3 x4 sg h0 hf
    unfold f_Model_testMove_L55 at hf
    refine ja_iload (pc := 55) (i := 4) 4 (by decide +kernel) rfl ?_
    refine ja_iload_n (pc := 57) (f := 2) (i := 2) 2 (by decide +kernel) rfl rfl ?_
    refine ja_icmp_ge (pc := 58) (off := 19) 77 (by decide +kernel) (by decide) hf (fun hf => ?_) (fun hf => ?_)
    · refine ja_aload_n (pc := 77) (f := 0) (i := 0) 0 (by decide +kernel) rfl rfl ?_
      refine ja_getr (pc := 78) (idx := 56) (t := 8) (j := 30) (by decide +kernel) fd_Model_56 h0 (fr_8_30 h0) ?_
      refine ja_iload_n (pc := 81) (f := 3) (i := 3) 3 (by decide +kernel) rfl rfl ?_
      refine ja_bind hf (fun v1 hv1 hf => ?_)
      refine ja_iald (pc := 82) (by decide +kernel) (fk_8_30 h0) hv1 ?_
      refine ja_if_ne (pc := 83) (off := 12) 95 (by decide +kernel) (by decide) hf (fun hf => ?_) (fun hf => ?_)
      · refine ja_aload_n (pc := 95) (f := 0) (i := 0) 0 (by decide +kernel) rfl rfl ?_
        refine ja_iload_n (pc := 96) (f := 3) (i := 3) 3 (by decide +kernel) rfl rfl ?_
        refine ja_bind hf (fun v2 hv2 hf => ?_)
        refine ja_callVi (pc := 97) (idx := 298) (t := 8) (b := x0) (as := [.int x3]) (st := []) (by decide +kernel) kv_Model_nearer lk_Model_298 ⟨by decide, by decide⟩ (c_Model_nearer _ _ x0 x3 h0 hv2) h0 rfl (Nat.le_of_ble_eq_true rfl) rfl ?_
        exact ja_ret (pc := 100) (some (.int v2.1)) .ireturn (by decide +kernel) rfl (by cases hf; rfl)
      · refine ja_aload_n (pc := 86) (f := 0) (i := 0) 0 (by decide +kernel) rfl rfl ?_
        refine ja_iload_n (pc := 87) (f := 1) (i := 1) 1 (by decide +kernel) rfl rfl ?_
        refine ja_iload_n (pc := 88) (f := 3) (i := 3) 3 (by decide +kernel) rfl rfl ?_
        refine ja_bind hf (fun v3 hv3 hf => ?_)
        refine ja_callVi (pc := 89) (idx := 286) (t := 8) (b := x0) (as := [.int x1, .int x3]) (st := []) (by decide +kernel) kv_Model_tellingLever lk_Model_286 ⟨by decide, by decide⟩ (c_Model_tellingLever _ _ x0 x1 x3 h0 hv3) h0 rfl (Nat.le_of_ble_eq_true rfl) rfl ?_
        refine ja_goto (pc := 92) (off := 8) 100 (by decide +kernel) (by decide) ?_
        exact ja_ret (pc := 100) (some (.int v3.1)) .ireturn (by decide +kernel) rfl (by cases hf; rfl)
    · refine ja_iload_n (pc := 61) (f := 3) (i := 3) 3 (by decide +kernel) rfl rfl ?_
      refine ja_iconst (pc := 62) (n := 1) (v := 1) (by decide +kernel) (by decide +kernel) ?_
      refine ja_aload_n (pc := 63) (f := 0) (i := 0) 0 (by decide +kernel) rfl rfl ?_
      refine ja_iload_n (pc := 64) (f := 3) (i := 3) 3 (by decide +kernel) rfl rfl ?_
      refine ja_bind hf (fun v4 hv4 hf => ?_)
      refine ja_callVi (pc := 65) (idx := 298) (t := 8) (b := x0) (as := [.int x3]) (st := [.int (1 : Int32), .int x3]) (by decide +kernel) kv_Model_nearer lk_Model_298 ⟨by decide, by decide⟩ (c_Model_nearer _ _ x0 x3 h0 hv4) h0 rfl (Nat.le_of_ble_eq_true rfl) rfl ?_
      refine ja_ishl (pc := 68) (by decide +kernel) ?_
      refine ja_ixor (pc := 69) (by decide +kernel) ?_
      refine ja_istore_n (pc := 70) (f := 3) (i := 3) (lv' := [(3, .int (x3 ^^^ ((1 : Int32) <<< (v4.1 &&& 31)))), (0, .ref x0), (1, .int x1), (2, .int x2), (4, .int x4)]) (by decide +kernel) rfl (by decide) rfl ?_
      refine ja_iinc (pc := 71) (i := 4) (n := 1) (v := x4 + 1) (lv' := [(4, .int (x4 + 1)), (3, .int (x3 ^^^ ((1 : Int32) <<< (v4.1 &&& 31)))), (0, .ref x0), (1, .int x1), (2, .int x2)]) 4 (by decide +kernel) rfl rfl (by decide) rfl ?_
      refine ja_goto (pc := 74) (off := (-19)) 55 (by decide +kernel) (by decide) ?_
      refine ja_lv [2, 3, 4, 1, 0] rfl ?_
      exact ih x0 x1 x2 (x3 ^^^ ((1 : Int32) <<< (v4.1 &&& 31))) (x4 + 1) v4.2 h0 hf
def f_Model_testMove (x0 : Nat) (x1 : Int32) (x2 : Int32) (sg : ja_S) : Option (Int32 × ja_S) := (ja_pu sg x0 9 (0 : Int32)).bind fun s1 => (f_Model_isRule x0 x1 s1).bind fun v2 => (if v2.1 = 0 then some ((-2 : Int32), v2.2) else (if 0 ≤ x2 then (f_Model_laysTest x0 x1 v2.2).bind fun v3 => (ja_ld ja_L0 v3 (ja_q x0 30) (0 : Int32)).bind fun v4 => (if v4 = (-1 : Int32) then some ((-1 : Int32), v3) else (ja_ld ja_L0 v3 (ja_q x0 30) (0 : Int32)).bind fun v5 => (if x2 ≤ v5 then f_Model_testMove_L55  ja_FU x0 x1 x2 (0 : Int32) (0 : Int32) v3 else some ((-1 : Int32), v3))) else some ((-3 : Int32), v2.2)))
set_option maxRecDepth 4000 in
theorem c_Model_testMove (l : Launch) (x : ja_X) (x0 : Nat) (x1 : Int32) (x2 : Int32) {sg : ja_S} {w : Int32 × ja_S} (h0 : ja_ob ja_L0 8 x0) (hf : f_Model_testMove x0 x1 x2 sg = some w) : ja_Ct l x y_Model_testMove M_Model_testMove [.ref x0, .int x1, .int x2] ja_L0 sg (some (.int w.1), ja_L0, w.2) := by
  refine ja_mk ⟨by decide, rfl, rfl⟩ (Nat.le_of_ble_eq_true rfl) (lv := [(0, .ref x0), (1, .int x1), (2, .int x2)]) rfl (fun C hl hx _ _ _ _ => ?_)
  subst hl; subst hx
  unfold f_Model_testMove at hf
  refine ja_aload_n (pc := 0) (f := 0) (i := 0) 0 (by decide +kernel) rfl rfl ?_
  refine ja_iconst (pc := 1) (n := 0) (v := 0) (by decide +kernel) (by decide +kernel) ?_
  refine ja_bind hf (fun s1 hs1 hf => ?_)
  refine ja_puti2 (pc := 2) (idx := 1) (t := 8) (j := 9) (by decide +kernel) fd_Model_1 h0 ⟨rfl, rfl⟩ hs1 ?_
  refine ja_aload_n (pc := 5) (f := 0) (i := 0) 0 (by decide +kernel) rfl rfl ?_
  refine ja_iload_n (pc := 6) (f := 1) (i := 1) 1 (by decide +kernel) rfl rfl ?_
  refine ja_bind hf (fun v2 hv2 hf => ?_)
  refine ja_callVi (pc := 7) (idx := 189) (t := 8) (b := x0) (as := [.int x1]) (st := []) (by decide +kernel) kv_Model_isRule lk_Model_189 ⟨by decide, by decide⟩ (c_Model_isRule _ _ x0 x1 h0 hv2) h0 rfl (Nat.le_of_ble_eq_true rfl) rfl ?_
  refine ja_if_ne (pc := 10) (off := 6) 16 (by decide +kernel) (by decide) hf (fun hf => ?_) (fun hf => ?_)
  · refine ja_iload_n (pc := 16) (f := 2) (i := 2) 2 (by decide +kernel) rfl rfl ?_
    refine ja_if_ge (pc := 17) (off := 6) 23 (by decide +kernel) (by decide) hf (fun hf => ?_) (fun hf => ?_)
    · refine ja_aload_n (pc := 23) (f := 0) (i := 0) 0 (by decide +kernel) rfl rfl ?_
      refine ja_iload_n (pc := 24) (f := 1) (i := 1) 1 (by decide +kernel) rfl rfl ?_
      refine ja_bind hf (fun v3 hv3 hf => ?_)
      refine ja_callVv (pc := 25) (idx := 295) (t := 8) (b := x0) (as := [.int x1]) (st := []) (by decide +kernel) kv_Model_laysTest lk_Model_295 ⟨by decide, by decide⟩ (c_Model_laysTest _ _ x0 x1 h0 hv3) h0 rfl (Nat.le_of_ble_eq_true rfl) rfl ?_
      refine ja_aload_n (pc := 28) (f := 0) (i := 0) 0 (by decide +kernel) rfl rfl ?_
      refine ja_getr (pc := 29) (idx := 56) (t := 8) (j := 30) (by decide +kernel) fd_Model_56 h0 (fr_8_30 h0) ?_
      refine ja_iconst (pc := 32) (n := 0) (v := 0) (by decide +kernel) (by decide +kernel) ?_
      refine ja_bind hf (fun v4 hv4 hf => ?_)
      refine ja_iald (pc := 33) (by decide +kernel) (fk_8_30 h0) hv4 ?_
      refine ja_iconst (pc := 34) (n := (-1)) (v := (-1)) (by decide +kernel) (by decide +kernel) ?_
      refine ja_icmp_eq (pc := 35) (off := 13) 48 (by decide +kernel) (by decide) hf (fun hf => ?_) (fun hf => ?_)
      · refine ja_iconst (pc := 48) (n := (-1)) (v := (-1)) (by decide +kernel) (by decide +kernel) ?_
        exact ja_ret (pc := 49) (some (.int (-1 : Int32))) .ireturn (by decide +kernel) rfl (by cases hf; rfl)
      · refine ja_iload_n (pc := 38) (f := 2) (i := 2) 2 (by decide +kernel) rfl rfl ?_
        refine ja_aload_n (pc := 39) (f := 0) (i := 0) 0 (by decide +kernel) rfl rfl ?_
        refine ja_getr (pc := 40) (idx := 56) (t := 8) (j := 30) (by decide +kernel) fd_Model_56 h0 (fr_8_30 h0) ?_
        refine ja_iconst (pc := 43) (n := 0) (v := 0) (by decide +kernel) (by decide +kernel) ?_
        refine ja_bind hf (fun v5 hv5 hf => ?_)
        refine ja_iald (pc := 44) (by decide +kernel) (fk_8_30 h0) hv5 ?_
        refine ja_icmp_le (pc := 45) (off := 5) 50 (by decide +kernel) (by decide) hf (fun hf => ?_) (fun hf => ?_)
        · refine ja_iconst (pc := 50) (n := 0) (v := 0) (by decide +kernel) (by decide +kernel) ?_
          refine ja_istore_n (pc := 51) (f := 3) (i := 3) (lv' := [(3, .int (0 : Int32)), (0, .ref x0), (1, .int x1), (2, .int x2)]) (by decide +kernel) rfl (by decide) rfl ?_
          refine ja_iconst (pc := 52) (n := 0) (v := 0) (by decide +kernel) (by decide +kernel) ?_
          refine ja_istore (pc := 53) (i := 4) (lv' := [(4, .int (0 : Int32)), (3, .int (0 : Int32)), (0, .ref x0), (1, .int x1), (2, .int x2)]) (by decide +kernel) (by decide) rfl ?_
          refine ja_lv [2, 3, 4, 1, 0] rfl ?_
          exact w_Model_testMove_L55 C  ja_FU x0 x1 x2 (0 : Int32) (0 : Int32) v3 h0 hf
        · refine ja_iconst (pc := 48) (n := (-1)) (v := (-1)) (by decide +kernel) (by decide +kernel) ?_
          exact ja_ret (pc := 49) (some (.int (-1 : Int32))) .ireturn (by decide +kernel) rfl (by cases hf; rfl)
    · refine ja_bipush (pc := 20) (n := (-3)) (v := (-3)) (by decide +kernel) (by decide +kernel) ?_
      exact ja_ret (pc := 22) (some (.int (-3 : Int32))) .ireturn (by decide +kernel) rfl (by cases hf; rfl)
  · refine ja_bipush (pc := 13) (n := (-2)) (v := (-2)) (by decide +kernel) (by decide +kernel) ?_
    exact ja_ret (pc := 15) (some (.int (-2 : Int32))) .ireturn (by decide +kernel) rfl (by cases hf; rfl)
def f_Model_mergedLever (x0 : Int32) (x1 : Int32) (x2 : Int32) (sg : ja_S) : Option (Int32 × ja_S) := (if x0 = x2 then some (x1, sg) else some (x0, sg))
set_option maxRecDepth 4000 in
theorem c_Model_mergedLever (l : Launch) (x : ja_X) (x0 : Int32) (x1 : Int32) (x2 : Int32) {sg : ja_S} {w : Int32 × ja_S}  (hf : f_Model_mergedLever x0 x1 x2 sg = some w) : ja_Ct l x y_Model_mergedLever M_Model_mergedLever [.int x0, .int x1, .int x2] ja_L0 sg (some (.int w.1), ja_L0, w.2) := by
  refine ja_mk ⟨by decide, rfl, rfl⟩ (Nat.le_of_ble_eq_true rfl) (lv := [(0, .int x0), (1, .int x1), (2, .int x2)]) rfl (fun C hl hx _ _ _ _ => ?_)
  subst hl; subst hx
  unfold f_Model_mergedLever at hf
  refine ja_iload_n (pc := 0) (f := 0) (i := 0) 0 (by decide +kernel) rfl rfl ?_
  refine ja_iload_n (pc := 1) (f := 2) (i := 2) 2 (by decide +kernel) rfl rfl ?_
  refine ja_icmp_ne (pc := 2) (off := 7) 9 (by decide +kernel) (by decide) hf (fun hf => ?_) (fun hf => ?_)
  · refine ja_iload_n (pc := 9) (f := 0) (i := 0) 0 (by decide +kernel) rfl rfl ?_
    exact ja_ret (pc := 10) (some (.int x0)) .ireturn (by decide +kernel) rfl (by cases hf; rfl)
  · refine ja_iload_n (pc := 5) (f := 1) (i := 1) 1 (by decide +kernel) rfl rfl ?_
    refine ja_goto (pc := 6) (off := 4) 10 (by decide +kernel) (by decide) ?_
    exact ja_ret (pc := 10) (some (.int x1)) .ireturn (by decide +kernel) rfl (by cases hf; rfl)
def f_Model_merges_L116  : Nat → Nat → Int32 → Int32 → Int32 → ja_S → Option (ja_S)
  | 0, _, _, _, _, _ => none
  | n + 1, x0, x1, x2, x3, sg => (if (sg.1 x0 1) ≤ x3 then (ja_pu sg x0 29 ((sg.1 x0 29) ||| ((1 : Int32) <<< (x2 &&& 31)))).bind fun s1 => some s1 else (ja_ld ja_L0 sg (ja_q x0 26) x3).bind fun v2 => (f_Model_has v2 x2 sg).bind fun v3 => (if v3.1 = 0 then f_Model_merges_L116  n x0 x1 x2 (x3 + 1) v3.2 else (ja_ld ja_L0 v3.2 (ja_q x0 26) x3).bind fun v4 => (ja_st ja_L0 v3.2 (ja_q x0 26) x3 ((v4 &&& (((1 : Int32) <<< (x2 &&& 31)) ^^^ (-1 : Int32))) ||| ((1 : Int32) <<< (x1 &&& 31)))).bind fun s5 => f_Model_merges_L116  n x0 x1 x2 (x3 + 1) s5))
set_option maxRecDepth 4000 in
theorem w_Model_merges_L116 (C : ja_C) {w : ja_S}    (n : Nat) : ∀ (x0 : Nat) (x1 : Int32) (x2 : Int32) (x3 : Int32) (sg : ja_S), ja_ob ja_L0 8 x0 → f_Model_merges_L116  n x0 x1 x2 x3 sg = some w → ja_J M_Model_merges C 116 [(0, .ref x0), (1, .int x1), (2, .int x2), (3, .int x3)] [] ja_L0 sg (none, ja_L0, w) := by
  induction n with
  | zero => intro _ _ _ _ _ _ hf; exact absurd (show (none : Option _) = some w from hf) (by simp)
  | succ n ih =>
    intro x0 x1 x2 x3 sg h0 hf
    unfold f_Model_merges_L116 at hf
    refine ja_iload_n (pc := 116) (f := 3) (i := 3) 3 (by decide +kernel) rfl rfl ?_
    refine ja_aload_n (pc := 117) (f := 0) (i := 0) 0 (by decide +kernel) rfl rfl ?_
    refine ja_geti (pc := 118) (idx := 180) (t := 8) (j := 1) (by decide +kernel) fd_Model_180 h0 ?_
    refine ja_icmp_ge (pc := 121) (off := 44) 165 (by decide +kernel) (by decide) hf (fun hf => ?_) (fun hf => ?_)
    · refine ja_aload_n (pc := 165) (f := 0) (i := 0) 0 (by decide +kernel) rfl rfl ?_
      refine ja_dup (pc := 166) (by decide +kernel) rfl ?_
      refine ja_geti (pc := 167) (idx := 202) (t := 8) (j := 29) (by decide +kernel) fd_Model_202 h0 ?_
      refine ja_iconst (pc := 170) (n := 1) (v := 1) (by decide +kernel) (by decide +kernel) ?_
      refine ja_iload_n (pc := 171) (f := 2) (i := 2) 2 (by decide +kernel) rfl rfl ?_
      refine ja_ishl (pc := 172) (by decide +kernel) ?_
      refine ja_ior (pc := 173) (by decide +kernel) ?_
      refine ja_bind hf (fun s1 hs1 hf => ?_)
      refine ja_puti2 (pc := 174) (idx := 202) (t := 8) (j := 29) (by decide +kernel) fd_Model_202 h0 ⟨rfl, rfl⟩ hs1 ?_
      exact ja_ret (pc := 177) none .return_ (by decide +kernel) rfl (by cases hf; rfl)
    · refine ja_aload_n (pc := 124) (f := 0) (i := 0) 0 (by decide +kernel) rfl rfl ?_
      refine ja_getr (pc := 125) (idx := 53) (t := 8) (j := 26) (by decide +kernel) fd_Model_53 h0 (fr_8_26 h0) ?_
      refine ja_iload_n (pc := 128) (f := 3) (i := 3) 3 (by decide +kernel) rfl rfl ?_
      refine ja_bind hf (fun v2 hv2 hf => ?_)
      refine ja_iald (pc := 129) (by decide +kernel) (fk_8_26 h0) hv2 ?_
      refine ja_iload_n (pc := 130) (f := 2) (i := 2) 2 (by decide +kernel) rfl rfl ?_
      refine ja_bind hf (fun v3 hv3 hf => ?_)
      refine ja_callSi (pc := 131) (idx := 152) (as := [.int v2, .int x2]) (st := []) (by decide +kernel) ks_Model_has lk_Model_152 ⟨by decide, by decide⟩ (c_Model_has _ _ v2 x2  hv3) rfl (Nat.le_of_ble_eq_true rfl) rfl ?_
      refine ja_if_eq (pc := 134) (off := 25) 159 (by decide +kernel) (by decide) hf (fun hf => ?_) (fun hf => ?_)
      · refine ja_iinc (pc := 159) (i := 3) (n := 1) (v := x3 + 1) (lv' := [(3, .int (x3 + 1)), (0, .ref x0), (1, .int x1), (2, .int x2)]) 3 (by decide +kernel) rfl rfl (by decide) rfl ?_
        refine ja_goto (pc := 162) (off := (-46)) 116 (by decide +kernel) (by decide) ?_
        refine ja_lv [1, 2, 3, 0] rfl ?_
        exact ih x0 x1 x2 (x3 + 1) v3.2 h0 hf
      · refine ja_aload_n (pc := 137) (f := 0) (i := 0) 0 (by decide +kernel) rfl rfl ?_
        refine ja_getr (pc := 138) (idx := 53) (t := 8) (j := 26) (by decide +kernel) fd_Model_53 h0 (fr_8_26 h0) ?_
        refine ja_iload_n (pc := 141) (f := 3) (i := 3) 3 (by decide +kernel) rfl rfl ?_
        refine ja_aload_n (pc := 142) (f := 0) (i := 0) 0 (by decide +kernel) rfl rfl ?_
        refine ja_getr (pc := 143) (idx := 53) (t := 8) (j := 26) (by decide +kernel) fd_Model_53 h0 (fr_8_26 h0) ?_
        refine ja_iload_n (pc := 146) (f := 3) (i := 3) 3 (by decide +kernel) rfl rfl ?_
        refine ja_bind hf (fun v4 hv4 hf => ?_)
        refine ja_iald (pc := 147) (by decide +kernel) (fk_8_26 h0) hv4 ?_
        refine ja_iconst (pc := 148) (n := 1) (v := 1) (by decide +kernel) (by decide +kernel) ?_
        refine ja_iload_n (pc := 149) (f := 2) (i := 2) 2 (by decide +kernel) rfl rfl ?_
        refine ja_ishl (pc := 150) (by decide +kernel) ?_
        refine ja_iconst (pc := 151) (n := (-1)) (v := (-1)) (by decide +kernel) (by decide +kernel) ?_
        refine ja_ixor (pc := 152) (by decide +kernel) ?_
        refine ja_iand (pc := 153) (by decide +kernel) ?_
        refine ja_iconst (pc := 154) (n := 1) (v := 1) (by decide +kernel) (by decide +kernel) ?_
        refine ja_iload_n (pc := 155) (f := 1) (i := 1) 1 (by decide +kernel) rfl rfl ?_
        refine ja_ishl (pc := 156) (by decide +kernel) ?_
        refine ja_ior (pc := 157) (by decide +kernel) ?_
        refine ja_bind hf (fun s5 hs5 hf => ?_)
        refine ja_iast (pc := 158) (by decide +kernel) (fk_8_26 h0) hs5 ?_
        refine ja_iinc (pc := 159) (i := 3) (n := 1) (v := x3 + 1) (lv' := [(3, .int (x3 + 1)), (0, .ref x0), (1, .int x1), (2, .int x2)]) 3 (by decide +kernel) rfl rfl (by decide) rfl ?_
        refine ja_goto (pc := 162) (off := (-46)) 116 (by decide +kernel) (by decide) ?_
        refine ja_lv [1, 2, 3, 0] rfl ?_
        exact ih x0 x1 x2 (x3 + 1) s5 h0 hf
def f_Model_merges_B107 (k2 : Nat → Int32 → Int32 → Int32 → ja_S → Option (ja_S)) (x0 : Nat) (x1 : Int32) (x2 : Int32) (x3 : Int32) (y0 : Int32) (y1 : Int32) (y2 : Nat) (sg : ja_S) : Option (ja_S) := (ja_st ja_L0 sg y2 y1 y0).bind fun s1 => k2 x0 x1 x2 (x3 + 1) s1
set_option maxRecDepth 4000 in
theorem w_Model_merges_B107 (C : ja_C) {w : ja_S} {k2 : Nat → Int32 → Int32 → Int32 → ja_S → Option (ja_S)} (e2 : ∀ (x0 : Nat) (x1 : Int32) (x2 : Int32) (x3 : Int32) (sg : ja_S), ja_ob ja_L0 8 x0 → k2 x0 x1 x2 x3 sg = some w → ja_J M_Model_merges C 2 [(0, .ref x0), (1, .int x1), (2, .int x2), (3, .int x3)] [] ja_L0 sg (none, ja_L0, w))  (x0 : Nat) (x1 : Int32) (x2 : Int32) (x3 : Int32) (y0 : Int32) (y1 : Int32) (y2 : Nat) (sg : ja_S) (h0 : ja_ob ja_L0 8 x0) (hy2 : ja_ai ja_L0 y2) (hf : f_Model_merges_B107 k2 x0 x1 x2 x3 y0 y1 y2 sg = some w) : ja_J M_Model_merges C 107 [(0, .ref x0), (1, .int x1), (2, .int x2), (3, .int x3)] [.int y0, .int y1, .ref y2] ja_L0 sg (none, ja_L0, w) := by
  unfold f_Model_merges_B107 at hf
  refine ja_bind hf (fun s1 hs1 hf => ?_)
  refine ja_iast (pc := 107) (by decide +kernel) hy2 hs1 ?_
  refine ja_iinc (pc := 108) (i := 3) (n := 1) (v := x3 + 1) (lv' := [(3, .int (x3 + 1)), (0, .ref x0), (1, .int x1), (2, .int x2)]) 3 (by decide +kernel) rfl rfl (by decide) rfl ?_
  refine ja_goto (pc := 111) (off := (-109)) 2 (by decide +kernel) (by decide) ?_
  refine ja_lv [1, 2, 3, 0] rfl ?_
  exact e2 x0 x1 x2 (x3 + 1) s1 h0 hf
def f_Model_merges_L2  : Nat → Nat → Int32 → Int32 → Int32 → ja_S → Option (ja_S)
  | 0, _, _, _, _, _ => none
  | n + 1, x0, x1, x2, x3, sg => (if (sg.1 x0 27) ≤ x3 then f_Model_merges_L116  ja_FU x0 x1 x2 (0 : Int32) sg else (ja_ld ja_L0 sg (ja_q x0 25) (((4 : Int32) * x3) + (1 : Int32))).bind fun v1 => (f_Model_mergedLever v1 x1 x2 sg).bind fun v2 => (ja_st ja_L0 v2.2 (ja_q x0 25) (((4 : Int32) * x3) + (1 : Int32)) v2.1).bind fun s3 => (ja_ld ja_L0 s3 (ja_q x0 25) (((4 : Int32) * x3) + (2 : Int32))).bind fun v4 => (f_Model_mergedLever v4 x1 x2 s3).bind fun v5 => (ja_st ja_L0 v5.2 (ja_q x0 25) (((4 : Int32) * x3) + (2 : Int32)) v5.1).bind fun s6 => (ja_ld ja_L0 s6 (ja_q x0 25) (((4 : Int32) * x3) + (3 : Int32))).bind fun v7 => (if v7 = (-1 : Int32) then f_Model_merges_B107 (f_Model_merges_L2  n) x0 x1 x2 x3 (-1 : Int32) (((4 : Int32) * x3) + (3 : Int32)) (ja_q x0 25) s6 else (f_Model_mergedLever (v7 / (2 : Int32)) x1 x2 s6).bind fun v8 => f_Model_merges_B107 (f_Model_merges_L2  n) x0 x1 x2 x3 (((2 : Int32) * v8.1) + (v7 - v7 / (2 : Int32) * (2 : Int32))) (((4 : Int32) * x3) + (3 : Int32)) (ja_q x0 25) v8.2))
set_option maxRecDepth 4000 in
theorem w_Model_merges_L2 (C : ja_C) {w : ja_S}    (n : Nat) : ∀ (x0 : Nat) (x1 : Int32) (x2 : Int32) (x3 : Int32) (sg : ja_S), ja_ob ja_L0 8 x0 → f_Model_merges_L2  n x0 x1 x2 x3 sg = some w → ja_J M_Model_merges C 2 [(0, .ref x0), (1, .int x1), (2, .int x2), (3, .int x3)] [] ja_L0 sg (none, ja_L0, w) := by
  induction n with
  | zero => intro _ _ _ _ _ _ hf; exact absurd (show (none : Option _) = some w from hf) (by simp)
  | succ n ih =>
    intro x0 x1 x2 x3 sg h0 hf
    unfold f_Model_merges_L2 at hf
    refine ja_iload_n (pc := 2) (f := 3) (i := 3) 3 (by decide +kernel) rfl rfl ?_
    refine ja_aload_n (pc := 3) (f := 0) (i := 0) 0 (by decide +kernel) rfl rfl ?_
    refine ja_geti (pc := 4) (idx := 196) (t := 8) (j := 27) (by decide +kernel) fd_Model_196 h0 ?_
    refine ja_icmp_ge (pc := 7) (off := 107) 114 (by decide +kernel) (by decide) hf (fun hf => ?_) (fun hf => ?_)
    · refine ja_iconst (pc := 114) (n := 0) (v := 0) (by decide +kernel) (by decide +kernel) ?_
      refine ja_istore_n (pc := 115) (f := 3) (i := 3) (lv' := [(3, .int (0 : Int32)), (0, .ref x0), (1, .int x1), (2, .int x2)]) (by decide +kernel) rfl (by decide) rfl ?_
      refine ja_lv [1, 2, 3, 0] rfl ?_
      exact w_Model_merges_L116 C  ja_FU x0 x1 x2 (0 : Int32) sg h0 hf
    · refine ja_aload_n (pc := 10) (f := 0) (i := 0) 0 (by decide +kernel) rfl rfl ?_
      refine ja_getr (pc := 11) (idx := 50) (t := 8) (j := 25) (by decide +kernel) fd_Model_50 h0 (fr_8_25 h0) ?_
      refine ja_iconst (pc := 14) (n := 4) (v := 4) (by decide +kernel) (by decide +kernel) ?_
      refine ja_iload_n (pc := 15) (f := 3) (i := 3) 3 (by decide +kernel) rfl rfl ?_
      refine ja_imul (pc := 16) (by decide +kernel) ?_
      refine ja_iconst (pc := 17) (n := 1) (v := 1) (by decide +kernel) (by decide +kernel) ?_
      refine ja_iadd (pc := 18) (by decide +kernel) ?_
      refine ja_aload_n (pc := 19) (f := 0) (i := 0) 0 (by decide +kernel) rfl rfl ?_
      refine ja_getr (pc := 20) (idx := 50) (t := 8) (j := 25) (by decide +kernel) fd_Model_50 h0 (fr_8_25 h0) ?_
      refine ja_iconst (pc := 23) (n := 4) (v := 4) (by decide +kernel) (by decide +kernel) ?_
      refine ja_iload_n (pc := 24) (f := 3) (i := 3) 3 (by decide +kernel) rfl rfl ?_
      refine ja_imul (pc := 25) (by decide +kernel) ?_
      refine ja_iconst (pc := 26) (n := 1) (v := 1) (by decide +kernel) (by decide +kernel) ?_
      refine ja_iadd (pc := 27) (by decide +kernel) ?_
      refine ja_bind hf (fun v1 hv1 hf => ?_)
      refine ja_iald (pc := 28) (by decide +kernel) (fk_8_25 h0) hv1 ?_
      refine ja_iload_n (pc := 29) (f := 1) (i := 1) 1 (by decide +kernel) rfl rfl ?_
      refine ja_iload_n (pc := 30) (f := 2) (i := 2) 2 (by decide +kernel) rfl rfl ?_
      refine ja_bind hf (fun v2 hv2 hf => ?_)
      refine ja_callSi (pc := 31) (idx := 301) (as := [.int v1, .int x1, .int x2]) (st := [.int (((4 : Int32) * x3) + (1 : Int32)), .ref (ja_q x0 25)]) (by decide +kernel) ks_Model_mergedLever lk_Model_301 ⟨by decide, by decide⟩ (c_Model_mergedLever _ _ v1 x1 x2  hv2) rfl (Nat.le_of_ble_eq_true rfl) rfl ?_
      refine ja_bind hf (fun s3 hs3 hf => ?_)
      refine ja_iast (pc := 34) (by decide +kernel) (fk_8_25 h0) hs3 ?_
      refine ja_aload_n (pc := 35) (f := 0) (i := 0) 0 (by decide +kernel) rfl rfl ?_
      refine ja_getr (pc := 36) (idx := 50) (t := 8) (j := 25) (by decide +kernel) fd_Model_50 h0 (fr_8_25 h0) ?_
      refine ja_iconst (pc := 39) (n := 4) (v := 4) (by decide +kernel) (by decide +kernel) ?_
      refine ja_iload_n (pc := 40) (f := 3) (i := 3) 3 (by decide +kernel) rfl rfl ?_
      refine ja_imul (pc := 41) (by decide +kernel) ?_
      refine ja_iconst (pc := 42) (n := 2) (v := 2) (by decide +kernel) (by decide +kernel) ?_
      refine ja_iadd (pc := 43) (by decide +kernel) ?_
      refine ja_aload_n (pc := 44) (f := 0) (i := 0) 0 (by decide +kernel) rfl rfl ?_
      refine ja_getr (pc := 45) (idx := 50) (t := 8) (j := 25) (by decide +kernel) fd_Model_50 h0 (fr_8_25 h0) ?_
      refine ja_iconst (pc := 48) (n := 4) (v := 4) (by decide +kernel) (by decide +kernel) ?_
      refine ja_iload_n (pc := 49) (f := 3) (i := 3) 3 (by decide +kernel) rfl rfl ?_
      refine ja_imul (pc := 50) (by decide +kernel) ?_
      refine ja_iconst (pc := 51) (n := 2) (v := 2) (by decide +kernel) (by decide +kernel) ?_
      refine ja_iadd (pc := 52) (by decide +kernel) ?_
      refine ja_bind hf (fun v4 hv4 hf => ?_)
      refine ja_iald (pc := 53) (by decide +kernel) (fk_8_25 h0) hv4 ?_
      refine ja_iload_n (pc := 54) (f := 1) (i := 1) 1 (by decide +kernel) rfl rfl ?_
      refine ja_iload_n (pc := 55) (f := 2) (i := 2) 2 (by decide +kernel) rfl rfl ?_
      refine ja_bind hf (fun v5 hv5 hf => ?_)
      refine ja_callSi (pc := 56) (idx := 301) (as := [.int v4, .int x1, .int x2]) (st := [.int (((4 : Int32) * x3) + (2 : Int32)), .ref (ja_q x0 25)]) (by decide +kernel) ks_Model_mergedLever lk_Model_301 ⟨by decide, by decide⟩ (c_Model_mergedLever _ _ v4 x1 x2  hv5) rfl (Nat.le_of_ble_eq_true rfl) rfl ?_
      refine ja_bind hf (fun s6 hs6 hf => ?_)
      refine ja_iast (pc := 59) (by decide +kernel) (fk_8_25 h0) hs6 ?_
      refine ja_aload_n (pc := 60) (f := 0) (i := 0) 0 (by decide +kernel) rfl rfl ?_
      refine ja_getr (pc := 61) (idx := 50) (t := 8) (j := 25) (by decide +kernel) fd_Model_50 h0 (fr_8_25 h0) ?_
      refine ja_iconst (pc := 64) (n := 4) (v := 4) (by decide +kernel) (by decide +kernel) ?_
      refine ja_iload_n (pc := 65) (f := 3) (i := 3) 3 (by decide +kernel) rfl rfl ?_
      refine ja_imul (pc := 66) (by decide +kernel) ?_
      refine ja_iconst (pc := 67) (n := 3) (v := 3) (by decide +kernel) (by decide +kernel) ?_
      refine ja_iadd (pc := 68) (by decide +kernel) ?_
      refine ja_bind hf (fun v7 hv7 hf => ?_)
      refine ja_iald (pc := 69) (by decide +kernel) (fk_8_25 h0) hv7 ?_
      refine ja_istore (pc := 70) (i := 4) (lv' := [(4, .int v7), (0, .ref x0), (1, .int x1), (2, .int x2), (3, .int x3)]) (by decide +kernel) (by decide) rfl ?_
      refine ja_aload_n (pc := 72) (f := 0) (i := 0) 1 (by decide +kernel) rfl rfl ?_
      refine ja_getr (pc := 73) (idx := 50) (t := 8) (j := 25) (by decide +kernel) fd_Model_50 h0 (fr_8_25 h0) ?_
      refine ja_iconst (pc := 76) (n := 4) (v := 4) (by decide +kernel) (by decide +kernel) ?_
      refine ja_iload_n (pc := 77) (f := 3) (i := 3) 4 (by decide +kernel) rfl rfl ?_
      refine ja_imul (pc := 78) (by decide +kernel) ?_
      refine ja_iconst (pc := 79) (n := 3) (v := 3) (by decide +kernel) (by decide +kernel) ?_
      refine ja_iadd (pc := 80) (by decide +kernel) ?_
      refine ja_iload (pc := 81) (i := 4) 0 (by decide +kernel) rfl ?_
      refine ja_iconst (pc := 83) (n := (-1)) (v := (-1)) (by decide +kernel) (by decide +kernel) ?_
      refine ja_icmp_ne (pc := 84) (off := 7) 91 (by decide +kernel) (by decide) hf (fun hf => ?_) (fun hf => ?_)
      · refine ja_iconst (pc := 91) (n := 2) (v := 2) (by decide +kernel) (by decide +kernel) ?_
        refine ja_iload (pc := 92) (i := 4) 0 (by decide +kernel) rfl ?_
        refine ja_iconst (pc := 94) (n := 2) (v := 2) (by decide +kernel) (by decide +kernel) ?_
        refine ja_idiv (pc := 95) (by decide +kernel) (by decide) ?_
        refine ja_iload_n (pc := 96) (f := 1) (i := 1) 2 (by decide +kernel) rfl rfl ?_
        refine ja_iload_n (pc := 97) (f := 2) (i := 2) 3 (by decide +kernel) rfl rfl ?_
        refine ja_bind hf (fun v8 hv8 hf => ?_)
        refine ja_callSi (pc := 98) (idx := 301) (as := [.int (v7 / (2 : Int32)), .int x1, .int x2]) (st := [.int (2 : Int32), .int (((4 : Int32) * x3) + (3 : Int32)), .ref (ja_q x0 25)]) (by decide +kernel) ks_Model_mergedLever lk_Model_301 ⟨by decide, by decide⟩ (c_Model_mergedLever _ _ (v7 / (2 : Int32)) x1 x2  hv8) rfl (Nat.le_of_ble_eq_true rfl) rfl ?_
        refine ja_imul (pc := 101) (by decide +kernel) ?_
        refine ja_iload (pc := 102) (i := 4) 0 (by decide +kernel) rfl ?_
        refine ja_iconst (pc := 104) (n := 2) (v := 2) (by decide +kernel) (by decide +kernel) ?_
        refine ja_irem (pc := 105) (by decide +kernel) (by decide) ?_
        refine ja_iadd (pc := 106) (by decide +kernel) ?_
        refine ja_lv [1, 2, 3, 4] rfl ?_
        exact w_Model_merges_B107 C ih x0 x1 x2 x3 (((2 : Int32) * v8.1) + (v7 - v7 / (2 : Int32) * (2 : Int32))) (((4 : Int32) * x3) + (3 : Int32)) (ja_q x0 25) v8.2 h0 (fk_8_25 h0) hf
      · refine ja_iconst (pc := 87) (n := (-1)) (v := (-1)) (by decide +kernel) (by decide +kernel) ?_
        refine ja_goto (pc := 88) (off := 19) 107 (by decide +kernel) (by decide) ?_
        refine ja_lv [1, 2, 3, 4] rfl ?_
        exact w_Model_merges_B107 C ih x0 x1 x2 x3 (-1 : Int32) (((4 : Int32) * x3) + (3 : Int32)) (ja_q x0 25) s6 h0 (fk_8_25 h0) hf
def f_Model_merges (x0 : Nat) (x1 : Int32) (x2 : Int32) (sg : ja_S) : Option (ja_S) := f_Model_merges_L2  ja_FU x0 x1 x2 (0 : Int32) sg
set_option maxRecDepth 4000 in
theorem c_Model_merges (l : Launch) (x : ja_X) (x0 : Nat) (x1 : Int32) (x2 : Int32) {sg : ja_S} {w : ja_S} (h0 : ja_ob ja_L0 8 x0) (hf : f_Model_merges x0 x1 x2 sg = some w) : ja_Ct l x y_Model_merges M_Model_merges [.ref x0, .int x1, .int x2] ja_L0 sg (none, ja_L0, w) := by
  refine ja_mk ⟨by decide, rfl, rfl⟩ (Nat.le_of_ble_eq_true rfl) (lv := [(0, .ref x0), (1, .int x1), (2, .int x2)]) rfl (fun C hl hx _ _ _ _ => ?_)
  subst hl; subst hx
  unfold f_Model_merges at hf
  refine ja_iconst (pc := 0) (n := 0) (v := 0) (by decide +kernel) (by decide +kernel) ?_
  refine ja_istore_n (pc := 1) (f := 3) (i := 3) (lv' := [(3, .int (0 : Int32)), (0, .ref x0), (1, .int x1), (2, .int x2)]) (by decide +kernel) rfl (by decide) rfl ?_
  refine ja_lv [1, 2, 3, 0] rfl ?_
  exact w_Model_merges_L2 C  ja_FU x0 x1 x2 (0 : Int32) sg h0 hf
