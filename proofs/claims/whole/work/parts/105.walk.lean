def f_Sheet_mergeLever_L47  : Nat → Nat → Int32 → Int32 → Int32 → ja_S → Option (ja_S)
  | 0, _, _, _, _, _ => none
  | n + 1, x0, x1, x2, x3, sg => (if (sg.1 x0 5) ≤ x3 then some sg else (ja_ld ja_L0 sg (ja_q x0 4) x3).bind fun v1 => (if ((v1 >>> (x1 &&& 31)) &&& (1 : Int32)) = (1 : Int32) then (ja_ld ja_L0 sg (ja_q x0 4) x3).bind fun v2 => (ja_st ja_L0 sg (ja_q x0 4) x3 ((v2 &&& (((1 : Int32) <<< (x1 &&& 31)) ^^^ (-1 : Int32))) ||| ((1 : Int32) <<< (x2 &&& 31)))).bind fun s3 => f_Sheet_mergeLever_L47  n x0 x1 x2 (x3 + 1) s3 else f_Sheet_mergeLever_L47  n x0 x1 x2 (x3 + 1) sg))
set_option maxRecDepth 4000 in
theorem w_Sheet_mergeLever_L47 (C : ja_C) {w : ja_S}    (n : Nat) : ∀ (x0 : Nat) (x1 : Int32) (x2 : Int32) (x3 : Int32) (sg : ja_S), ja_ob ja_L0 5 x0 → f_Sheet_mergeLever_L47  n x0 x1 x2 x3 sg = some w → ja_J M_Sheet_mergeLever C 47 [(0, .ref x0), (1, .int x1), (2, .int x2), (3, .int x3)] [] ja_L0 sg (none, ja_L0, w) := by
  induction n with
  | zero => intro _ _ _ _ _ _ hf; exact absurd (show (none : Option _) = some w from hf) (by simp)
  | succ n ih =>
    intro x0 x1 x2 x3 sg h0 hf
    unfold f_Sheet_mergeLever_L47 at hf
    refine ja_iload_n (pc := 47) (f := 3) (i := 3) 3 (by decide +kernel) rfl rfl ?_
    refine ja_aload_n (pc := 48) (f := 0) (i := 0) 0 (by decide +kernel) rfl rfl ?_
    refine ja_geti (pc := 49) (idx := 28) (t := 5) (j := 5) (by decide +kernel) fd_Sheet_28 h0 ?_
    refine ja_icmp_ge (pc := 52) (off := 45) 97 (by decide +kernel) (by decide) hf (fun hf => ?_) (fun hf => ?_)
    · exact ja_ret (pc := 97) none .return_ (by decide +kernel) rfl (by cases hf; rfl)
    · refine ja_aload_n (pc := 55) (f := 0) (i := 0) 0 (by decide +kernel) rfl rfl ?_
      refine ja_getr (pc := 56) (idx := 25) (t := 5) (j := 4) (by decide +kernel) fd_Sheet_25 h0 (fr_5_4 h0) ?_
      refine ja_iload_n (pc := 59) (f := 3) (i := 3) 3 (by decide +kernel) rfl rfl ?_
      refine ja_bind hf (fun v1 hv1 hf => ?_)
      refine ja_iald (pc := 60) (by decide +kernel) (fk_5_4 h0) hv1 ?_
      refine ja_iload_n (pc := 61) (f := 1) (i := 1) 1 (by decide +kernel) rfl rfl ?_
      refine ja_ishr (pc := 62) (by decide +kernel) ?_
      refine ja_iconst (pc := 63) (n := 1) (v := 1) (by decide +kernel) (by decide +kernel) ?_
      refine ja_iand (pc := 64) (by decide +kernel) ?_
      refine ja_iconst (pc := 65) (n := 1) (v := 1) (by decide +kernel) (by decide +kernel) ?_
      refine ja_icmp_ne (pc := 66) (off := 25) 91 (by decide +kernel) (by decide) hf (fun hf => ?_) (fun hf => ?_)
      · refine ja_iinc (pc := 91) (i := 3) (n := 1) (v := x3 + 1) (lv' := [(3, .int (x3 + 1)), (0, .ref x0), (1, .int x1), (2, .int x2)]) 3 (by decide +kernel) rfl rfl (by decide) rfl ?_
        refine ja_goto (pc := 94) (off := (-47)) 47 (by decide +kernel) (by decide) ?_
        refine ja_lv [1, 2, 3, 0] rfl ?_
        exact ih x0 x1 x2 (x3 + 1) sg h0 hf
      · refine ja_aload_n (pc := 69) (f := 0) (i := 0) 0 (by decide +kernel) rfl rfl ?_
        refine ja_getr (pc := 70) (idx := 25) (t := 5) (j := 4) (by decide +kernel) fd_Sheet_25 h0 (fr_5_4 h0) ?_
        refine ja_iload_n (pc := 73) (f := 3) (i := 3) 3 (by decide +kernel) rfl rfl ?_
        refine ja_aload_n (pc := 74) (f := 0) (i := 0) 0 (by decide +kernel) rfl rfl ?_
        refine ja_getr (pc := 75) (idx := 25) (t := 5) (j := 4) (by decide +kernel) fd_Sheet_25 h0 (fr_5_4 h0) ?_
        refine ja_iload_n (pc := 78) (f := 3) (i := 3) 3 (by decide +kernel) rfl rfl ?_
        refine ja_bind hf (fun v2 hv2 hf => ?_)
        refine ja_iald (pc := 79) (by decide +kernel) (fk_5_4 h0) hv2 ?_
        refine ja_iconst (pc := 80) (n := 1) (v := 1) (by decide +kernel) (by decide +kernel) ?_
        refine ja_iload_n (pc := 81) (f := 1) (i := 1) 1 (by decide +kernel) rfl rfl ?_
        refine ja_ishl (pc := 82) (by decide +kernel) ?_
        refine ja_iconst (pc := 83) (n := (-1)) (v := (-1)) (by decide +kernel) (by decide +kernel) ?_
        refine ja_ixor (pc := 84) (by decide +kernel) ?_
        refine ja_iand (pc := 85) (by decide +kernel) ?_
        refine ja_iconst (pc := 86) (n := 1) (v := 1) (by decide +kernel) (by decide +kernel) ?_
        refine ja_iload_n (pc := 87) (f := 2) (i := 2) 2 (by decide +kernel) rfl rfl ?_
        refine ja_ishl (pc := 88) (by decide +kernel) ?_
        refine ja_ior (pc := 89) (by decide +kernel) ?_
        refine ja_bind hf (fun s3 hs3 hf => ?_)
        refine ja_iast (pc := 90) (by decide +kernel) (fk_5_4 h0) hs3 ?_
        refine ja_iinc (pc := 91) (i := 3) (n := 1) (v := x3 + 1) (lv' := [(3, .int (x3 + 1)), (0, .ref x0), (1, .int x1), (2, .int x2)]) 3 (by decide +kernel) rfl rfl (by decide) rfl ?_
        refine ja_goto (pc := 94) (off := (-47)) 47 (by decide +kernel) (by decide) ?_
        refine ja_lv [1, 2, 3, 0] rfl ?_
        exact ih x0 x1 x2 (x3 + 1) s3 h0 hf
def f_Sheet_mergeLever_L14  : Nat → Nat → Int32 → Int32 → Int32 → ja_S → Option (ja_S)
  | 0, _, _, _, _, _ => none
  | n + 1, x0, x1, x2, x3, sg => (if (sg.1 x0 3) ≤ x3 then f_Sheet_mergeLever_L47  ja_FU x0 x1 x2 (0 : Int32) sg else (ja_ld ja_L0 sg (ja_q x0 2) x3).bind fun v1 => (f_Rule_withLeverReplaced v1 x1 x2 sg).bind fun v2 => (ja_st ja_L0 v2.2 (ja_q x0 2) x3 v2.1).bind fun s3 => f_Sheet_mergeLever_L14  n x0 x1 x2 (x3 + 1) s3)
set_option maxRecDepth 4000 in
theorem w_Sheet_mergeLever_L14 (C : ja_C) {w : ja_S}    (n : Nat) : ∀ (x0 : Nat) (x1 : Int32) (x2 : Int32) (x3 : Int32) (sg : ja_S), ja_ob ja_L0 5 x0 → f_Sheet_mergeLever_L14  n x0 x1 x2 x3 sg = some w → ja_J M_Sheet_mergeLever C 14 [(0, .ref x0), (1, .int x1), (2, .int x2), (3, .int x3)] [] ja_L0 sg (none, ja_L0, w) := by
  induction n with
  | zero => intro _ _ _ _ _ _ hf; exact absurd (show (none : Option _) = some w from hf) (by simp)
  | succ n ih =>
    intro x0 x1 x2 x3 sg h0 hf
    unfold f_Sheet_mergeLever_L14 at hf
    refine ja_iload_n (pc := 14) (f := 3) (i := 3) 3 (by decide +kernel) rfl rfl ?_
    refine ja_aload_n (pc := 15) (f := 0) (i := 0) 0 (by decide +kernel) rfl rfl ?_
    refine ja_geti (pc := 16) (idx := 22) (t := 5) (j := 3) (by decide +kernel) fd_Sheet_22 h0 ?_
    refine ja_icmp_ge (pc := 19) (off := 26) 45 (by decide +kernel) (by decide) hf (fun hf => ?_) (fun hf => ?_)
    · refine ja_iconst (pc := 45) (n := 0) (v := 0) (by decide +kernel) (by decide +kernel) ?_
      refine ja_istore_n (pc := 46) (f := 3) (i := 3) (lv' := [(3, .int (0 : Int32)), (0, .ref x0), (1, .int x1), (2, .int x2)]) (by decide +kernel) rfl (by decide) rfl ?_
      refine ja_lv [1, 2, 3, 0] rfl ?_
      exact w_Sheet_mergeLever_L47 C  ja_FU x0 x1 x2 (0 : Int32) sg h0 hf
    · refine ja_aload_n (pc := 22) (f := 0) (i := 0) 0 (by decide +kernel) rfl rfl ?_
      refine ja_getr (pc := 23) (idx := 18) (t := 5) (j := 2) (by decide +kernel) fd_Sheet_18 h0 (fr_5_2 h0) ?_
      refine ja_iload_n (pc := 26) (f := 3) (i := 3) 3 (by decide +kernel) rfl rfl ?_
      refine ja_aload_n (pc := 27) (f := 0) (i := 0) 0 (by decide +kernel) rfl rfl ?_
      refine ja_getr (pc := 28) (idx := 18) (t := 5) (j := 2) (by decide +kernel) fd_Sheet_18 h0 (fr_5_2 h0) ?_
      refine ja_iload_n (pc := 31) (f := 3) (i := 3) 3 (by decide +kernel) rfl rfl ?_
      refine ja_bind hf (fun v1 hv1 hf => ?_)
      refine ja_iald (pc := 32) (by decide +kernel) (fk_5_2 h0) hv1 ?_
      refine ja_iload_n (pc := 33) (f := 1) (i := 1) 1 (by decide +kernel) rfl rfl ?_
      refine ja_iload_n (pc := 34) (f := 2) (i := 2) 2 (by decide +kernel) rfl rfl ?_
      refine ja_bind hf (fun v2 hv2 hf => ?_)
      refine ja_callSi (pc := 35) (idx := 93) (as := [.int v1, .int x1, .int x2]) (st := [.int x3, .ref (ja_q x0 2)]) (by decide +kernel) ks_Rule_withLeverReplaced lk_Sheet_93 ⟨by decide, by decide⟩ (c_Rule_withLeverReplaced _ _ v1 x1 x2  hv2) rfl (Nat.le_of_ble_eq_true rfl) rfl ?_
      refine ja_bind hf (fun s3 hs3 hf => ?_)
      refine ja_iast (pc := 38) (by decide +kernel) (fk_5_2 h0) hs3 ?_
      refine ja_iinc (pc := 39) (i := 3) (n := 1) (v := x3 + 1) (lv' := [(3, .int (x3 + 1)), (0, .ref x0), (1, .int x1), (2, .int x2)]) 3 (by decide +kernel) rfl rfl (by decide) rfl ?_
      refine ja_goto (pc := 42) (off := (-28)) 14 (by decide +kernel) (by decide) ?_
      refine ja_lv [1, 2, 3, 0] rfl ?_
      exact ih x0 x1 x2 (x3 + 1) s3 h0 hf
def f_Sheet_mergeLever (x0 : Nat) (x1 : Int32) (x2 : Int32) (sg : ja_S) : Option (ja_S) := (ja_pu sg x0 1 ((sg.1 x0 1) ||| ((1 : Int32) <<< (x1 &&& 31)))).bind fun s1 => f_Sheet_mergeLever_L14  ja_FU x0 x1 x2 (0 : Int32) s1
set_option maxRecDepth 4000 in
theorem c_Sheet_mergeLever (l : Launch) (x : ja_X) (x0 : Nat) (x1 : Int32) (x2 : Int32) {sg : ja_S} {w : ja_S} (h0 : ja_ob ja_L0 5 x0) (hf : f_Sheet_mergeLever x0 x1 x2 sg = some w) : ja_Ct l x y_Sheet_mergeLever M_Sheet_mergeLever [.ref x0, .int x1, .int x2] ja_L0 sg (none, ja_L0, w) := by
  refine ja_mk ⟨by decide, rfl, rfl⟩ (Nat.le_of_ble_eq_true rfl) (lv := [(0, .ref x0), (1, .int x1), (2, .int x2)]) rfl (fun C hl hx _ _ _ _ => ?_)
  subst hl; subst hx
  unfold f_Sheet_mergeLever at hf
  refine ja_aload_n (pc := 0) (f := 0) (i := 0) 0 (by decide +kernel) rfl rfl ?_
  refine ja_dup (pc := 1) (by decide +kernel) rfl ?_
  refine ja_geti (pc := 2) (idx := 15) (t := 5) (j := 1) (by decide +kernel) fd_Sheet_15 h0 ?_
  refine ja_iconst (pc := 5) (n := 1) (v := 1) (by decide +kernel) (by decide +kernel) ?_
  refine ja_iload_n (pc := 6) (f := 1) (i := 1) 1 (by decide +kernel) rfl rfl ?_
  refine ja_ishl (pc := 7) (by decide +kernel) ?_
  refine ja_ior (pc := 8) (by decide +kernel) ?_
  refine ja_bind hf (fun s1 hs1 hf => ?_)
  refine ja_puti2 (pc := 9) (idx := 15) (t := 5) (j := 1) (by decide +kernel) fd_Sheet_15 h0 ⟨rfl, rfl⟩ hs1 ?_
  refine ja_iconst (pc := 12) (n := 0) (v := 0) (by decide +kernel) (by decide +kernel) ?_
  refine ja_istore_n (pc := 13) (f := 3) (i := 3) (lv' := [(3, .int (0 : Int32)), (0, .ref x0), (1, .int x1), (2, .int x2)]) (by decide +kernel) rfl (by decide) rfl ?_
  refine ja_lv [1, 2, 3, 0] rfl ?_
  exact w_Sheet_mergeLever_L14 C  ja_FU x0 x1 x2 (0 : Int32) s1 h0 hf
def f_Merger_attempt (x0 : Nat) (x1 : Nat) (x2 : Int32) (x3 : Int32) (sg : ja_S) : Option (ja_S) := (f_Sheet_copyFrom (ja_q x0 2) (ja_q x0 1) sg).bind fun v1 => (f_Sheet_mergeLever (ja_q x0 2) x3 x2 v1).bind fun v2 => (f_Sheet_allRules (ja_q x0 2) v2).bind fun v3 => (f_Locking_enforceAll (ja_q x1 0) (ja_q x0 2) v3.1 v3.2).bind fun v4 => (f_Sheet_movableLevers (ja_q x0 2) v4).bind fun v5 => (f_Search_explore x1 (0 : Int32) v5.1 v5.2).bind fun v6 => some v6
set_option maxRecDepth 4000 in
theorem c_Merger_attempt (l : Launch) (x : ja_X) (x0 : Nat) (x1 : Nat) (x2 : Int32) (x3 : Int32) {sg : ja_S} {w : ja_S} (h0 : ja_ob ja_L0 3 x0) (h1 : ja_ob ja_L0 4 x1) (hf : f_Merger_attempt x0 x1 x2 x3 sg = some w) : ja_Ct l x y_Merger_attempt M_Merger_attempt [.ref x0, .ref x1, .int x2, .int x3] ja_L0 sg (none, ja_L0, w) := by
  refine ja_mk ⟨by decide, rfl, rfl⟩ (Nat.le_of_ble_eq_true rfl) (lv := [(0, .ref x0), (1, .ref x1), (2, .int x2), (3, .int x3)]) rfl (fun C hl hx _ _ _ _ => ?_)
  subst hl; subst hx
  unfold f_Merger_attempt at hf
  refine ja_aload_n (pc := 0) (f := 0) (i := 0) 0 (by decide +kernel) rfl rfl ?_
  refine ja_getr (pc := 1) (idx := 18) (t := 3) (j := 2) (by decide +kernel) fd_Merger_18 h0 (fr_3_2 h0) ?_
  refine ja_aload_n (pc := 4) (f := 0) (i := 0) 0 (by decide +kernel) rfl rfl ?_
  refine ja_getr (pc := 5) (idx := 12) (t := 3) (j := 1) (by decide +kernel) fd_Merger_12 h0 (fr_3_1 h0) ?_
  refine ja_bind hf (fun v1 hv1 hf => ?_)
  refine ja_callVv (pc := 8) (idx := 28) (t := 5) (b := (ja_q x0 2)) (as := [.ref (ja_q x0 1)]) (st := []) (by decide +kernel) kv_Sheet_copyFrom lk_Merger_28 ⟨by decide, by decide⟩ (c_Sheet_copyFrom _ _ (ja_q x0 2) (ja_q x0 1) (fk_3_2 h0) (fk_3_1 h0) hv1) (fk_3_2 h0) rfl (Nat.le_of_ble_eq_true rfl) rfl ?_
  refine ja_aload_n (pc := 11) (f := 0) (i := 0) 0 (by decide +kernel) rfl rfl ?_
  refine ja_getr (pc := 12) (idx := 18) (t := 3) (j := 2) (by decide +kernel) fd_Merger_18 h0 (fr_3_2 h0) ?_
  refine ja_iload_n (pc := 15) (f := 3) (i := 3) 3 (by decide +kernel) rfl rfl ?_
  refine ja_iload_n (pc := 16) (f := 2) (i := 2) 2 (by decide +kernel) rfl rfl ?_
  refine ja_bind hf (fun v2 hv2 hf => ?_)
  refine ja_callVv (pc := 17) (idx := 39) (t := 5) (b := (ja_q x0 2)) (as := [.int x3, .int x2]) (st := []) (by decide +kernel) kv_Sheet_mergeLever lk_Merger_39 ⟨by decide, by decide⟩ (c_Sheet_mergeLever _ _ (ja_q x0 2) x3 x2 (fk_3_2 h0) hv2) (fk_3_2 h0) rfl (Nat.le_of_ble_eq_true rfl) rfl ?_
  refine ja_aload_n (pc := 20) (f := 1) (i := 1) 1 (by decide +kernel) rfl rfl ?_
  refine ja_getr (pc := 21) (idx := 43) (t := 4) (j := 0) (by decide +kernel) fd_Merger_43 h1 (fr_4_0 h1) ?_
  refine ja_aload_n (pc := 24) (f := 0) (i := 0) 0 (by decide +kernel) rfl rfl ?_
  refine ja_getr (pc := 25) (idx := 18) (t := 3) (j := 2) (by decide +kernel) fd_Merger_18 h0 (fr_3_2 h0) ?_
  refine ja_aload_n (pc := 28) (f := 0) (i := 0) 0 (by decide +kernel) rfl rfl ?_
  refine ja_getr (pc := 29) (idx := 18) (t := 3) (j := 2) (by decide +kernel) fd_Merger_18 h0 (fr_3_2 h0) ?_
  refine ja_bind hf (fun v3 hv3 hf => ?_)
  refine ja_callVi (pc := 32) (idx := 49) (t := 5) (b := (ja_q x0 2)) (as := []) (st := [.ref (ja_q x0 2), .ref (ja_q x1 0)]) (by decide +kernel) kv_Sheet_allRules lk_Merger_49 ⟨by decide, by decide⟩ (c_Sheet_allRules _ _ (ja_q x0 2) (fk_3_2 h0) hv3) (fk_3_2 h0) rfl (Nat.le_of_ble_eq_true rfl) rfl ?_
  refine ja_bind hf (fun v4 hv4 hf => ?_)
  refine ja_callVv (pc := 35) (idx := 53) (t := 2) (b := (ja_q x1 0)) (as := [.ref (ja_q x0 2), .int v3.1]) (st := []) (by decide +kernel) kv_Locking_enforceAll lk_Merger_53 ⟨by decide, by decide⟩ (c_Locking_enforceAll _ _ (ja_q x1 0) (ja_q x0 2) v3.1 (fk_4_0 h1) (fk_3_2 h0) hv4) (fk_4_0 h1) rfl (Nat.le_of_ble_eq_true rfl) rfl ?_
  refine ja_aload_n (pc := 38) (f := 1) (i := 1) 1 (by decide +kernel) rfl rfl ?_
  refine ja_iconst (pc := 39) (n := 0) (v := 0) (by decide +kernel) (by decide +kernel) ?_
  refine ja_aload_n (pc := 40) (f := 0) (i := 0) 0 (by decide +kernel) rfl rfl ?_
  refine ja_getr (pc := 41) (idx := 18) (t := 3) (j := 2) (by decide +kernel) fd_Merger_18 h0 (fr_3_2 h0) ?_
  refine ja_bind hf (fun v5 hv5 hf => ?_)
  refine ja_callVi (pc := 44) (idx := 59) (t := 5) (b := (ja_q x0 2)) (as := []) (st := [.int (0 : Int32), .ref x1]) (by decide +kernel) kv_Sheet_movableLevers lk_Merger_59 ⟨by decide, by decide⟩ (c_Sheet_movableLevers _ _ (ja_q x0 2) (fk_3_2 h0) hv5) (fk_3_2 h0) rfl (Nat.le_of_ble_eq_true rfl) rfl ?_
  refine ja_bind hf (fun v6 hv6 hf => ?_)
  refine ja_callVv (pc := 47) (idx := 62) (t := 4) (b := x1) (as := [.int (0 : Int32), .int v5.1]) (st := []) (by decide +kernel) kv_Search_explore lk_Merger_62 ⟨by decide, by decide⟩ (c_Search_explore _ _ x1 (0 : Int32) v5.1 h1 hv6) h1 rfl (Nat.le_of_ble_eq_true rfl) rfl ?_
  exact ja_ret (pc := 50) none .return_ (by decide +kernel) rfl (by cases hf; rfl)
def f_Frame_countMerged (x0 : Nat) (x1 : Int32) (x2 : Int32) (sg : ja_S) : Option (Int32 × ja_S) := (f_Sheet_hasLever (ja_q x0 3) x1 sg).bind fun v1 => (if v1.1 = 0 then some ((-2 : Int32), v1.2) else (f_Sheet_hasLever (ja_q x0 3) x2 v1.2).bind fun v2 => (if v2.1 = 0 then some ((-2 : Int32), v2.2) else (if x1 = x2 then some ((-3 : Int32), v2.2) else (f_Frame_searchedHome x0 v2.2).bind fun v3 => (f_Merger_begin (ja_q x0 0) (ja_q x0 3) (ja_q x0 7) v3).bind fun v4 => (f_Merger_attempt (ja_q x0 0) (ja_q x0 9) (if x2 < x1 then x2 else x1) (if x1 < x2 then x2 else x1) v4).bind fun v5 => some (v5.1 (ja_q x0 9) 1, v5))))
set_option maxRecDepth 4000 in
theorem c_Frame_countMerged (l : Launch) (x : ja_X) (x0 : Nat) (x1 : Int32) (x2 : Int32) {sg : ja_S} {w : Int32 × ja_S} (h0 : ja_ob ja_L0 7 x0) (hf : f_Frame_countMerged x0 x1 x2 sg = some w) : ja_Ct l x y_Frame_countMerged M_Frame_countMerged [.ref x0, .int x1, .int x2] ja_L0 sg (some (.int w.1), ja_L0, w.2) := by
  refine ja_mk ⟨by decide, rfl, rfl⟩ (Nat.le_of_ble_eq_true rfl) (lv := [(0, .ref x0), (1, .int x1), (2, .int x2)]) rfl (fun C hl hx _ _ _ _ => ?_)
  subst hl; subst hx
  unfold f_Frame_countMerged at hf
  refine ja_aload_n (pc := 0) (f := 0) (i := 0) 0 (by decide +kernel) rfl rfl ?_
  refine ja_getr (pc := 1) (idx := 19) (t := 7) (j := 3) (by decide +kernel) fd_Frame_19 h0 (fr_7_3 h0) ?_
  refine ja_iload_n (pc := 4) (f := 1) (i := 1) 1 (by decide +kernel) rfl rfl ?_
  refine ja_bind hf (fun v1 hv1 hf => ?_)
  refine ja_callVi (pc := 5) (idx := 143) (t := 5) (b := (ja_q x0 3)) (as := [.int x1]) (st := []) (by decide +kernel) kv_Sheet_hasLever lk_Frame_143 ⟨by decide, by decide⟩ (c_Sheet_hasLever _ _ (ja_q x0 3) x1 (fk_7_3 h0) hv1) (fk_7_3 h0) rfl (Nat.le_of_ble_eq_true rfl) rfl ?_
  refine ja_if_eq (pc := 8) (off := 14) 22 (by decide +kernel) (by decide) hf (fun hf => ?_) (fun hf => ?_)
  · refine ja_bipush (pc := 22) (n := (-2)) (v := (-2)) (by decide +kernel) (by decide +kernel) ?_
    exact ja_ret (pc := 24) (some (.int (-2 : Int32))) .ireturn (by decide +kernel) rfl (by cases hf; rfl)
  · refine ja_aload_n (pc := 11) (f := 0) (i := 0) 0 (by decide +kernel) rfl rfl ?_
    refine ja_getr (pc := 12) (idx := 19) (t := 7) (j := 3) (by decide +kernel) fd_Frame_19 h0 (fr_7_3 h0) ?_
    refine ja_iload_n (pc := 15) (f := 2) (i := 2) 2 (by decide +kernel) rfl rfl ?_
    refine ja_bind hf (fun v2 hv2 hf => ?_)
    refine ja_callVi (pc := 16) (idx := 143) (t := 5) (b := (ja_q x0 3)) (as := [.int x2]) (st := []) (by decide +kernel) kv_Sheet_hasLever lk_Frame_143 ⟨by decide, by decide⟩ (c_Sheet_hasLever _ _ (ja_q x0 3) x2 (fk_7_3 h0) hv2) (fk_7_3 h0) rfl (Nat.le_of_ble_eq_true rfl) rfl ?_
    refine ja_if_ne (pc := 19) (off := 6) 25 (by decide +kernel) (by decide) hf (fun hf => ?_) (fun hf => ?_)
    · refine ja_iload_n (pc := 25) (f := 1) (i := 1) 1 (by decide +kernel) rfl rfl ?_
      refine ja_iload_n (pc := 26) (f := 2) (i := 2) 2 (by decide +kernel) rfl rfl ?_
      refine ja_icmp_ne (pc := 27) (off := 6) 33 (by decide +kernel) (by decide) hf (fun hf => ?_) (fun hf => ?_)
      · refine ja_aload_n (pc := 33) (f := 0) (i := 0) 0 (by decide +kernel) rfl rfl ?_
        refine ja_getr (pc := 34) (idx := 61) (t := 7) (j := 0) (by decide +kernel) fd_Frame_61 h0 (fr_7_0 h0) ?_
        refine ja_aload_n (pc := 37) (f := 0) (i := 0) 0 (by decide +kernel) rfl rfl ?_
        refine ja_getr (pc := 38) (idx := 19) (t := 7) (j := 3) (by decide +kernel) fd_Frame_19 h0 (fr_7_3 h0) ?_
        refine ja_aload_n (pc := 41) (f := 0) (i := 0) 0 (by decide +kernel) rfl rfl ?_
        refine ja_bind hf (fun v3 hv3 hf => ?_)
        refine ja_callVr (pc := 42) (idx := 190) (t := 7) (b := x0) (as := []) (st := [.ref (ja_q x0 3), .ref (ja_q x0 0)]) (by decide +kernel) kv_Frame_searchedHome lk_Frame_190 ⟨by decide, by decide⟩ (c_Frame_searchedHome _ _ x0 h0 hv3) h0 rfl (Nat.le_of_ble_eq_true rfl) rfl ?_
        refine ja_bind hf (fun v4 hv4 hf => ?_)
        refine ja_callVv (pc := 45) (idx := 278) (t := 3) (b := (ja_q x0 0)) (as := [.ref (ja_q x0 3), .ref (ja_q x0 7)]) (st := []) (by decide +kernel) kv_Merger_begin lk_Frame_278 ⟨by decide, by decide⟩ (c_Merger_begin _ _ (ja_q x0 0) (ja_q x0 3) (ja_q x0 7) (fk_7_0 h0) (fk_7_3 h0) (fk_7_7 h0) hv4) (fk_7_0 h0) rfl (Nat.le_of_ble_eq_true rfl) rfl ?_
        refine ja_aload_n (pc := 48) (f := 0) (i := 0) 0 (by decide +kernel) rfl rfl ?_
        refine ja_getr (pc := 49) (idx := 61) (t := 7) (j := 0) (by decide +kernel) fd_Frame_61 h0 (fr_7_0 h0) ?_
        refine ja_aload_n (pc := 52) (f := 0) (i := 0) 0 (by decide +kernel) rfl rfl ?_
        refine ja_getr (pc := 53) (idx := 48) (t := 7) (j := 9) (by decide +kernel) fd_Frame_48 h0 (fr_7_9 h0) ?_
        refine ja_iload_n (pc := 56) (f := 1) (i := 1) 1 (by decide +kernel) rfl rfl ?_
        refine ja_iload_n (pc := 57) (f := 2) (i := 2) 2 (by decide +kernel) rfl rfl ?_
        refine ja_min (pc := 58) (idx := 300) (by decide +kernel) km_Frame_300 ⟨by decide, by decide⟩ (Nat.le_of_ble_eq_true rfl) ?_
        refine ja_iload_n (pc := 61) (f := 1) (i := 1) 1 (by decide +kernel) rfl rfl ?_
        refine ja_iload_n (pc := 62) (f := 2) (i := 2) 2 (by decide +kernel) rfl rfl ?_
        refine ja_max (pc := 63) (idx := 305) (by decide +kernel) km_Frame_305 ⟨by decide, by decide⟩ (Nat.le_of_ble_eq_true rfl) ?_
        refine ja_bind hf (fun v5 hv5 hf => ?_)
        refine ja_callVv (pc := 66) (idx := 308) (t := 3) (b := (ja_q x0 0)) (as := [.ref (ja_q x0 9), .int (if x2 < x1 then x2 else x1), .int (if x1 < x2 then x2 else x1)]) (st := []) (by decide +kernel) kv_Merger_attempt lk_Frame_308 ⟨by decide, by decide⟩ (c_Merger_attempt _ _ (ja_q x0 0) (ja_q x0 9) (if x2 < x1 then x2 else x1) (if x1 < x2 then x2 else x1) (fk_7_0 h0) (fk_7_9 h0) hv5) (fk_7_0 h0) rfl (Nat.le_of_ble_eq_true rfl) rfl ?_
        refine ja_aload_n (pc := 69) (f := 0) (i := 0) 0 (by decide +kernel) rfl rfl ?_
        refine ja_getr (pc := 70) (idx := 48) (t := 7) (j := 9) (by decide +kernel) fd_Frame_48 h0 (fr_7_9 h0) ?_
        refine ja_geti (pc := 73) (idx := 194) (t := 4) (j := 1) (by decide +kernel) fd_Frame_194 (fk_7_9 h0) ?_
        exact ja_ret (pc := 76) (some (.int (v5.1 (ja_q x0 9) 1))) .ireturn (by decide +kernel) rfl (by cases hf; rfl)
      · refine ja_bipush (pc := 30) (n := (-3)) (v := (-3)) (by decide +kernel) (by decide +kernel) ?_
        exact ja_ret (pc := 32) (some (.int (-3 : Int32))) .ireturn (by decide +kernel) rfl (by cases hf; rfl)
    · refine ja_bipush (pc := 22) (n := (-2)) (v := (-2)) (by decide +kernel) (by decide +kernel) ?_
      exact ja_ret (pc := 24) (some (.int (-2 : Int32))) .ireturn (by decide +kernel) rfl (by cases hf; rfl)
def f_Merger_keepsRoutesAndConflicts (x0 : Nat) (x1 : Nat) (sg : ja_S) : Option (Int32 × ja_S) := (f_Sheet_settableRoutes (ja_q x0 2) x1 sg).bind fun v1 => (if ((sg.1 x0 3) &&& (v1.1 ^^^ (-1 : Int32))) = 0 then (f_Sheet_openConflicts (ja_q x0 2) x1 v1.2).bind fun v2 => (if (v2.1 &&& ((v2.2.1 x0 0) ^^^ (-1 : Int32))) = 0 then some ((1 : Int32), v2.2) else some ((0 : Int32), v2.2)) else some ((0 : Int32), v1.2))
set_option maxRecDepth 4000 in
theorem c_Merger_keepsRoutesAndConflicts (l : Launch) (x : ja_X) (x0 : Nat) (x1 : Nat) {sg : ja_S} {w : Int32 × ja_S} (h0 : ja_ob ja_L0 3 x0) (h1 : ja_ob ja_L0 4 x1) (hf : f_Merger_keepsRoutesAndConflicts x0 x1 sg = some w) : ja_Ct l x y_Merger_keepsRoutesAndConflicts M_Merger_keepsRoutesAndConflicts [.ref x0, .ref x1] ja_L0 sg (some (.int w.1), ja_L0, w.2) := by
  refine ja_mk ⟨by decide, rfl, rfl⟩ (Nat.le_of_ble_eq_true rfl) (lv := [(0, .ref x0), (1, .ref x1)]) rfl (fun C hl hx _ _ _ _ => ?_)
  subst hl; subst hx
  unfold f_Merger_keepsRoutesAndConflicts at hf
  refine ja_aload_n (pc := 0) (f := 0) (i := 0) 0 (by decide +kernel) rfl rfl ?_
  refine ja_geti (pc := 1) (idx := 21) (t := 3) (j := 3) (by decide +kernel) fd_Merger_21 h0 ?_
  refine ja_aload_n (pc := 4) (f := 0) (i := 0) 0 (by decide +kernel) rfl rfl ?_
  refine ja_getr (pc := 5) (idx := 18) (t := 3) (j := 2) (by decide +kernel) fd_Merger_18 h0 (fr_3_2 h0) ?_
  refine ja_aload_n (pc := 8) (f := 1) (i := 1) 1 (by decide +kernel) rfl rfl ?_
  refine ja_bind hf (fun v1 hv1 hf => ?_)
  refine ja_callVi (pc := 9) (idx := 32) (t := 5) (b := (ja_q x0 2)) (as := [.ref x1]) (st := [.int (sg.1 x0 3)]) (by decide +kernel) kv_Sheet_settableRoutes lk_Merger_32 ⟨by decide, by decide⟩ (c_Sheet_settableRoutes _ _ (ja_q x0 2) x1 (fk_3_2 h0) h1 hv1) (fk_3_2 h0) rfl (Nat.le_of_ble_eq_true rfl) rfl ?_
  refine ja_iconst (pc := 12) (n := (-1)) (v := (-1)) (by decide +kernel) (by decide +kernel) ?_
  refine ja_ixor (pc := 13) (by decide +kernel) ?_
  refine ja_iand (pc := 14) (by decide +kernel) ?_
  refine ja_if_ne (pc := 15) (off := 25) 40 (by decide +kernel) (by decide) hf (fun hf => ?_) (fun hf => ?_)
  · refine ja_iconst (pc := 40) (n := 0) (v := 0) (by decide +kernel) (by decide +kernel) ?_
    exact ja_ret (pc := 41) (some (.int (0 : Int32))) .ireturn (by decide +kernel) rfl (by cases hf; rfl)
  · refine ja_aload_n (pc := 18) (f := 0) (i := 0) 0 (by decide +kernel) rfl rfl ?_
    refine ja_getr (pc := 19) (idx := 18) (t := 3) (j := 2) (by decide +kernel) fd_Merger_18 h0 (fr_3_2 h0) ?_
    refine ja_aload_n (pc := 22) (f := 1) (i := 1) 1 (by decide +kernel) rfl rfl ?_
    refine ja_bind hf (fun v2 hv2 hf => ?_)
    refine ja_callVi (pc := 23) (idx := 36) (t := 5) (b := (ja_q x0 2)) (as := [.ref x1]) (st := []) (by decide +kernel) kv_Sheet_openConflicts lk_Merger_36 ⟨by decide, by decide⟩ (c_Sheet_openConflicts _ _ (ja_q x0 2) x1 (fk_3_2 h0) h1 hv2) (fk_3_2 h0) rfl (Nat.le_of_ble_eq_true rfl) rfl ?_
    refine ja_aload_n (pc := 26) (f := 0) (i := 0) 0 (by decide +kernel) rfl rfl ?_
    refine ja_geti (pc := 27) (idx := 25) (t := 3) (j := 0) (by decide +kernel) fd_Merger_25 h0 ?_
    refine ja_iconst (pc := 30) (n := (-1)) (v := (-1)) (by decide +kernel) (by decide +kernel) ?_
    refine ja_ixor (pc := 31) (by decide +kernel) ?_
    refine ja_iand (pc := 32) (by decide +kernel) ?_
    refine ja_if_ne (pc := 33) (off := 7) 40 (by decide +kernel) (by decide) hf (fun hf => ?_) (fun hf => ?_)
    · refine ja_iconst (pc := 40) (n := 0) (v := 0) (by decide +kernel) (by decide +kernel) ?_
      exact ja_ret (pc := 41) (some (.int (0 : Int32))) .ireturn (by decide +kernel) rfl (by cases hf; rfl)
    · refine ja_iconst (pc := 36) (n := 1) (v := 1) (by decide +kernel) (by decide +kernel) ?_
      refine ja_goto (pc := 37) (off := 4) 41 (by decide +kernel) (by decide) ?_
      exact ja_ret (pc := 41) (some (.int (1 : Int32))) .ireturn (by decide +kernel) rfl (by cases hf; rfl)
def f_Frame_isMergeable (x0 : Nat) (x1 : Int32) (x2 : Int32) (sg : ja_S) : Option (Int32 × ja_S) := (f_Frame_countMerged x0 x1 x2 sg).bind fun v1 => (if 0 ≤ v1.1 then (f_Merger_keepsRoutesAndConflicts (ja_q x0 0) (ja_q x0 9) v1.2).bind fun v2 => (if v2.1 = 0 then some ((0 : Int32), v2.2) else some ((1 : Int32), v2.2)) else some (v1.1, v1.2))
set_option maxRecDepth 4000 in
theorem c_Frame_isMergeable (l : Launch) (x : ja_X) (x0 : Nat) (x1 : Int32) (x2 : Int32) {sg : ja_S} {w : Int32 × ja_S} (h0 : ja_ob ja_L0 7 x0) (hf : f_Frame_isMergeable x0 x1 x2 sg = some w) : ja_Ct l x y_Frame_isMergeable M_Frame_isMergeable [.ref x0, .int x1, .int x2] ja_L0 sg (some (.int w.1), ja_L0, w.2) := by
  refine ja_mk ⟨by decide, rfl, rfl⟩ (Nat.le_of_ble_eq_true rfl) (lv := [(0, .ref x0), (1, .int x1), (2, .int x2)]) rfl (fun C hl hx _ _ _ _ => ?_)
  subst hl; subst hx
  unfold f_Frame_isMergeable at hf
  refine ja_aload_n (pc := 0) (f := 0) (i := 0) 0 (by decide +kernel) rfl rfl ?_
  refine ja_iload_n (pc := 1) (f := 1) (i := 1) 1 (by decide +kernel) rfl rfl ?_
  refine ja_iload_n (pc := 2) (f := 2) (i := 2) 2 (by decide +kernel) rfl rfl ?_
  refine ja_bind hf (fun v1 hv1 hf => ?_)
  refine ja_callVi (pc := 3) (idx := 271) (t := 7) (b := x0) (as := [.int x1, .int x2]) (st := []) (by decide +kernel) kv_Frame_countMerged lk_Frame_271 ⟨by decide, by decide⟩ (c_Frame_countMerged _ _ x0 x1 x2 h0 hv1) h0 rfl (Nat.le_of_ble_eq_true rfl) rfl ?_
  refine ja_istore_n (pc := 6) (f := 3) (i := 3) (lv' := [(3, .int v1.1), (0, .ref x0), (1, .int x1), (2, .int x2)]) (by decide +kernel) rfl (by decide) rfl ?_
  refine ja_iload_n (pc := 7) (f := 3) (i := 3) 0 (by decide +kernel) rfl rfl ?_
  refine ja_if_ge (pc := 8) (off := 5) 13 (by decide +kernel) (by decide) hf (fun hf => ?_) (fun hf => ?_)
  · refine ja_aload_n (pc := 13) (f := 0) (i := 0) 1 (by decide +kernel) rfl rfl ?_
    refine ja_getr (pc := 14) (idx := 61) (t := 7) (j := 0) (by decide +kernel) fd_Frame_61 h0 (fr_7_0 h0) ?_
    refine ja_aload_n (pc := 17) (f := 0) (i := 0) 1 (by decide +kernel) rfl rfl ?_
    refine ja_getr (pc := 18) (idx := 48) (t := 7) (j := 9) (by decide +kernel) fd_Frame_48 h0 (fr_7_9 h0) ?_
    refine ja_bind hf (fun v2 hv2 hf => ?_)
    refine ja_callVi (pc := 21) (idx := 274) (t := 3) (b := (ja_q x0 0)) (as := [.ref (ja_q x0 9)]) (st := []) (by decide +kernel) kv_Merger_keepsRoutesAndConflicts lk_Frame_274 ⟨by decide, by decide⟩ (c_Merger_keepsRoutesAndConflicts _ _ (ja_q x0 0) (ja_q x0 9) (fk_7_0 h0) (fk_7_9 h0) hv2) (fk_7_0 h0) rfl (Nat.le_of_ble_eq_true rfl) rfl ?_
    refine ja_if_eq (pc := 24) (off := 7) 31 (by decide +kernel) (by decide) hf (fun hf => ?_) (fun hf => ?_)
    · refine ja_iconst (pc := 31) (n := 0) (v := 0) (by decide +kernel) (by decide +kernel) ?_
      exact ja_ret (pc := 32) (some (.int (0 : Int32))) .ireturn (by decide +kernel) rfl (by cases hf; rfl)
    · refine ja_iconst (pc := 27) (n := 1) (v := 1) (by decide +kernel) (by decide +kernel) ?_
      refine ja_goto (pc := 28) (off := 4) 32 (by decide +kernel) (by decide) ?_
      exact ja_ret (pc := 32) (some (.int (1 : Int32))) .ireturn (by decide +kernel) rfl (by cases hf; rfl)
  · refine ja_iload_n (pc := 11) (f := 3) (i := 3) 0 (by decide +kernel) rfl rfl ?_
    exact ja_ret (pc := 12) (some (.int v1.1)) .ireturn (by decide +kernel) rfl (by cases hf; rfl)
def f_Frame_mergedReachableCount (x0 : Nat) (x1 : Int32) (x2 : Int32) (sg : ja_S) : Option (Int32 × ja_S) := (f_Frame_countMerged x0 x1 x2 sg).bind fun v1 => some (v1.1, v1.2)
set_option maxRecDepth 4000 in
theorem c_Frame_mergedReachableCount (l : Launch) (x : ja_X) (x0 : Nat) (x1 : Int32) (x2 : Int32) {sg : ja_S} {w : Int32 × ja_S} (h0 : ja_ob ja_L0 7 x0) (hf : f_Frame_mergedReachableCount x0 x1 x2 sg = some w) : ja_Ct l x y_Frame_mergedReachableCount M_Frame_mergedReachableCount [.ref x0, .int x1, .int x2] ja_L0 sg (some (.int w.1), ja_L0, w.2) := by
  refine ja_mk ⟨by decide, rfl, rfl⟩ (Nat.le_of_ble_eq_true rfl) (lv := [(0, .ref x0), (1, .int x1), (2, .int x2)]) rfl (fun C hl hx _ _ _ _ => ?_)
  subst hl; subst hx
  unfold f_Frame_mergedReachableCount at hf
  refine ja_aload_n (pc := 0) (f := 0) (i := 0) 0 (by decide +kernel) rfl rfl ?_
  refine ja_iload_n (pc := 1) (f := 1) (i := 1) 1 (by decide +kernel) rfl rfl ?_
  refine ja_iload_n (pc := 2) (f := 2) (i := 2) 2 (by decide +kernel) rfl rfl ?_
  refine ja_bind hf (fun v1 hv1 hf => ?_)
  refine ja_callVi (pc := 3) (idx := 271) (t := 7) (b := x0) (as := [.int x1, .int x2]) (st := []) (by decide +kernel) kv_Frame_countMerged lk_Frame_271 ⟨by decide, by decide⟩ (c_Frame_countMerged _ _ x0 x1 x2 h0 hv1) h0 rfl (Nat.le_of_ble_eq_true rfl) rfl ?_
  exact ja_ret (pc := 6) (some (.int v1.1)) .ireturn (by decide +kernel) rfl (by cases hf; rfl)
def f_Sheet_canMove (x0 : Nat) (x1 : Int32) (sg : ja_S) : Option (Int32 × ja_S) := (f_Sheet_movableLevers x0 sg).bind fun v1 => (if ((v1.1 >>> (x1 &&& 31)) &&& (1 : Int32)) = (1 : Int32) then some ((1 : Int32), v1.2) else some ((0 : Int32), v1.2))
set_option maxRecDepth 4000 in
theorem c_Sheet_canMove (l : Launch) (x : ja_X) (x0 : Nat) (x1 : Int32) {sg : ja_S} {w : Int32 × ja_S} (h0 : ja_ob ja_L0 5 x0) (hf : f_Sheet_canMove x0 x1 sg = some w) : ja_Ct l x y_Sheet_canMove M_Sheet_canMove [.ref x0, .int x1] ja_L0 sg (some (.int w.1), ja_L0, w.2) := by
  refine ja_mk ⟨by decide, rfl, rfl⟩ (Nat.le_of_ble_eq_true rfl) (lv := [(0, .ref x0), (1, .int x1)]) rfl (fun C hl hx _ _ _ _ => ?_)
  subst hl; subst hx
  unfold f_Sheet_canMove at hf
  refine ja_aload_n (pc := 0) (f := 0) (i := 0) 0 (by decide +kernel) rfl rfl ?_
  refine ja_bind hf (fun v1 hv1 hf => ?_)
  refine ja_callVi (pc := 1) (idx := 50) (t := 5) (b := x0) (as := []) (st := []) (by decide +kernel) kv_Sheet_movableLevers lk_Sheet_50 ⟨by decide, by decide⟩ (c_Sheet_movableLevers _ _ x0 h0 hv1) h0 rfl (Nat.le_of_ble_eq_true rfl) rfl ?_
  refine ja_iload_n (pc := 4) (f := 1) (i := 1) 1 (by decide +kernel) rfl rfl ?_
  refine ja_ishr (pc := 5) (by decide +kernel) ?_
  refine ja_iconst (pc := 6) (n := 1) (v := 1) (by decide +kernel) (by decide +kernel) ?_
  refine ja_iand (pc := 7) (by decide +kernel) ?_
  refine ja_iconst (pc := 8) (n := 1) (v := 1) (by decide +kernel) (by decide +kernel) ?_
  refine ja_icmp_ne (pc := 9) (off := 7) 16 (by decide +kernel) (by decide) hf (fun hf => ?_) (fun hf => ?_)
  · refine ja_iconst (pc := 16) (n := 0) (v := 0) (by decide +kernel) (by decide +kernel) ?_
    exact ja_ret (pc := 17) (some (.int (0 : Int32))) .ireturn (by decide +kernel) rfl (by cases hf; rfl)
  · refine ja_iconst (pc := 12) (n := 1) (v := 1) (by decide +kernel) (by decide +kernel) ?_
    refine ja_goto (pc := 13) (off := 4) 17 (by decide +kernel) (by decide) ?_
    exact ja_ret (pc := 17) (some (.int (1 : Int32))) .ireturn (by decide +kernel) rfl (by cases hf; rfl)
def f_Merger_mergeFirstPair_L17 (k2 : Nat → Nat → Int32 → ja_S → Option (Int32 × ja_S)) : Nat → Nat → Nat → Int32 → Int32 → ja_S → Option (Int32 × ja_S)
  | 0, _, _, _, _, _ => none
  | n + 1, x0, x1, x2, x3, sg => (if (sg.1 (ja_q x0 1) 0) ≤ x3 then k2 x0 x1 (x2 + 1) sg else (f_Sheet_canMove (ja_q x0 1) x2 sg).bind fun v1 => (if v1.1 = 0 then f_Merger_mergeFirstPair_L17 k2 n x0 x1 x2 (x3 + 1) v1.2 else (f_Sheet_canMove (ja_q x0 1) x3 v1.2).bind fun v2 => (if v2.1 = 0 then f_Merger_mergeFirstPair_L17 k2 n x0 x1 x2 (x3 + 1) v2.2 else (f_Merger_attempt x0 x1 x2 x3 v2.2).bind fun v3 => (f_Merger_keepsRoutesAndConflicts x0 x1 v3).bind fun v4 => (if v4.1 = 0 then f_Merger_mergeFirstPair_L17 k2 n x0 x1 x2 (x3 + 1) v4.2 else (f_Sheet_copyFrom (ja_q x0 1) (ja_q x0 2) v4.2).bind fun v5 => some ((1 : Int32), v5)))))
set_option maxRecDepth 4000 in
theorem w_Merger_mergeFirstPair_L17 (C : ja_C) {w : Int32 × ja_S} {k2 : Nat → Nat → Int32 → ja_S → Option (Int32 × ja_S)} (e2 : ∀ (x0 : Nat) (x1 : Nat) (x2 : Int32) (sg : ja_S), ja_ob ja_L0 3 x0 → ja_ob ja_L0 4 x1 → k2 x0 x1 x2 sg = some w → ja_J M_Merger_mergeFirstPair C 2 [(0, .ref x0), (1, .ref x1), (2, .int x2)] [] ja_L0 sg (some (.int w.1), ja_L0, w.2))  (n : Nat) : ∀ (x0 : Nat) (x1 : Nat) (x2 : Int32) (x3 : Int32) (sg : ja_S), ja_ob ja_L0 3 x0 → ja_ob ja_L0 4 x1 → f_Merger_mergeFirstPair_L17 k2 n x0 x1 x2 x3 sg = some w → ja_J M_Merger_mergeFirstPair C 17 [(0, .ref x0), (1, .ref x1), (2, .int x2), (3, .int x3)] [] ja_L0 sg (some (.int w.1), ja_L0, w.2) := by
  induction n with
  | zero => intro _ _ _ _ _ _ _ hf; exact absurd (show (none : Option _) = some w from hf) (by simp)
  | succ n ih =>
    intro x0 x1 x2 x3 sg h0 h1 hf
    unfold f_Merger_mergeFirstPair_L17 at hf
    refine ja_iload_n (pc := 17) (f := 3) (i := 3) 3 (by decide +kernel) rfl rfl ?_
    refine ja_aload_n (pc := 18) (f := 0) (i := 0) 0 (by decide +kernel) rfl rfl ?_
    refine ja_getr (pc := 19) (idx := 12) (t := 3) (j := 1) (by decide +kernel) fd_Merger_12 h0 (fr_3_1 h0) ?_
    refine ja_geti (pc := 22) (idx := 65) (t := 5) (j := 0) (by decide +kernel) fd_Merger_65 (fk_3_1 h0) ?_
    refine ja_icmp_ge (pc := 25) (off := 59) 84 (by decide +kernel) (by decide) hf (fun hf => ?_) (fun hf => ?_)
    · refine ja_iinc (pc := 84) (i := 2) (n := 1) (v := x2 + 1) (lv' := [(2, .int (x2 + 1)), (0, .ref x0), (1, .ref x1), (3, .int x3)]) 2 (by decide +kernel) rfl rfl (by decide) rfl ?_
      refine ja_goto (pc := 87) (off := (-85)) 2 (by decide +kernel) (by decide) ?_
      refine ja_lv [1, 2, 0] rfl ?_
      exact e2 x0 x1 (x2 + 1) sg h0 h1 hf
    · refine ja_aload_n (pc := 28) (f := 0) (i := 0) 0 (by decide +kernel) rfl rfl ?_
      refine ja_getr (pc := 29) (idx := 12) (t := 3) (j := 1) (by decide +kernel) fd_Merger_12 h0 (fr_3_1 h0) ?_
      refine ja_iload_n (pc := 32) (f := 2) (i := 2) 2 (by decide +kernel) rfl rfl ?_
      refine ja_bind hf (fun v1 hv1 hf => ?_)
      refine ja_callVi (pc := 33) (idx := 68) (t := 5) (b := (ja_q x0 1)) (as := [.int x2]) (st := []) (by decide +kernel) kv_Sheet_canMove lk_Merger_68 ⟨by decide, by decide⟩ (c_Sheet_canMove _ _ (ja_q x0 1) x2 (fk_3_1 h0) hv1) (fk_3_1 h0) rfl (Nat.le_of_ble_eq_true rfl) rfl ?_
      refine ja_if_eq (pc := 36) (off := 42) 78 (by decide +kernel) (by decide) hf (fun hf => ?_) (fun hf => ?_)
      · refine ja_iinc (pc := 78) (i := 3) (n := 1) (v := x3 + 1) (lv' := [(3, .int (x3 + 1)), (0, .ref x0), (1, .ref x1), (2, .int x2)]) 3 (by decide +kernel) rfl rfl (by decide) rfl ?_
        refine ja_goto (pc := 81) (off := (-64)) 17 (by decide +kernel) (by decide) ?_
        refine ja_lv [1, 2, 3, 0] rfl ?_
        exact ih x0 x1 x2 (x3 + 1) v1.2 h0 h1 hf
      · refine ja_aload_n (pc := 39) (f := 0) (i := 0) 0 (by decide +kernel) rfl rfl ?_
        refine ja_getr (pc := 40) (idx := 12) (t := 3) (j := 1) (by decide +kernel) fd_Merger_12 h0 (fr_3_1 h0) ?_
        refine ja_iload_n (pc := 43) (f := 3) (i := 3) 3 (by decide +kernel) rfl rfl ?_
        refine ja_bind hf (fun v2 hv2 hf => ?_)
        refine ja_callVi (pc := 44) (idx := 68) (t := 5) (b := (ja_q x0 1)) (as := [.int x3]) (st := []) (by decide +kernel) kv_Sheet_canMove lk_Merger_68 ⟨by decide, by decide⟩ (c_Sheet_canMove _ _ (ja_q x0 1) x3 (fk_3_1 h0) hv2) (fk_3_1 h0) rfl (Nat.le_of_ble_eq_true rfl) rfl ?_
        refine ja_if_eq (pc := 47) (off := 31) 78 (by decide +kernel) (by decide) hf (fun hf => ?_) (fun hf => ?_)
        · refine ja_iinc (pc := 78) (i := 3) (n := 1) (v := x3 + 1) (lv' := [(3, .int (x3 + 1)), (0, .ref x0), (1, .ref x1), (2, .int x2)]) 3 (by decide +kernel) rfl rfl (by decide) rfl ?_
          refine ja_goto (pc := 81) (off := (-64)) 17 (by decide +kernel) (by decide) ?_
          refine ja_lv [1, 2, 3, 0] rfl ?_
          exact ih x0 x1 x2 (x3 + 1) v2.2 h0 h1 hf
        · refine ja_aload_n (pc := 50) (f := 0) (i := 0) 0 (by decide +kernel) rfl rfl ?_
          refine ja_aload_n (pc := 51) (f := 1) (i := 1) 1 (by decide +kernel) rfl rfl ?_
          refine ja_iload_n (pc := 52) (f := 2) (i := 2) 2 (by decide +kernel) rfl rfl ?_
          refine ja_iload_n (pc := 53) (f := 3) (i := 3) 3 (by decide +kernel) rfl rfl ?_
          refine ja_bind hf (fun v3 hv3 hf => ?_)
          refine ja_callVv (pc := 54) (idx := 72) (t := 3) (b := x0) (as := [.ref x1, .int x2, .int x3]) (st := []) (by decide +kernel) kv_Merger_attempt lk_Merger_72 ⟨by decide, by decide⟩ (c_Merger_attempt _ _ x0 x1 x2 x3 h0 h1 hv3) h0 rfl (Nat.le_of_ble_eq_true rfl) rfl ?_
          refine ja_aload_n (pc := 57) (f := 0) (i := 0) 0 (by decide +kernel) rfl rfl ?_
          refine ja_aload_n (pc := 58) (f := 1) (i := 1) 1 (by decide +kernel) rfl rfl ?_
          refine ja_bind hf (fun v4 hv4 hf => ?_)
          refine ja_callVi (pc := 59) (idx := 76) (t := 3) (b := x0) (as := [.ref x1]) (st := []) (by decide +kernel) kv_Merger_keepsRoutesAndConflicts lk_Merger_76 ⟨by decide, by decide⟩ (c_Merger_keepsRoutesAndConflicts _ _ x0 x1 h0 h1 hv4) h0 rfl (Nat.le_of_ble_eq_true rfl) rfl ?_
          refine ja_if_eq (pc := 62) (off := 16) 78 (by decide +kernel) (by decide) hf (fun hf => ?_) (fun hf => ?_)
          · refine ja_iinc (pc := 78) (i := 3) (n := 1) (v := x3 + 1) (lv' := [(3, .int (x3 + 1)), (0, .ref x0), (1, .ref x1), (2, .int x2)]) 3 (by decide +kernel) rfl rfl (by decide) rfl ?_
            refine ja_goto (pc := 81) (off := (-64)) 17 (by decide +kernel) (by decide) ?_
            refine ja_lv [1, 2, 3, 0] rfl ?_
            exact ih x0 x1 x2 (x3 + 1) v4.2 h0 h1 hf
          · refine ja_aload_n (pc := 65) (f := 0) (i := 0) 0 (by decide +kernel) rfl rfl ?_
            refine ja_getr (pc := 66) (idx := 12) (t := 3) (j := 1) (by decide +kernel) fd_Merger_12 h0 (fr_3_1 h0) ?_
            refine ja_aload_n (pc := 69) (f := 0) (i := 0) 0 (by decide +kernel) rfl rfl ?_
            refine ja_getr (pc := 70) (idx := 18) (t := 3) (j := 2) (by decide +kernel) fd_Merger_18 h0 (fr_3_2 h0) ?_
            refine ja_bind hf (fun v5 hv5 hf => ?_)
            refine ja_callVv (pc := 73) (idx := 28) (t := 5) (b := (ja_q x0 1)) (as := [.ref (ja_q x0 2)]) (st := []) (by decide +kernel) kv_Sheet_copyFrom lk_Merger_28 ⟨by decide, by decide⟩ (c_Sheet_copyFrom _ _ (ja_q x0 1) (ja_q x0 2) (fk_3_1 h0) (fk_3_2 h0) hv5) (fk_3_1 h0) rfl (Nat.le_of_ble_eq_true rfl) rfl ?_
            refine ja_iconst (pc := 76) (n := 1) (v := 1) (by decide +kernel) (by decide +kernel) ?_
            exact ja_ret (pc := 77) (some (.int (1 : Int32))) .ireturn (by decide +kernel) rfl (by cases hf; rfl)
def f_Merger_mergeFirstPair_L2  : Nat → Nat → Nat → Int32 → ja_S → Option (Int32 × ja_S)
  | 0, _, _, _, _ => none
  | n + 1, x0, x1, x2, sg => (if (sg.1 (ja_q x0 1) 0) ≤ x2 then some ((0 : Int32), sg) else f_Merger_mergeFirstPair_L17 (f_Merger_mergeFirstPair_L2  n) ja_FU x0 x1 x2 (x2 + (1 : Int32)) sg)
set_option maxRecDepth 4000 in
theorem w_Merger_mergeFirstPair_L2 (C : ja_C) {w : Int32 × ja_S}    (n : Nat) : ∀ (x0 : Nat) (x1 : Nat) (x2 : Int32) (sg : ja_S), ja_ob ja_L0 3 x0 → ja_ob ja_L0 4 x1 → f_Merger_mergeFirstPair_L2  n x0 x1 x2 sg = some w → ja_J M_Merger_mergeFirstPair C 2 [(0, .ref x0), (1, .ref x1), (2, .int x2)] [] ja_L0 sg (some (.int w.1), ja_L0, w.2) := by
  induction n with
  | zero => intro _ _ _ _ _ _ hf; exact absurd (show (none : Option _) = some w from hf) (by simp)
  | succ n ih =>
    intro x0 x1 x2 sg h0 h1 hf
    unfold f_Merger_mergeFirstPair_L2 at hf
    refine ja_iload_n (pc := 2) (f := 2) (i := 2) 2 (by decide +kernel) rfl rfl ?_
    refine ja_aload_n (pc := 3) (f := 0) (i := 0) 0 (by decide +kernel) rfl rfl ?_
    refine ja_getr (pc := 4) (idx := 12) (t := 3) (j := 1) (by decide +kernel) fd_Merger_12 h0 (fr_3_1 h0) ?_
    refine ja_geti (pc := 7) (idx := 65) (t := 5) (j := 0) (by decide +kernel) fd_Merger_65 (fk_3_1 h0) ?_
    refine ja_icmp_ge (pc := 10) (off := 80) 90 (by decide +kernel) (by decide) hf (fun hf => ?_) (fun hf => ?_)
    · refine ja_iconst (pc := 90) (n := 0) (v := 0) (by decide +kernel) (by decide +kernel) ?_
      exact ja_ret (pc := 91) (some (.int (0 : Int32))) .ireturn (by decide +kernel) rfl (by cases hf; rfl)
    · refine ja_iload_n (pc := 13) (f := 2) (i := 2) 2 (by decide +kernel) rfl rfl ?_
      refine ja_iconst (pc := 14) (n := 1) (v := 1) (by decide +kernel) (by decide +kernel) ?_
      refine ja_iadd (pc := 15) (by decide +kernel) ?_
      refine ja_istore_n (pc := 16) (f := 3) (i := 3) (lv' := [(3, .int (x2 + (1 : Int32))), (0, .ref x0), (1, .ref x1), (2, .int x2)]) (by decide +kernel) rfl (by decide) rfl ?_
      refine ja_lv [1, 2, 3, 0] rfl ?_
      exact w_Merger_mergeFirstPair_L17 C ih ja_FU x0 x1 x2 (x2 + (1 : Int32)) sg h0 h1 hf
def f_Merger_mergeFirstPair (x0 : Nat) (x1 : Nat) (sg : ja_S) : Option (Int32 × ja_S) := f_Merger_mergeFirstPair_L2  ja_FU x0 x1 (0 : Int32) sg
set_option maxRecDepth 4000 in
theorem c_Merger_mergeFirstPair (l : Launch) (x : ja_X) (x0 : Nat) (x1 : Nat) {sg : ja_S} {w : Int32 × ja_S} (h0 : ja_ob ja_L0 3 x0) (h1 : ja_ob ja_L0 4 x1) (hf : f_Merger_mergeFirstPair x0 x1 sg = some w) : ja_Ct l x y_Merger_mergeFirstPair M_Merger_mergeFirstPair [.ref x0, .ref x1] ja_L0 sg (some (.int w.1), ja_L0, w.2) := by
  refine ja_mk ⟨by decide, rfl, rfl⟩ (Nat.le_of_ble_eq_true rfl) (lv := [(0, .ref x0), (1, .ref x1)]) rfl (fun C hl hx _ _ _ _ => ?_)
  subst hl; subst hx
  unfold f_Merger_mergeFirstPair at hf
  refine ja_iconst (pc := 0) (n := 0) (v := 0) (by decide +kernel) (by decide +kernel) ?_
  refine ja_istore_n (pc := 1) (f := 2) (i := 2) (lv' := [(2, .int (0 : Int32)), (0, .ref x0), (1, .ref x1)]) (by decide +kernel) rfl (by decide) rfl ?_
  refine ja_lv [1, 2, 0] rfl ?_
  exact w_Merger_mergeFirstPair_L2 C  ja_FU x0 x1 (0 : Int32) sg h0 h1 hf
def f_Frame_leversAfterMerging_B71  (x0 : Nat) (sg : ja_S) : Option (Int32 × ja_S) := (ja_pu sg x0 11 (1 : Int32)).bind fun s1 => some (s1.1 x0 1, s1)
set_option maxRecDepth 4000 in
theorem w_Frame_leversAfterMerging_B71 (C : ja_C) {w : Int32 × ja_S}    (x0 : Nat) (sg : ja_S) (h0 : ja_ob ja_L0 7 x0) (hf : f_Frame_leversAfterMerging_B71  x0 sg = some w) : ja_J M_Frame_leversAfterMerging C 71 [(0, .ref x0)] [] ja_L0 sg (some (.int w.1), ja_L0, w.2) := by
  unfold f_Frame_leversAfterMerging_B71 at hf
  refine ja_aload_n (pc := 71) (f := 0) (i := 0) 0 (by decide +kernel) rfl rfl ?_
  refine ja_iconst (pc := 72) (n := 1) (v := 1) (by decide +kernel) (by decide +kernel) ?_
  refine ja_bind hf (fun s1 hs1 hf => ?_)
  refine ja_puti2 (pc := 73) (idx := 65) (t := 7) (j := 11) (by decide +kernel) fd_Frame_65 h0 ⟨rfl, rfl⟩ hs1 ?_
  refine ja_aload_n (pc := 76) (f := 0) (i := 0) 0 (by decide +kernel) rfl rfl ?_
  refine ja_geti (pc := 77) (idx := 68) (t := 7) (j := 1) (by decide +kernel) fd_Frame_68 h0 ?_
  exact ja_ret (pc := 80) (some (.int (s1.1 x0 1))) .ireturn (by decide +kernel) rfl (by cases hf; rfl)
def f_Frame_leversAfterMerging_L35  : Nat → Nat → Int32 → ja_S → Option (Int32 × ja_S)
  | 0, _, _, _ => none
  | n + 1, x0, x1, sg => (if (12 : Int32) ≤ x1 then f_Frame_leversAfterMerging_B71  x0 sg else (f_Merger_mergeFirstPair (ja_q x0 0) (ja_q x0 9) sg).bind fun v1 => (if v1.1 = 0 then f_Frame_leversAfterMerging_B71  x0 v1.2 else (ja_pu v1.2 x0 1 ((v1.2.1 x0 1) - (1 : Int32))).bind fun s2 => f_Frame_leversAfterMerging_L35  n x0 (x1 + 1) s2))
set_option maxRecDepth 4000 in
theorem w_Frame_leversAfterMerging_L35 (C : ja_C) {w : Int32 × ja_S}    (n : Nat) : ∀ (x0 : Nat) (x1 : Int32) (sg : ja_S), ja_ob ja_L0 7 x0 → f_Frame_leversAfterMerging_L35  n x0 x1 sg = some w → ja_J M_Frame_leversAfterMerging C 35 [(0, .ref x0), (1, .int x1)] [] ja_L0 sg (some (.int w.1), ja_L0, w.2) := by
  induction n with
  | zero => intro _ _ _ _ hf; exact absurd (show (none : Option _) = some w from hf) (by simp)
  | succ n ih =>
    intro x0 x1 sg h0 hf
    unfold f_Frame_leversAfterMerging_L35 at hf
    refine ja_iload_n (pc := 35) (f := 1) (i := 1) 1 (by decide +kernel) rfl rfl ?_
    refine ja_bipush (pc := 36) (n := 12) (v := 12) (by decide +kernel) (by decide +kernel) ?_
    refine ja_icmp_ge (pc := 38) (off := 33) 71 (by decide +kernel) (by decide) hf (fun hf => ?_) (fun hf => ?_)
    · refine ja_lv [0] rfl ?_
      exact w_Frame_leversAfterMerging_B71 C  x0 sg h0 hf
    · refine ja_aload_n (pc := 41) (f := 0) (i := 0) 0 (by decide +kernel) rfl rfl ?_
      refine ja_getr (pc := 42) (idx := 61) (t := 7) (j := 0) (by decide +kernel) fd_Frame_61 h0 (fr_7_0 h0) ?_
      refine ja_aload_n (pc := 45) (f := 0) (i := 0) 0 (by decide +kernel) rfl rfl ?_
      refine ja_getr (pc := 46) (idx := 48) (t := 7) (j := 9) (by decide +kernel) fd_Frame_48 h0 (fr_7_9 h0) ?_
      refine ja_bind hf (fun v1 hv1 hf => ?_)
      refine ja_callVi (pc := 49) (idx := 282) (t := 3) (b := (ja_q x0 0)) (as := [.ref (ja_q x0 9)]) (st := []) (by decide +kernel) kv_Merger_mergeFirstPair lk_Frame_282 ⟨by decide, by decide⟩ (c_Merger_mergeFirstPair _ _ (ja_q x0 0) (ja_q x0 9) (fk_7_0 h0) (fk_7_9 h0) hv1) (fk_7_0 h0) rfl (Nat.le_of_ble_eq_true rfl) rfl ?_
      refine ja_if_eq (pc := 52) (off := 19) 71 (by decide +kernel) (by decide) hf (fun hf => ?_) (fun hf => ?_)
      · refine ja_lv [0] rfl ?_
        exact w_Frame_leversAfterMerging_B71 C  x0 v1.2 h0 hf
      · refine ja_aload_n (pc := 55) (f := 0) (i := 0) 0 (by decide +kernel) rfl rfl ?_
        refine ja_dup (pc := 56) (by decide +kernel) rfl ?_
        refine ja_geti (pc := 57) (idx := 68) (t := 7) (j := 1) (by decide +kernel) fd_Frame_68 h0 ?_
        refine ja_iconst (pc := 60) (n := 1) (v := 1) (by decide +kernel) (by decide +kernel) ?_
        refine ja_isub (pc := 61) (by decide +kernel) ?_
        refine ja_bind hf (fun s2 hs2 hf => ?_)
        refine ja_puti2 (pc := 62) (idx := 68) (t := 7) (j := 1) (by decide +kernel) fd_Frame_68 h0 ⟨rfl, rfl⟩ hs2 ?_
        refine ja_iinc (pc := 65) (i := 1) (n := 1) (v := x1 + 1) (lv' := [(1, .int (x1 + 1)), (0, .ref x0)]) 1 (by decide +kernel) rfl rfl (by decide) rfl ?_
        refine ja_goto (pc := 68) (off := (-33)) 35 (by decide +kernel) (by decide) ?_
        refine ja_lv [1, 0] rfl ?_
        exact ih x0 (x1 + 1) s2 h0 hf
def f_Frame_leversAfterMerging (x0 : Nat) (sg : ja_S) : Option (Int32 × ja_S) := (if (sg.1 x0 11) = 0 then (f_Frame_searchedHome x0 sg).bind fun v1 => (f_Merger_begin (ja_q x0 0) (ja_q x0 3) (ja_q x0 7) v1).bind fun v2 => (ja_pu v2 x0 1 (v2.1 (ja_q x0 3) 0)).bind fun s3 => f_Frame_leversAfterMerging_L35  ja_FU x0 (0 : Int32) s3 else some (sg.1 x0 1, sg))
set_option maxRecDepth 4000 in
theorem c_Frame_leversAfterMerging (l : Launch) (x : ja_X) (x0 : Nat) {sg : ja_S} {w : Int32 × ja_S} (h0 : ja_ob ja_L0 7 x0) (hf : f_Frame_leversAfterMerging x0 sg = some w) : ja_Ct l x y_Frame_leversAfterMerging M_Frame_leversAfterMerging [.ref x0] ja_L0 sg (some (.int w.1), ja_L0, w.2) := by
  refine ja_mk ⟨by decide, rfl, rfl⟩ (Nat.le_of_ble_eq_true rfl) (lv := [(0, .ref x0)]) rfl (fun C hl hx _ _ _ _ => ?_)
  subst hl; subst hx
  unfold f_Frame_leversAfterMerging at hf
  refine ja_aload_n (pc := 0) (f := 0) (i := 0) 0 (by decide +kernel) rfl rfl ?_
  refine ja_geti (pc := 1) (idx := 65) (t := 7) (j := 11) (by decide +kernel) fd_Frame_65 h0 ?_
  refine ja_if_ne (pc := 4) (off := 72) 76 (by decide +kernel) (by decide) hf (fun hf => ?_) (fun hf => ?_)
  · refine ja_aload_n (pc := 76) (f := 0) (i := 0) 0 (by decide +kernel) rfl rfl ?_
    refine ja_geti (pc := 77) (idx := 68) (t := 7) (j := 1) (by decide +kernel) fd_Frame_68 h0 ?_
    exact ja_ret (pc := 80) (some (.int (sg.1 x0 1))) .ireturn (by decide +kernel) rfl (by cases hf; rfl)
  · refine ja_aload_n (pc := 7) (f := 0) (i := 0) 0 (by decide +kernel) rfl rfl ?_
    refine ja_getr (pc := 8) (idx := 61) (t := 7) (j := 0) (by decide +kernel) fd_Frame_61 h0 (fr_7_0 h0) ?_
    refine ja_aload_n (pc := 11) (f := 0) (i := 0) 0 (by decide +kernel) rfl rfl ?_
    refine ja_getr (pc := 12) (idx := 19) (t := 7) (j := 3) (by decide +kernel) fd_Frame_19 h0 (fr_7_3 h0) ?_
    refine ja_aload_n (pc := 15) (f := 0) (i := 0) 0 (by decide +kernel) rfl rfl ?_
    refine ja_bind hf (fun v1 hv1 hf => ?_)
    refine ja_callVr (pc := 16) (idx := 190) (t := 7) (b := x0) (as := []) (st := [.ref (ja_q x0 3), .ref (ja_q x0 0)]) (by decide +kernel) kv_Frame_searchedHome lk_Frame_190 ⟨by decide, by decide⟩ (c_Frame_searchedHome _ _ x0 h0 hv1) h0 rfl (Nat.le_of_ble_eq_true rfl) rfl ?_
    refine ja_bind hf (fun v2 hv2 hf => ?_)
    refine ja_callVv (pc := 19) (idx := 278) (t := 3) (b := (ja_q x0 0)) (as := [.ref (ja_q x0 3), .ref (ja_q x0 7)]) (st := []) (by decide +kernel) kv_Merger_begin lk_Frame_278 ⟨by decide, by decide⟩ (c_Merger_begin _ _ (ja_q x0 0) (ja_q x0 3) (ja_q x0 7) (fk_7_0 h0) (fk_7_3 h0) (fk_7_7 h0) hv2) (fk_7_0 h0) rfl (Nat.le_of_ble_eq_true rfl) rfl ?_
    refine ja_aload_n (pc := 22) (f := 0) (i := 0) 0 (by decide +kernel) rfl rfl ?_
    refine ja_aload_n (pc := 23) (f := 0) (i := 0) 0 (by decide +kernel) rfl rfl ?_
    refine ja_getr (pc := 24) (idx := 19) (t := 7) (j := 3) (by decide +kernel) fd_Frame_19 h0 (fr_7_3 h0) ?_
    refine ja_geti (pc := 27) (idx := 107) (t := 5) (j := 0) (by decide +kernel) fd_Frame_107 (fk_7_3 h0) ?_
    refine ja_bind hf (fun s3 hs3 hf => ?_)
    refine ja_puti2 (pc := 30) (idx := 68) (t := 7) (j := 1) (by decide +kernel) fd_Frame_68 h0 ⟨rfl, rfl⟩ hs3 ?_
    refine ja_iconst (pc := 33) (n := 0) (v := 0) (by decide +kernel) (by decide +kernel) ?_
    refine ja_istore_n (pc := 34) (f := 1) (i := 1) (lv' := [(1, .int (0 : Int32)), (0, .ref x0)]) (by decide +kernel) rfl (by decide) rfl ?_
    refine ja_lv [1, 0] rfl ?_
    exact w_Frame_leversAfterMerging_L35 C  ja_FU x0 (0 : Int32) s3 h0 hf
def f_Model_isIn (x0 : Int64) (x2 : Int64) (x4 : Int64) (sg : ja_S) : Option (Int32 × ja_S) := (if (lg_cmp x0 x2) < 0 then some ((0 : Int32), sg) else (if 0 < (lg_cmp x0 x4) then some ((0 : Int32), sg) else some ((1 : Int32), sg)))
set_option maxRecDepth 4000 in
theorem c_Model_isIn (l : Launch) (x : ja_X) (x0 : Int64) (x2 : Int64) (x4 : Int64) {sg : ja_S} {w : Int32 × ja_S}  (hf : f_Model_isIn x0 x2 x4 sg = some w) : ja_Ct l x y_Model_isIn M_Model_isIn [.long x0, .long x2, .long x4] ja_L0 sg (some (.int w.1), ja_L0, w.2) := by
  refine ja_mk ⟨by decide, rfl, rfl⟩ (Nat.le_of_ble_eq_true rfl) (lv := [(0, .long x0), (2, .long x2), (4, .long x4)]) rfl (fun C hl hx _ _ _ _ => ?_)
  subst hl; subst hx
  unfold f_Model_isIn at hf
  refine ja_lload_n (pc := 0) (f := 0) (i := 0) 0 (by decide +kernel) rfl rfl ?_
  refine ja_lload_n (pc := 1) (f := 2) (i := 2) 1 (by decide +kernel) rfl rfl ?_
  refine ja_lcmp (pc := 2) (by decide +kernel) ?_
  refine ja_if_lt (pc := 3) (off := 14) 17 (by decide +kernel) (by decide) hf (fun hf => ?_) (fun hf => ?_)
  · refine ja_iconst (pc := 17) (n := 0) (v := 0) (by decide +kernel) (by decide +kernel) ?_
    exact ja_ret (pc := 18) (some (.int (0 : Int32))) .ireturn (by decide +kernel) rfl (by cases hf; rfl)
  · refine ja_lload_n (pc := 6) (f := 0) (i := 0) 0 (by decide +kernel) rfl rfl ?_
    refine ja_lload (pc := 7) (i := 4) 2 (by decide +kernel) rfl ?_
    refine ja_lcmp (pc := 9) (by decide +kernel) ?_
    refine ja_if_gt (pc := 10) (off := 7) 17 (by decide +kernel) (by decide) hf (fun hf => ?_) (fun hf => ?_)
    · refine ja_iconst (pc := 17) (n := 0) (v := 0) (by decide +kernel) (by decide +kernel) ?_
      exact ja_ret (pc := 18) (some (.int (0 : Int32))) .ireturn (by decide +kernel) rfl (by cases hf; rfl)
    · refine ja_iconst (pc := 13) (n := 1) (v := 1) (by decide +kernel) (by decide +kernel) ?_
      refine ja_goto (pc := 14) (off := 4) 18 (by decide +kernel) (by decide) ?_
      exact ja_ret (pc := 18) (some (.int (1 : Int32))) .ireturn (by decide +kernel) rfl (by cases hf; rfl)
def f_Model_has (x0 : Int32) (x1 : Int32) (sg : ja_S) : Option (Int32 × ja_S) := (if ((x0 >>> (x1 &&& 31)) &&& (1 : Int32)) = (1 : Int32) then some ((1 : Int32), sg) else some ((0 : Int32), sg))
set_option maxRecDepth 4000 in
theorem c_Model_has (l : Launch) (x : ja_X) (x0 : Int32) (x1 : Int32) {sg : ja_S} {w : Int32 × ja_S}  (hf : f_Model_has x0 x1 sg = some w) : ja_Ct l x y_Model_has M_Model_has [.int x0, .int x1] ja_L0 sg (some (.int w.1), ja_L0, w.2) := by
  refine ja_mk ⟨by decide, rfl, rfl⟩ (Nat.le_of_ble_eq_true rfl) (lv := [(0, .int x0), (1, .int x1)]) rfl (fun C hl hx _ _ _ _ => ?_)
  subst hl; subst hx
  unfold f_Model_has at hf
  refine ja_iload_n (pc := 0) (f := 0) (i := 0) 0 (by decide +kernel) rfl rfl ?_
  refine ja_iload_n (pc := 1) (f := 1) (i := 1) 1 (by decide +kernel) rfl rfl ?_
  refine ja_ishr (pc := 2) (by decide +kernel) ?_
  refine ja_iconst (pc := 3) (n := 1) (v := 1) (by decide +kernel) (by decide +kernel) ?_
  refine ja_iand (pc := 4) (by decide +kernel) ?_
  refine ja_iconst (pc := 5) (n := 1) (v := 1) (by decide +kernel) (by decide +kernel) ?_
  refine ja_icmp_ne (pc := 6) (off := 7) 13 (by decide +kernel) (by decide) hf (fun hf => ?_) (fun hf => ?_)
  · refine ja_iconst (pc := 13) (n := 0) (v := 0) (by decide +kernel) (by decide +kernel) ?_
    exact ja_ret (pc := 14) (some (.int (0 : Int32))) .ireturn (by decide +kernel) rfl (by cases hf; rfl)
  · refine ja_iconst (pc := 9) (n := 1) (v := 1) (by decide +kernel) (by decide +kernel) ?_
    refine ja_goto (pc := 10) (off := 4) 14 (by decide +kernel) (by decide) ?_
    exact ja_ret (pc := 14) (some (.int (1 : Int32))) .ireturn (by decide +kernel) rfl (by cases hf; rfl)
def f_Model_appendBytes_B77 (k24 : Nat → Int32 → Int32 → Int32 → Int32 → Int32 → Int32 → ja_S → Option (Int32 × ja_S)) (x0 : Nat) (x1 : Int32) (x2 : Int32) (x3 : Int32) (x4 : Int32) (x5 : Int32) (x6 : Int32) (y0 : Int32) (sg : ja_S) : Option (Int32 × ja_S) := (ja_st ja_L0 sg (ja_q x0 10) (sg.1 x0 11) ((y0 >>> (((24 : Int32) - ((8 : Int32) * (x6 - x6 / (4 : Int32) * (4 : Int32)))) &&& 31)) &&& (255 : Int32))).bind fun s1 => (ja_pu s1 x0 11 ((s1.1 x0 11) + (1 : Int32))).bind fun s2 => k24 x0 x1 x2 x3 x4 x5 (x6 + 1) s2
set_option maxRecDepth 4000 in
theorem w_Model_appendBytes_B77 (C : ja_C) {w : Int32 × ja_S} {k24 : Nat → Int32 → Int32 → Int32 → Int32 → Int32 → Int32 → ja_S → Option (Int32 × ja_S)} (e24 : ∀ (x0 : Nat) (x1 : Int32) (x2 : Int32) (x3 : Int32) (x4 : Int32) (x5 : Int32) (x6 : Int32) (sg : ja_S), ja_ob ja_L0 8 x0 → k24 x0 x1 x2 x3 x4 x5 x6 sg = some w → ja_J M_Model_appendBytes C 24 [(0, .ref x0), (1, .int x1), (2, .int x2), (3, .int x3), (4, .int x4), (5, .int x5), (6, .int x6)] [] ja_L0 sg (some (.int w.1), ja_L0, w.2))  (x0 : Nat) (x1 : Int32) (x2 : Int32) (x3 : Int32) (x4 : Int32) (x5 : Int32) (x6 : Int32) (y0 : Int32) (sg : ja_S) (h0 : ja_ob ja_L0 8 x0) (hf : f_Model_appendBytes_B77 k24 x0 x1 x2 x3 x4 x5 x6 y0 sg = some w) : ja_J M_Model_appendBytes C 77 [(0, .ref x0), (1, .int x1), (2, .int x2), (3, .int x3), (4, .int x4), (5, .int x5), (6, .int x6)] [.int y0] ja_L0 sg (some (.int w.1), ja_L0, w.2) := by
  unfold f_Model_appendBytes_B77 at hf
  refine ja_istore (pc := 77) (i := 7) (lv' := [(7, .int y0), (0, .ref x0), (1, .int x1), (2, .int x2), (3, .int x3), (4, .int x4), (5, .int x5), (6, .int x6)]) (by decide +kernel) (by decide) rfl ?_
  refine ja_aload_n (pc := 79) (f := 0) (i := 0) 1 (by decide +kernel) rfl rfl ?_
  refine ja_getr (pc := 80) (idx := 32) (t := 8) (j := 10) (by decide +kernel) fd_Model_32 h0 (fr_8_10 h0) ?_
  refine ja_aload_n (pc := 83) (f := 0) (i := 0) 1 (by decide +kernel) rfl rfl ?_
  refine ja_geti (pc := 84) (idx := 77) (t := 8) (j := 11) (by decide +kernel) fd_Model_77 h0 ?_
  refine ja_iload (pc := 87) (i := 7) 0 (by decide +kernel) rfl ?_
  refine ja_bipush (pc := 89) (n := 24) (v := 24) (by decide +kernel) (by decide +kernel) ?_
  refine ja_bipush (pc := 91) (n := 8) (v := 8) (by decide +kernel) (by decide +kernel) ?_
  refine ja_iload (pc := 93) (i := 6) 7 (by decide +kernel) rfl ?_
  refine ja_iconst (pc := 95) (n := 4) (v := 4) (by decide +kernel) (by decide +kernel) ?_
  refine ja_irem (pc := 96) (by decide +kernel) (by decide) ?_
  refine ja_imul (pc := 97) (by decide +kernel) ?_
  refine ja_isub (pc := 98) (by decide +kernel) ?_
  refine ja_ishr (pc := 99) (by decide +kernel) ?_
  refine ja_sipush (pc := 100) (n := 255) (v := 255) (by decide +kernel) (by decide +kernel) ?_
  refine ja_iand (pc := 103) (by decide +kernel) ?_
  refine ja_bind hf (fun s1 hs1 hf => ?_)
  refine ja_iast (pc := 104) (by decide +kernel) (fk_8_10 h0) hs1 ?_
  refine ja_aload_n (pc := 105) (f := 0) (i := 0) 1 (by decide +kernel) rfl rfl ?_
  refine ja_dup (pc := 106) (by decide +kernel) rfl ?_
  refine ja_geti (pc := 107) (idx := 77) (t := 8) (j := 11) (by decide +kernel) fd_Model_77 h0 ?_
  refine ja_iconst (pc := 110) (n := 1) (v := 1) (by decide +kernel) (by decide +kernel) ?_
  refine ja_iadd (pc := 111) (by decide +kernel) ?_
  refine ja_bind hf (fun s2 hs2 hf => ?_)
  refine ja_puti2 (pc := 112) (idx := 77) (t := 8) (j := 11) (by decide +kernel) fd_Model_77 h0 ⟨rfl, rfl⟩ hs2 ?_
  refine ja_iinc (pc := 115) (i := 6) (n := 1) (v := x6 + 1) (lv' := [(6, .int (x6 + 1)), (7, .int y0), (0, .ref x0), (1, .int x1), (2, .int x2), (3, .int x3), (4, .int x4), (5, .int x5)]) 7 (by decide +kernel) rfl rfl (by decide) rfl ?_
  refine ja_goto (pc := 118) (off := (-94)) 24 (by decide +kernel) (by decide) ?_
  refine ja_lv [2, 3, 4, 5, 6, 7, 0] rfl ?_
  exact e24 x0 x1 x2 x3 x4 x5 (x6 + 1) s2 h0 hf
def f_Model_appendBytes_L24  : Nat → Nat → Int32 → Int32 → Int32 → Int32 → Int32 → Int32 → ja_S → Option (Int32 × ja_S)
  | 0, _, _, _, _, _, _, _, _ => none
  | n + 1, x0, x1, x2, x3, x4, x5, x6, sg => (if (20 : Int32) ≤ x6 then some (sg.1 x0 11, sg) else (if (4 : Int32) ≤ x6 then (if (8 : Int32) ≤ x6 then (if (12 : Int32) ≤ x6 then (if (16 : Int32) ≤ x6 then f_Model_appendBytes_B77 (f_Model_appendBytes_L24  n) x0 x1 x2 x3 x4 x5 x6 x5 sg else f_Model_appendBytes_B77 (f_Model_appendBytes_L24  n) x0 x1 x2 x3 x4 x5 x6 x4 sg) else f_Model_appendBytes_B77 (f_Model_appendBytes_L24  n) x0 x1 x2 x3 x4 x5 x6 x3 sg) else f_Model_appendBytes_B77 (f_Model_appendBytes_L24  n) x0 x1 x2 x3 x4 x5 x6 x2 sg) else f_Model_appendBytes_B77 (f_Model_appendBytes_L24  n) x0 x1 x2 x3 x4 x5 x6 x1 sg))
set_option maxRecDepth 4000 in
theorem w_Model_appendBytes_L24 (C : ja_C) {w : Int32 × ja_S}    (n : Nat) : ∀ (x0 : Nat) (x1 : Int32) (x2 : Int32) (x3 : Int32) (x4 : Int32) (x5 : Int32) (x6 : Int32) (sg : ja_S), ja_ob ja_L0 8 x0 → f_Model_appendBytes_L24  n x0 x1 x2 x3 x4 x5 x6 sg = some w → ja_J M_Model_appendBytes C 24 [(0, .ref x0), (1, .int x1), (2, .int x2), (3, .int x3), (4, .int x4), (5, .int x5), (6, .int x6)] [] ja_L0 sg (some (.int w.1), ja_L0, w.2) := by
  induction n with
  | zero => intro _ _ _ _ _ _ _ _ _ hf; exact absurd (show (none : Option _) = some w from hf) (by simp)
  | succ n ih =>
    intro x0 x1 x2 x3 x4 x5 x6 sg h0 hf
    unfold f_Model_appendBytes_L24 at hf
    refine ja_iload (pc := 24) (i := 6) 6 (by decide +kernel) rfl ?_
    refine ja_bipush (pc := 26) (n := 20) (v := 20) (by decide +kernel) (by decide +kernel) ?_
    refine ja_icmp_ge (pc := 28) (off := 93) 121 (by decide +kernel) (by decide) hf (fun hf => ?_) (fun hf => ?_)
    · refine ja_aload_n (pc := 121) (f := 0) (i := 0) 0 (by decide +kernel) rfl rfl ?_
      refine ja_geti (pc := 122) (idx := 77) (t := 8) (j := 11) (by decide +kernel) fd_Model_77 h0 ?_
      exact ja_ret (pc := 125) (some (.int (sg.1 x0 11))) .ireturn (by decide +kernel) rfl (by cases hf; rfl)
    · refine ja_iload (pc := 31) (i := 6) 6 (by decide +kernel) rfl ?_
      refine ja_iconst (pc := 33) (n := 4) (v := 4) (by decide +kernel) (by decide +kernel) ?_
      refine ja_icmp_ge (pc := 34) (off := 7) 41 (by decide +kernel) (by decide) hf (fun hf => ?_) (fun hf => ?_)
      · refine ja_iload (pc := 41) (i := 6) 6 (by decide +kernel) rfl ?_
        refine ja_bipush (pc := 43) (n := 8) (v := 8) (by decide +kernel) (by decide +kernel) ?_
        refine ja_icmp_ge (pc := 45) (off := 7) 52 (by decide +kernel) (by decide) hf (fun hf => ?_) (fun hf => ?_)
        · refine ja_iload (pc := 52) (i := 6) 6 (by decide +kernel) rfl ?_
          refine ja_bipush (pc := 54) (n := 12) (v := 12) (by decide +kernel) (by decide +kernel) ?_
          refine ja_icmp_ge (pc := 56) (off := 7) 63 (by decide +kernel) (by decide) hf (fun hf => ?_) (fun hf => ?_)
          · refine ja_iload (pc := 63) (i := 6) 6 (by decide +kernel) rfl ?_
            refine ja_bipush (pc := 65) (n := 16) (v := 16) (by decide +kernel) (by decide +kernel) ?_
            refine ja_icmp_ge (pc := 67) (off := 8) 75 (by decide +kernel) (by decide) hf (fun hf => ?_) (fun hf => ?_)
            · refine ja_iload (pc := 75) (i := 5) 5 (by decide +kernel) rfl ?_
              exact w_Model_appendBytes_B77 C ih x0 x1 x2 x3 x4 x5 x6 x5 sg h0 hf
            · refine ja_iload (pc := 70) (i := 4) 4 (by decide +kernel) rfl ?_
              refine ja_goto (pc := 72) (off := 5) 77 (by decide +kernel) (by decide) ?_
              exact w_Model_appendBytes_B77 C ih x0 x1 x2 x3 x4 x5 x6 x4 sg h0 hf
          · refine ja_iload_n (pc := 59) (f := 3) (i := 3) 3 (by decide +kernel) rfl rfl ?_
            refine ja_goto (pc := 60) (off := 17) 77 (by decide +kernel) (by decide) ?_
            exact w_Model_appendBytes_B77 C ih x0 x1 x2 x3 x4 x5 x6 x3 sg h0 hf
        · refine ja_iload_n (pc := 48) (f := 2) (i := 2) 2 (by decide +kernel) rfl rfl ?_
          refine ja_goto (pc := 49) (off := 28) 77 (by decide +kernel) (by decide) ?_
          exact w_Model_appendBytes_B77 C ih x0 x1 x2 x3 x4 x5 x6 x2 sg h0 hf
      · refine ja_iload_n (pc := 37) (f := 1) (i := 1) 1 (by decide +kernel) rfl rfl ?_
        refine ja_goto (pc := 38) (off := 39) 77 (by decide +kernel) (by decide) ?_
        exact w_Model_appendBytes_B77 C ih x0 x1 x2 x3 x4 x5 x6 x1 sg h0 hf
def f_Model_appendBytes (x0 : Nat) (x1 : Int32) (x2 : Int32) (x3 : Int32) (x4 : Int32) (x5 : Int32) (sg : ja_S) : Option (Int32 × ja_S) := (ja_pu sg x0 9 (0 : Int32)).bind fun s1 => (if ((s1.1 x0 11) + (20 : Int32)) ≤ (900 : Int32) then f_Model_appendBytes_L24  ja_FU x0 x1 x2 x3 x4 x5 (0 : Int32) s1 else some ((-4 : Int32), s1))
set_option maxRecDepth 4000 in
theorem c_Model_appendBytes (l : Launch) (x : ja_X) (x0 : Nat) (x1 : Int32) (x2 : Int32) (x3 : Int32) (x4 : Int32) (x5 : Int32) {sg : ja_S} {w : Int32 × ja_S} (h0 : ja_ob ja_L0 8 x0) (hf : f_Model_appendBytes x0 x1 x2 x3 x4 x5 sg = some w) : ja_Ct l x y_Model_appendBytes M_Model_appendBytes [.ref x0, .int x1, .int x2, .int x3, .int x4, .int x5] ja_L0 sg (some (.int w.1), ja_L0, w.2) := by
  refine ja_mk ⟨by decide, rfl, rfl⟩ (Nat.le_of_ble_eq_true rfl) (lv := [(0, .ref x0), (1, .int x1), (2, .int x2), (3, .int x3), (4, .int x4), (5, .int x5)]) rfl (fun C hl hx _ _ _ _ => ?_)
  subst hl; subst hx
  unfold f_Model_appendBytes at hf
  refine ja_aload_n (pc := 0) (f := 0) (i := 0) 0 (by decide +kernel) rfl rfl ?_
  refine ja_iconst (pc := 1) (n := 0) (v := 0) (by decide +kernel) (by decide +kernel) ?_
  refine ja_bind hf (fun s1 hs1 hf => ?_)
  refine ja_puti2 (pc := 2) (idx := 1) (t := 8) (j := 9) (by decide +kernel) fd_Model_1 h0 ⟨rfl, rfl⟩ hs1 ?_
  refine ja_aload_n (pc := 5) (f := 0) (i := 0) 0 (by decide +kernel) rfl rfl ?_
  refine ja_geti (pc := 6) (idx := 77) (t := 8) (j := 11) (by decide +kernel) fd_Model_77 h0 ?_
  refine ja_bipush (pc := 9) (n := 20) (v := 20) (by decide +kernel) (by decide +kernel) ?_
  refine ja_iadd (pc := 11) (by decide +kernel) ?_
  refine ja_sipush (pc := 12) (n := 900) (v := 900) (by decide +kernel) (by decide +kernel) ?_
  refine ja_icmp_le (pc := 15) (off := 6) 21 (by decide +kernel) (by decide) hf (fun hf => ?_) (fun hf => ?_)
  · refine ja_iconst (pc := 21) (n := 0) (v := 0) (by decide +kernel) (by decide +kernel) ?_
    refine ja_istore (pc := 22) (i := 6) (lv' := [(6, .int (0 : Int32)), (0, .ref x0), (1, .int x1), (2, .int x2), (3, .int x3), (4, .int x4), (5, .int x5)]) (by decide +kernel) (by decide) rfl ?_
    refine ja_lv [1, 2, 3, 4, 5, 6, 0] rfl ?_
    exact w_Model_appendBytes_L24 C  ja_FU x0 x1 x2 x3 x4 x5 (0 : Int32) s1 h0 hf
  · refine ja_bipush (pc := 18) (n := (-4)) (v := (-4)) (by decide +kernel) (by decide +kernel) ?_
    exact ja_ret (pc := 20) (some (.int (-4 : Int32))) .ireturn (by decide +kernel) rfl (by cases hf; rfl)
def f_Model_peek_B38  (x0 : Nat) (sg : ja_S) : Option (Int32 × ja_S) := (if (sg.1 x0 12) ≤ (sg.1 x0 13) then some ((-1 : Int32), sg) else (ja_ld ja_L0 sg (ja_q x0 10) (sg.1 x0 13)).bind fun v1 => some (v1, sg))
set_option maxRecDepth 4000 in
theorem w_Model_peek_B38 (C : ja_C) {w : Int32 × ja_S}    (x0 : Nat) (sg : ja_S) (h0 : ja_ob ja_L0 8 x0) (hf : f_Model_peek_B38  x0 sg = some w) : ja_J M_Model_peek C 38 [(0, .ref x0)] [] ja_L0 sg (some (.int w.1), ja_L0, w.2) := by
  unfold f_Model_peek_B38 at hf
  refine ja_aload_n (pc := 38) (f := 0) (i := 0) 0 (by decide +kernel) rfl rfl ?_
  refine ja_geti (pc := 39) (idx := 80) (t := 8) (j := 13) (by decide +kernel) fd_Model_80 h0 ?_
  refine ja_aload_n (pc := 42) (f := 0) (i := 0) 0 (by decide +kernel) rfl rfl ?_
  refine ja_geti (pc := 43) (idx := 83) (t := 8) (j := 12) (by decide +kernel) fd_Model_83 h0 ?_
  refine ja_icmp_ge (pc := 46) (off := 15) 61 (by decide +kernel) (by decide) hf (fun hf => ?_) (fun hf => ?_)
  · refine ja_iconst (pc := 61) (n := (-1)) (v := (-1)) (by decide +kernel) (by decide +kernel) ?_
    exact ja_ret (pc := 62) (some (.int (-1 : Int32))) .ireturn (by decide +kernel) rfl (by cases hf; rfl)
  · refine ja_aload_n (pc := 49) (f := 0) (i := 0) 0 (by decide +kernel) rfl rfl ?_
    refine ja_getr (pc := 50) (idx := 32) (t := 8) (j := 10) (by decide +kernel) fd_Model_32 h0 (fr_8_10 h0) ?_
    refine ja_aload_n (pc := 53) (f := 0) (i := 0) 0 (by decide +kernel) rfl rfl ?_
    refine ja_geti (pc := 54) (idx := 80) (t := 8) (j := 13) (by decide +kernel) fd_Model_80 h0 ?_
    refine ja_bind hf (fun v1 hv1 hf => ?_)
    refine ja_iald (pc := 57) (by decide +kernel) (fk_8_10 h0) hv1 ?_
    refine ja_goto (pc := 58) (off := 4) 62 (by decide +kernel) (by decide) ?_
    exact ja_ret (pc := 62) (some (.int v1)) .ireturn (by decide +kernel) rfl (by cases hf; rfl)
def f_Model_peek_L0  : Nat → Nat → ja_S → Option (Int32 × ja_S)
  | 0, _, _ => none
  | n + 1, x0, sg => (if (sg.1 x0 12) ≤ (sg.1 x0 13) then f_Model_peek_B38  x0 sg else (ja_ld ja_L0 sg (ja_q x0 10) (sg.1 x0 13)).bind fun v1 => (if v1 = (32 : Int32) then (ja_pu sg x0 13 ((sg.1 x0 13) + (1 : Int32))).bind fun s2 => f_Model_peek_L0  n x0 s2 else f_Model_peek_B38  x0 sg))
set_option maxRecDepth 4000 in
theorem w_Model_peek_L0 (C : ja_C) {w : Int32 × ja_S}    (n : Nat) : ∀ (x0 : Nat) (sg : ja_S), ja_ob ja_L0 8 x0 → f_Model_peek_L0  n x0 sg = some w → ja_J M_Model_peek C 0 [(0, .ref x0)] [] ja_L0 sg (some (.int w.1), ja_L0, w.2) := by
  induction n with
  | zero => intro _ _ _ hf; exact absurd (show (none : Option _) = some w from hf) (by simp)
  | succ n ih =>
    intro x0 sg h0 hf
    unfold f_Model_peek_L0 at hf
    refine ja_aload_n (pc := 0) (f := 0) (i := 0) 0 (by decide +kernel) rfl rfl ?_
    refine ja_geti (pc := 1) (idx := 80) (t := 8) (j := 13) (by decide +kernel) fd_Model_80 h0 ?_
    refine ja_aload_n (pc := 4) (f := 0) (i := 0) 0 (by decide +kernel) rfl rfl ?_
    refine ja_geti (pc := 5) (idx := 83) (t := 8) (j := 12) (by decide +kernel) fd_Model_83 h0 ?_
    refine ja_icmp_ge (pc := 8) (off := 30) 38 (by decide +kernel) (by decide) hf (fun hf => ?_) (fun hf => ?_)
    · exact w_Model_peek_B38 C  x0 sg h0 hf
    · refine ja_aload_n (pc := 11) (f := 0) (i := 0) 0 (by decide +kernel) rfl rfl ?_
      refine ja_getr (pc := 12) (idx := 32) (t := 8) (j := 10) (by decide +kernel) fd_Model_32 h0 (fr_8_10 h0) ?_
      refine ja_aload_n (pc := 15) (f := 0) (i := 0) 0 (by decide +kernel) rfl rfl ?_
      refine ja_geti (pc := 16) (idx := 80) (t := 8) (j := 13) (by decide +kernel) fd_Model_80 h0 ?_
      refine ja_bind hf (fun v1 hv1 hf => ?_)
      refine ja_iald (pc := 19) (by decide +kernel) (fk_8_10 h0) hv1 ?_
      refine ja_bipush (pc := 20) (n := 32) (v := 32) (by decide +kernel) (by decide +kernel) ?_
      refine ja_icmp_ne (pc := 22) (off := 16) 38 (by decide +kernel) (by decide) hf (fun hf => ?_) (fun hf => ?_)
      · exact w_Model_peek_B38 C  x0 sg h0 hf
      · refine ja_aload_n (pc := 25) (f := 0) (i := 0) 0 (by decide +kernel) rfl rfl ?_
        refine ja_dup (pc := 26) (by decide +kernel) rfl ?_
        refine ja_geti (pc := 27) (idx := 80) (t := 8) (j := 13) (by decide +kernel) fd_Model_80 h0 ?_
        refine ja_iconst (pc := 30) (n := 1) (v := 1) (by decide +kernel) (by decide +kernel) ?_
        refine ja_iadd (pc := 31) (by decide +kernel) ?_
        refine ja_bind hf (fun s2 hs2 hf => ?_)
        refine ja_puti2 (pc := 32) (idx := 80) (t := 8) (j := 13) (by decide +kernel) fd_Model_80 h0 ⟨rfl, rfl⟩ hs2 ?_
        refine ja_goto (pc := 35) (off := (-35)) 0 (by decide +kernel) (by decide) ?_
        exact ih x0 s2 h0 hf
def f_Model_peek (x0 : Nat) (sg : ja_S) : Option (Int32 × ja_S) := f_Model_peek_L0  ja_FU x0 sg
set_option maxRecDepth 4000 in
theorem c_Model_peek (l : Launch) (x : ja_X) (x0 : Nat) {sg : ja_S} {w : Int32 × ja_S} (h0 : ja_ob ja_L0 8 x0) (hf : f_Model_peek x0 sg = some w) : ja_Ct l x y_Model_peek M_Model_peek [.ref x0] ja_L0 sg (some (.int w.1), ja_L0, w.2) := by
  refine ja_mk ⟨by decide, rfl, rfl⟩ (Nat.le_of_ble_eq_true rfl) (lv := [(0, .ref x0)]) rfl (fun C hl hx _ _ _ _ => ?_)
  subst hl; subst hx
  unfold f_Model_peek at hf
  exact w_Model_peek_L0 C  ja_FU x0 sg h0 hf
def f_Model_fails (x0 : Nat) (x1 : Int32) (x2 : Int32) (sg : ja_S) : Option (ja_S) := (if (sg.1 x0 14) = 0 then (ja_pu sg x0 14 x1).bind fun s1 => (ja_pu s1 x0 15 x2).bind fun s2 => some s2 else some sg)
set_option maxRecDepth 4000 in
theorem c_Model_fails (l : Launch) (x : ja_X) (x0 : Nat) (x1 : Int32) (x2 : Int32) {sg : ja_S} {w : ja_S} (h0 : ja_ob ja_L0 8 x0) (hf : f_Model_fails x0 x1 x2 sg = some w) : ja_Ct l x y_Model_fails M_Model_fails [.ref x0, .int x1, .int x2] ja_L0 sg (none, ja_L0, w) := by
  refine ja_mk ⟨by decide, rfl, rfl⟩ (Nat.le_of_ble_eq_true rfl) (lv := [(0, .ref x0), (1, .int x1), (2, .int x2)]) rfl (fun C hl hx _ _ _ _ => ?_)
  subst hl; subst hx
  unfold f_Model_fails at hf
  refine ja_aload_n (pc := 0) (f := 0) (i := 0) 0 (by decide +kernel) rfl rfl ?_
  refine ja_geti (pc := 1) (idx := 86) (t := 8) (j := 14) (by decide +kernel) fd_Model_86 h0 ?_
  refine ja_if_eq (pc := 4) (off := 4) 8 (by decide +kernel) (by decide) hf (fun hf => ?_) (fun hf => ?_)
  · refine ja_aload_n (pc := 8) (f := 0) (i := 0) 0 (by decide +kernel) rfl rfl ?_
    refine ja_iload_n (pc := 9) (f := 1) (i := 1) 1 (by decide +kernel) rfl rfl ?_
    refine ja_bind hf (fun s1 hs1 hf => ?_)
    refine ja_puti2 (pc := 10) (idx := 86) (t := 8) (j := 14) (by decide +kernel) fd_Model_86 h0 ⟨rfl, rfl⟩ hs1 ?_
    refine ja_aload_n (pc := 13) (f := 0) (i := 0) 0 (by decide +kernel) rfl rfl ?_
    refine ja_iload_n (pc := 14) (f := 2) (i := 2) 2 (by decide +kernel) rfl rfl ?_
    refine ja_bind hf (fun s2 hs2 hf => ?_)
    refine ja_puti2 (pc := 15) (idx := 35) (t := 8) (j := 15) (by decide +kernel) fd_Model_35 h0 ⟨rfl, rfl⟩ hs2 ?_
    exact ja_ret (pc := 18) none .return_ (by decide +kernel) rfl (by cases hf; rfl)
  · exact ja_ret (pc := 7) none .return_ (by decide +kernel) rfl (by cases hf; rfl)
def f_Model_lettersHere_L2  : Nat → Nat → Int32 → ja_S → Option (Int32 × ja_S)
  | 0, _, _, _ => none
  | n + 1, x0, x1, sg => (if (sg.1 x0 12) ≤ ((sg.1 x0 13) + x1) then some (x1, sg) else (ja_ld ja_L0 sg (ja_q x0 10) ((sg.1 x0 13) + x1)).bind fun v1 => (f_Model_isIn ((v1 : Int32).toInt64) (97 : Int64) (122 : Int64) sg).bind fun v2 => (if v2.1 = 0 then some (x1, v2.2) else f_Model_lettersHere_L2  n x0 (x1 + 1) v2.2))
set_option maxRecDepth 4000 in
theorem w_Model_lettersHere_L2 (C : ja_C) {w : Int32 × ja_S}    (n : Nat) : ∀ (x0 : Nat) (x1 : Int32) (sg : ja_S), ja_ob ja_L0 8 x0 → f_Model_lettersHere_L2  n x0 x1 sg = some w → ja_J M_Model_lettersHere C 2 [(0, .ref x0), (1, .int x1)] [] ja_L0 sg (some (.int w.1), ja_L0, w.2) := by
  induction n with
  | zero => intro _ _ _ _ hf; exact absurd (show (none : Option _) = some w from hf) (by simp)
  | succ n ih =>
    intro x0 x1 sg h0 hf
    unfold f_Model_lettersHere_L2 at hf
    refine ja_aload_n (pc := 2) (f := 0) (i := 0) 0 (by decide +kernel) rfl rfl ?_
    refine ja_geti (pc := 3) (idx := 80) (t := 8) (j := 13) (by decide +kernel) fd_Model_80 h0 ?_
    refine ja_iload_n (pc := 6) (f := 1) (i := 1) 1 (by decide +kernel) rfl rfl ?_
    refine ja_iadd (pc := 7) (by decide +kernel) ?_
    refine ja_aload_n (pc := 8) (f := 0) (i := 0) 0 (by decide +kernel) rfl rfl ?_
    refine ja_geti (pc := 9) (idx := 83) (t := 8) (j := 12) (by decide +kernel) fd_Model_83 h0 ?_
    refine ja_icmp_ge (pc := 12) (off := 33) 45 (by decide +kernel) (by decide) hf (fun hf => ?_) (fun hf => ?_)
    · refine ja_iload_n (pc := 45) (f := 1) (i := 1) 1 (by decide +kernel) rfl rfl ?_
      exact ja_ret (pc := 46) (some (.int x1)) .ireturn (by decide +kernel) rfl (by cases hf; rfl)
    · refine ja_aload_n (pc := 15) (f := 0) (i := 0) 0 (by decide +kernel) rfl rfl ?_
      refine ja_getr (pc := 16) (idx := 32) (t := 8) (j := 10) (by decide +kernel) fd_Model_32 h0 (fr_8_10 h0) ?_
      refine ja_aload_n (pc := 19) (f := 0) (i := 0) 0 (by decide +kernel) rfl rfl ?_
      refine ja_geti (pc := 20) (idx := 80) (t := 8) (j := 13) (by decide +kernel) fd_Model_80 h0 ?_
      refine ja_iload_n (pc := 23) (f := 1) (i := 1) 1 (by decide +kernel) rfl rfl ?_
      refine ja_iadd (pc := 24) (by decide +kernel) ?_
      refine ja_bind hf (fun v1 hv1 hf => ?_)
      refine ja_iald (pc := 25) (by decide +kernel) (fk_8_10 h0) hv1 ?_
      refine ja_i2l (pc := 26) (by decide +kernel) ?_
      refine ja_ldc2 (pc := 27) (idx := 89) (v := 97) (by decide +kernel) cl_Model_89 ?_
      refine ja_ldc2 (pc := 30) (idx := 91) (v := 122) (by decide +kernel) cl_Model_91 ?_
      refine ja_bind hf (fun v2 hv2 hf => ?_)
      refine ja_callSi (pc := 33) (idx := 93) (as := [.long ((v1 : Int32).toInt64), .long (97 : Int64), .long (122 : Int64)]) (st := []) (by decide +kernel) ks_Model_isIn lk_Model_93 ⟨by decide, by decide⟩ (c_Model_isIn _ _ ((v1 : Int32).toInt64) (97 : Int64) (122 : Int64)  hv2) rfl (Nat.le_of_ble_eq_true rfl) rfl ?_
      refine ja_if_eq (pc := 36) (off := 9) 45 (by decide +kernel) (by decide) hf (fun hf => ?_) (fun hf => ?_)
      · refine ja_iload_n (pc := 45) (f := 1) (i := 1) 1 (by decide +kernel) rfl rfl ?_
        exact ja_ret (pc := 46) (some (.int x1)) .ireturn (by decide +kernel) rfl (by cases hf; rfl)
      · refine ja_iinc (pc := 39) (i := 1) (n := 1) (v := x1 + 1) (lv' := [(1, .int (x1 + 1)), (0, .ref x0)]) 1 (by decide +kernel) rfl rfl (by decide) rfl ?_
        refine ja_goto (pc := 42) (off := (-40)) 2 (by decide +kernel) (by decide) ?_
        refine ja_lv [1, 0] rfl ?_
        exact ih x0 (x1 + 1) v2.2 h0 hf
def f_Model_lettersHere (x0 : Nat) (sg : ja_S) : Option (Int32 × ja_S) := f_Model_lettersHere_L2  ja_FU x0 (0 : Int32) sg
set_option maxRecDepth 4000 in
theorem c_Model_lettersHere (l : Launch) (x : ja_X) (x0 : Nat) {sg : ja_S} {w : Int32 × ja_S} (h0 : ja_ob ja_L0 8 x0) (hf : f_Model_lettersHere x0 sg = some w) : ja_Ct l x y_Model_lettersHere M_Model_lettersHere [.ref x0] ja_L0 sg (some (.int w.1), ja_L0, w.2) := by
  refine ja_mk ⟨by decide, rfl, rfl⟩ (Nat.le_of_ble_eq_true rfl) (lv := [(0, .ref x0)]) rfl (fun C hl hx _ _ _ _ => ?_)
  subst hl; subst hx
  unfold f_Model_lettersHere at hf
  refine ja_iconst (pc := 0) (n := 0) (v := 0) (by decide +kernel) (by decide +kernel) ?_
  refine ja_istore_n (pc := 1) (f := 1) (i := 1) (lv' := [(1, .int (0 : Int32)), (0, .ref x0)]) (by decide +kernel) rfl (by decide) rfl ?_
  refine ja_lv [1, 0] rfl ?_
  exact w_Model_lettersHere_L2 C  ja_FU x0 (0 : Int32) sg h0 hf
def f_Model_isDigitHere (x0 : Nat) (sg : ja_S) : Option (Int32 × ja_S) := (if (sg.1 x0 14) = 0 then (f_Model_peek x0 sg).bind fun v1 => (f_Model_isIn ((v1.1 : Int32).toInt64) (48 : Int64) (57 : Int64) v1.2).bind fun v2 => (if v2.1 = 0 then some ((0 : Int32), v2.2) else some ((1 : Int32), v2.2)) else some ((0 : Int32), sg))
set_option maxRecDepth 4000 in
theorem c_Model_isDigitHere (l : Launch) (x : ja_X) (x0 : Nat) {sg : ja_S} {w : Int32 × ja_S} (h0 : ja_ob ja_L0 8 x0) (hf : f_Model_isDigitHere x0 sg = some w) : ja_Ct l x y_Model_isDigitHere M_Model_isDigitHere [.ref x0] ja_L0 sg (some (.int w.1), ja_L0, w.2) := by
  refine ja_mk ⟨by decide, rfl, rfl⟩ (Nat.le_of_ble_eq_true rfl) (lv := [(0, .ref x0)]) rfl (fun C hl hx _ _ _ _ => ?_)
  subst hl; subst hx
  unfold f_Model_isDigitHere at hf
  refine ja_aload_n (pc := 0) (f := 0) (i := 0) 0 (by decide +kernel) rfl rfl ?_
  refine ja_geti (pc := 1) (idx := 86) (t := 8) (j := 14) (by decide +kernel) fd_Model_86 h0 ?_
  refine ja_if_ne (pc := 4) (off := 24) 28 (by decide +kernel) (by decide) hf (fun hf => ?_) (fun hf => ?_)
  · refine ja_iconst (pc := 28) (n := 0) (v := 0) (by decide +kernel) (by decide +kernel) ?_
    exact ja_ret (pc := 29) (some (.int (0 : Int32))) .ireturn (by decide +kernel) rfl (by cases hf; rfl)
  · refine ja_aload_n (pc := 7) (f := 0) (i := 0) 0 (by decide +kernel) rfl rfl ?_
    refine ja_bind hf (fun v1 hv1 hf => ?_)
    refine ja_callVi (pc := 8) (idx := 97) (t := 8) (b := x0) (as := []) (st := []) (by decide +kernel) kv_Model_peek lk_Model_97 ⟨by decide, by decide⟩ (c_Model_peek _ _ x0 h0 hv1) h0 rfl (Nat.le_of_ble_eq_true rfl) rfl ?_
    refine ja_i2l (pc := 11) (by decide +kernel) ?_
    refine ja_ldc2 (pc := 12) (idx := 122) (v := 48) (by decide +kernel) cl_Model_122 ?_
    refine ja_ldc2 (pc := 15) (idx := 124) (v := 57) (by decide +kernel) cl_Model_124 ?_
    refine ja_bind hf (fun v2 hv2 hf => ?_)
    refine ja_callSi (pc := 18) (idx := 93) (as := [.long ((v1.1 : Int32).toInt64), .long (48 : Int64), .long (57 : Int64)]) (st := []) (by decide +kernel) ks_Model_isIn lk_Model_93 ⟨by decide, by decide⟩ (c_Model_isIn _ _ ((v1.1 : Int32).toInt64) (48 : Int64) (57 : Int64)  hv2) rfl (Nat.le_of_ble_eq_true rfl) rfl ?_
    refine ja_if_eq (pc := 21) (off := 7) 28 (by decide +kernel) (by decide) hf (fun hf => ?_) (fun hf => ?_)
    · refine ja_iconst (pc := 28) (n := 0) (v := 0) (by decide +kernel) (by decide +kernel) ?_
      exact ja_ret (pc := 29) (some (.int (0 : Int32))) .ireturn (by decide +kernel) rfl (by cases hf; rfl)
    · refine ja_iconst (pc := 24) (n := 1) (v := 1) (by decide +kernel) (by decide +kernel) ?_
      refine ja_goto (pc := 25) (off := 4) 29 (by decide +kernel) (by decide) ?_
      exact ja_ret (pc := 29) (some (.int (1 : Int32))) .ireturn (by decide +kernel) rfl (by cases hf; rfl)
def f_Model_number_B148  (x0 : Nat) (x1 : Int32) (x3 : Int32) (sg : ja_S) : Option (Int32 × ja_S) := (if (sg.1 x0 14) = 0 then some (x3, sg) else some (x1, sg))
set_option maxRecDepth 4000 in
theorem w_Model_number_B148 (C : ja_C) {w : Int32 × ja_S}    (x0 : Nat) (x1 : Int32) (x3 : Int32) (sg : ja_S) (h0 : ja_ob ja_L0 8 x0) (hf : f_Model_number_B148  x0 x1 x3 sg = some w) : ja_J M_Model_number C 148 [(0, .ref x0), (1, .int x1), (3, .int x3)] [] ja_L0 sg (some (.int w.1), ja_L0, w.2) := by
  unfold f_Model_number_B148 at hf
  refine ja_aload_n (pc := 148) (f := 0) (i := 0) 0 (by decide +kernel) rfl rfl ?_
  refine ja_geti (pc := 149) (idx := 86) (t := 8) (j := 14) (by decide +kernel) fd_Model_86 h0 ?_
  refine ja_if_ne (pc := 152) (off := 7) 159 (by decide +kernel) (by decide) hf (fun hf => ?_) (fun hf => ?_)
  · refine ja_iload_n (pc := 159) (f := 1) (i := 1) 1 (by decide +kernel) rfl rfl ?_
    exact ja_ret (pc := 160) (some (.int x1)) .ireturn (by decide +kernel) rfl (by cases hf; rfl)
  · refine ja_iload_n (pc := 155) (f := 3) (i := 3) 2 (by decide +kernel) rfl rfl ?_
    refine ja_goto (pc := 156) (off := 4) 160 (by decide +kernel) (by decide) ?_
    exact ja_ret (pc := 160) (some (.int x3)) .ireturn (by decide +kernel) rfl (by cases hf; rfl)
def f_Model_number_B139  (x0 : Nat) (x1 : Int32) (x3 : Int32) (sg : ja_S) : Option (Int32 × ja_S) := (f_Model_fails x0 (2 : Int32) (sg.1 x0 16) sg).bind fun v1 => f_Model_number_B148  x0 x1 x3 v1
set_option maxRecDepth 4000 in
theorem w_Model_number_B139 (C : ja_C) {w : Int32 × ja_S}    (x0 : Nat) (x1 : Int32) (x3 : Int32) (sg : ja_S) (h0 : ja_ob ja_L0 8 x0) (hf : f_Model_number_B139  x0 x1 x3 sg = some w) : ja_J M_Model_number C 139 [(0, .ref x0), (1, .int x1), (3, .int x3)] [] ja_L0 sg (some (.int w.1), ja_L0, w.2) := by
  unfold f_Model_number_B139 at hf
  refine ja_aload_n (pc := 139) (f := 0) (i := 0) 0 (by decide +kernel) rfl rfl ?_
  refine ja_iconst (pc := 140) (n := 2) (v := 2) (by decide +kernel) (by decide +kernel) ?_
  refine ja_aload_n (pc := 141) (f := 0) (i := 0) 0 (by decide +kernel) rfl rfl ?_
  refine ja_geti (pc := 142) (idx := 130) (t := 8) (j := 16) (by decide +kernel) fd_Model_130 h0 ?_
  refine ja_bind hf (fun v1 hv1 hf => ?_)
  refine ja_callVv (pc := 145) (idx := 118) (t := 8) (b := x0) (as := [.int (2 : Int32), .int (sg.1 x0 16)]) (st := []) (by decide +kernel) kv_Model_fails lk_Model_118 ⟨by decide, by decide⟩ (c_Model_fails _ _ x0 (2 : Int32) (sg.1 x0 16) h0 hv1) h0 rfl (Nat.le_of_ble_eq_true rfl) rfl ?_
  exact w_Model_number_B148 C  x0 x1 x3 v1 h0 hf
def f_Model_number_B114  (x0 : Nat) (x1 : Int32) (x2 : Int32) (x3 : Int32) (sg : ja_S) : Option (Int32 × ja_S) := (if (4 : Int32) < ((sg.1 x0 13) - (sg.1 x0 16)) then f_Model_number_B139  x0 x1 x3 sg else (f_Model_isIn ((x3 : Int32).toInt64) ((x1 : Int32).toInt64) ((x2 : Int32).toInt64) sg).bind fun v1 => (if v1.1 = 0 then f_Model_number_B139  x0 x1 x3 v1.2 else f_Model_number_B148  x0 x1 x3 v1.2))
set_option maxRecDepth 4000 in
theorem w_Model_number_B114 (C : ja_C) {w : Int32 × ja_S}    (x0 : Nat) (x1 : Int32) (x2 : Int32) (x3 : Int32) (sg : ja_S) (h0 : ja_ob ja_L0 8 x0) (hf : f_Model_number_B114  x0 x1 x2 x3 sg = some w) : ja_J M_Model_number C 114 [(0, .ref x0), (1, .int x1), (2, .int x2), (3, .int x3)] [] ja_L0 sg (some (.int w.1), ja_L0, w.2) := by
  unfold f_Model_number_B114 at hf
  refine ja_aload_n (pc := 114) (f := 0) (i := 0) 0 (by decide +kernel) rfl rfl ?_
  refine ja_geti (pc := 115) (idx := 80) (t := 8) (j := 13) (by decide +kernel) fd_Model_80 h0 ?_
  refine ja_aload_n (pc := 118) (f := 0) (i := 0) 0 (by decide +kernel) rfl rfl ?_
  refine ja_geti (pc := 119) (idx := 130) (t := 8) (j := 16) (by decide +kernel) fd_Model_130 h0 ?_
  refine ja_isub (pc := 122) (by decide +kernel) ?_
  refine ja_iconst (pc := 123) (n := 4) (v := 4) (by decide +kernel) (by decide +kernel) ?_
  refine ja_icmp_gt (pc := 124) (off := 15) 139 (by decide +kernel) (by decide) hf (fun hf => ?_) (fun hf => ?_)
  · refine ja_lv [0, 1, 3] rfl ?_
    exact w_Model_number_B139 C  x0 x1 x3 sg h0 hf
  · refine ja_iload_n (pc := 127) (f := 3) (i := 3) 3 (by decide +kernel) rfl rfl ?_
    refine ja_i2l (pc := 128) (by decide +kernel) ?_
    refine ja_iload_n (pc := 129) (f := 1) (i := 1) 1 (by decide +kernel) rfl rfl ?_
    refine ja_i2l (pc := 130) (by decide +kernel) ?_
    refine ja_iload_n (pc := 131) (f := 2) (i := 2) 2 (by decide +kernel) rfl rfl ?_
    refine ja_i2l (pc := 132) (by decide +kernel) ?_
    refine ja_bind hf (fun v1 hv1 hf => ?_)
    refine ja_callSi (pc := 133) (idx := 93) (as := [.long ((x3 : Int32).toInt64), .long ((x1 : Int32).toInt64), .long ((x2 : Int32).toInt64)]) (st := []) (by decide +kernel) ks_Model_isIn lk_Model_93 ⟨by decide, by decide⟩ (c_Model_isIn _ _ ((x3 : Int32).toInt64) ((x1 : Int32).toInt64) ((x2 : Int32).toInt64)  hv1) rfl (Nat.le_of_ble_eq_true rfl) rfl ?_
    refine ja_if_ne (pc := 136) (off := 12) 148 (by decide +kernel) (by decide) hf (fun hf => ?_) (fun hf => ?_)
    · refine ja_lv [0, 1, 3] rfl ?_
      exact w_Model_number_B148 C  x0 x1 x3 v1.2 h0 hf
    · refine ja_lv [0, 1, 3] rfl ?_
      exact w_Model_number_B139 C  x0 x1 x3 v1.2 h0 hf
def f_Model_number_B101 (k37 : Nat → Int32 → Int32 → Int32 → ja_S → Option (Int32 × ja_S)) (x0 : Nat) (x1 : Int32) (x2 : Int32) (x3 : Int32) (sg : ja_S) : Option (Int32 × ja_S) := (ja_pu sg x0 13 ((sg.1 x0 13) + (1 : Int32))).bind fun s1 => k37 x0 x1 x2 x3 s1
set_option maxRecDepth 4000 in
theorem w_Model_number_B101 (C : ja_C) {w : Int32 × ja_S} {k37 : Nat → Int32 → Int32 → Int32 → ja_S → Option (Int32 × ja_S)} (e37 : ∀ (x0 : Nat) (x1 : Int32) (x2 : Int32) (x3 : Int32) (sg : ja_S), ja_ob ja_L0 8 x0 → k37 x0 x1 x2 x3 sg = some w → ja_J M_Model_number C 37 [(0, .ref x0), (1, .int x1), (2, .int x2), (3, .int x3)] [] ja_L0 sg (some (.int w.1), ja_L0, w.2))  (x0 : Nat) (x1 : Int32) (x2 : Int32) (x3 : Int32) (sg : ja_S) (h0 : ja_ob ja_L0 8 x0) (hf : f_Model_number_B101 k37 x0 x1 x2 x3 sg = some w) : ja_J M_Model_number C 101 [(0, .ref x0), (1, .int x1), (2, .int x2), (3, .int x3)] [] ja_L0 sg (some (.int w.1), ja_L0, w.2) := by
  unfold f_Model_number_B101 at hf
  refine ja_aload_n (pc := 101) (f := 0) (i := 0) 0 (by decide +kernel) rfl rfl ?_
  refine ja_dup (pc := 102) (by decide +kernel) rfl ?_
  refine ja_geti (pc := 103) (idx := 80) (t := 8) (j := 13) (by decide +kernel) fd_Model_80 h0 ?_
  refine ja_iconst (pc := 106) (n := 1) (v := 1) (by decide +kernel) (by decide +kernel) ?_
  refine ja_iadd (pc := 107) (by decide +kernel) ?_
  refine ja_bind hf (fun s1 hs1 hf => ?_)
  refine ja_puti2 (pc := 108) (idx := 80) (t := 8) (j := 13) (by decide +kernel) fd_Model_80 h0 ⟨rfl, rfl⟩ hs1 ?_
  refine ja_goto (pc := 111) (off := (-74)) 37 (by decide +kernel) (by decide) ?_
  exact e37 x0 x1 x2 x3 s1 h0 hf
def f_Model_number_L37  : Nat → Nat → Int32 → Int32 → Int32 → ja_S → Option (Int32 × ja_S)
  | 0, _, _, _, _, _ => none
  | n + 1, x0, x1, x2, x3, sg => (if (sg.1 x0 12) ≤ (sg.1 x0 13) then f_Model_number_B114  x0 x1 x2 x3 sg else (ja_ld ja_L0 sg (ja_q x0 10) (sg.1 x0 13)).bind fun v1 => (f_Model_isIn ((v1 : Int32).toInt64) (48 : Int64) (57 : Int64) sg).bind fun v2 => (if v2.1 = 0 then f_Model_number_B114  x0 x1 x2 x3 v2.2 else (if (4 : Int32) ≤ ((v2.2.1 x0 13) - (v2.2.1 x0 16)) then f_Model_number_B101 (f_Model_number_L37  n) x0 x1 x2 x3 v2.2 else (ja_ld ja_L0 v2.2 (ja_q x0 10) (v2.2.1 x0 13)).bind fun v3 => f_Model_number_B101 (f_Model_number_L37  n) x0 x1 x2 ((((10 : Int32) * x3) + v3) - (48 : Int32)) v2.2)))
set_option maxRecDepth 4000 in
theorem w_Model_number_L37 (C : ja_C) {w : Int32 × ja_S}    (n : Nat) : ∀ (x0 : Nat) (x1 : Int32) (x2 : Int32) (x3 : Int32) (sg : ja_S), ja_ob ja_L0 8 x0 → f_Model_number_L37  n x0 x1 x2 x3 sg = some w → ja_J M_Model_number C 37 [(0, .ref x0), (1, .int x1), (2, .int x2), (3, .int x3)] [] ja_L0 sg (some (.int w.1), ja_L0, w.2) := by
  induction n with
  | zero => intro _ _ _ _ _ _ hf; exact absurd (show (none : Option _) = some w from hf) (by simp)
  | succ n ih =>
    intro x0 x1 x2 x3 sg h0 hf
    unfold f_Model_number_L37 at hf
    refine ja_aload_n (pc := 37) (f := 0) (i := 0) 0 (by decide +kernel) rfl rfl ?_
    refine ja_geti (pc := 38) (idx := 80) (t := 8) (j := 13) (by decide +kernel) fd_Model_80 h0 ?_
    refine ja_aload_n (pc := 41) (f := 0) (i := 0) 0 (by decide +kernel) rfl rfl ?_
    refine ja_geti (pc := 42) (idx := 83) (t := 8) (j := 12) (by decide +kernel) fd_Model_83 h0 ?_
    refine ja_icmp_ge (pc := 45) (off := 69) 114 (by decide +kernel) (by decide) hf (fun hf => ?_) (fun hf => ?_)
    · exact w_Model_number_B114 C  x0 x1 x2 x3 sg h0 hf
    · refine ja_aload_n (pc := 48) (f := 0) (i := 0) 0 (by decide +kernel) rfl rfl ?_
      refine ja_getr (pc := 49) (idx := 32) (t := 8) (j := 10) (by decide +kernel) fd_Model_32 h0 (fr_8_10 h0) ?_
      refine ja_aload_n (pc := 52) (f := 0) (i := 0) 0 (by decide +kernel) rfl rfl ?_
      refine ja_geti (pc := 53) (idx := 80) (t := 8) (j := 13) (by decide +kernel) fd_Model_80 h0 ?_
      refine ja_bind hf (fun v1 hv1 hf => ?_)
      refine ja_iald (pc := 56) (by decide +kernel) (fk_8_10 h0) hv1 ?_
      refine ja_i2l (pc := 57) (by decide +kernel) ?_
      refine ja_ldc2 (pc := 58) (idx := 122) (v := 48) (by decide +kernel) cl_Model_122 ?_
      refine ja_ldc2 (pc := 61) (idx := 124) (v := 57) (by decide +kernel) cl_Model_124 ?_
      refine ja_bind hf (fun v2 hv2 hf => ?_)
      refine ja_callSi (pc := 64) (idx := 93) (as := [.long ((v1 : Int32).toInt64), .long (48 : Int64), .long (57 : Int64)]) (st := []) (by decide +kernel) ks_Model_isIn lk_Model_93 ⟨by decide, by decide⟩ (c_Model_isIn _ _ ((v1 : Int32).toInt64) (48 : Int64) (57 : Int64)  hv2) rfl (Nat.le_of_ble_eq_true rfl) rfl ?_
      refine ja_if_eq (pc := 67) (off := 47) 114 (by decide +kernel) (by decide) hf (fun hf => ?_) (fun hf => ?_)
      · exact w_Model_number_B114 C  x0 x1 x2 x3 v2.2 h0 hf
      · refine ja_aload_n (pc := 70) (f := 0) (i := 0) 0 (by decide +kernel) rfl rfl ?_
        refine ja_geti (pc := 71) (idx := 80) (t := 8) (j := 13) (by decide +kernel) fd_Model_80 h0 ?_
        refine ja_aload_n (pc := 74) (f := 0) (i := 0) 0 (by decide +kernel) rfl rfl ?_
        refine ja_geti (pc := 75) (idx := 130) (t := 8) (j := 16) (by decide +kernel) fd_Model_130 h0 ?_
        refine ja_isub (pc := 78) (by decide +kernel) ?_
        refine ja_iconst (pc := 79) (n := 4) (v := 4) (by decide +kernel) (by decide +kernel) ?_
        refine ja_icmp_ge (pc := 80) (off := 21) 101 (by decide +kernel) (by decide) hf (fun hf => ?_) (fun hf => ?_)
        · exact w_Model_number_B101 C ih x0 x1 x2 x3 v2.2 h0 hf
        · refine ja_bipush (pc := 83) (n := 10) (v := 10) (by decide +kernel) (by decide +kernel) ?_
          refine ja_iload_n (pc := 85) (f := 3) (i := 3) 3 (by decide +kernel) rfl rfl ?_
          refine ja_imul (pc := 86) (by decide +kernel) ?_
          refine ja_aload_n (pc := 87) (f := 0) (i := 0) 0 (by decide +kernel) rfl rfl ?_
          refine ja_getr (pc := 88) (idx := 32) (t := 8) (j := 10) (by decide +kernel) fd_Model_32 h0 (fr_8_10 h0) ?_
          refine ja_aload_n (pc := 91) (f := 0) (i := 0) 0 (by decide +kernel) rfl rfl ?_
          refine ja_geti (pc := 92) (idx := 80) (t := 8) (j := 13) (by decide +kernel) fd_Model_80 h0 ?_
          refine ja_bind hf (fun v3 hv3 hf => ?_)
          refine ja_iald (pc := 95) (by decide +kernel) (fk_8_10 h0) hv3 ?_
          refine ja_iadd (pc := 96) (by decide +kernel) ?_
          refine ja_bipush (pc := 97) (n := 48) (v := 48) (by decide +kernel) (by decide +kernel) ?_
          refine ja_isub (pc := 99) (by decide +kernel) ?_
          refine ja_istore_n (pc := 100) (f := 3) (i := 3) (lv' := [(3, .int ((((10 : Int32) * x3) + v3) - (48 : Int32))), (0, .ref x0), (1, .int x1), (2, .int x2)]) (by decide +kernel) rfl (by decide) rfl ?_
          refine ja_lv [1, 2, 3, 0] rfl ?_
          exact w_Model_number_B101 C ih x0 x1 x2 ((((10 : Int32) * x3) + v3) - (48 : Int32)) v2.2 h0 hf
def f_Model_number (x0 : Nat) (x1 : Int32) (x2 : Int32) (sg : ja_S) : Option (Int32 × ja_S) := (if (sg.1 x0 14) = 0 then (f_Model_isDigitHere x0 sg).bind fun v1 => (if v1.1 = 0 then (f_Model_fails x0 (1 : Int32) (v1.2.1 x0 13) v1.2).bind fun v3 => some (x1, v3) else (ja_pu v1.2 x0 16 (v1.2.1 x0 13)).bind fun s2 => f_Model_number_L37  ja_FU x0 x1 x2 (0 : Int32) s2) else some (x1, sg))
set_option maxRecDepth 4000 in
theorem c_Model_number (l : Launch) (x : ja_X) (x0 : Nat) (x1 : Int32) (x2 : Int32) {sg : ja_S} {w : Int32 × ja_S} (h0 : ja_ob ja_L0 8 x0) (hf : f_Model_number x0 x1 x2 sg = some w) : ja_Ct l x y_Model_number M_Model_number [.ref x0, .int x1, .int x2] ja_L0 sg (some (.int w.1), ja_L0, w.2) := by
  refine ja_mk ⟨by decide, rfl, rfl⟩ (Nat.le_of_ble_eq_true rfl) (lv := [(0, .ref x0), (1, .int x1), (2, .int x2)]) rfl (fun C hl hx _ _ _ _ => ?_)
  subst hl; subst hx
  unfold f_Model_number at hf
  refine ja_aload_n (pc := 0) (f := 0) (i := 0) 0 (by decide +kernel) rfl rfl ?_
  refine ja_geti (pc := 1) (idx := 86) (t := 8) (j := 14) (by decide +kernel) fd_Model_86 h0 ?_
  refine ja_if_eq (pc := 4) (off := 5) 9 (by decide +kernel) (by decide) hf (fun hf => ?_) (fun hf => ?_)
  · refine ja_aload_n (pc := 9) (f := 0) (i := 0) 0 (by decide +kernel) rfl rfl ?_
    refine ja_bind hf (fun v1 hv1 hf => ?_)
    refine ja_callVi (pc := 10) (idx := 126) (t := 8) (b := x0) (as := []) (st := []) (by decide +kernel) kv_Model_isDigitHere lk_Model_126 ⟨by decide, by decide⟩ (c_Model_isDigitHere _ _ x0 h0 hv1) h0 rfl (Nat.le_of_ble_eq_true rfl) rfl ?_
    refine ja_if_ne (pc := 13) (off := 14) 27 (by decide +kernel) (by decide) hf (fun hf => ?_) (fun hf => ?_)
    · refine ja_aload_n (pc := 27) (f := 0) (i := 0) 0 (by decide +kernel) rfl rfl ?_
      refine ja_aload_n (pc := 28) (f := 0) (i := 0) 0 (by decide +kernel) rfl rfl ?_
      refine ja_geti (pc := 29) (idx := 80) (t := 8) (j := 13) (by decide +kernel) fd_Model_80 h0 ?_
      refine ja_bind hf (fun s2 hs2 hf => ?_)
      refine ja_puti2 (pc := 32) (idx := 130) (t := 8) (j := 16) (by decide +kernel) fd_Model_130 h0 ⟨rfl, rfl⟩ hs2 ?_
      refine ja_iconst (pc := 35) (n := 0) (v := 0) (by decide +kernel) (by decide +kernel) ?_
      refine ja_istore_n (pc := 36) (f := 3) (i := 3) (lv' := [(3, .int (0 : Int32)), (0, .ref x0), (1, .int x1), (2, .int x2)]) (by decide +kernel) rfl (by decide) rfl ?_
      refine ja_lv [1, 2, 3, 0] rfl ?_
      exact w_Model_number_L37 C  ja_FU x0 x1 x2 (0 : Int32) s2 h0 hf
    · refine ja_aload_n (pc := 16) (f := 0) (i := 0) 0 (by decide +kernel) rfl rfl ?_
      refine ja_iconst (pc := 17) (n := 1) (v := 1) (by decide +kernel) (by decide +kernel) ?_
      refine ja_aload_n (pc := 18) (f := 0) (i := 0) 0 (by decide +kernel) rfl rfl ?_
      refine ja_geti (pc := 19) (idx := 80) (t := 8) (j := 13) (by decide +kernel) fd_Model_80 h0 ?_
      refine ja_bind hf (fun v3 hv3 hf => ?_)
      refine ja_callVv (pc := 22) (idx := 118) (t := 8) (b := x0) (as := [.int (1 : Int32), .int (v1.2.1 x0 13)]) (st := []) (by decide +kernel) kv_Model_fails lk_Model_118 ⟨by decide, by decide⟩ (c_Model_fails _ _ x0 (1 : Int32) (v1.2.1 x0 13) h0 hv3) h0 rfl (Nat.le_of_ble_eq_true rfl) rfl ?_
      refine ja_iload_n (pc := 25) (f := 1) (i := 1) 1 (by decide +kernel) rfl rfl ?_
      exact ja_ret (pc := 26) (some (.int x1)) .ireturn (by decide +kernel) rfl (by cases hf; rfl)
  · refine ja_iload_n (pc := 7) (f := 1) (i := 1) 1 (by decide +kernel) rfl rfl ?_
    exact ja_ret (pc := 8) (some (.int x1)) .ireturn (by decide +kernel) rfl (by cases hf; rfl)
def f_Model_semicolon_B25  (x0 : Nat) (sg : ja_S) : Option (ja_S) := (ja_pu sg x0 13 ((sg.1 x0 13) + (1 : Int32))).bind fun s1 => some s1
set_option maxRecDepth 4000 in
theorem w_Model_semicolon_B25 (C : ja_C) {w : ja_S}    (x0 : Nat) (sg : ja_S) (h0 : ja_ob ja_L0 8 x0) (hf : f_Model_semicolon_B25  x0 sg = some w) : ja_J M_Model_semicolon C 25 [(0, .ref x0)] [] ja_L0 sg (none, ja_L0, w) := by
  unfold f_Model_semicolon_B25 at hf
  refine ja_aload_n (pc := 25) (f := 0) (i := 0) 0 (by decide +kernel) rfl rfl ?_
  refine ja_dup (pc := 26) (by decide +kernel) rfl ?_
  refine ja_geti (pc := 27) (idx := 80) (t := 8) (j := 13) (by decide +kernel) fd_Model_80 h0 ?_
  refine ja_iconst (pc := 30) (n := 1) (v := 1) (by decide +kernel) (by decide +kernel) ?_
  refine ja_iadd (pc := 31) (by decide +kernel) ?_
  refine ja_bind hf (fun s1 hs1 hf => ?_)
  refine ja_puti2 (pc := 32) (idx := 80) (t := 8) (j := 13) (by decide +kernel) fd_Model_80 h0 ⟨rfl, rfl⟩ hs1 ?_
  exact ja_ret (pc := 35) none .return_ (by decide +kernel) rfl (by cases hf; rfl)
def f_Model_semicolon (x0 : Nat) (sg : ja_S) : Option (ja_S) := (if (sg.1 x0 14) = 0 then (f_Model_peek x0 sg).bind fun v1 => (if v1.1 = (59 : Int32) then f_Model_semicolon_B25  x0 v1.2 else (f_Model_fails x0 (1 : Int32) (v1.2.1 x0 13) v1.2).bind fun v2 => f_Model_semicolon_B25  x0 v2) else f_Model_semicolon_B25  x0 sg)
set_option maxRecDepth 4000 in
theorem c_Model_semicolon (l : Launch) (x : ja_X) (x0 : Nat) {sg : ja_S} {w : ja_S} (h0 : ja_ob ja_L0 8 x0) (hf : f_Model_semicolon x0 sg = some w) : ja_Ct l x y_Model_semicolon M_Model_semicolon [.ref x0] ja_L0 sg (none, ja_L0, w) := by
  refine ja_mk ⟨by decide, rfl, rfl⟩ (Nat.le_of_ble_eq_true rfl) (lv := [(0, .ref x0)]) rfl (fun C hl hx _ _ _ _ => ?_)
  subst hl; subst hx
  unfold f_Model_semicolon at hf
  refine ja_aload_n (pc := 0) (f := 0) (i := 0) 0 (by decide +kernel) rfl rfl ?_
  refine ja_geti (pc := 1) (idx := 86) (t := 8) (j := 14) (by decide +kernel) fd_Model_86 h0 ?_
  refine ja_if_ne (pc := 4) (off := 21) 25 (by decide +kernel) (by decide) hf (fun hf => ?_) (fun hf => ?_)
  · exact w_Model_semicolon_B25 C  x0 sg h0 hf
  · refine ja_aload_n (pc := 7) (f := 0) (i := 0) 0 (by decide +kernel) rfl rfl ?_
    refine ja_bind hf (fun v1 hv1 hf => ?_)
    refine ja_callVi (pc := 8) (idx := 97) (t := 8) (b := x0) (as := []) (st := []) (by decide +kernel) kv_Model_peek lk_Model_97 ⟨by decide, by decide⟩ (c_Model_peek _ _ x0 h0 hv1) h0 rfl (Nat.le_of_ble_eq_true rfl) rfl ?_
    refine ja_bipush (pc := 11) (n := 59) (v := 59) (by decide +kernel) (by decide +kernel) ?_
    refine ja_icmp_eq (pc := 13) (off := 12) 25 (by decide +kernel) (by decide) hf (fun hf => ?_) (fun hf => ?_)
    · exact w_Model_semicolon_B25 C  x0 v1.2 h0 hf
    · refine ja_aload_n (pc := 16) (f := 0) (i := 0) 0 (by decide +kernel) rfl rfl ?_
      refine ja_iconst (pc := 17) (n := 1) (v := 1) (by decide +kernel) (by decide +kernel) ?_
      refine ja_aload_n (pc := 18) (f := 0) (i := 0) 0 (by decide +kernel) rfl rfl ?_
      refine ja_geti (pc := 19) (idx := 80) (t := 8) (j := 13) (by decide +kernel) fd_Model_80 h0 ?_
      refine ja_bind hf (fun v2 hv2 hf => ?_)
      refine ja_callVv (pc := 22) (idx := 118) (t := 8) (b := x0) (as := [.int (1 : Int32), .int (v1.2.1 x0 13)]) (st := []) (by decide +kernel) kv_Model_fails lk_Model_118 ⟨by decide, by decide⟩ (c_Model_fails _ _ x0 (1 : Int32) (v1.2.1 x0 13) h0 hv2) h0 rfl (Nat.le_of_ble_eq_true rfl) rfl ?_
      exact w_Model_semicolon_B25 C  x0 v2 h0 hf
