def f_Model_lever (x0 : Nat) (sg : ja_S) : Option (Int32 × ja_S) := (f_Model_number x0 (0 : Int32) ((sg.1 x0 17) - (1 : Int32)) sg).bind fun v1 => some (v1.1, v1.2)
set_option maxRecDepth 4000 in
theorem c_Model_lever (l : Launch) (x : ja_X) (x0 : Nat) {sg : ja_S} {w : Int32 × ja_S} (h0 : ja_ob ja_L0 8 x0) (hf : f_Model_lever x0 sg = some w) : ja_Ct l x y_Model_lever M_Model_lever [.ref x0] ja_L0 sg (some (.int w.1), ja_L0, w.2) := by
  refine ja_mk ⟨by decide, rfl, rfl⟩ (Nat.le_of_ble_eq_true rfl) (lv := [(0, .ref x0)]) rfl (fun C hl hx _ _ _ _ => ?_)
  subst hl; subst hx
  unfold f_Model_lever at hf
  refine ja_aload_n (pc := 0) (f := 0) (i := 0) 0 (by decide +kernel) rfl rfl ?_
  refine ja_iconst (pc := 1) (n := 0) (v := 0) (by decide +kernel) (by decide +kernel) ?_
  refine ja_aload_n (pc := 2) (f := 0) (i := 0) 0 (by decide +kernel) rfl rfl ?_
  refine ja_geti (pc := 3) (idx := 133) (t := 8) (j := 17) (by decide +kernel) fd_Model_133 h0 ?_
  refine ja_iconst (pc := 6) (n := 1) (v := 1) (by decide +kernel) (by decide +kernel) ?_
  refine ja_isub (pc := 7) (by decide +kernel) ?_
  refine ja_bind hf (fun v1 hv1 hf => ?_)
  refine ja_callVi (pc := 8) (idx := 136) (t := 8) (b := x0) (as := [.int (0 : Int32), .int ((sg.1 x0 17) - (1 : Int32))]) (st := []) (by decide +kernel) kv_Model_number lk_Model_136 ⟨by decide, by decide⟩ (c_Model_number _ _ x0 (0 : Int32) ((sg.1 x0 17) - (1 : Int32)) h0 hv1) h0 rfl (Nat.le_of_ble_eq_true rfl) rfl ?_
  exact ja_ret (pc := 11) (some (.int v1.1)) .ireturn (by decide +kernel) rfl (by cases hf; rfl)
def f_Model_routeLine_B89  (x0 : Nat) (x1 : Int32) (sg : ja_S) : Option (ja_S) := (if (sg.1 x0 14) = 0 then (ja_st ja_L0 sg (ja_q x0 22) (sg.1 x0 19) x1).bind fun s1 => (ja_pu s1 x0 19 ((s1.1 x0 19) + (1 : Int32))).bind fun s2 => some s2 else some sg)
set_option maxRecDepth 4000 in
theorem w_Model_routeLine_B89 (C : ja_C) {w : ja_S}    (x0 : Nat) (x1 : Int32) (sg : ja_S) (h0 : ja_ob ja_L0 8 x0) (hf : f_Model_routeLine_B89  x0 x1 sg = some w) : ja_J M_Model_routeLine C 89 [(0, .ref x0), (1, .int x1)] [] ja_L0 sg (none, ja_L0, w) := by
  unfold f_Model_routeLine_B89 at hf
  refine ja_aload_n (pc := 89) (f := 0) (i := 0) 0 (by decide +kernel) rfl rfl ?_
  refine ja_geti (pc := 90) (idx := 86) (t := 8) (j := 14) (by decide +kernel) fd_Model_86 h0 ?_
  refine ja_if_eq (pc := 93) (off := 4) 97 (by decide +kernel) (by decide) hf (fun hf => ?_) (fun hf => ?_)
  · refine ja_aload_n (pc := 97) (f := 0) (i := 0) 0 (by decide +kernel) rfl rfl ?_
    refine ja_getr (pc := 98) (idx := 41) (t := 8) (j := 22) (by decide +kernel) fd_Model_41 h0 (fr_8_22 h0) ?_
    refine ja_aload_n (pc := 101) (f := 0) (i := 0) 0 (by decide +kernel) rfl rfl ?_
    refine ja_geti (pc := 102) (idx := 149) (t := 8) (j := 19) (by decide +kernel) fd_Model_149 h0 ?_
    refine ja_iload_n (pc := 105) (f := 1) (i := 1) 1 (by decide +kernel) rfl rfl ?_
    refine ja_bind hf (fun s1 hs1 hf => ?_)
    refine ja_iast (pc := 106) (by decide +kernel) (fk_8_22 h0) hs1 ?_
    refine ja_aload_n (pc := 107) (f := 0) (i := 0) 0 (by decide +kernel) rfl rfl ?_
    refine ja_dup (pc := 108) (by decide +kernel) rfl ?_
    refine ja_geti (pc := 109) (idx := 149) (t := 8) (j := 19) (by decide +kernel) fd_Model_149 h0 ?_
    refine ja_iconst (pc := 112) (n := 1) (v := 1) (by decide +kernel) (by decide +kernel) ?_
    refine ja_iadd (pc := 113) (by decide +kernel) ?_
    refine ja_bind hf (fun s2 hs2 hf => ?_)
    refine ja_puti2 (pc := 114) (idx := 149) (t := 8) (j := 19) (by decide +kernel) fd_Model_149 h0 ⟨rfl, rfl⟩ hs2 ?_
    exact ja_ret (pc := 117) none .return_ (by decide +kernel) rfl (by cases hf; rfl)
  · exact ja_ret (pc := 96) none .return_ (by decide +kernel) rfl (by cases hf; rfl)
def f_Model_routeLine_B80 (k33 : Nat → Int32 → ja_S → Option (ja_S)) (x0 : Nat) (x1 : Int32) (x2 : Int32) (sg : ja_S) : Option (ja_S) := k33 x0 (x1 ||| ((1 : Int32) <<< (x2 &&& 31))) sg
set_option maxRecDepth 4000 in
theorem w_Model_routeLine_B80 (C : ja_C) {w : ja_S} {k33 : Nat → Int32 → ja_S → Option (ja_S)} (e33 : ∀ (x0 : Nat) (x1 : Int32) (sg : ja_S), ja_ob ja_L0 8 x0 → k33 x0 x1 sg = some w → ja_J M_Model_routeLine C 33 [(0, .ref x0), (1, .int x1)] [] ja_L0 sg (none, ja_L0, w))  (x0 : Nat) (x1 : Int32) (x2 : Int32) (sg : ja_S) (h0 : ja_ob ja_L0 8 x0) (hf : f_Model_routeLine_B80 k33 x0 x1 x2 sg = some w) : ja_J M_Model_routeLine C 80 [(0, .ref x0), (1, .int x1), (2, .int x2)] [] ja_L0 sg (none, ja_L0, w) := by
  unfold f_Model_routeLine_B80 at hf
  refine ja_iload_n (pc := 80) (f := 1) (i := 1) 1 (by decide +kernel) rfl rfl ?_
  refine ja_iconst (pc := 81) (n := 1) (v := 1) (by decide +kernel) (by decide +kernel) ?_
  refine ja_iload_n (pc := 82) (f := 2) (i := 2) 2 (by decide +kernel) rfl rfl ?_
  refine ja_ishl (pc := 83) (by decide +kernel) ?_
  refine ja_ior (pc := 84) (by decide +kernel) ?_
  refine ja_istore_n (pc := 85) (f := 1) (i := 1) (lv' := [(1, .int (x1 ||| ((1 : Int32) <<< (x2 &&& 31)))), (0, .ref x0), (2, .int x2)]) (by decide +kernel) rfl (by decide) rfl ?_
  refine ja_goto (pc := 86) (off := (-53)) 33 (by decide +kernel) (by decide) ?_
  refine ja_lv [1, 0] rfl ?_
  exact e33 x0 (x1 ||| ((1 : Int32) <<< (x2 &&& 31))) sg h0 hf
def f_Model_routeLine_B51 (k33 : Nat → Int32 → ja_S → Option (ja_S)) (x0 : Nat) (x1 : Int32) (sg : ja_S) : Option (ja_S) := (f_Model_lever x0 sg).bind fun v1 => (if (v1.2.1 x0 14) = 0 then (f_Model_has x1 v1.1 v1.2).bind fun v2 => (if v2.1 = 0 then f_Model_routeLine_B80 k33 x0 x1 v1.1 v2.2 else (f_Model_fails x0 (3 : Int32) (v2.2.1 x0 16) v2.2).bind fun v3 => f_Model_routeLine_B80 k33 x0 x1 v1.1 v3) else f_Model_routeLine_B80 k33 x0 x1 v1.1 v1.2)
set_option maxRecDepth 4000 in
theorem w_Model_routeLine_B51 (C : ja_C) {w : ja_S} {k33 : Nat → Int32 → ja_S → Option (ja_S)} (e33 : ∀ (x0 : Nat) (x1 : Int32) (sg : ja_S), ja_ob ja_L0 8 x0 → k33 x0 x1 sg = some w → ja_J M_Model_routeLine C 33 [(0, .ref x0), (1, .int x1)] [] ja_L0 sg (none, ja_L0, w))  (x0 : Nat) (x1 : Int32) (sg : ja_S) (h0 : ja_ob ja_L0 8 x0) (hf : f_Model_routeLine_B51 k33 x0 x1 sg = some w) : ja_J M_Model_routeLine C 51 [(0, .ref x0), (1, .int x1)] [] ja_L0 sg (none, ja_L0, w) := by
  unfold f_Model_routeLine_B51 at hf
  refine ja_aload_n (pc := 51) (f := 0) (i := 0) 0 (by decide +kernel) rfl rfl ?_
  refine ja_bind hf (fun v1 hv1 hf => ?_)
  refine ja_callVi (pc := 52) (idx := 140) (t := 8) (b := x0) (as := []) (st := []) (by decide +kernel) kv_Model_lever lk_Model_140 ⟨by decide, by decide⟩ (c_Model_lever _ _ x0 h0 hv1) h0 rfl (Nat.le_of_ble_eq_true rfl) rfl ?_
  refine ja_istore_n (pc := 55) (f := 2) (i := 2) (lv' := [(2, .int v1.1), (0, .ref x0), (1, .int x1)]) (by decide +kernel) rfl (by decide) rfl ?_
  refine ja_aload_n (pc := 56) (f := 0) (i := 0) 1 (by decide +kernel) rfl rfl ?_
  refine ja_geti (pc := 57) (idx := 86) (t := 8) (j := 14) (by decide +kernel) fd_Model_86 h0 ?_
  refine ja_if_ne (pc := 60) (off := 20) 80 (by decide +kernel) (by decide) hf (fun hf => ?_) (fun hf => ?_)
  · refine ja_lv [1, 2, 0] rfl ?_
    exact w_Model_routeLine_B80 C e33 x0 x1 v1.1 v1.2 h0 hf
  · refine ja_iload_n (pc := 63) (f := 1) (i := 1) 2 (by decide +kernel) rfl rfl ?_
    refine ja_iload_n (pc := 64) (f := 2) (i := 2) 0 (by decide +kernel) rfl rfl ?_
    refine ja_bind hf (fun v2 hv2 hf => ?_)
    refine ja_callSi (pc := 65) (idx := 152) (as := [.int x1, .int v1.1]) (st := []) (by decide +kernel) ks_Model_has lk_Model_152 ⟨by decide, by decide⟩ (c_Model_has _ _ x1 v1.1  hv2) rfl (Nat.le_of_ble_eq_true rfl) rfl ?_
    refine ja_if_eq (pc := 68) (off := 12) 80 (by decide +kernel) (by decide) hf (fun hf => ?_) (fun hf => ?_)
    · refine ja_lv [1, 2, 0] rfl ?_
      exact w_Model_routeLine_B80 C e33 x0 x1 v1.1 v2.2 h0 hf
    · refine ja_aload_n (pc := 71) (f := 0) (i := 0) 1 (by decide +kernel) rfl rfl ?_
      refine ja_iconst (pc := 72) (n := 3) (v := 3) (by decide +kernel) (by decide +kernel) ?_
      refine ja_aload_n (pc := 73) (f := 0) (i := 0) 1 (by decide +kernel) rfl rfl ?_
      refine ja_geti (pc := 74) (idx := 130) (t := 8) (j := 16) (by decide +kernel) fd_Model_130 h0 ?_
      refine ja_bind hf (fun v3 hv3 hf => ?_)
      refine ja_callVv (pc := 77) (idx := 118) (t := 8) (b := x0) (as := [.int (3 : Int32), .int (v2.2.1 x0 16)]) (st := []) (by decide +kernel) kv_Model_fails lk_Model_118 ⟨by decide, by decide⟩ (c_Model_fails _ _ x0 (3 : Int32) (v2.2.1 x0 16) h0 hv3) h0 rfl (Nat.le_of_ble_eq_true rfl) rfl ?_
      refine ja_lv [1, 2, 0] rfl ?_
      exact w_Model_routeLine_B80 C e33 x0 x1 v1.1 v3 h0 hf
def f_Model_routeLine_L33  : Nat → Nat → Int32 → ja_S → Option (ja_S)
  | 0, _, _, _ => none
  | n + 1, x0, x1, sg => (if (sg.1 x0 14) = 0 then (if x1 = 0 then f_Model_routeLine_B51 (f_Model_routeLine_L33  n) x0 x1 sg else (f_Model_isDigitHere x0 sg).bind fun v1 => (if v1.1 = 0 then f_Model_routeLine_B89  x0 x1 v1.2 else f_Model_routeLine_B51 (f_Model_routeLine_L33  n) x0 x1 v1.2)) else f_Model_routeLine_B89  x0 x1 sg)
set_option maxRecDepth 4000 in
theorem w_Model_routeLine_L33 (C : ja_C) {w : ja_S}    (n : Nat) : ∀ (x0 : Nat) (x1 : Int32) (sg : ja_S), ja_ob ja_L0 8 x0 → f_Model_routeLine_L33  n x0 x1 sg = some w → ja_J M_Model_routeLine C 33 [(0, .ref x0), (1, .int x1)] [] ja_L0 sg (none, ja_L0, w) := by
  induction n with
  | zero => intro _ _ _ _ hf; exact absurd (show (none : Option _) = some w from hf) (by simp)
  | succ n ih =>
    intro x0 x1 sg h0 hf
    unfold f_Model_routeLine_L33 at hf
    refine ja_aload_n (pc := 33) (f := 0) (i := 0) 0 (by decide +kernel) rfl rfl ?_
    refine ja_geti (pc := 34) (idx := 86) (t := 8) (j := 14) (by decide +kernel) fd_Model_86 h0 ?_
    refine ja_if_ne (pc := 37) (off := 52) 89 (by decide +kernel) (by decide) hf (fun hf => ?_) (fun hf => ?_)
    · exact w_Model_routeLine_B89 C  x0 x1 sg h0 hf
    · refine ja_iload_n (pc := 40) (f := 1) (i := 1) 1 (by decide +kernel) rfl rfl ?_
      refine ja_if_eq (pc := 41) (off := 10) 51 (by decide +kernel) (by decide) hf (fun hf => ?_) (fun hf => ?_)
      · exact w_Model_routeLine_B51 C ih x0 x1 sg h0 hf
      · refine ja_aload_n (pc := 44) (f := 0) (i := 0) 0 (by decide +kernel) rfl rfl ?_
        refine ja_bind hf (fun v1 hv1 hf => ?_)
        refine ja_callVi (pc := 45) (idx := 126) (t := 8) (b := x0) (as := []) (st := []) (by decide +kernel) kv_Model_isDigitHere lk_Model_126 ⟨by decide, by decide⟩ (c_Model_isDigitHere _ _ x0 h0 hv1) h0 rfl (Nat.le_of_ble_eq_true rfl) rfl ?_
        refine ja_if_eq (pc := 48) (off := 41) 89 (by decide +kernel) (by decide) hf (fun hf => ?_) (fun hf => ?_)
        · exact w_Model_routeLine_B89 C  x0 x1 v1.2 h0 hf
        · exact w_Model_routeLine_B51 C ih x0 x1 v1.2 h0 hf
def f_Model_routeLine_B18  (x0 : Nat) (sg : ja_S) : Option (ja_S) := (f_Model_lettersHere x0 sg).bind fun v1 => (ja_pu v1.2 x0 13 ((sg.1 x0 13) + v1.1)).bind fun s2 => f_Model_routeLine_L33  ja_FU x0 (0 : Int32) s2
set_option maxRecDepth 4000 in
theorem w_Model_routeLine_B18 (C : ja_C) {w : ja_S}    (x0 : Nat) (sg : ja_S) (h0 : ja_ob ja_L0 8 x0) (hf : f_Model_routeLine_B18  x0 sg = some w) : ja_J M_Model_routeLine C 18 [(0, .ref x0)] [] ja_L0 sg (none, ja_L0, w) := by
  unfold f_Model_routeLine_B18 at hf
  refine ja_aload_n (pc := 18) (f := 0) (i := 0) 0 (by decide +kernel) rfl rfl ?_
  refine ja_dup (pc := 19) (by decide +kernel) rfl ?_
  refine ja_geti (pc := 20) (idx := 80) (t := 8) (j := 13) (by decide +kernel) fd_Model_80 h0 ?_
  refine ja_aload_n (pc := 23) (f := 0) (i := 0) 0 (by decide +kernel) rfl rfl ?_
  refine ja_bind hf (fun v1 hv1 hf => ?_)
  refine ja_callVi (pc := 24) (idx := 101) (t := 8) (b := x0) (as := []) (st := [.int (sg.1 x0 13), .ref x0]) (by decide +kernel) kv_Model_lettersHere lk_Model_101 ⟨by decide, by decide⟩ (c_Model_lettersHere _ _ x0 h0 hv1) h0 rfl (Nat.le_of_ble_eq_true rfl) rfl ?_
  refine ja_iadd (pc := 27) (by decide +kernel) ?_
  refine ja_bind hf (fun s2 hs2 hf => ?_)
  refine ja_puti2 (pc := 28) (idx := 80) (t := 8) (j := 13) (by decide +kernel) fd_Model_80 h0 ⟨rfl, rfl⟩ hs2 ?_
  refine ja_iconst (pc := 31) (n := 0) (v := 0) (by decide +kernel) (by decide +kernel) ?_
  refine ja_istore_n (pc := 32) (f := 1) (i := 1) (lv' := [(1, .int (0 : Int32)), (0, .ref x0)]) (by decide +kernel) rfl (by decide) rfl ?_
  refine ja_lv [1, 0] rfl ?_
  exact w_Model_routeLine_L33 C  ja_FU x0 (0 : Int32) s2 h0 hf
def f_Model_routeLine (x0 : Nat) (sg : ja_S) : Option (ja_S) := (if (sg.1 x0 19) = (8 : Int32) then (f_Model_fails x0 (4 : Int32) (sg.1 x0 13) sg).bind fun v1 => f_Model_routeLine_B18  x0 v1 else f_Model_routeLine_B18  x0 sg)
set_option maxRecDepth 4000 in
theorem c_Model_routeLine (l : Launch) (x : ja_X) (x0 : Nat) {sg : ja_S} {w : ja_S} (h0 : ja_ob ja_L0 8 x0) (hf : f_Model_routeLine x0 sg = some w) : ja_Ct l x y_Model_routeLine M_Model_routeLine [.ref x0] ja_L0 sg (none, ja_L0, w) := by
  refine ja_mk ⟨by decide, rfl, rfl⟩ (Nat.le_of_ble_eq_true rfl) (lv := [(0, .ref x0)]) rfl (fun C hl hx _ _ _ _ => ?_)
  subst hl; subst hx
  unfold f_Model_routeLine at hf
  refine ja_aload_n (pc := 0) (f := 0) (i := 0) 0 (by decide +kernel) rfl rfl ?_
  refine ja_geti (pc := 1) (idx := 149) (t := 8) (j := 19) (by decide +kernel) fd_Model_149 h0 ?_
  refine ja_bipush (pc := 4) (n := 8) (v := 8) (by decide +kernel) (by decide +kernel) ?_
  refine ja_icmp_ne (pc := 6) (off := 12) 18 (by decide +kernel) (by decide) hf (fun hf => ?_) (fun hf => ?_)
  · exact w_Model_routeLine_B18 C  x0 sg h0 hf
  · refine ja_aload_n (pc := 9) (f := 0) (i := 0) 0 (by decide +kernel) rfl rfl ?_
    refine ja_iconst (pc := 10) (n := 4) (v := 4) (by decide +kernel) (by decide +kernel) ?_
    refine ja_aload_n (pc := 11) (f := 0) (i := 0) 0 (by decide +kernel) rfl rfl ?_
    refine ja_geti (pc := 12) (idx := 80) (t := 8) (j := 13) (by decide +kernel) fd_Model_80 h0 ?_
    refine ja_bind hf (fun v1 hv1 hf => ?_)
    refine ja_callVv (pc := 15) (idx := 118) (t := 8) (b := x0) (as := [.int (4 : Int32), .int (sg.1 x0 13)]) (st := []) (by decide +kernel) kv_Model_fails lk_Model_118 ⟨by decide, by decide⟩ (c_Model_fails _ _ x0 (4 : Int32) (sg.1 x0 13) h0 hv1) h0 rfl (Nat.le_of_ble_eq_true rfl) rfl ?_
    exact w_Model_routeLine_B18 C  x0 v1 h0 hf
def f_Model_isDeclared_B46 (k14 : Nat → Int32 → Int32 → Int32 → Int32 → ja_S → Option (Int32 × ja_S)) (x0 : Nat) (x1 : Int32) (x2 : Int32) (x4 : Int32) (y0 : Int32) (sg : ja_S) : Option (Int32 × ja_S) := (ja_ld ja_L0 sg (ja_q x0 23) x4).bind fun v1 => (if v1 = x2 then (ja_ld ja_L0 sg (ja_q x0 24) x4).bind fun v2 => (if v2 = x1 then k14 x0 x1 x2 (y0 ||| (1 : Int32)) (x4 + 1) sg else k14 x0 x1 x2 (y0 ||| (0 : Int32)) (x4 + 1) sg) else k14 x0 x1 x2 (y0 ||| (0 : Int32)) (x4 + 1) sg)
set_option maxRecDepth 4000 in
theorem w_Model_isDeclared_B46 (C : ja_C) {w : Int32 × ja_S} {k14 : Nat → Int32 → Int32 → Int32 → Int32 → ja_S → Option (Int32 × ja_S)} (e14 : ∀ (x0 : Nat) (x1 : Int32) (x2 : Int32) (x3 : Int32) (x4 : Int32) (sg : ja_S), ja_ob ja_L0 8 x0 → k14 x0 x1 x2 x3 x4 sg = some w → ja_J M_Model_isDeclared C 14 [(0, .ref x0), (1, .int x1), (2, .int x2), (3, .int x3), (4, .int x4)] [] ja_L0 sg (some (.int w.1), ja_L0, w.2))  (x0 : Nat) (x1 : Int32) (x2 : Int32) (x4 : Int32) (y0 : Int32) (sg : ja_S) (h0 : ja_ob ja_L0 8 x0) (hf : f_Model_isDeclared_B46 k14 x0 x1 x2 x4 y0 sg = some w) : ja_J M_Model_isDeclared C 46 [(0, .ref x0), (1, .int x1), (2, .int x2), (4, .int x4)] [.int y0] ja_L0 sg (some (.int w.1), ja_L0, w.2) := by
  unfold f_Model_isDeclared_B46 at hf
  refine ja_aload_n (pc := 46) (f := 0) (i := 0) 0 (by decide +kernel) rfl rfl ?_
  refine ja_getr (pc := 47) (idx := 44) (t := 8) (j := 23) (by decide +kernel) fd_Model_44 h0 (fr_8_23 h0) ?_
  refine ja_iload (pc := 50) (i := 4) 3 (by decide +kernel) rfl ?_
  refine ja_bind hf (fun v1 hv1 hf => ?_)
  refine ja_iald (pc := 52) (by decide +kernel) (fk_8_23 h0) hv1 ?_
  refine ja_iload_n (pc := 53) (f := 2) (i := 2) 2 (by decide +kernel) rfl rfl ?_
  refine ja_icmp_ne (pc := 54) (off := 18) 72 (by decide +kernel) (by decide) hf (fun hf => ?_) (fun hf => ?_)
  · refine ja_iconst (pc := 72) (n := 0) (v := 0) (by decide +kernel) (by decide +kernel) ?_
    refine ja_ior (pc := 73) (by decide +kernel) ?_
    refine ja_istore_n (pc := 74) (f := 3) (i := 3) (lv' := [(3, .int (y0 ||| (0 : Int32))), (0, .ref x0), (1, .int x1), (2, .int x2), (4, .int x4)]) (by decide +kernel) rfl (by decide) rfl ?_
    refine ja_iinc (pc := 75) (i := 4) (n := 1) (v := x4 + 1) (lv' := [(4, .int (x4 + 1)), (3, .int (y0 ||| (0 : Int32))), (0, .ref x0), (1, .int x1), (2, .int x2)]) 4 (by decide +kernel) rfl rfl (by decide) rfl ?_
    refine ja_goto (pc := 78) (off := (-64)) 14 (by decide +kernel) (by decide) ?_
    refine ja_lv [2, 3, 4, 1, 0] rfl ?_
    exact e14 x0 x1 x2 (y0 ||| (0 : Int32)) (x4 + 1) sg h0 hf
  · refine ja_aload_n (pc := 57) (f := 0) (i := 0) 0 (by decide +kernel) rfl rfl ?_
    refine ja_getr (pc := 58) (idx := 47) (t := 8) (j := 24) (by decide +kernel) fd_Model_47 h0 (fr_8_24 h0) ?_
    refine ja_iload (pc := 61) (i := 4) 3 (by decide +kernel) rfl ?_
    refine ja_bind hf (fun v2 hv2 hf => ?_)
    refine ja_iald (pc := 63) (by decide +kernel) (fk_8_24 h0) hv2 ?_
    refine ja_iload_n (pc := 64) (f := 1) (i := 1) 1 (by decide +kernel) rfl rfl ?_
    refine ja_icmp_ne (pc := 65) (off := 7) 72 (by decide +kernel) (by decide) hf (fun hf => ?_) (fun hf => ?_)
    · refine ja_iconst (pc := 72) (n := 0) (v := 0) (by decide +kernel) (by decide +kernel) ?_
      refine ja_ior (pc := 73) (by decide +kernel) ?_
      refine ja_istore_n (pc := 74) (f := 3) (i := 3) (lv' := [(3, .int (y0 ||| (0 : Int32))), (0, .ref x0), (1, .int x1), (2, .int x2), (4, .int x4)]) (by decide +kernel) rfl (by decide) rfl ?_
      refine ja_iinc (pc := 75) (i := 4) (n := 1) (v := x4 + 1) (lv' := [(4, .int (x4 + 1)), (3, .int (y0 ||| (0 : Int32))), (0, .ref x0), (1, .int x1), (2, .int x2)]) 4 (by decide +kernel) rfl rfl (by decide) rfl ?_
      refine ja_goto (pc := 78) (off := (-64)) 14 (by decide +kernel) (by decide) ?_
      refine ja_lv [2, 3, 4, 1, 0] rfl ?_
      exact e14 x0 x1 x2 (y0 ||| (0 : Int32)) (x4 + 1) sg h0 hf
    · refine ja_iconst (pc := 68) (n := 1) (v := 1) (by decide +kernel) (by decide +kernel) ?_
      refine ja_goto (pc := 69) (off := 4) 73 (by decide +kernel) (by decide) ?_
      refine ja_ior (pc := 73) (by decide +kernel) ?_
      refine ja_istore_n (pc := 74) (f := 3) (i := 3) (lv' := [(3, .int (y0 ||| (1 : Int32))), (0, .ref x0), (1, .int x1), (2, .int x2), (4, .int x4)]) (by decide +kernel) rfl (by decide) rfl ?_
      refine ja_iinc (pc := 75) (i := 4) (n := 1) (v := x4 + 1) (lv' := [(4, .int (x4 + 1)), (3, .int (y0 ||| (1 : Int32))), (0, .ref x0), (1, .int x1), (2, .int x2)]) 4 (by decide +kernel) rfl rfl (by decide) rfl ?_
      refine ja_goto (pc := 78) (off := (-64)) 14 (by decide +kernel) (by decide) ?_
      refine ja_lv [2, 3, 4, 1, 0] rfl ?_
      exact e14 x0 x1 x2 (y0 ||| (1 : Int32)) (x4 + 1) sg h0 hf
def f_Model_isDeclared_L14  : Nat → Nat → Int32 → Int32 → Int32 → Int32 → ja_S → Option (Int32 × ja_S)
  | 0, _, _, _, _, _, _ => none
  | n + 1, x0, x1, x2, x3, x4, sg => (if (sg.1 x0 20) ≤ x4 then ja_rb x3 sg else (ja_ld ja_L0 sg (ja_q x0 23) x4).bind fun v1 => (if v1 = x1 then (ja_ld ja_L0 sg (ja_q x0 24) x4).bind fun v2 => (if v2 = x2 then f_Model_isDeclared_L14  n x0 x1 x2 (x3 ||| (1 : Int32)) (x4 + 1) sg else f_Model_isDeclared_B46 (f_Model_isDeclared_L14  n) x0 x1 x2 x4 x3 sg) else f_Model_isDeclared_B46 (f_Model_isDeclared_L14  n) x0 x1 x2 x4 x3 sg))
set_option maxRecDepth 4000 in
theorem w_Model_isDeclared_L14 (C : ja_C) {w : Int32 × ja_S}    (n : Nat) : ∀ (x0 : Nat) (x1 : Int32) (x2 : Int32) (x3 : Int32) (x4 : Int32) (sg : ja_S), ja_ob ja_L0 8 x0 → f_Model_isDeclared_L14  n x0 x1 x2 x3 x4 sg = some w → ja_J M_Model_isDeclared C 14 [(0, .ref x0), (1, .int x1), (2, .int x2), (3, .int x3), (4, .int x4)] [] ja_L0 sg (some (.int w.1), ja_L0, w.2) := by
  induction n with
  | zero => intro _ _ _ _ _ _ _ hf; exact absurd (show (none : Option _) = some w from hf) (by simp)
  | succ n ih =>
    intro x0 x1 x2 x3 x4 sg h0 hf
    unfold f_Model_isDeclared_L14 at hf
    refine ja_iload (pc := 14) (i := 4) 4 (by decide +kernel) rfl ?_
    refine ja_aload_n (pc := 16) (f := 0) (i := 0) 0 (by decide +kernel) rfl rfl ?_
    refine ja_geti (pc := 17) (idx := 156) (t := 8) (j := 20) (by decide +kernel) fd_Model_156 h0 ?_
    refine ja_icmp_ge (pc := 20) (off := 61) 81 (by decide +kernel) (by decide) hf (fun hf => ?_) (fun hf => ?_)
    · refine ja_iload_n (pc := 81) (f := 3) (i := 3) 3 (by decide +kernel) rfl rfl ?_
      obtain ⟨hrb, hw⟩ := ja_ite hf
      exact ja_ret (pc := 82) (some (.int x3)) .ireturn (by decide +kernel) (ja_ri_b hrb) (by cases hw; rfl)
    · refine ja_iload_n (pc := 23) (f := 3) (i := 3) 3 (by decide +kernel) rfl rfl ?_
      refine ja_aload_n (pc := 24) (f := 0) (i := 0) 0 (by decide +kernel) rfl rfl ?_
      refine ja_getr (pc := 25) (idx := 44) (t := 8) (j := 23) (by decide +kernel) fd_Model_44 h0 (fr_8_23 h0) ?_
      refine ja_iload (pc := 28) (i := 4) 4 (by decide +kernel) rfl ?_
      refine ja_bind hf (fun v1 hv1 hf => ?_)
      refine ja_iald (pc := 30) (by decide +kernel) (fk_8_23 h0) hv1 ?_
      refine ja_iload_n (pc := 31) (f := 1) (i := 1) 1 (by decide +kernel) rfl rfl ?_
      refine ja_icmp_ne (pc := 32) (off := 14) 46 (by decide +kernel) (by decide) hf (fun hf => ?_) (fun hf => ?_)
      · refine ja_lv [0, 1, 2, 4] rfl ?_
        exact w_Model_isDeclared_B46 C ih x0 x1 x2 x4 x3 sg h0 hf
      · refine ja_aload_n (pc := 35) (f := 0) (i := 0) 0 (by decide +kernel) rfl rfl ?_
        refine ja_getr (pc := 36) (idx := 47) (t := 8) (j := 24) (by decide +kernel) fd_Model_47 h0 (fr_8_24 h0) ?_
        refine ja_iload (pc := 39) (i := 4) 4 (by decide +kernel) rfl ?_
        refine ja_bind hf (fun v2 hv2 hf => ?_)
        refine ja_iald (pc := 41) (by decide +kernel) (fk_8_24 h0) hv2 ?_
        refine ja_iload_n (pc := 42) (f := 2) (i := 2) 2 (by decide +kernel) rfl rfl ?_
        refine ja_icmp_eq (pc := 43) (off := 25) 68 (by decide +kernel) (by decide) hf (fun hf => ?_) (fun hf => ?_)
        · refine ja_iconst (pc := 68) (n := 1) (v := 1) (by decide +kernel) (by decide +kernel) ?_
          refine ja_goto (pc := 69) (off := 4) 73 (by decide +kernel) (by decide) ?_
          refine ja_ior (pc := 73) (by decide +kernel) ?_
          refine ja_istore_n (pc := 74) (f := 3) (i := 3) (lv' := [(3, .int (x3 ||| (1 : Int32))), (0, .ref x0), (1, .int x1), (2, .int x2), (4, .int x4)]) (by decide +kernel) rfl (by decide) rfl ?_
          refine ja_iinc (pc := 75) (i := 4) (n := 1) (v := x4 + 1) (lv' := [(4, .int (x4 + 1)), (3, .int (x3 ||| (1 : Int32))), (0, .ref x0), (1, .int x1), (2, .int x2)]) 4 (by decide +kernel) rfl rfl (by decide) rfl ?_
          refine ja_goto (pc := 78) (off := (-64)) 14 (by decide +kernel) (by decide) ?_
          refine ja_lv [2, 3, 4, 1, 0] rfl ?_
          exact ih x0 x1 x2 (x3 ||| (1 : Int32)) (x4 + 1) sg h0 hf
        · refine ja_lv [0, 1, 2, 4] rfl ?_
          exact w_Model_isDeclared_B46 C ih x0 x1 x2 x4 x3 sg h0 hf
def f_Model_isDeclared (x0 : Nat) (x1 : Int32) (x2 : Int32) (sg : ja_S) : Option (Int32 × ja_S) := (if x1 = x2 then f_Model_isDeclared_L14  ja_FU x0 x1 x2 (1 : Int32) (0 : Int32) sg else f_Model_isDeclared_L14  ja_FU x0 x1 x2 (0 : Int32) (0 : Int32) sg)
set_option maxRecDepth 4000 in
theorem c_Model_isDeclared (l : Launch) (x : ja_X) (x0 : Nat) (x1 : Int32) (x2 : Int32) {sg : ja_S} {w : Int32 × ja_S} (h0 : ja_ob ja_L0 8 x0) (hf : f_Model_isDeclared x0 x1 x2 sg = some w) : ja_Ct l x y_Model_isDeclared M_Model_isDeclared [.ref x0, .int x1, .int x2] ja_L0 sg (some (.int w.1), ja_L0, w.2) := by
  refine ja_mk ⟨by decide, rfl, rfl⟩ (Nat.le_of_ble_eq_true rfl) (lv := [(0, .ref x0), (1, .int x1), (2, .int x2)]) rfl (fun C hl hx _ _ _ _ => ?_)
  subst hl; subst hx
  unfold f_Model_isDeclared at hf
  refine ja_iload_n (pc := 0) (f := 1) (i := 1) 1 (by decide +kernel) rfl rfl ?_
  refine ja_iload_n (pc := 1) (f := 2) (i := 2) 2 (by decide +kernel) rfl rfl ?_
  refine ja_icmp_ne (pc := 2) (off := 7) 9 (by decide +kernel) (by decide) hf (fun hf => ?_) (fun hf => ?_)
  · refine ja_iconst (pc := 9) (n := 0) (v := 0) (by decide +kernel) (by decide +kernel) ?_
    refine ja_istore_n (pc := 10) (f := 3) (i := 3) (lv' := [(3, .int (0 : Int32)), (0, .ref x0), (1, .int x1), (2, .int x2)]) (by decide +kernel) rfl (by decide) rfl ?_
    refine ja_iconst (pc := 11) (n := 0) (v := 0) (by decide +kernel) (by decide +kernel) ?_
    refine ja_istore (pc := 12) (i := 4) (lv' := [(4, .int (0 : Int32)), (3, .int (0 : Int32)), (0, .ref x0), (1, .int x1), (2, .int x2)]) (by decide +kernel) (by decide) rfl ?_
    refine ja_lv [2, 3, 4, 1, 0] rfl ?_
    exact w_Model_isDeclared_L14 C  ja_FU x0 x1 x2 (0 : Int32) (0 : Int32) sg h0 hf
  · refine ja_iconst (pc := 5) (n := 1) (v := 1) (by decide +kernel) (by decide +kernel) ?_
    refine ja_goto (pc := 6) (off := 4) 10 (by decide +kernel) (by decide) ?_
    refine ja_istore_n (pc := 10) (f := 3) (i := 3) (lv' := [(3, .int (1 : Int32)), (0, .ref x0), (1, .int x1), (2, .int x2)]) (by decide +kernel) rfl (by decide) rfl ?_
    refine ja_iconst (pc := 11) (n := 0) (v := 0) (by decide +kernel) (by decide +kernel) ?_
    refine ja_istore (pc := 12) (i := 4) (lv' := [(4, .int (0 : Int32)), (3, .int (1 : Int32)), (0, .ref x0), (1, .int x1), (2, .int x2)]) (by decide +kernel) (by decide) rfl ?_
    refine ja_lv [2, 3, 4, 1, 0] rfl ?_
    exact w_Model_isDeclared_L14 C  ja_FU x0 x1 x2 (1 : Int32) (0 : Int32) sg h0 hf
def f_Model_conflictLine_B80  (x0 : Nat) (x1 : Int32) (x2 : Int32) (sg : ja_S) : Option (ja_S) := (if (sg.1 x0 14) = 0 then (ja_st ja_L0 sg (ja_q x0 23) (sg.1 x0 20) x1).bind fun s1 => (ja_st ja_L0 s1 (ja_q x0 24) (s1.1 x0 20) x2).bind fun s2 => (ja_pu s2 x0 20 ((s2.1 x0 20) + (1 : Int32))).bind fun s3 => some s3 else some sg)
set_option maxRecDepth 4000 in
theorem w_Model_conflictLine_B80 (C : ja_C) {w : ja_S}    (x0 : Nat) (x1 : Int32) (x2 : Int32) (sg : ja_S) (h0 : ja_ob ja_L0 8 x0) (hf : f_Model_conflictLine_B80  x0 x1 x2 sg = some w) : ja_J M_Model_conflictLine C 80 [(0, .ref x0), (1, .int x1), (2, .int x2)] [] ja_L0 sg (none, ja_L0, w) := by
  unfold f_Model_conflictLine_B80 at hf
  refine ja_aload_n (pc := 80) (f := 0) (i := 0) 0 (by decide +kernel) rfl rfl ?_
  refine ja_geti (pc := 81) (idx := 86) (t := 8) (j := 14) (by decide +kernel) fd_Model_86 h0 ?_
  refine ja_if_eq (pc := 84) (off := 4) 88 (by decide +kernel) (by decide) hf (fun hf => ?_) (fun hf => ?_)
  · refine ja_aload_n (pc := 88) (f := 0) (i := 0) 0 (by decide +kernel) rfl rfl ?_
    refine ja_getr (pc := 89) (idx := 44) (t := 8) (j := 23) (by decide +kernel) fd_Model_44 h0 (fr_8_23 h0) ?_
    refine ja_aload_n (pc := 92) (f := 0) (i := 0) 0 (by decide +kernel) rfl rfl ?_
    refine ja_geti (pc := 93) (idx := 156) (t := 8) (j := 20) (by decide +kernel) fd_Model_156 h0 ?_
    refine ja_iload_n (pc := 96) (f := 1) (i := 1) 1 (by decide +kernel) rfl rfl ?_
    refine ja_bind hf (fun s1 hs1 hf => ?_)
    refine ja_iast (pc := 97) (by decide +kernel) (fk_8_23 h0) hs1 ?_
    refine ja_aload_n (pc := 98) (f := 0) (i := 0) 0 (by decide +kernel) rfl rfl ?_
    refine ja_getr (pc := 99) (idx := 47) (t := 8) (j := 24) (by decide +kernel) fd_Model_47 h0 (fr_8_24 h0) ?_
    refine ja_aload_n (pc := 102) (f := 0) (i := 0) 0 (by decide +kernel) rfl rfl ?_
    refine ja_geti (pc := 103) (idx := 156) (t := 8) (j := 20) (by decide +kernel) fd_Model_156 h0 ?_
    refine ja_iload_n (pc := 106) (f := 2) (i := 2) 2 (by decide +kernel) rfl rfl ?_
    refine ja_bind hf (fun s2 hs2 hf => ?_)
    refine ja_iast (pc := 107) (by decide +kernel) (fk_8_24 h0) hs2 ?_
    refine ja_aload_n (pc := 108) (f := 0) (i := 0) 0 (by decide +kernel) rfl rfl ?_
    refine ja_dup (pc := 109) (by decide +kernel) rfl ?_
    refine ja_geti (pc := 110) (idx := 156) (t := 8) (j := 20) (by decide +kernel) fd_Model_156 h0 ?_
    refine ja_iconst (pc := 113) (n := 1) (v := 1) (by decide +kernel) (by decide +kernel) ?_
    refine ja_iadd (pc := 114) (by decide +kernel) ?_
    refine ja_bind hf (fun s3 hs3 hf => ?_)
    refine ja_puti2 (pc := 115) (idx := 156) (t := 8) (j := 20) (by decide +kernel) fd_Model_156 h0 ⟨rfl, rfl⟩ hs3 ?_
    exact ja_ret (pc := 118) none .return_ (by decide +kernel) rfl (by cases hf; rfl)
  · exact ja_ret (pc := 87) none .return_ (by decide +kernel) rfl (by cases hf; rfl)
def f_Model_conflictLine_B18  (x0 : Nat) (sg : ja_S) : Option (ja_S) := (f_Model_lettersHere x0 sg).bind fun v1 => (ja_pu v1.2 x0 13 ((sg.1 x0 13) + v1.1)).bind fun s2 => (f_Model_number x0 (0 : Int32) ((s2.1 x0 19) - (1 : Int32)) s2).bind fun v3 => (f_Model_number x0 (0 : Int32) ((v3.2.1 x0 19) - (1 : Int32)) v3.2).bind fun v4 => (if (v4.2.1 x0 14) = 0 then (f_Model_isDeclared x0 v3.1 v4.1 v4.2).bind fun v5 => (if v5.1 = 0 then f_Model_conflictLine_B80  x0 v3.1 v4.1 v5.2 else (f_Model_fails x0 (3 : Int32) (v5.2.1 x0 16) v5.2).bind fun v6 => f_Model_conflictLine_B80  x0 v3.1 v4.1 v6) else f_Model_conflictLine_B80  x0 v3.1 v4.1 v4.2)
set_option maxRecDepth 4000 in
theorem w_Model_conflictLine_B18 (C : ja_C) {w : ja_S}    (x0 : Nat) (sg : ja_S) (h0 : ja_ob ja_L0 8 x0) (hf : f_Model_conflictLine_B18  x0 sg = some w) : ja_J M_Model_conflictLine C 18 [(0, .ref x0)] [] ja_L0 sg (none, ja_L0, w) := by
  unfold f_Model_conflictLine_B18 at hf
  refine ja_aload_n (pc := 18) (f := 0) (i := 0) 0 (by decide +kernel) rfl rfl ?_
  refine ja_dup (pc := 19) (by decide +kernel) rfl ?_
  refine ja_geti (pc := 20) (idx := 80) (t := 8) (j := 13) (by decide +kernel) fd_Model_80 h0 ?_
  refine ja_aload_n (pc := 23) (f := 0) (i := 0) 0 (by decide +kernel) rfl rfl ?_
  refine ja_bind hf (fun v1 hv1 hf => ?_)
  refine ja_callVi (pc := 24) (idx := 101) (t := 8) (b := x0) (as := []) (st := [.int (sg.1 x0 13), .ref x0]) (by decide +kernel) kv_Model_lettersHere lk_Model_101 ⟨by decide, by decide⟩ (c_Model_lettersHere _ _ x0 h0 hv1) h0 rfl (Nat.le_of_ble_eq_true rfl) rfl ?_
  refine ja_iadd (pc := 27) (by decide +kernel) ?_
  refine ja_bind hf (fun s2 hs2 hf => ?_)
  refine ja_puti2 (pc := 28) (idx := 80) (t := 8) (j := 13) (by decide +kernel) fd_Model_80 h0 ⟨rfl, rfl⟩ hs2 ?_
  refine ja_aload_n (pc := 31) (f := 0) (i := 0) 0 (by decide +kernel) rfl rfl ?_
  refine ja_iconst (pc := 32) (n := 0) (v := 0) (by decide +kernel) (by decide +kernel) ?_
  refine ja_aload_n (pc := 33) (f := 0) (i := 0) 0 (by decide +kernel) rfl rfl ?_
  refine ja_geti (pc := 34) (idx := 149) (t := 8) (j := 19) (by decide +kernel) fd_Model_149 h0 ?_
  refine ja_iconst (pc := 37) (n := 1) (v := 1) (by decide +kernel) (by decide +kernel) ?_
  refine ja_isub (pc := 38) (by decide +kernel) ?_
  refine ja_bind hf (fun v3 hv3 hf => ?_)
  refine ja_callVi (pc := 39) (idx := 136) (t := 8) (b := x0) (as := [.int (0 : Int32), .int ((s2.1 x0 19) - (1 : Int32))]) (st := []) (by decide +kernel) kv_Model_number lk_Model_136 ⟨by decide, by decide⟩ (c_Model_number _ _ x0 (0 : Int32) ((s2.1 x0 19) - (1 : Int32)) h0 hv3) h0 rfl (Nat.le_of_ble_eq_true rfl) rfl ?_
  refine ja_istore_n (pc := 42) (f := 1) (i := 1) (lv' := [(1, .int v3.1), (0, .ref x0)]) (by decide +kernel) rfl (by decide) rfl ?_
  refine ja_aload_n (pc := 43) (f := 0) (i := 0) 1 (by decide +kernel) rfl rfl ?_
  refine ja_iconst (pc := 44) (n := 0) (v := 0) (by decide +kernel) (by decide +kernel) ?_
  refine ja_aload_n (pc := 45) (f := 0) (i := 0) 1 (by decide +kernel) rfl rfl ?_
  refine ja_geti (pc := 46) (idx := 149) (t := 8) (j := 19) (by decide +kernel) fd_Model_149 h0 ?_
  refine ja_iconst (pc := 49) (n := 1) (v := 1) (by decide +kernel) (by decide +kernel) ?_
  refine ja_isub (pc := 50) (by decide +kernel) ?_
  refine ja_bind hf (fun v4 hv4 hf => ?_)
  refine ja_callVi (pc := 51) (idx := 136) (t := 8) (b := x0) (as := [.int (0 : Int32), .int ((v3.2.1 x0 19) - (1 : Int32))]) (st := []) (by decide +kernel) kv_Model_number lk_Model_136 ⟨by decide, by decide⟩ (c_Model_number _ _ x0 (0 : Int32) ((v3.2.1 x0 19) - (1 : Int32)) h0 hv4) h0 rfl (Nat.le_of_ble_eq_true rfl) rfl ?_
  refine ja_istore_n (pc := 54) (f := 2) (i := 2) (lv' := [(2, .int v4.1), (1, .int v3.1), (0, .ref x0)]) (by decide +kernel) rfl (by decide) rfl ?_
  refine ja_aload_n (pc := 55) (f := 0) (i := 0) 2 (by decide +kernel) rfl rfl ?_
  refine ja_geti (pc := 56) (idx := 86) (t := 8) (j := 14) (by decide +kernel) fd_Model_86 h0 ?_
  refine ja_if_ne (pc := 59) (off := 21) 80 (by decide +kernel) (by decide) hf (fun hf => ?_) (fun hf => ?_)
  · refine ja_lv [2, 1, 0] rfl ?_
    exact w_Model_conflictLine_B80 C  x0 v3.1 v4.1 v4.2 h0 hf
  · refine ja_aload_n (pc := 62) (f := 0) (i := 0) 2 (by decide +kernel) rfl rfl ?_
    refine ja_iload_n (pc := 63) (f := 1) (i := 1) 1 (by decide +kernel) rfl rfl ?_
    refine ja_iload_n (pc := 64) (f := 2) (i := 2) 0 (by decide +kernel) rfl rfl ?_
    refine ja_bind hf (fun v5 hv5 hf => ?_)
    refine ja_callVi (pc := 65) (idx := 159) (t := 8) (b := x0) (as := [.int v3.1, .int v4.1]) (st := []) (by decide +kernel) kv_Model_isDeclared lk_Model_159 ⟨by decide, by decide⟩ (c_Model_isDeclared _ _ x0 v3.1 v4.1 h0 hv5) h0 rfl (Nat.le_of_ble_eq_true rfl) rfl ?_
    refine ja_if_eq (pc := 68) (off := 12) 80 (by decide +kernel) (by decide) hf (fun hf => ?_) (fun hf => ?_)
    · refine ja_lv [2, 1, 0] rfl ?_
      exact w_Model_conflictLine_B80 C  x0 v3.1 v4.1 v5.2 h0 hf
    · refine ja_aload_n (pc := 71) (f := 0) (i := 0) 2 (by decide +kernel) rfl rfl ?_
      refine ja_iconst (pc := 72) (n := 3) (v := 3) (by decide +kernel) (by decide +kernel) ?_
      refine ja_aload_n (pc := 73) (f := 0) (i := 0) 2 (by decide +kernel) rfl rfl ?_
      refine ja_geti (pc := 74) (idx := 130) (t := 8) (j := 16) (by decide +kernel) fd_Model_130 h0 ?_
      refine ja_bind hf (fun v6 hv6 hf => ?_)
      refine ja_callVv (pc := 77) (idx := 118) (t := 8) (b := x0) (as := [.int (3 : Int32), .int (v5.2.1 x0 16)]) (st := []) (by decide +kernel) kv_Model_fails lk_Model_118 ⟨by decide, by decide⟩ (c_Model_fails _ _ x0 (3 : Int32) (v5.2.1 x0 16) h0 hv6) h0 rfl (Nat.le_of_ble_eq_true rfl) rfl ?_
      refine ja_lv [2, 1, 0] rfl ?_
      exact w_Model_conflictLine_B80 C  x0 v3.1 v4.1 v6 h0 hf
def f_Model_conflictLine (x0 : Nat) (sg : ja_S) : Option (ja_S) := (if (sg.1 x0 20) = (8 : Int32) then (f_Model_fails x0 (4 : Int32) (sg.1 x0 13) sg).bind fun v1 => f_Model_conflictLine_B18  x0 v1 else f_Model_conflictLine_B18  x0 sg)
set_option maxRecDepth 4000 in
theorem c_Model_conflictLine (l : Launch) (x : ja_X) (x0 : Nat) {sg : ja_S} {w : ja_S} (h0 : ja_ob ja_L0 8 x0) (hf : f_Model_conflictLine x0 sg = some w) : ja_Ct l x y_Model_conflictLine M_Model_conflictLine [.ref x0] ja_L0 sg (none, ja_L0, w) := by
  refine ja_mk ⟨by decide, rfl, rfl⟩ (Nat.le_of_ble_eq_true rfl) (lv := [(0, .ref x0)]) rfl (fun C hl hx _ _ _ _ => ?_)
  subst hl; subst hx
  unfold f_Model_conflictLine at hf
  refine ja_aload_n (pc := 0) (f := 0) (i := 0) 0 (by decide +kernel) rfl rfl ?_
  refine ja_geti (pc := 1) (idx := 156) (t := 8) (j := 20) (by decide +kernel) fd_Model_156 h0 ?_
  refine ja_bipush (pc := 4) (n := 8) (v := 8) (by decide +kernel) (by decide +kernel) ?_
  refine ja_icmp_ne (pc := 6) (off := 12) 18 (by decide +kernel) (by decide) hf (fun hf => ?_) (fun hf => ?_)
  · exact w_Model_conflictLine_B18 C  x0 sg h0 hf
  · refine ja_aload_n (pc := 9) (f := 0) (i := 0) 0 (by decide +kernel) rfl rfl ?_
    refine ja_iconst (pc := 10) (n := 4) (v := 4) (by decide +kernel) (by decide +kernel) ?_
    refine ja_aload_n (pc := 11) (f := 0) (i := 0) 0 (by decide +kernel) rfl rfl ?_
    refine ja_geti (pc := 12) (idx := 80) (t := 8) (j := 13) (by decide +kernel) fd_Model_80 h0 ?_
    refine ja_bind hf (fun v1 hv1 hf => ?_)
    refine ja_callVv (pc := 15) (idx := 118) (t := 8) (b := x0) (as := [.int (4 : Int32), .int (sg.1 x0 13)]) (st := []) (by decide +kernel) kv_Model_fails lk_Model_118 ⟨by decide, by decide⟩ (c_Model_fails _ _ x0 (4 : Int32) (sg.1 x0 13) h0 hv1) h0 rfl (Nat.le_of_ble_eq_true rfl) rfl ?_
    exact w_Model_conflictLine_B18 C  x0 v1 h0 hf
def f_Model_parseError (x0 : Nat) (sg : ja_S) : Option (Int32 × ja_S) := (ja_pu sg x0 9 (0 : Int32)).bind fun s1 => some (s1.1 x0 14, s1)
set_option maxRecDepth 4000 in
theorem c_Model_parseError (l : Launch) (x : ja_X) (x0 : Nat) {sg : ja_S} {w : Int32 × ja_S} (h0 : ja_ob ja_L0 8 x0) (hf : f_Model_parseError x0 sg = some w) : ja_Ct l x y_Model_parseError M_Model_parseError [.ref x0] ja_L0 sg (some (.int w.1), ja_L0, w.2) := by
  refine ja_mk ⟨by decide, rfl, rfl⟩ (Nat.le_of_ble_eq_true rfl) (lv := [(0, .ref x0)]) rfl (fun C hl hx _ _ _ _ => ?_)
  subst hl; subst hx
  unfold f_Model_parseError at hf
  refine ja_aload_n (pc := 0) (f := 0) (i := 0) 0 (by decide +kernel) rfl rfl ?_
  refine ja_iconst (pc := 1) (n := 0) (v := 0) (by decide +kernel) (by decide +kernel) ?_
  refine ja_bind hf (fun s1 hs1 hf => ?_)
  refine ja_puti2 (pc := 2) (idx := 1) (t := 8) (j := 9) (by decide +kernel) fd_Model_1 h0 ⟨rfl, rfl⟩ hs1 ?_
  refine ja_aload_n (pc := 5) (f := 0) (i := 0) 0 (by decide +kernel) rfl rfl ?_
  refine ja_geti (pc := 6) (idx := 86) (t := 8) (j := 14) (by decide +kernel) fd_Model_86 h0 ?_
  exact ja_ret (pc := 9) (some (.int (s1.1 x0 14))) .ireturn (by decide +kernel) rfl (by cases hf; rfl)
def f_Model_parseErrorOffset (x0 : Nat) (sg : ja_S) : Option (Int32 × ja_S) := (ja_pu sg x0 9 (0 : Int32)).bind fun s1 => some (s1.1 x0 15, s1)
set_option maxRecDepth 4000 in
theorem c_Model_parseErrorOffset (l : Launch) (x : ja_X) (x0 : Nat) {sg : ja_S} {w : Int32 × ja_S} (h0 : ja_ob ja_L0 8 x0) (hf : f_Model_parseErrorOffset x0 sg = some w) : ja_Ct l x y_Model_parseErrorOffset M_Model_parseErrorOffset [.ref x0] ja_L0 sg (some (.int w.1), ja_L0, w.2) := by
  refine ja_mk ⟨by decide, rfl, rfl⟩ (Nat.le_of_ble_eq_true rfl) (lv := [(0, .ref x0)]) rfl (fun C hl hx _ _ _ _ => ?_)
  subst hl; subst hx
  unfold f_Model_parseErrorOffset at hf
  refine ja_aload_n (pc := 0) (f := 0) (i := 0) 0 (by decide +kernel) rfl rfl ?_
  refine ja_iconst (pc := 1) (n := 0) (v := 0) (by decide +kernel) (by decide +kernel) ?_
  refine ja_bind hf (fun s1 hs1 hf => ?_)
  refine ja_puti2 (pc := 2) (idx := 1) (t := 8) (j := 9) (by decide +kernel) fd_Model_1 h0 ⟨rfl, rfl⟩ hs1 ?_
  refine ja_aload_n (pc := 5) (f := 0) (i := 0) 0 (by decide +kernel) rfl rfl ?_
  refine ja_geti (pc := 6) (idx := 35) (t := 8) (j := 15) (by decide +kernel) fd_Model_35 h0 ?_
  exact ja_ret (pc := 9) (some (.int (s1.1 x0 15))) .ireturn (by decide +kernel) rfl (by cases hf; rfl)
def f_Model_bufferLength (x0 : Nat) (sg : ja_S) : Option (Int32 × ja_S) := (ja_pu sg x0 9 (0 : Int32)).bind fun s1 => some (s1.1 x0 11, s1)
set_option maxRecDepth 4000 in
theorem c_Model_bufferLength (l : Launch) (x : ja_X) (x0 : Nat) {sg : ja_S} {w : Int32 × ja_S} (h0 : ja_ob ja_L0 8 x0) (hf : f_Model_bufferLength x0 sg = some w) : ja_Ct l x y_Model_bufferLength M_Model_bufferLength [.ref x0] ja_L0 sg (some (.int w.1), ja_L0, w.2) := by
  refine ja_mk ⟨by decide, rfl, rfl⟩ (Nat.le_of_ble_eq_true rfl) (lv := [(0, .ref x0)]) rfl (fun C hl hx _ _ _ _ => ?_)
  subst hl; subst hx
  unfold f_Model_bufferLength at hf
  refine ja_aload_n (pc := 0) (f := 0) (i := 0) 0 (by decide +kernel) rfl rfl ?_
  refine ja_iconst (pc := 1) (n := 0) (v := 0) (by decide +kernel) (by decide +kernel) ?_
  refine ja_bind hf (fun s1 hs1 hf => ?_)
  refine ja_puti2 (pc := 2) (idx := 1) (t := 8) (j := 9) (by decide +kernel) fd_Model_1 h0 ⟨rfl, rfl⟩ hs1 ?_
  refine ja_aload_n (pc := 5) (f := 0) (i := 0) 0 (by decide +kernel) rfl rfl ?_
  refine ja_geti (pc := 6) (idx := 77) (t := 8) (j := 11) (by decide +kernel) fd_Model_77 h0 ?_
  exact ja_ret (pc := 9) (some (.int (s1.1 x0 11))) .ireturn (by decide +kernel) rfl (by cases hf; rfl)
def f_Model_isLever (x0 : Nat) (x1 : Int32) (sg : ja_S) : Option (Int32 × ja_S) := (f_Model_isIn ((x1 : Int32).toInt64) (0 : Int64) (((sg.1 x0 0) - (1 : Int32) : Int32).toInt64) sg).bind fun v1 => ja_rb v1.1 v1.2
set_option maxRecDepth 4000 in
theorem c_Model_isLever (l : Launch) (x : ja_X) (x0 : Nat) (x1 : Int32) {sg : ja_S} {w : Int32 × ja_S} (h0 : ja_ob ja_L0 8 x0) (hf : f_Model_isLever x0 x1 sg = some w) : ja_Ct l x y_Model_isLever M_Model_isLever [.ref x0, .int x1] ja_L0 sg (some (.int w.1), ja_L0, w.2) := by
  refine ja_mk ⟨by decide, rfl, rfl⟩ (Nat.le_of_ble_eq_true rfl) (lv := [(0, .ref x0), (1, .int x1)]) rfl (fun C hl hx _ _ _ _ => ?_)
  subst hl; subst hx
  unfold f_Model_isLever at hf
  refine ja_iload_n (pc := 0) (f := 1) (i := 1) 1 (by decide +kernel) rfl rfl ?_
  refine ja_i2l (pc := 1) (by decide +kernel) ?_
  refine ja_lconst (pc := 2) (n := 0) (v := 0) (by decide +kernel) (by decide +kernel) ?_
  refine ja_aload_n (pc := 3) (f := 0) (i := 0) 0 (by decide +kernel) rfl rfl ?_
  refine ja_geti (pc := 4) (idx := 13) (t := 8) (j := 0) (by decide +kernel) fd_Model_13 h0 ?_
  refine ja_iconst (pc := 7) (n := 1) (v := 1) (by decide +kernel) (by decide +kernel) ?_
  refine ja_isub (pc := 8) (by decide +kernel) ?_
  refine ja_i2l (pc := 9) (by decide +kernel) ?_
  refine ja_bind hf (fun v1 hv1 hf => ?_)
  refine ja_callSi (pc := 10) (idx := 93) (as := [.long ((x1 : Int32).toInt64), .long (0 : Int64), .long (((sg.1 x0 0) - (1 : Int32) : Int32).toInt64)]) (st := []) (by decide +kernel) ks_Model_isIn lk_Model_93 ⟨by decide, by decide⟩ (c_Model_isIn _ _ ((x1 : Int32).toInt64) (0 : Int64) (((sg.1 x0 0) - (1 : Int32) : Int32).toInt64)  hv1) rfl (Nat.le_of_ble_eq_true rfl) rfl ?_
  obtain ⟨hrb, hw⟩ := ja_ite hf
  exact ja_ret (pc := 13) (some (.int v1.1)) .ireturn (by decide +kernel) (ja_ri_b hrb) (by cases hw; rfl)
def f_Model_isRule (x0 : Nat) (x1 : Int32) (sg : ja_S) : Option (Int32 × ja_S) := (ja_ld ja_L0 sg (ja_q x0 3) (0 : Int32)).bind fun v1 => (f_Model_isIn ((x1 : Int32).toInt64) (0 : Int64) ((v1 - (1 : Int32) : Int32).toInt64) sg).bind fun v2 => ja_rb v2.1 v2.2
set_option maxRecDepth 4000 in
theorem c_Model_isRule (l : Launch) (x : ja_X) (x0 : Nat) (x1 : Int32) {sg : ja_S} {w : Int32 × ja_S} (h0 : ja_ob ja_L0 8 x0) (hf : f_Model_isRule x0 x1 sg = some w) : ja_Ct l x y_Model_isRule M_Model_isRule [.ref x0, .int x1] ja_L0 sg (some (.int w.1), ja_L0, w.2) := by
  refine ja_mk ⟨by decide, rfl, rfl⟩ (Nat.le_of_ble_eq_true rfl) (lv := [(0, .ref x0), (1, .int x1)]) rfl (fun C hl hx _ _ _ _ => ?_)
  subst hl; subst hx
  unfold f_Model_isRule at hf
  refine ja_iload_n (pc := 0) (f := 1) (i := 1) 1 (by decide +kernel) rfl rfl ?_
  refine ja_i2l (pc := 1) (by decide +kernel) ?_
  refine ja_lconst (pc := 2) (n := 0) (v := 0) (by decide +kernel) (by decide +kernel) ?_
  refine ja_aload_n (pc := 3) (f := 0) (i := 0) 0 (by decide +kernel) rfl rfl ?_
  refine ja_getr (pc := 4) (idx := 16) (t := 8) (j := 3) (by decide +kernel) fd_Model_16 h0 (fr_8_3 h0) ?_
  refine ja_iconst (pc := 7) (n := 0) (v := 0) (by decide +kernel) (by decide +kernel) ?_
  refine ja_bind hf (fun v1 hv1 hf => ?_)
  refine ja_iald (pc := 8) (by decide +kernel) (fk_8_3 h0) hv1 ?_
  refine ja_iconst (pc := 9) (n := 1) (v := 1) (by decide +kernel) (by decide +kernel) ?_
  refine ja_isub (pc := 10) (by decide +kernel) ?_
  refine ja_i2l (pc := 11) (by decide +kernel) ?_
  refine ja_bind hf (fun v2 hv2 hf => ?_)
  refine ja_callSi (pc := 12) (idx := 93) (as := [.long ((x1 : Int32).toInt64), .long (0 : Int64), .long ((v1 - (1 : Int32) : Int32).toInt64)]) (st := []) (by decide +kernel) ks_Model_isIn lk_Model_93 ⟨by decide, by decide⟩ (c_Model_isIn _ _ ((x1 : Int32).toInt64) (0 : Int64) ((v1 - (1 : Int32) : Int32).toInt64)  hv2) rfl (Nat.le_of_ble_eq_true rfl) rfl ?_
  obtain ⟨hrb, hw⟩ := ja_ite hf
  exact ja_ret (pc := 15) (some (.int v2.1)) .ireturn (by decide +kernel) (ja_ri_b hrb) (by cases hw; rfl)
def f_Model_isRoute (x0 : Nat) (x1 : Int32) (sg : ja_S) : Option (Int32 × ja_S) := (f_Model_isIn ((x1 : Int32).toInt64) (0 : Int64) (((sg.1 x0 1) - (1 : Int32) : Int32).toInt64) sg).bind fun v1 => ja_rb v1.1 v1.2
set_option maxRecDepth 4000 in
theorem c_Model_isRoute (l : Launch) (x : ja_X) (x0 : Nat) (x1 : Int32) {sg : ja_S} {w : Int32 × ja_S} (h0 : ja_ob ja_L0 8 x0) (hf : f_Model_isRoute x0 x1 sg = some w) : ja_Ct l x y_Model_isRoute M_Model_isRoute [.ref x0, .int x1] ja_L0 sg (some (.int w.1), ja_L0, w.2) := by
  refine ja_mk ⟨by decide, rfl, rfl⟩ (Nat.le_of_ble_eq_true rfl) (lv := [(0, .ref x0), (1, .int x1)]) rfl (fun C hl hx _ _ _ _ => ?_)
  subst hl; subst hx
  unfold f_Model_isRoute at hf
  refine ja_iload_n (pc := 0) (f := 1) (i := 1) 1 (by decide +kernel) rfl rfl ?_
  refine ja_i2l (pc := 1) (by decide +kernel) ?_
  refine ja_lconst (pc := 2) (n := 0) (v := 0) (by decide +kernel) (by decide +kernel) ?_
  refine ja_aload_n (pc := 3) (f := 0) (i := 0) 0 (by decide +kernel) rfl rfl ?_
  refine ja_geti (pc := 4) (idx := 180) (t := 8) (j := 1) (by decide +kernel) fd_Model_180 h0 ?_
  refine ja_iconst (pc := 7) (n := 1) (v := 1) (by decide +kernel) (by decide +kernel) ?_
  refine ja_isub (pc := 8) (by decide +kernel) ?_
  refine ja_i2l (pc := 9) (by decide +kernel) ?_
  refine ja_bind hf (fun v1 hv1 hf => ?_)
  refine ja_callSi (pc := 10) (idx := 93) (as := [.long ((x1 : Int32).toInt64), .long (0 : Int64), .long (((sg.1 x0 1) - (1 : Int32) : Int32).toInt64)]) (st := []) (by decide +kernel) ks_Model_isIn lk_Model_93 ⟨by decide, by decide⟩ (c_Model_isIn _ _ ((x1 : Int32).toInt64) (0 : Int64) (((sg.1 x0 1) - (1 : Int32) : Int32).toInt64)  hv1) rfl (Nat.le_of_ble_eq_true rfl) rfl ?_
  obtain ⟨hrb, hw⟩ := ja_ite hf
  exact ja_ret (pc := 13) (some (.int v1.1)) .ireturn (by decide +kernel) (ja_ri_b hrb) (by cases hw; rfl)
def f_Model_isState (x0 : Nat) (x1 : Int32) (sg : ja_S) : Option (Int32 × ja_S) := (f_Model_isIn ((x1 : Int32).toInt64) (0 : Int64) ((((1 : Int32) <<< ((sg.1 x0 0) &&& 31)) - (1 : Int32) : Int32).toInt64) sg).bind fun v1 => ja_rb v1.1 v1.2
set_option maxRecDepth 4000 in
theorem c_Model_isState (l : Launch) (x : ja_X) (x0 : Nat) (x1 : Int32) {sg : ja_S} {w : Int32 × ja_S} (h0 : ja_ob ja_L0 8 x0) (hf : f_Model_isState x0 x1 sg = some w) : ja_Ct l x y_Model_isState M_Model_isState [.ref x0, .int x1] ja_L0 sg (some (.int w.1), ja_L0, w.2) := by
  refine ja_mk ⟨by decide, rfl, rfl⟩ (Nat.le_of_ble_eq_true rfl) (lv := [(0, .ref x0), (1, .int x1)]) rfl (fun C hl hx _ _ _ _ => ?_)
  subst hl; subst hx
  unfold f_Model_isState at hf
  refine ja_iload_n (pc := 0) (f := 1) (i := 1) 1 (by decide +kernel) rfl rfl ?_
  refine ja_i2l (pc := 1) (by decide +kernel) ?_
  refine ja_lconst (pc := 2) (n := 0) (v := 0) (by decide +kernel) (by decide +kernel) ?_
  refine ja_iconst (pc := 3) (n := 1) (v := 1) (by decide +kernel) (by decide +kernel) ?_
  refine ja_aload_n (pc := 4) (f := 0) (i := 0) 0 (by decide +kernel) rfl rfl ?_
  refine ja_geti (pc := 5) (idx := 13) (t := 8) (j := 0) (by decide +kernel) fd_Model_13 h0 ?_
  refine ja_ishl (pc := 8) (by decide +kernel) ?_
  refine ja_iconst (pc := 9) (n := 1) (v := 1) (by decide +kernel) (by decide +kernel) ?_
  refine ja_isub (pc := 10) (by decide +kernel) ?_
  refine ja_i2l (pc := 11) (by decide +kernel) ?_
  refine ja_bind hf (fun v1 hv1 hf => ?_)
  refine ja_callSi (pc := 12) (idx := 93) (as := [.long ((x1 : Int32).toInt64), .long (0 : Int64), .long ((((1 : Int32) <<< ((sg.1 x0 0) &&& 31)) - (1 : Int32) : Int32).toInt64)]) (st := []) (by decide +kernel) ks_Model_isIn lk_Model_93 ⟨by decide, by decide⟩ (c_Model_isIn _ _ ((x1 : Int32).toInt64) (0 : Int64) ((((1 : Int32) <<< ((sg.1 x0 0) &&& 31)) - (1 : Int32) : Int32).toInt64)  hv1) rfl (Nat.le_of_ble_eq_true rfl) rfl ?_
  obtain ⟨hrb, hw⟩ := ja_ite hf
  exact ja_ret (pc := 15) (some (.int v1.1)) .ireturn (by decide +kernel) (ja_ri_b hrb) (by cases hw; rfl)
def f_Model_leverCount (x0 : Nat) (sg : ja_S) : Option (Int32 × ja_S) := (ja_pu sg x0 9 (0 : Int32)).bind fun s1 => some (s1.1 x0 0, s1)
set_option maxRecDepth 4000 in
theorem c_Model_leverCount (l : Launch) (x : ja_X) (x0 : Nat) {sg : ja_S} {w : Int32 × ja_S} (h0 : ja_ob ja_L0 8 x0) (hf : f_Model_leverCount x0 sg = some w) : ja_Ct l x y_Model_leverCount M_Model_leverCount [.ref x0] ja_L0 sg (some (.int w.1), ja_L0, w.2) := by
  refine ja_mk ⟨by decide, rfl, rfl⟩ (Nat.le_of_ble_eq_true rfl) (lv := [(0, .ref x0)]) rfl (fun C hl hx _ _ _ _ => ?_)
  subst hl; subst hx
  unfold f_Model_leverCount at hf
  refine ja_aload_n (pc := 0) (f := 0) (i := 0) 0 (by decide +kernel) rfl rfl ?_
  refine ja_iconst (pc := 1) (n := 0) (v := 0) (by decide +kernel) (by decide +kernel) ?_
  refine ja_bind hf (fun s1 hs1 hf => ?_)
  refine ja_puti2 (pc := 2) (idx := 1) (t := 8) (j := 9) (by decide +kernel) fd_Model_1 h0 ⟨rfl, rfl⟩ hs1 ?_
  refine ja_aload_n (pc := 5) (f := 0) (i := 0) 0 (by decide +kernel) rfl rfl ?_
  refine ja_geti (pc := 6) (idx := 13) (t := 8) (j := 0) (by decide +kernel) fd_Model_13 h0 ?_
  exact ja_ret (pc := 9) (some (.int (s1.1 x0 0))) .ireturn (by decide +kernel) rfl (by cases hf; rfl)
def f_Model_ruleCount (x0 : Nat) (sg : ja_S) : Option (Int32 × ja_S) := (ja_pu sg x0 9 (0 : Int32)).bind fun s1 => (ja_ld ja_L0 s1 (ja_q x0 3) (0 : Int32)).bind fun v2 => some (v2, s1)
set_option maxRecDepth 4000 in
theorem c_Model_ruleCount (l : Launch) (x : ja_X) (x0 : Nat) {sg : ja_S} {w : Int32 × ja_S} (h0 : ja_ob ja_L0 8 x0) (hf : f_Model_ruleCount x0 sg = some w) : ja_Ct l x y_Model_ruleCount M_Model_ruleCount [.ref x0] ja_L0 sg (some (.int w.1), ja_L0, w.2) := by
  refine ja_mk ⟨by decide, rfl, rfl⟩ (Nat.le_of_ble_eq_true rfl) (lv := [(0, .ref x0)]) rfl (fun C hl hx _ _ _ _ => ?_)
  subst hl; subst hx
  unfold f_Model_ruleCount at hf
  refine ja_aload_n (pc := 0) (f := 0) (i := 0) 0 (by decide +kernel) rfl rfl ?_
  refine ja_iconst (pc := 1) (n := 0) (v := 0) (by decide +kernel) (by decide +kernel) ?_
  refine ja_bind hf (fun s1 hs1 hf => ?_)
  refine ja_puti2 (pc := 2) (idx := 1) (t := 8) (j := 9) (by decide +kernel) fd_Model_1 h0 ⟨rfl, rfl⟩ hs1 ?_
  refine ja_aload_n (pc := 5) (f := 0) (i := 0) 0 (by decide +kernel) rfl rfl ?_
  refine ja_getr (pc := 6) (idx := 16) (t := 8) (j := 3) (by decide +kernel) fd_Model_16 h0 (fr_8_3 h0) ?_
  refine ja_iconst (pc := 9) (n := 0) (v := 0) (by decide +kernel) (by decide +kernel) ?_
  refine ja_bind hf (fun v2 hv2 hf => ?_)
  refine ja_iald (pc := 10) (by decide +kernel) (fk_8_3 h0) hv2 ?_
  exact ja_ret (pc := 11) (some (.int v2)) .ireturn (by decide +kernel) rfl (by cases hf; rfl)
def f_Model_ruleKind (x0 : Nat) (x1 : Int32) (sg : ja_S) : Option (Int32 × ja_S) := (ja_pu sg x0 9 (0 : Int32)).bind fun s1 => (f_Model_isRule x0 x1 s1).bind fun v2 => (if v2.1 = 0 then some ((-2 : Int32), v2.2) else (ja_ld ja_L0 v2.2 (ja_q x0 3) ((2 : Int32) + ((4 : Int32) * x1))).bind fun v3 => some (v3, v2.2))
set_option maxRecDepth 4000 in
theorem c_Model_ruleKind (l : Launch) (x : ja_X) (x0 : Nat) (x1 : Int32) {sg : ja_S} {w : Int32 × ja_S} (h0 : ja_ob ja_L0 8 x0) (hf : f_Model_ruleKind x0 x1 sg = some w) : ja_Ct l x y_Model_ruleKind M_Model_ruleKind [.ref x0, .int x1] ja_L0 sg (some (.int w.1), ja_L0, w.2) := by
  refine ja_mk ⟨by decide, rfl, rfl⟩ (Nat.le_of_ble_eq_true rfl) (lv := [(0, .ref x0), (1, .int x1)]) rfl (fun C hl hx _ _ _ _ => ?_)
  subst hl; subst hx
  unfold f_Model_ruleKind at hf
  refine ja_aload_n (pc := 0) (f := 0) (i := 0) 0 (by decide +kernel) rfl rfl ?_
  refine ja_iconst (pc := 1) (n := 0) (v := 0) (by decide +kernel) (by decide +kernel) ?_
  refine ja_bind hf (fun s1 hs1 hf => ?_)
  refine ja_puti2 (pc := 2) (idx := 1) (t := 8) (j := 9) (by decide +kernel) fd_Model_1 h0 ⟨rfl, rfl⟩ hs1 ?_
  refine ja_aload_n (pc := 5) (f := 0) (i := 0) 0 (by decide +kernel) rfl rfl ?_
  refine ja_iload_n (pc := 6) (f := 1) (i := 1) 1 (by decide +kernel) rfl rfl ?_
  refine ja_bind hf (fun v2 hv2 hf => ?_)
  refine ja_callVi (pc := 7) (idx := 189) (t := 8) (b := x0) (as := [.int x1]) (st := []) (by decide +kernel) kv_Model_isRule lk_Model_189 ⟨by decide, by decide⟩ (c_Model_isRule _ _ x0 x1 h0 hv2) h0 rfl (Nat.le_of_ble_eq_true rfl) rfl ?_
  refine ja_if_eq (pc := 10) (off := 16) 26 (by decide +kernel) (by decide) hf (fun hf => ?_) (fun hf => ?_)
  · refine ja_bipush (pc := 26) (n := (-2)) (v := (-2)) (by decide +kernel) (by decide +kernel) ?_
    exact ja_ret (pc := 28) (some (.int (-2 : Int32))) .ireturn (by decide +kernel) rfl (by cases hf; rfl)
  · refine ja_aload_n (pc := 13) (f := 0) (i := 0) 0 (by decide +kernel) rfl rfl ?_
    refine ja_getr (pc := 14) (idx := 16) (t := 8) (j := 3) (by decide +kernel) fd_Model_16 h0 (fr_8_3 h0) ?_
    refine ja_iconst (pc := 17) (n := 2) (v := 2) (by decide +kernel) (by decide +kernel) ?_
    refine ja_iconst (pc := 18) (n := 4) (v := 4) (by decide +kernel) (by decide +kernel) ?_
    refine ja_iload_n (pc := 19) (f := 1) (i := 1) 1 (by decide +kernel) rfl rfl ?_
    refine ja_imul (pc := 20) (by decide +kernel) ?_
    refine ja_iadd (pc := 21) (by decide +kernel) ?_
    refine ja_bind hf (fun v3 hv3 hf => ?_)
    refine ja_iald (pc := 22) (by decide +kernel) (fk_8_3 h0) hv3 ?_
    refine ja_goto (pc := 23) (off := 5) 28 (by decide +kernel) (by decide) ?_
    exact ja_ret (pc := 28) (some (.int v3)) .ireturn (by decide +kernel) rfl (by cases hf; rfl)
def f_Model_ruleLevers (x0 : Nat) (x1 : Int32) (sg : ja_S) : Option (Int32 × ja_S) := (ja_pu sg x0 9 (0 : Int32)).bind fun s1 => (f_Model_isRule x0 x1 s1).bind fun v2 => (if v2.1 = 0 then some ((-2 : Int32), v2.2) else (ja_ld ja_L0 v2.2 (ja_q x0 3) (((2 : Int32) + ((4 : Int32) * x1)) + (1 : Int32))).bind fun v3 => (ja_ld ja_L0 v2.2 (ja_q x0 3) (((2 : Int32) + ((4 : Int32) * x1)) + (2 : Int32))).bind fun v4 => some (((100 : Int32) * v3) + v4, v2.2))
set_option maxRecDepth 4000 in
theorem c_Model_ruleLevers (l : Launch) (x : ja_X) (x0 : Nat) (x1 : Int32) {sg : ja_S} {w : Int32 × ja_S} (h0 : ja_ob ja_L0 8 x0) (hf : f_Model_ruleLevers x0 x1 sg = some w) : ja_Ct l x y_Model_ruleLevers M_Model_ruleLevers [.ref x0, .int x1] ja_L0 sg (some (.int w.1), ja_L0, w.2) := by
  refine ja_mk ⟨by decide, rfl, rfl⟩ (Nat.le_of_ble_eq_true rfl) (lv := [(0, .ref x0), (1, .int x1)]) rfl (fun C hl hx _ _ _ _ => ?_)
  subst hl; subst hx
  unfold f_Model_ruleLevers at hf
  refine ja_aload_n (pc := 0) (f := 0) (i := 0) 0 (by decide +kernel) rfl rfl ?_
  refine ja_iconst (pc := 1) (n := 0) (v := 0) (by decide +kernel) (by decide +kernel) ?_
  refine ja_bind hf (fun s1 hs1 hf => ?_)
  refine ja_puti2 (pc := 2) (idx := 1) (t := 8) (j := 9) (by decide +kernel) fd_Model_1 h0 ⟨rfl, rfl⟩ hs1 ?_
  refine ja_aload_n (pc := 5) (f := 0) (i := 0) 0 (by decide +kernel) rfl rfl ?_
  refine ja_iload_n (pc := 6) (f := 1) (i := 1) 1 (by decide +kernel) rfl rfl ?_
  refine ja_bind hf (fun v2 hv2 hf => ?_)
  refine ja_callVi (pc := 7) (idx := 189) (t := 8) (b := x0) (as := [.int x1]) (st := []) (by decide +kernel) kv_Model_isRule lk_Model_189 ⟨by decide, by decide⟩ (c_Model_isRule _ _ x0 x1 h0 hv2) h0 rfl (Nat.le_of_ble_eq_true rfl) rfl ?_
  refine ja_if_eq (pc := 10) (off := 34) 44 (by decide +kernel) (by decide) hf (fun hf => ?_) (fun hf => ?_)
  · refine ja_bipush (pc := 44) (n := (-2)) (v := (-2)) (by decide +kernel) (by decide +kernel) ?_
    exact ja_ret (pc := 46) (some (.int (-2 : Int32))) .ireturn (by decide +kernel) rfl (by cases hf; rfl)
  · refine ja_bipush (pc := 13) (n := 100) (v := 100) (by decide +kernel) (by decide +kernel) ?_
    refine ja_aload_n (pc := 15) (f := 0) (i := 0) 0 (by decide +kernel) rfl rfl ?_
    refine ja_getr (pc := 16) (idx := 16) (t := 8) (j := 3) (by decide +kernel) fd_Model_16 h0 (fr_8_3 h0) ?_
    refine ja_iconst (pc := 19) (n := 2) (v := 2) (by decide +kernel) (by decide +kernel) ?_
    refine ja_iconst (pc := 20) (n := 4) (v := 4) (by decide +kernel) (by decide +kernel) ?_
    refine ja_iload_n (pc := 21) (f := 1) (i := 1) 1 (by decide +kernel) rfl rfl ?_
    refine ja_imul (pc := 22) (by decide +kernel) ?_
    refine ja_iadd (pc := 23) (by decide +kernel) ?_
    refine ja_iconst (pc := 24) (n := 1) (v := 1) (by decide +kernel) (by decide +kernel) ?_
    refine ja_iadd (pc := 25) (by decide +kernel) ?_
    refine ja_bind hf (fun v3 hv3 hf => ?_)
    refine ja_iald (pc := 26) (by decide +kernel) (fk_8_3 h0) hv3 ?_
    refine ja_imul (pc := 27) (by decide +kernel) ?_
    refine ja_aload_n (pc := 28) (f := 0) (i := 0) 0 (by decide +kernel) rfl rfl ?_
    refine ja_getr (pc := 29) (idx := 16) (t := 8) (j := 3) (by decide +kernel) fd_Model_16 h0 (fr_8_3 h0) ?_
    refine ja_iconst (pc := 32) (n := 2) (v := 2) (by decide +kernel) (by decide +kernel) ?_
    refine ja_iconst (pc := 33) (n := 4) (v := 4) (by decide +kernel) (by decide +kernel) ?_
    refine ja_iload_n (pc := 34) (f := 1) (i := 1) 1 (by decide +kernel) rfl rfl ?_
    refine ja_imul (pc := 35) (by decide +kernel) ?_
    refine ja_iadd (pc := 36) (by decide +kernel) ?_
    refine ja_iconst (pc := 37) (n := 2) (v := 2) (by decide +kernel) (by decide +kernel) ?_
    refine ja_iadd (pc := 38) (by decide +kernel) ?_
    refine ja_bind hf (fun v4 hv4 hf => ?_)
    refine ja_iald (pc := 39) (by decide +kernel) (fk_8_3 h0) hv4 ?_
    refine ja_iadd (pc := 40) (by decide +kernel) ?_
    refine ja_goto (pc := 41) (off := 5) 46 (by decide +kernel) (by decide) ?_
    exact ja_ret (pc := 46) (some (.int (((100 : Int32) * v3) + v4))) .ireturn (by decide +kernel) rfl (by cases hf; rfl)
def f_Model_ruleCondition (x0 : Nat) (x1 : Int32) (sg : ja_S) : Option (Int32 × ja_S) := (ja_pu sg x0 9 (0 : Int32)).bind fun s1 => (f_Model_isRule x0 x1 s1).bind fun v2 => (if v2.1 = 0 then some ((-2 : Int32), v2.2) else (ja_ld ja_L0 v2.2 (ja_q x0 3) (((2 : Int32) + ((4 : Int32) * x1)) + (3 : Int32))).bind fun v3 => some (v3, v2.2))
set_option maxRecDepth 4000 in
theorem c_Model_ruleCondition (l : Launch) (x : ja_X) (x0 : Nat) (x1 : Int32) {sg : ja_S} {w : Int32 × ja_S} (h0 : ja_ob ja_L0 8 x0) (hf : f_Model_ruleCondition x0 x1 sg = some w) : ja_Ct l x y_Model_ruleCondition M_Model_ruleCondition [.ref x0, .int x1] ja_L0 sg (some (.int w.1), ja_L0, w.2) := by
  refine ja_mk ⟨by decide, rfl, rfl⟩ (Nat.le_of_ble_eq_true rfl) (lv := [(0, .ref x0), (1, .int x1)]) rfl (fun C hl hx _ _ _ _ => ?_)
  subst hl; subst hx
  unfold f_Model_ruleCondition at hf
  refine ja_aload_n (pc := 0) (f := 0) (i := 0) 0 (by decide +kernel) rfl rfl ?_
  refine ja_iconst (pc := 1) (n := 0) (v := 0) (by decide +kernel) (by decide +kernel) ?_
  refine ja_bind hf (fun s1 hs1 hf => ?_)
  refine ja_puti2 (pc := 2) (idx := 1) (t := 8) (j := 9) (by decide +kernel) fd_Model_1 h0 ⟨rfl, rfl⟩ hs1 ?_
  refine ja_aload_n (pc := 5) (f := 0) (i := 0) 0 (by decide +kernel) rfl rfl ?_
  refine ja_iload_n (pc := 6) (f := 1) (i := 1) 1 (by decide +kernel) rfl rfl ?_
  refine ja_bind hf (fun v2 hv2 hf => ?_)
  refine ja_callVi (pc := 7) (idx := 189) (t := 8) (b := x0) (as := [.int x1]) (st := []) (by decide +kernel) kv_Model_isRule lk_Model_189 ⟨by decide, by decide⟩ (c_Model_isRule _ _ x0 x1 h0 hv2) h0 rfl (Nat.le_of_ble_eq_true rfl) rfl ?_
  refine ja_if_eq (pc := 10) (off := 18) 28 (by decide +kernel) (by decide) hf (fun hf => ?_) (fun hf => ?_)
  · refine ja_bipush (pc := 28) (n := (-2)) (v := (-2)) (by decide +kernel) (by decide +kernel) ?_
    exact ja_ret (pc := 30) (some (.int (-2 : Int32))) .ireturn (by decide +kernel) rfl (by cases hf; rfl)
  · refine ja_aload_n (pc := 13) (f := 0) (i := 0) 0 (by decide +kernel) rfl rfl ?_
    refine ja_getr (pc := 14) (idx := 16) (t := 8) (j := 3) (by decide +kernel) fd_Model_16 h0 (fr_8_3 h0) ?_
    refine ja_iconst (pc := 17) (n := 2) (v := 2) (by decide +kernel) (by decide +kernel) ?_
    refine ja_iconst (pc := 18) (n := 4) (v := 4) (by decide +kernel) (by decide +kernel) ?_
    refine ja_iload_n (pc := 19) (f := 1) (i := 1) 1 (by decide +kernel) rfl rfl ?_
    refine ja_imul (pc := 20) (by decide +kernel) ?_
    refine ja_iadd (pc := 21) (by decide +kernel) ?_
    refine ja_iconst (pc := 22) (n := 3) (v := 3) (by decide +kernel) (by decide +kernel) ?_
    refine ja_iadd (pc := 23) (by decide +kernel) ?_
    refine ja_bind hf (fun v3 hv3 hf => ?_)
    refine ja_iald (pc := 24) (by decide +kernel) (fk_8_3 h0) hv3 ?_
    refine ja_goto (pc := 25) (off := 5) 30 (by decide +kernel) (by decide) ?_
    exact ja_ret (pc := 30) (some (.int v3)) .ireturn (by decide +kernel) rfl (by cases hf; rfl)
def f_Model_routeCount (x0 : Nat) (sg : ja_S) : Option (Int32 × ja_S) := (ja_pu sg x0 9 (0 : Int32)).bind fun s1 => some (s1.1 x0 1, s1)
set_option maxRecDepth 4000 in
theorem c_Model_routeCount (l : Launch) (x : ja_X) (x0 : Nat) {sg : ja_S} {w : Int32 × ja_S} (h0 : ja_ob ja_L0 8 x0) (hf : f_Model_routeCount x0 sg = some w) : ja_Ct l x y_Model_routeCount M_Model_routeCount [.ref x0] ja_L0 sg (some (.int w.1), ja_L0, w.2) := by
  refine ja_mk ⟨by decide, rfl, rfl⟩ (Nat.le_of_ble_eq_true rfl) (lv := [(0, .ref x0)]) rfl (fun C hl hx _ _ _ _ => ?_)
  subst hl; subst hx
  unfold f_Model_routeCount at hf
  refine ja_aload_n (pc := 0) (f := 0) (i := 0) 0 (by decide +kernel) rfl rfl ?_
  refine ja_iconst (pc := 1) (n := 0) (v := 0) (by decide +kernel) (by decide +kernel) ?_
  refine ja_bind hf (fun s1 hs1 hf => ?_)
  refine ja_puti2 (pc := 2) (idx := 1) (t := 8) (j := 9) (by decide +kernel) fd_Model_1 h0 ⟨rfl, rfl⟩ hs1 ?_
  refine ja_aload_n (pc := 5) (f := 0) (i := 0) 0 (by decide +kernel) rfl rfl ?_
  refine ja_geti (pc := 6) (idx := 180) (t := 8) (j := 1) (by decide +kernel) fd_Model_180 h0 ?_
  exact ja_ret (pc := 9) (some (.int (s1.1 x0 1))) .ireturn (by decide +kernel) rfl (by cases hf; rfl)
def f_Model_routeLevers (x0 : Nat) (x1 : Int32) (sg : ja_S) : Option (Int32 × ja_S) := (ja_pu sg x0 9 (0 : Int32)).bind fun s1 => (f_Model_isRoute x0 x1 s1).bind fun v2 => (if v2.1 = 0 then some ((-2 : Int32), v2.2) else (ja_ld ja_L0 v2.2 (ja_q x0 5) x1).bind fun v3 => some (v3, v2.2))
set_option maxRecDepth 4000 in
theorem c_Model_routeLevers (l : Launch) (x : ja_X) (x0 : Nat) (x1 : Int32) {sg : ja_S} {w : Int32 × ja_S} (h0 : ja_ob ja_L0 8 x0) (hf : f_Model_routeLevers x0 x1 sg = some w) : ja_Ct l x y_Model_routeLevers M_Model_routeLevers [.ref x0, .int x1] ja_L0 sg (some (.int w.1), ja_L0, w.2) := by
  refine ja_mk ⟨by decide, rfl, rfl⟩ (Nat.le_of_ble_eq_true rfl) (lv := [(0, .ref x0), (1, .int x1)]) rfl (fun C hl hx _ _ _ _ => ?_)
  subst hl; subst hx
  unfold f_Model_routeLevers at hf
  refine ja_aload_n (pc := 0) (f := 0) (i := 0) 0 (by decide +kernel) rfl rfl ?_
  refine ja_iconst (pc := 1) (n := 0) (v := 0) (by decide +kernel) (by decide +kernel) ?_
  refine ja_bind hf (fun s1 hs1 hf => ?_)
  refine ja_puti2 (pc := 2) (idx := 1) (t := 8) (j := 9) (by decide +kernel) fd_Model_1 h0 ⟨rfl, rfl⟩ hs1 ?_
  refine ja_aload_n (pc := 5) (f := 0) (i := 0) 0 (by decide +kernel) rfl rfl ?_
  refine ja_iload_n (pc := 6) (f := 1) (i := 1) 1 (by decide +kernel) rfl rfl ?_
  refine ja_bind hf (fun v2 hv2 hf => ?_)
  refine ja_callVi (pc := 7) (idx := 193) (t := 8) (b := x0) (as := [.int x1]) (st := []) (by decide +kernel) kv_Model_isRoute lk_Model_193 ⟨by decide, by decide⟩ (c_Model_isRoute _ _ x0 x1 h0 hv2) h0 rfl (Nat.le_of_ble_eq_true rfl) rfl ?_
  refine ja_if_eq (pc := 10) (off := 12) 22 (by decide +kernel) (by decide) hf (fun hf => ?_) (fun hf => ?_)
  · refine ja_bipush (pc := 22) (n := (-2)) (v := (-2)) (by decide +kernel) (by decide +kernel) ?_
    exact ja_ret (pc := 24) (some (.int (-2 : Int32))) .ireturn (by decide +kernel) rfl (by cases hf; rfl)
  · refine ja_aload_n (pc := 13) (f := 0) (i := 0) 0 (by decide +kernel) rfl rfl ?_
    refine ja_getr (pc := 14) (idx := 23) (t := 8) (j := 5) (by decide +kernel) fd_Model_23 h0 (fr_8_5 h0) ?_
    refine ja_iload_n (pc := 17) (f := 1) (i := 1) 1 (by decide +kernel) rfl rfl ?_
    refine ja_bind hf (fun v3 hv3 hf => ?_)
    refine ja_iald (pc := 18) (by decide +kernel) (fk_8_5 h0) hv3 ?_
    refine ja_goto (pc := 19) (off := 5) 24 (by decide +kernel) (by decide) ?_
    exact ja_ret (pc := 24) (some (.int v3)) .ireturn (by decide +kernel) rfl (by cases hf; rfl)
def f_Model_conflictCount (x0 : Nat) (sg : ja_S) : Option (Int32 × ja_S) := (ja_pu sg x0 9 (0 : Int32)).bind fun s1 => some (s1.1 x0 2, s1)
set_option maxRecDepth 4000 in
theorem c_Model_conflictCount (l : Launch) (x : ja_X) (x0 : Nat) {sg : ja_S} {w : Int32 × ja_S} (h0 : ja_ob ja_L0 8 x0) (hf : f_Model_conflictCount x0 sg = some w) : ja_Ct l x y_Model_conflictCount M_Model_conflictCount [.ref x0] ja_L0 sg (some (.int w.1), ja_L0, w.2) := by
  refine ja_mk ⟨by decide, rfl, rfl⟩ (Nat.le_of_ble_eq_true rfl) (lv := [(0, .ref x0)]) rfl (fun C hl hx _ _ _ _ => ?_)
  subst hl; subst hx
  unfold f_Model_conflictCount at hf
  refine ja_aload_n (pc := 0) (f := 0) (i := 0) 0 (by decide +kernel) rfl rfl ?_
  refine ja_iconst (pc := 1) (n := 0) (v := 0) (by decide +kernel) (by decide +kernel) ?_
  refine ja_bind hf (fun s1 hs1 hf => ?_)
  refine ja_puti2 (pc := 2) (idx := 1) (t := 8) (j := 9) (by decide +kernel) fd_Model_1 h0 ⟨rfl, rfl⟩ hs1 ?_
  refine ja_aload_n (pc := 5) (f := 0) (i := 0) 0 (by decide +kernel) rfl rfl ?_
  refine ja_geti (pc := 6) (idx := 183) (t := 8) (j := 2) (by decide +kernel) fd_Model_183 h0 ?_
  exact ja_ret (pc := 9) (some (.int (s1.1 x0 2))) .ireturn (by decide +kernel) rfl (by cases hf; rfl)
def f_Model_usesSheet_L30  : Nat → Nat → Int32 → ja_S → Option (ja_S)
  | 0, _, _, _ => none
  | n + 1, x0, x1, sg => (if (8 : Int32) ≤ x1 then (ja_ld ja_L0 sg (ja_q x0 3) (0 : Int32)).bind fun v1 => (ja_pu sg x0 27 v1).bind fun s2 => (ja_pu s2 x0 28 (((1 : Int32) <<< ((s2.1 x0 27) &&& 31)) - (1 : Int32))).bind fun s3 => (ja_pu s3 x0 29 (0 : Int32)).bind fun s4 => some s4 else (ja_ld ja_L0 sg (ja_q x0 5) x1).bind fun v5 => (ja_st ja_L0 sg (ja_q x0 26) x1 v5).bind fun s6 => f_Model_usesSheet_L30  n x0 (x1 + 1) s6)
set_option maxRecDepth 4000 in
theorem w_Model_usesSheet_L30 (C : ja_C) {w : ja_S}    (n : Nat) : ∀ (x0 : Nat) (x1 : Int32) (sg : ja_S), ja_ob ja_L0 8 x0 → f_Model_usesSheet_L30  n x0 x1 sg = some w → ja_J M_Model_usesSheet C 30 [(0, .ref x0), (1, .int x1)] [] ja_L0 sg (none, ja_L0, w) := by
  induction n with
  | zero => intro _ _ _ _ hf; exact absurd (show (none : Option _) = some w from hf) (by simp)
  | succ n ih =>
    intro x0 x1 sg h0 hf
    unfold f_Model_usesSheet_L30 at hf
    refine ja_iload_n (pc := 30) (f := 1) (i := 1) 1 (by decide +kernel) rfl rfl ?_
    refine ja_bipush (pc := 31) (n := 8) (v := 8) (by decide +kernel) (by decide +kernel) ?_
    refine ja_icmp_ge (pc := 33) (off := 21) 54 (by decide +kernel) (by decide) hf (fun hf => ?_) (fun hf => ?_)
    · refine ja_aload_n (pc := 54) (f := 0) (i := 0) 0 (by decide +kernel) rfl rfl ?_
      refine ja_aload_n (pc := 55) (f := 0) (i := 0) 0 (by decide +kernel) rfl rfl ?_
      refine ja_getr (pc := 56) (idx := 16) (t := 8) (j := 3) (by decide +kernel) fd_Model_16 h0 (fr_8_3 h0) ?_
      refine ja_iconst (pc := 59) (n := 0) (v := 0) (by decide +kernel) (by decide +kernel) ?_
      refine ja_bind hf (fun v1 hv1 hf => ?_)
      refine ja_iald (pc := 60) (by decide +kernel) (fk_8_3 h0) hv1 ?_
      refine ja_bind hf (fun s2 hs2 hf => ?_)
      refine ja_puti2 (pc := 61) (idx := 196) (t := 8) (j := 27) (by decide +kernel) fd_Model_196 h0 ⟨rfl, rfl⟩ hs2 ?_
      refine ja_aload_n (pc := 64) (f := 0) (i := 0) 0 (by decide +kernel) rfl rfl ?_
      refine ja_iconst (pc := 65) (n := 1) (v := 1) (by decide +kernel) (by decide +kernel) ?_
      refine ja_aload_n (pc := 66) (f := 0) (i := 0) 0 (by decide +kernel) rfl rfl ?_
      refine ja_geti (pc := 67) (idx := 196) (t := 8) (j := 27) (by decide +kernel) fd_Model_196 h0 ?_
      refine ja_ishl (pc := 70) (by decide +kernel) ?_
      refine ja_iconst (pc := 71) (n := 1) (v := 1) (by decide +kernel) (by decide +kernel) ?_
      refine ja_isub (pc := 72) (by decide +kernel) ?_
      refine ja_bind hf (fun s3 hs3 hf => ?_)
      refine ja_puti2 (pc := 73) (idx := 199) (t := 8) (j := 28) (by decide +kernel) fd_Model_199 h0 ⟨rfl, rfl⟩ hs3 ?_
      refine ja_aload_n (pc := 76) (f := 0) (i := 0) 0 (by decide +kernel) rfl rfl ?_
      refine ja_iconst (pc := 77) (n := 0) (v := 0) (by decide +kernel) (by decide +kernel) ?_
      refine ja_bind hf (fun s4 hs4 hf => ?_)
      refine ja_puti2 (pc := 78) (idx := 202) (t := 8) (j := 29) (by decide +kernel) fd_Model_202 h0 ⟨rfl, rfl⟩ hs4 ?_
      exact ja_ret (pc := 81) none .return_ (by decide +kernel) rfl (by cases hf; rfl)
    · refine ja_aload_n (pc := 36) (f := 0) (i := 0) 0 (by decide +kernel) rfl rfl ?_
      refine ja_getr (pc := 37) (idx := 53) (t := 8) (j := 26) (by decide +kernel) fd_Model_53 h0 (fr_8_26 h0) ?_
      refine ja_iload_n (pc := 40) (f := 1) (i := 1) 1 (by decide +kernel) rfl rfl ?_
      refine ja_aload_n (pc := 41) (f := 0) (i := 0) 0 (by decide +kernel) rfl rfl ?_
      refine ja_getr (pc := 42) (idx := 23) (t := 8) (j := 5) (by decide +kernel) fd_Model_23 h0 (fr_8_5 h0) ?_
      refine ja_iload_n (pc := 45) (f := 1) (i := 1) 1 (by decide +kernel) rfl rfl ?_
      refine ja_bind hf (fun v5 hv5 hf => ?_)
      refine ja_iald (pc := 46) (by decide +kernel) (fk_8_5 h0) hv5 ?_
      refine ja_bind hf (fun s6 hs6 hf => ?_)
      refine ja_iast (pc := 47) (by decide +kernel) (fk_8_26 h0) hs6 ?_
      refine ja_iinc (pc := 48) (i := 1) (n := 1) (v := x1 + 1) (lv' := [(1, .int (x1 + 1)), (0, .ref x0)]) 1 (by decide +kernel) rfl rfl (by decide) rfl ?_
      refine ja_goto (pc := 51) (off := (-21)) 30 (by decide +kernel) (by decide) ?_
      refine ja_lv [1, 0] rfl ?_
      exact ih x0 (x1 + 1) s6 h0 hf
def f_Model_usesSheet_L2  : Nat → Nat → Int32 → ja_S → Option (ja_S)
  | 0, _, _, _ => none
  | n + 1, x0, x1, sg => (if (96 : Int32) ≤ x1 then f_Model_usesSheet_L30  ja_FU x0 (0 : Int32) sg else (ja_ld ja_L0 sg (ja_q x0 3) ((2 : Int32) + x1)).bind fun v1 => (ja_st ja_L0 sg (ja_q x0 25) x1 v1).bind fun s2 => f_Model_usesSheet_L2  n x0 (x1 + 1) s2)
set_option maxRecDepth 4000 in
theorem w_Model_usesSheet_L2 (C : ja_C) {w : ja_S}    (n : Nat) : ∀ (x0 : Nat) (x1 : Int32) (sg : ja_S), ja_ob ja_L0 8 x0 → f_Model_usesSheet_L2  n x0 x1 sg = some w → ja_J M_Model_usesSheet C 2 [(0, .ref x0), (1, .int x1)] [] ja_L0 sg (none, ja_L0, w) := by
  induction n with
  | zero => intro _ _ _ _ hf; exact absurd (show (none : Option _) = some w from hf) (by simp)
  | succ n ih =>
    intro x0 x1 sg h0 hf
    unfold f_Model_usesSheet_L2 at hf
    refine ja_iload_n (pc := 2) (f := 1) (i := 1) 1 (by decide +kernel) rfl rfl ?_
    refine ja_bipush (pc := 3) (n := 96) (v := 96) (by decide +kernel) (by decide +kernel) ?_
    refine ja_icmp_ge (pc := 5) (off := 23) 28 (by decide +kernel) (by decide) hf (fun hf => ?_) (fun hf => ?_)
    · refine ja_iconst (pc := 28) (n := 0) (v := 0) (by decide +kernel) (by decide +kernel) ?_
      refine ja_istore_n (pc := 29) (f := 1) (i := 1) (lv' := [(1, .int (0 : Int32)), (0, .ref x0)]) (by decide +kernel) rfl (by decide) rfl ?_
      refine ja_lv [1, 0] rfl ?_
      exact w_Model_usesSheet_L30 C  ja_FU x0 (0 : Int32) sg h0 hf
    · refine ja_aload_n (pc := 8) (f := 0) (i := 0) 0 (by decide +kernel) rfl rfl ?_
      refine ja_getr (pc := 9) (idx := 50) (t := 8) (j := 25) (by decide +kernel) fd_Model_50 h0 (fr_8_25 h0) ?_
      refine ja_iload_n (pc := 12) (f := 1) (i := 1) 1 (by decide +kernel) rfl rfl ?_
      refine ja_aload_n (pc := 13) (f := 0) (i := 0) 0 (by decide +kernel) rfl rfl ?_
      refine ja_getr (pc := 14) (idx := 16) (t := 8) (j := 3) (by decide +kernel) fd_Model_16 h0 (fr_8_3 h0) ?_
      refine ja_iconst (pc := 17) (n := 2) (v := 2) (by decide +kernel) (by decide +kernel) ?_
      refine ja_iload_n (pc := 18) (f := 1) (i := 1) 1 (by decide +kernel) rfl rfl ?_
      refine ja_iadd (pc := 19) (by decide +kernel) ?_
      refine ja_bind hf (fun v1 hv1 hf => ?_)
      refine ja_iald (pc := 20) (by decide +kernel) (fk_8_3 h0) hv1 ?_
      refine ja_bind hf (fun s2 hs2 hf => ?_)
      refine ja_iast (pc := 21) (by decide +kernel) (fk_8_25 h0) hs2 ?_
      refine ja_iinc (pc := 22) (i := 1) (n := 1) (v := x1 + 1) (lv' := [(1, .int (x1 + 1)), (0, .ref x0)]) 1 (by decide +kernel) rfl rfl (by decide) rfl ?_
      refine ja_goto (pc := 25) (off := (-23)) 2 (by decide +kernel) (by decide) ?_
      refine ja_lv [1, 0] rfl ?_
      exact ih x0 (x1 + 1) s2 h0 hf
def f_Model_usesSheet (x0 : Nat) (sg : ja_S) : Option (ja_S) := f_Model_usesSheet_L2  ja_FU x0 (0 : Int32) sg
set_option maxRecDepth 4000 in
theorem c_Model_usesSheet (l : Launch) (x : ja_X) (x0 : Nat) {sg : ja_S} {w : ja_S} (h0 : ja_ob ja_L0 8 x0) (hf : f_Model_usesSheet x0 sg = some w) : ja_Ct l x y_Model_usesSheet M_Model_usesSheet [.ref x0] ja_L0 sg (none, ja_L0, w) := by
  refine ja_mk ⟨by decide, rfl, rfl⟩ (Nat.le_of_ble_eq_true rfl) (lv := [(0, .ref x0)]) rfl (fun C hl hx _ _ _ _ => ?_)
  subst hl; subst hx
  unfold f_Model_usesSheet at hf
  refine ja_iconst (pc := 0) (n := 0) (v := 0) (by decide +kernel) (by decide +kernel) ?_
  refine ja_istore_n (pc := 1) (f := 1) (i := 1) (lv' := [(1, .int (0 : Int32)), (0, .ref x0)]) (by decide +kernel) rfl (by decide) rfl ?_
  refine ja_lv [1, 0] rfl ?_
  exact w_Model_usesSheet_L2 C  ja_FU x0 (0 : Int32) sg h0 hf
def f_Model_isActive_B31  (x3 : Int32) (y0 : Int32) (sg : ja_S) : Option (Int32 × ja_S) := (if y0 = (x3 - x3 / (2 : Int32) * (2 : Int32)) then some ((1 : Int32), sg) else some ((0 : Int32), sg))
set_option maxRecDepth 4000 in
theorem w_Model_isActive_B31 (C : ja_C) {w : Int32 × ja_S}    (x3 : Int32) (y0 : Int32) (sg : ja_S)  (hf : f_Model_isActive_B31  x3 y0 sg = some w) : ja_J M_Model_isActive C 31 [(3, .int x3)] [.int y0] ja_L0 sg (some (.int w.1), ja_L0, w.2) := by
  unfold f_Model_isActive_B31 at hf
  refine ja_iload_n (pc := 31) (f := 3) (i := 3) 0 (by decide +kernel) rfl rfl ?_
  refine ja_iconst (pc := 32) (n := 2) (v := 2) (by decide +kernel) (by decide +kernel) ?_
  refine ja_irem (pc := 33) (by decide +kernel) (by decide) ?_
  refine ja_icmp_ne (pc := 34) (off := 7) 41 (by decide +kernel) (by decide) hf (fun hf => ?_) (fun hf => ?_)
  · refine ja_iconst (pc := 41) (n := 0) (v := 0) (by decide +kernel) (by decide +kernel) ?_
    exact ja_ret (pc := 42) (some (.int (0 : Int32))) .ireturn (by decide +kernel) rfl (by cases hf; rfl)
  · refine ja_iconst (pc := 37) (n := 1) (v := 1) (by decide +kernel) (by decide +kernel) ?_
    refine ja_goto (pc := 38) (off := 4) 42 (by decide +kernel) (by decide) ?_
    exact ja_ret (pc := 42) (some (.int (1 : Int32))) .ireturn (by decide +kernel) rfl (by cases hf; rfl)
def f_Model_isActive (x0 : Nat) (x1 : Int32) (x2 : Int32) (sg : ja_S) : Option (Int32 × ja_S) := (ja_ld ja_L0 sg (ja_q x0 25) (((4 : Int32) * x1) + (3 : Int32))).bind fun v1 => (if v1 = (-1 : Int32) then some ((1 : Int32), sg) else (f_Model_has x2 (v1 / (2 : Int32)) sg).bind fun v2 => (if v2.1 = 0 then f_Model_isActive_B31  v1 (0 : Int32) v2.2 else f_Model_isActive_B31  v1 (1 : Int32) v2.2))
set_option maxRecDepth 4000 in
theorem c_Model_isActive (l : Launch) (x : ja_X) (x0 : Nat) (x1 : Int32) (x2 : Int32) {sg : ja_S} {w : Int32 × ja_S} (h0 : ja_ob ja_L0 8 x0) (hf : f_Model_isActive x0 x1 x2 sg = some w) : ja_Ct l x y_Model_isActive M_Model_isActive [.ref x0, .int x1, .int x2] ja_L0 sg (some (.int w.1), ja_L0, w.2) := by
  refine ja_mk ⟨by decide, rfl, rfl⟩ (Nat.le_of_ble_eq_true rfl) (lv := [(0, .ref x0), (1, .int x1), (2, .int x2)]) rfl (fun C hl hx _ _ _ _ => ?_)
  subst hl; subst hx
  unfold f_Model_isActive at hf
  refine ja_aload_n (pc := 0) (f := 0) (i := 0) 0 (by decide +kernel) rfl rfl ?_
  refine ja_getr (pc := 1) (idx := 50) (t := 8) (j := 25) (by decide +kernel) fd_Model_50 h0 (fr_8_25 h0) ?_
  refine ja_iconst (pc := 4) (n := 4) (v := 4) (by decide +kernel) (by decide +kernel) ?_
  refine ja_iload_n (pc := 5) (f := 1) (i := 1) 1 (by decide +kernel) rfl rfl ?_
  refine ja_imul (pc := 6) (by decide +kernel) ?_
  refine ja_iconst (pc := 7) (n := 3) (v := 3) (by decide +kernel) (by decide +kernel) ?_
  refine ja_iadd (pc := 8) (by decide +kernel) ?_
  refine ja_bind hf (fun v1 hv1 hf => ?_)
  refine ja_iald (pc := 9) (by decide +kernel) (fk_8_25 h0) hv1 ?_
  refine ja_istore_n (pc := 10) (f := 3) (i := 3) (lv' := [(3, .int v1), (0, .ref x0), (1, .int x1), (2, .int x2)]) (by decide +kernel) rfl (by decide) rfl ?_
  refine ja_iload_n (pc := 11) (f := 3) (i := 3) 0 (by decide +kernel) rfl rfl ?_
  refine ja_iconst (pc := 12) (n := (-1)) (v := (-1)) (by decide +kernel) (by decide +kernel) ?_
  refine ja_icmp_eq (pc := 13) (off := 24) 37 (by decide +kernel) (by decide) hf (fun hf => ?_) (fun hf => ?_)
  · refine ja_iconst (pc := 37) (n := 1) (v := 1) (by decide +kernel) (by decide +kernel) ?_
    refine ja_goto (pc := 38) (off := 4) 42 (by decide +kernel) (by decide) ?_
    exact ja_ret (pc := 42) (some (.int (1 : Int32))) .ireturn (by decide +kernel) rfl (by cases hf; rfl)
  · refine ja_iload_n (pc := 16) (f := 2) (i := 2) 3 (by decide +kernel) rfl rfl ?_
    refine ja_iload_n (pc := 17) (f := 3) (i := 3) 0 (by decide +kernel) rfl rfl ?_
    refine ja_iconst (pc := 18) (n := 2) (v := 2) (by decide +kernel) (by decide +kernel) ?_
    refine ja_idiv (pc := 19) (by decide +kernel) (by decide) ?_
    refine ja_bind hf (fun v2 hv2 hf => ?_)
    refine ja_callSi (pc := 20) (idx := 152) (as := [.int x2, .int (v1 / (2 : Int32))]) (st := []) (by decide +kernel) ks_Model_has lk_Model_152 ⟨by decide, by decide⟩ (c_Model_has _ _ x2 (v1 / (2 : Int32))  hv2) rfl (Nat.le_of_ble_eq_true rfl) rfl ?_
    refine ja_if_eq (pc := 23) (off := 7) 30 (by decide +kernel) (by decide) hf (fun hf => ?_) (fun hf => ?_)
    · refine ja_iconst (pc := 30) (n := 0) (v := 0) (by decide +kernel) (by decide +kernel) ?_
      refine ja_lv [0] rfl ?_
      exact w_Model_isActive_B31 C  v1 (0 : Int32) v2.2  hf
    · refine ja_iconst (pc := 26) (n := 1) (v := 1) (by decide +kernel) (by decide +kernel) ?_
      refine ja_goto (pc := 27) (off := 4) 31 (by decide +kernel) (by decide) ?_
      refine ja_lv [0] rfl ?_
      exact w_Model_isActive_B31 C  v1 (1 : Int32) v2.2  hf
def f_Model_forbids_B70  (y0 : Int32) (y1 : Int32) (sg : ja_S) : Option (Int32 × ja_S) := (if y1 = y0 then some ((1 : Int32), sg) else some ((0 : Int32), sg))
set_option maxRecDepth 4000 in
theorem w_Model_forbids_B70 (C : ja_C) {w : Int32 × ja_S}    (y0 : Int32) (y1 : Int32) (sg : ja_S)  (hf : f_Model_forbids_B70  y0 y1 sg = some w) : ja_J M_Model_forbids C 70 [] [.int y0, .int y1] ja_L0 sg (some (.int w.1), ja_L0, w.2) := by
  unfold f_Model_forbids_B70 at hf
  refine ja_icmp_ne (pc := 70) (off := 7) 77 (by decide +kernel) (by decide) hf (fun hf => ?_) (fun hf => ?_)
  · refine ja_iconst (pc := 77) (n := 0) (v := 0) (by decide +kernel) (by decide +kernel) ?_
    exact ja_ret (pc := 78) (some (.int (0 : Int32))) .ireturn (by decide +kernel) rfl (by cases hf; rfl)
  · refine ja_iconst (pc := 73) (n := 1) (v := 1) (by decide +kernel) (by decide +kernel) ?_
    refine ja_goto (pc := 74) (off := 4) 78 (by decide +kernel) (by decide) ?_
    exact ja_ret (pc := 78) (some (.int (1 : Int32))) .ireturn (by decide +kernel) rfl (by cases hf; rfl)
def f_Model_forbids (x0 : Nat) (x1 : Int32) (x2 : Int32) (sg : ja_S) : Option (Int32 × ja_S) := (ja_ld ja_L0 sg (ja_q x0 25) ((4 : Int32) * x1)).bind fun v1 => (if v1 = (2 : Int32) then some ((0 : Int32), sg) else (ja_ld ja_L0 sg (ja_q x0 25) (((4 : Int32) * x1) + (2 : Int32))).bind fun v2 => (f_Model_has x2 v2 sg).bind fun v3 => (if v3.1 = 0 then some ((0 : Int32), v3.2) else (f_Model_isActive x0 x1 x2 v3.2).bind fun v4 => (if v4.1 = 0 then some ((0 : Int32), v4.2) else (ja_ld ja_L0 v4.2 (ja_q x0 25) (((4 : Int32) * x1) + (1 : Int32))).bind fun v5 => (f_Model_has x2 v5 v4.2).bind fun v6 => (ja_ld ja_L0 v6.2 (ja_q x0 25) ((4 : Int32) * x1)).bind fun v7 => (if v7 = 0 then f_Model_forbids_B70  (1 : Int32) v6.1 v6.2 else f_Model_forbids_B70  (0 : Int32) v6.1 v6.2))))
set_option maxRecDepth 4000 in
theorem c_Model_forbids (l : Launch) (x : ja_X) (x0 : Nat) (x1 : Int32) (x2 : Int32) {sg : ja_S} {w : Int32 × ja_S} (h0 : ja_ob ja_L0 8 x0) (hf : f_Model_forbids x0 x1 x2 sg = some w) : ja_Ct l x y_Model_forbids M_Model_forbids [.ref x0, .int x1, .int x2] ja_L0 sg (some (.int w.1), ja_L0, w.2) := by
  refine ja_mk ⟨by decide, rfl, rfl⟩ (Nat.le_of_ble_eq_true rfl) (lv := [(0, .ref x0), (1, .int x1), (2, .int x2)]) rfl (fun C hl hx _ _ _ _ => ?_)
  subst hl; subst hx
  unfold f_Model_forbids at hf
  refine ja_aload_n (pc := 0) (f := 0) (i := 0) 0 (by decide +kernel) rfl rfl ?_
  refine ja_getr (pc := 1) (idx := 50) (t := 8) (j := 25) (by decide +kernel) fd_Model_50 h0 (fr_8_25 h0) ?_
  refine ja_iconst (pc := 4) (n := 4) (v := 4) (by decide +kernel) (by decide +kernel) ?_
  refine ja_iload_n (pc := 5) (f := 1) (i := 1) 1 (by decide +kernel) rfl rfl ?_
  refine ja_imul (pc := 6) (by decide +kernel) ?_
  refine ja_bind hf (fun v1 hv1 hf => ?_)
  refine ja_iald (pc := 7) (by decide +kernel) (fk_8_25 h0) hv1 ?_
  refine ja_iconst (pc := 8) (n := 2) (v := 2) (by decide +kernel) (by decide +kernel) ?_
  refine ja_icmp_eq (pc := 9) (off := 29) 38 (by decide +kernel) (by decide) hf (fun hf => ?_) (fun hf => ?_)
  · refine ja_iconst (pc := 38) (n := 0) (v := 0) (by decide +kernel) (by decide +kernel) ?_
    exact ja_ret (pc := 39) (some (.int (0 : Int32))) .ireturn (by decide +kernel) rfl (by cases hf; rfl)
  · refine ja_iload_n (pc := 12) (f := 2) (i := 2) 2 (by decide +kernel) rfl rfl ?_
    refine ja_aload_n (pc := 13) (f := 0) (i := 0) 0 (by decide +kernel) rfl rfl ?_
    refine ja_getr (pc := 14) (idx := 50) (t := 8) (j := 25) (by decide +kernel) fd_Model_50 h0 (fr_8_25 h0) ?_
    refine ja_iconst (pc := 17) (n := 4) (v := 4) (by decide +kernel) (by decide +kernel) ?_
    refine ja_iload_n (pc := 18) (f := 1) (i := 1) 1 (by decide +kernel) rfl rfl ?_
    refine ja_imul (pc := 19) (by decide +kernel) ?_
    refine ja_iconst (pc := 20) (n := 2) (v := 2) (by decide +kernel) (by decide +kernel) ?_
    refine ja_iadd (pc := 21) (by decide +kernel) ?_
    refine ja_bind hf (fun v2 hv2 hf => ?_)
    refine ja_iald (pc := 22) (by decide +kernel) (fk_8_25 h0) hv2 ?_
    refine ja_bind hf (fun v3 hv3 hf => ?_)
    refine ja_callSi (pc := 23) (idx := 152) (as := [.int x2, .int v2]) (st := []) (by decide +kernel) ks_Model_has lk_Model_152 ⟨by decide, by decide⟩ (c_Model_has _ _ x2 v2  hv3) rfl (Nat.le_of_ble_eq_true rfl) rfl ?_
    refine ja_if_eq (pc := 26) (off := 12) 38 (by decide +kernel) (by decide) hf (fun hf => ?_) (fun hf => ?_)
    · refine ja_iconst (pc := 38) (n := 0) (v := 0) (by decide +kernel) (by decide +kernel) ?_
      exact ja_ret (pc := 39) (some (.int (0 : Int32))) .ireturn (by decide +kernel) rfl (by cases hf; rfl)
    · refine ja_aload_n (pc := 29) (f := 0) (i := 0) 0 (by decide +kernel) rfl rfl ?_
      refine ja_iload_n (pc := 30) (f := 1) (i := 1) 1 (by decide +kernel) rfl rfl ?_
      refine ja_iload_n (pc := 31) (f := 2) (i := 2) 2 (by decide +kernel) rfl rfl ?_
      refine ja_bind hf (fun v4 hv4 hf => ?_)
      refine ja_callVi (pc := 32) (idx := 205) (t := 8) (b := x0) (as := [.int x1, .int x2]) (st := []) (by decide +kernel) kv_Model_isActive lk_Model_205 ⟨by decide, by decide⟩ (c_Model_isActive _ _ x0 x1 x2 h0 hv4) h0 rfl (Nat.le_of_ble_eq_true rfl) rfl ?_
      refine ja_if_ne (pc := 35) (off := 5) 40 (by decide +kernel) (by decide) hf (fun hf => ?_) (fun hf => ?_)
      · refine ja_iload_n (pc := 40) (f := 2) (i := 2) 2 (by decide +kernel) rfl rfl ?_
        refine ja_aload_n (pc := 41) (f := 0) (i := 0) 0 (by decide +kernel) rfl rfl ?_
        refine ja_getr (pc := 42) (idx := 50) (t := 8) (j := 25) (by decide +kernel) fd_Model_50 h0 (fr_8_25 h0) ?_
        refine ja_iconst (pc := 45) (n := 4) (v := 4) (by decide +kernel) (by decide +kernel) ?_
        refine ja_iload_n (pc := 46) (f := 1) (i := 1) 1 (by decide +kernel) rfl rfl ?_
        refine ja_imul (pc := 47) (by decide +kernel) ?_
        refine ja_iconst (pc := 48) (n := 1) (v := 1) (by decide +kernel) (by decide +kernel) ?_
        refine ja_iadd (pc := 49) (by decide +kernel) ?_
        refine ja_bind hf (fun v5 hv5 hf => ?_)
        refine ja_iald (pc := 50) (by decide +kernel) (fk_8_25 h0) hv5 ?_
        refine ja_bind hf (fun v6 hv6 hf => ?_)
        refine ja_callSi (pc := 51) (idx := 152) (as := [.int x2, .int v5]) (st := []) (by decide +kernel) ks_Model_has lk_Model_152 ⟨by decide, by decide⟩ (c_Model_has _ _ x2 v5  hv6) rfl (Nat.le_of_ble_eq_true rfl) rfl ?_
        refine ja_aload_n (pc := 54) (f := 0) (i := 0) 0 (by decide +kernel) rfl rfl ?_
        refine ja_getr (pc := 55) (idx := 50) (t := 8) (j := 25) (by decide +kernel) fd_Model_50 h0 (fr_8_25 h0) ?_
        refine ja_iconst (pc := 58) (n := 4) (v := 4) (by decide +kernel) (by decide +kernel) ?_
        refine ja_iload_n (pc := 59) (f := 1) (i := 1) 1 (by decide +kernel) rfl rfl ?_
        refine ja_imul (pc := 60) (by decide +kernel) ?_
        refine ja_bind hf (fun v7 hv7 hf => ?_)
        refine ja_iald (pc := 61) (by decide +kernel) (fk_8_25 h0) hv7 ?_
        refine ja_if_ne (pc := 62) (off := 7) 69 (by decide +kernel) (by decide) hf (fun hf => ?_) (fun hf => ?_)
        · refine ja_iconst (pc := 69) (n := 0) (v := 0) (by decide +kernel) (by decide +kernel) ?_
          refine ja_lv [] rfl ?_
          exact w_Model_forbids_B70 C  (0 : Int32) v6.1 v6.2  hf
        · refine ja_iconst (pc := 65) (n := 1) (v := 1) (by decide +kernel) (by decide +kernel) ?_
          refine ja_goto (pc := 66) (off := 4) 70 (by decide +kernel) (by decide) ?_
          refine ja_lv [] rfl ?_
          exact w_Model_forbids_B70 C  (1 : Int32) v6.1 v6.2  hf
      · refine ja_iconst (pc := 38) (n := 0) (v := 0) (by decide +kernel) (by decide +kernel) ?_
        exact ja_ret (pc := 39) (some (.int (0 : Int32))) .ireturn (by decide +kernel) rfl (by cases hf; rfl)
def f_Model_blocks (x0 : Nat) (x1 : Int32) (x2 : Int32) (x3 : Int32) (sg : ja_S) : Option (Int32 × ja_S) := (ja_ld ja_L0 sg (ja_q x0 25) ((4 : Int32) * x1)).bind fun v1 => (if v1 = (2 : Int32) then (ja_ld ja_L0 sg (ja_q x0 25) (((4 : Int32) * x1) + (1 : Int32))).bind fun v2 => (ja_ld ja_L0 sg (ja_q x0 25) (((4 : Int32) * x1) + (2 : Int32))).bind fun v3 => (if v3 = x3 then (if v2 = v3 then some ((0 : Int32), sg) else (f_Model_has x2 v2 sg).bind fun v4 => (if v4.1 = 0 then some ((0 : Int32), v4.2) else (f_Model_isActive x0 x1 x2 v4.2).bind fun v5 => (if v5.1 = 0 then some ((0 : Int32), v5.2) else some ((1 : Int32), v5.2)))) else some ((0 : Int32), sg)) else (f_Model_forbids x0 x1 (x2 ^^^ ((1 : Int32) <<< (x3 &&& 31))) sg).bind fun v6 => ja_rb v6.1 v6.2)
set_option maxRecDepth 4000 in
theorem c_Model_blocks (l : Launch) (x : ja_X) (x0 : Nat) (x1 : Int32) (x2 : Int32) (x3 : Int32) {sg : ja_S} {w : Int32 × ja_S} (h0 : ja_ob ja_L0 8 x0) (hf : f_Model_blocks x0 x1 x2 x3 sg = some w) : ja_Ct l x y_Model_blocks M_Model_blocks [.ref x0, .int x1, .int x2, .int x3] ja_L0 sg (some (.int w.1), ja_L0, w.2) := by
  refine ja_mk ⟨by decide, rfl, rfl⟩ (Nat.le_of_ble_eq_true rfl) (lv := [(0, .ref x0), (1, .int x1), (2, .int x2), (3, .int x3)]) rfl (fun C hl hx _ _ _ _ => ?_)
  subst hl; subst hx
  unfold f_Model_blocks at hf
  refine ja_aload_n (pc := 0) (f := 0) (i := 0) 0 (by decide +kernel) rfl rfl ?_
  refine ja_getr (pc := 1) (idx := 50) (t := 8) (j := 25) (by decide +kernel) fd_Model_50 h0 (fr_8_25 h0) ?_
  refine ja_iconst (pc := 4) (n := 4) (v := 4) (by decide +kernel) (by decide +kernel) ?_
  refine ja_iload_n (pc := 5) (f := 1) (i := 1) 1 (by decide +kernel) rfl rfl ?_
  refine ja_imul (pc := 6) (by decide +kernel) ?_
  refine ja_bind hf (fun v1 hv1 hf => ?_)
  refine ja_iald (pc := 7) (by decide +kernel) (fk_8_25 h0) hv1 ?_
  refine ja_iconst (pc := 8) (n := 2) (v := 2) (by decide +kernel) (by decide +kernel) ?_
  refine ja_icmp_eq (pc := 9) (off := 14) 23 (by decide +kernel) (by decide) hf (fun hf => ?_) (fun hf => ?_)
  · refine ja_aload_n (pc := 23) (f := 0) (i := 0) 0 (by decide +kernel) rfl rfl ?_
    refine ja_getr (pc := 24) (idx := 50) (t := 8) (j := 25) (by decide +kernel) fd_Model_50 h0 (fr_8_25 h0) ?_
    refine ja_iconst (pc := 27) (n := 4) (v := 4) (by decide +kernel) (by decide +kernel) ?_
    refine ja_iload_n (pc := 28) (f := 1) (i := 1) 1 (by decide +kernel) rfl rfl ?_
    refine ja_imul (pc := 29) (by decide +kernel) ?_
    refine ja_iconst (pc := 30) (n := 1) (v := 1) (by decide +kernel) (by decide +kernel) ?_
    refine ja_iadd (pc := 31) (by decide +kernel) ?_
    refine ja_bind hf (fun v2 hv2 hf => ?_)
    refine ja_iald (pc := 32) (by decide +kernel) (fk_8_25 h0) hv2 ?_
    refine ja_istore (pc := 33) (i := 4) (lv' := [(4, .int v2), (0, .ref x0), (1, .int x1), (2, .int x2), (3, .int x3)]) (by decide +kernel) (by decide) rfl ?_
    refine ja_aload_n (pc := 35) (f := 0) (i := 0) 1 (by decide +kernel) rfl rfl ?_
    refine ja_getr (pc := 36) (idx := 50) (t := 8) (j := 25) (by decide +kernel) fd_Model_50 h0 (fr_8_25 h0) ?_
    refine ja_iconst (pc := 39) (n := 4) (v := 4) (by decide +kernel) (by decide +kernel) ?_
    refine ja_iload_n (pc := 40) (f := 1) (i := 1) 2 (by decide +kernel) rfl rfl ?_
    refine ja_imul (pc := 41) (by decide +kernel) ?_
    refine ja_iconst (pc := 42) (n := 2) (v := 2) (by decide +kernel) (by decide +kernel) ?_
    refine ja_iadd (pc := 43) (by decide +kernel) ?_
    refine ja_bind hf (fun v3 hv3 hf => ?_)
    refine ja_iald (pc := 44) (by decide +kernel) (fk_8_25 h0) hv3 ?_
    refine ja_istore (pc := 45) (i := 5) (lv' := [(5, .int v3), (4, .int v2), (0, .ref x0), (1, .int x1), (2, .int x2), (3, .int x3)]) (by decide +kernel) (by decide) rfl ?_
    refine ja_iload (pc := 47) (i := 5) 0 (by decide +kernel) rfl ?_
    refine ja_iload_n (pc := 49) (f := 3) (i := 3) 5 (by decide +kernel) rfl rfl ?_
    refine ja_icmp_ne (pc := 50) (off := 32) 82 (by decide +kernel) (by decide) hf (fun hf => ?_) (fun hf => ?_)
    · refine ja_iconst (pc := 82) (n := 0) (v := 0) (by decide +kernel) (by decide +kernel) ?_
      exact ja_ret (pc := 83) (some (.int (0 : Int32))) .ireturn (by decide +kernel) rfl (by cases hf; rfl)
    · refine ja_iload (pc := 53) (i := 4) 1 (by decide +kernel) rfl ?_
      refine ja_iload (pc := 55) (i := 5) 0 (by decide +kernel) rfl ?_
      refine ja_icmp_eq (pc := 57) (off := 25) 82 (by decide +kernel) (by decide) hf (fun hf => ?_) (fun hf => ?_)
      · refine ja_iconst (pc := 82) (n := 0) (v := 0) (by decide +kernel) (by decide +kernel) ?_
        exact ja_ret (pc := 83) (some (.int (0 : Int32))) .ireturn (by decide +kernel) rfl (by cases hf; rfl)
      · refine ja_iload_n (pc := 60) (f := 2) (i := 2) 4 (by decide +kernel) rfl rfl ?_
        refine ja_iload (pc := 61) (i := 4) 1 (by decide +kernel) rfl ?_
        refine ja_bind hf (fun v4 hv4 hf => ?_)
        refine ja_callSi (pc := 63) (idx := 152) (as := [.int x2, .int v2]) (st := []) (by decide +kernel) ks_Model_has lk_Model_152 ⟨by decide, by decide⟩ (c_Model_has _ _ x2 v2  hv4) rfl (Nat.le_of_ble_eq_true rfl) rfl ?_
        refine ja_if_eq (pc := 66) (off := 16) 82 (by decide +kernel) (by decide) hf (fun hf => ?_) (fun hf => ?_)
        · refine ja_iconst (pc := 82) (n := 0) (v := 0) (by decide +kernel) (by decide +kernel) ?_
          exact ja_ret (pc := 83) (some (.int (0 : Int32))) .ireturn (by decide +kernel) rfl (by cases hf; rfl)
        · refine ja_aload_n (pc := 69) (f := 0) (i := 0) 2 (by decide +kernel) rfl rfl ?_
          refine ja_iload_n (pc := 70) (f := 1) (i := 1) 3 (by decide +kernel) rfl rfl ?_
          refine ja_iload_n (pc := 71) (f := 2) (i := 2) 4 (by decide +kernel) rfl rfl ?_
          refine ja_bind hf (fun v5 hv5 hf => ?_)
          refine ja_callVi (pc := 72) (idx := 205) (t := 8) (b := x0) (as := [.int x1, .int x2]) (st := []) (by decide +kernel) kv_Model_isActive lk_Model_205 ⟨by decide, by decide⟩ (c_Model_isActive _ _ x0 x1 x2 h0 hv5) h0 rfl (Nat.le_of_ble_eq_true rfl) rfl ?_
          refine ja_if_eq (pc := 75) (off := 7) 82 (by decide +kernel) (by decide) hf (fun hf => ?_) (fun hf => ?_)
          · refine ja_iconst (pc := 82) (n := 0) (v := 0) (by decide +kernel) (by decide +kernel) ?_
            exact ja_ret (pc := 83) (some (.int (0 : Int32))) .ireturn (by decide +kernel) rfl (by cases hf; rfl)
          · refine ja_iconst (pc := 78) (n := 1) (v := 1) (by decide +kernel) (by decide +kernel) ?_
            refine ja_goto (pc := 79) (off := 4) 83 (by decide +kernel) (by decide) ?_
            exact ja_ret (pc := 83) (some (.int (1 : Int32))) .ireturn (by decide +kernel) rfl (by cases hf; rfl)
  · refine ja_aload_n (pc := 12) (f := 0) (i := 0) 0 (by decide +kernel) rfl rfl ?_
    refine ja_iload_n (pc := 13) (f := 1) (i := 1) 1 (by decide +kernel) rfl rfl ?_
    refine ja_iload_n (pc := 14) (f := 2) (i := 2) 2 (by decide +kernel) rfl rfl ?_
    refine ja_iconst (pc := 15) (n := 1) (v := 1) (by decide +kernel) (by decide +kernel) ?_
    refine ja_iload_n (pc := 16) (f := 3) (i := 3) 3 (by decide +kernel) rfl rfl ?_
    refine ja_ishl (pc := 17) (by decide +kernel) ?_
    refine ja_ixor (pc := 18) (by decide +kernel) ?_
    refine ja_bind hf (fun v6 hv6 hf => ?_)
    refine ja_callVi (pc := 19) (idx := 208) (t := 8) (b := x0) (as := [.int x1, .int (x2 ^^^ ((1 : Int32) <<< (x3 &&& 31)))]) (st := []) (by decide +kernel) kv_Model_forbids lk_Model_208 ⟨by decide, by decide⟩ (c_Model_forbids _ _ x0 x1 (x2 ^^^ ((1 : Int32) <<< (x3 &&& 31))) h0 hv6) h0 rfl (Nat.le_of_ble_eq_true rfl) rfl ?_
    obtain ⟨hrb, hw⟩ := ja_ite hf
    exact ja_ret (pc := 22) (some (.int v6.1)) .ireturn (by decide +kernel) (ja_ri_b hrb) (by cases hw; rfl)
