def f_Model_line_B52  (x0 : Nat) (sg : ja_S) : Option (ja_S) := (f_Model_semicolon x0 sg).bind fun v1 => some v1
set_option maxRecDepth 4000 in
theorem w_Model_line_B52 (C : ja_C) {w : ja_S}    (x0 : Nat) (sg : ja_S) (h0 : ja_ob ja_L0 8 x0) (hf : f_Model_line_B52  x0 sg = some w) : ja_J M_Model_line C 52 [(0, .ref x0)] [] ja_L0 sg (none, ja_L0, w) := by
  unfold f_Model_line_B52 at hf
  refine ja_aload_n (pc := 52) (f := 0) (i := 0) 0 (by decide +kernel) rfl rfl ?_
  refine ja_bind hf (fun v1 hv1 hf => ?_)
  refine ja_callVv (pc := 53) (idx := 171) (t := 8) (b := x0) (as := []) (st := []) (by decide +kernel) kv_Model_semicolon lk_Model_171 ⟨by decide, by decide⟩ (c_Model_semicolon _ _ x0 h0 hv1) h0 rfl (Nat.le_of_ble_eq_true rfl) rfl ?_
  exact ja_ret (pc := 56) none .return_ (by decide +kernel) rfl (by cases hf; rfl)
def f_Model_line (x0 : Nat) (sg : ja_S) : Option (ja_S) := (f_Model_wordHere x0 sg).bind fun v1 => (f_Model_isDigitHere x0 v1.2).bind fun v2 => (if v2.1 = 0 then (if v1.1 = (1 : Int32) then (f_Model_routeLine x0 v2.2).bind fun v5 => f_Model_line_B52  x0 v5 else (if v1.1 = (2 : Int32) then (f_Model_conflictLine x0 v2.2).bind fun v4 => f_Model_line_B52  x0 v4 else (f_Model_fails x0 (1 : Int32) (v2.2.1 x0 13) v2.2).bind fun v3 => f_Model_line_B52  x0 v3)) else (f_Model_ruleLine x0 v2.2).bind fun v6 => f_Model_line_B52  x0 v6)
set_option maxRecDepth 4000 in
theorem c_Model_line (l : Launch) (x : ja_X) (x0 : Nat) {sg : ja_S} {w : ja_S} (h0 : ja_ob ja_L0 8 x0) (hf : f_Model_line x0 sg = some w) : ja_Ct l x y_Model_line M_Model_line [.ref x0] ja_L0 sg (none, ja_L0, w) := by
  refine ja_mk ⟨by decide, rfl, rfl⟩ (Nat.le_of_ble_eq_true rfl) (lv := [(0, .ref x0)]) rfl (fun C hl hx _ _ _ _ => ?_)
  subst hl; subst hx
  unfold f_Model_line at hf
  refine ja_aload_n (pc := 0) (f := 0) (i := 0) 0 (by decide +kernel) rfl rfl ?_
  refine ja_bind hf (fun v1 hv1 hf => ?_)
  refine ja_callVi (pc := 1) (idx := 115) (t := 8) (b := x0) (as := []) (st := []) (by decide +kernel) kv_Model_wordHere lk_Model_115 ⟨by decide, by decide⟩ (c_Model_wordHere _ _ x0 h0 hv1) h0 rfl (Nat.le_of_ble_eq_true rfl) rfl ?_
  refine ja_istore_n (pc := 4) (f := 1) (i := 1) (lv' := [(1, .int v1.1), (0, .ref x0)]) (by decide +kernel) rfl (by decide) rfl ?_
  refine ja_aload_n (pc := 5) (f := 0) (i := 0) 1 (by decide +kernel) rfl rfl ?_
  refine ja_bind hf (fun v2 hv2 hf => ?_)
  refine ja_callVi (pc := 6) (idx := 126) (t := 8) (b := x0) (as := []) (st := []) (by decide +kernel) kv_Model_isDigitHere lk_Model_126 ⟨by decide, by decide⟩ (c_Model_isDigitHere _ _ x0 h0 hv2) h0 rfl (Nat.le_of_ble_eq_true rfl) rfl ?_
  refine ja_if_eq (pc := 9) (off := 10) 19 (by decide +kernel) (by decide) hf (fun hf => ?_) (fun hf => ?_)
  · refine ja_iload_n (pc := 19) (f := 1) (i := 1) 0 (by decide +kernel) rfl rfl ?_
    refine ja_iconst (pc := 20) (n := 1) (v := 1) (by decide +kernel) (by decide +kernel) ?_
    refine ja_icmp_ne (pc := 21) (off := 10) 31 (by decide +kernel) (by decide) hf (fun hf => ?_) (fun hf => ?_)
    · refine ja_iload_n (pc := 31) (f := 1) (i := 1) 0 (by decide +kernel) rfl rfl ?_
      refine ja_iconst (pc := 32) (n := 2) (v := 2) (by decide +kernel) (by decide +kernel) ?_
      refine ja_icmp_ne (pc := 33) (off := 10) 43 (by decide +kernel) (by decide) hf (fun hf => ?_) (fun hf => ?_)
      · refine ja_aload_n (pc := 43) (f := 0) (i := 0) 1 (by decide +kernel) rfl rfl ?_
        refine ja_iconst (pc := 44) (n := 1) (v := 1) (by decide +kernel) (by decide +kernel) ?_
        refine ja_aload_n (pc := 45) (f := 0) (i := 0) 1 (by decide +kernel) rfl rfl ?_
        refine ja_geti (pc := 46) (idx := 80) (t := 8) (j := 13) (by decide +kernel) fd_Model_80 h0 ?_
        refine ja_bind hf (fun v3 hv3 hf => ?_)
        refine ja_callVv (pc := 49) (idx := 118) (t := 8) (b := x0) (as := [.int (1 : Int32), .int (v2.2.1 x0 13)]) (st := []) (by decide +kernel) kv_Model_fails lk_Model_118 ⟨by decide, by decide⟩ (c_Model_fails _ _ x0 (1 : Int32) (v2.2.1 x0 13) h0 hv3) h0 rfl (Nat.le_of_ble_eq_true rfl) rfl ?_
        refine ja_lv [1] rfl ?_
        exact w_Model_line_B52 C  x0 v3 h0 hf
      · refine ja_aload_n (pc := 36) (f := 0) (i := 0) 1 (by decide +kernel) rfl rfl ?_
        refine ja_bind hf (fun v4 hv4 hf => ?_)
        refine ja_callVv (pc := 37) (idx := 168) (t := 8) (b := x0) (as := []) (st := []) (by decide +kernel) kv_Model_conflictLine lk_Model_168 ⟨by decide, by decide⟩ (c_Model_conflictLine _ _ x0 h0 hv4) h0 rfl (Nat.le_of_ble_eq_true rfl) rfl ?_
        refine ja_goto (pc := 40) (off := 12) 52 (by decide +kernel) (by decide) ?_
        refine ja_lv [1] rfl ?_
        exact w_Model_line_B52 C  x0 v4 h0 hf
    · refine ja_aload_n (pc := 24) (f := 0) (i := 0) 1 (by decide +kernel) rfl rfl ?_
      refine ja_bind hf (fun v5 hv5 hf => ?_)
      refine ja_callVv (pc := 25) (idx := 165) (t := 8) (b := x0) (as := []) (st := []) (by decide +kernel) kv_Model_routeLine lk_Model_165 ⟨by decide, by decide⟩ (c_Model_routeLine _ _ x0 h0 hv5) h0 rfl (Nat.le_of_ble_eq_true rfl) rfl ?_
      refine ja_goto (pc := 28) (off := 24) 52 (by decide +kernel) (by decide) ?_
      refine ja_lv [1] rfl ?_
      exact w_Model_line_B52 C  x0 v5 h0 hf
  · refine ja_aload_n (pc := 12) (f := 0) (i := 0) 1 (by decide +kernel) rfl rfl ?_
    refine ja_bind hf (fun v6 hv6 hf => ?_)
    refine ja_callVv (pc := 13) (idx := 162) (t := 8) (b := x0) (as := []) (st := []) (by decide +kernel) kv_Model_ruleLine lk_Model_162 ⟨by decide, by decide⟩ (c_Model_ruleLine _ _ x0 h0 hv6) h0 rfl (Nat.le_of_ble_eq_true rfl) rfl ?_
    refine ja_goto (pc := 16) (off := 36) 52 (by decide +kernel) (by decide) ?_
    refine ja_lv [1] rfl ?_
    exact w_Model_line_B52 C  x0 v6 h0 hf
def f_Model_parses_B64  (x1 : Int32) (x2 : Int32) (sg : ja_S) : Option (Int32 × ja_S) := (if x1 = 0 then some (x2, sg) else some ((0 : Int32), sg))
set_option maxRecDepth 4000 in
theorem w_Model_parses_B64 (C : ja_C) {w : Int32 × ja_S}    (x1 : Int32) (x2 : Int32) (sg : ja_S)  (hf : f_Model_parses_B64  x1 x2 sg = some w) : ja_J M_Model_parses C 64 [(1, .int x1), (2, .int x2)] [] ja_L0 sg (some (.int w.1), ja_L0, w.2) := by
  unfold f_Model_parses_B64 at hf
  refine ja_iload_n (pc := 64) (f := 1) (i := 1) 0 (by decide +kernel) rfl rfl ?_
  refine ja_if_ne (pc := 65) (off := 7) 72 (by decide +kernel) (by decide) hf (fun hf => ?_) (fun hf => ?_)
  · refine ja_iconst (pc := 72) (n := 0) (v := 0) (by decide +kernel) (by decide +kernel) ?_
    exact ja_ret (pc := 73) (some (.int (0 : Int32))) .ireturn (by decide +kernel) rfl (ja_zi hf)
  · refine ja_iload_n (pc := 68) (f := 2) (i := 2) 1 (by decide +kernel) rfl rfl ?_
    refine ja_goto (pc := 69) (off := 4) 73 (by decide +kernel) (by decide) ?_
    exact ja_ret (pc := 73) (some (.int x2)) .ireturn (by decide +kernel) rfl (ja_zi hf)
def f_Model_parses_L39  : Nat → Nat → Int32 → Int32 → ja_S → Option (Int32 × ja_S)
  | 0, _, _, _, _ => none
  | n + 1, x0, x1, x2, sg => (if (sg.1 x0 14) = 0 then (f_Model_peek x0 sg).bind fun v1 => (if v1.1 = (-1 : Int32) then f_Model_parses_B64  x1 x2 v1.2 else (f_Model_line x0 v1.2).bind fun v2 => f_Model_parses_L39  n x0 x1 (x2 + 1) v2) else f_Model_parses_B64  x1 x2 sg)
set_option maxRecDepth 4000 in
theorem w_Model_parses_L39 (C : ja_C) {w : Int32 × ja_S}    (n : Nat) : ∀ (x0 : Nat) (x1 : Int32) (x2 : Int32) (sg : ja_S), ja_ob ja_L0 8 x0 → f_Model_parses_L39  n x0 x1 x2 sg = some w → ja_J M_Model_parses C 39 [(0, .ref x0), (1, .int x1), (2, .int x2)] [] ja_L0 sg (some (.int w.1), ja_L0, w.2) := by
  induction n with
  | zero => intro _ _ _ _ _ hf; exact absurd (show (none : Option _) = some w from hf) (by simp)
  | succ n ih =>
    intro x0 x1 x2 sg h0 hf
    unfold f_Model_parses_L39 at hf
    refine ja_aload_n (pc := 39) (f := 0) (i := 0) 0 (by decide +kernel) rfl rfl ?_
    refine ja_geti (pc := 40) (idx := 86) (t := 8) (j := 14) (by decide +kernel) fd_Model_86 h0 ?_
    refine ja_if_ne (pc := 43) (off := 21) 64 (by decide +kernel) (by decide) hf (fun hf => ?_) (fun hf => ?_)
    · refine ja_lv [1, 2] rfl ?_
      exact w_Model_parses_B64 C  x1 x2 sg  hf
    · refine ja_aload_n (pc := 46) (f := 0) (i := 0) 0 (by decide +kernel) rfl rfl ?_
      refine ja_bind hf (fun v1 hv1 hf => ?_)
      refine ja_callVi (pc := 47) (idx := 97) (t := 8) (b := x0) (as := []) (st := []) (by decide +kernel) kv_Model_peek lk_Model_97 ⟨by decide, by decide⟩ (c_Model_peek _ _ x0 h0 hv1) h0 rfl (Nat.le_of_ble_eq_true rfl) rfl ?_
      refine ja_iconst (pc := 50) (n := (-1)) (v := (-1)) (by decide +kernel) (by decide +kernel) ?_
      refine ja_icmp_eq (pc := 51) (off := 13) 64 (by decide +kernel) (by decide) hf (fun hf => ?_) (fun hf => ?_)
      · refine ja_lv [1, 2] rfl ?_
        exact w_Model_parses_B64 C  x1 x2 v1.2  hf
      · refine ja_aload_n (pc := 54) (f := 0) (i := 0) 0 (by decide +kernel) rfl rfl ?_
        refine ja_bind hf (fun v2 hv2 hf => ?_)
        refine ja_callVv (pc := 55) (idx := 174) (t := 8) (b := x0) (as := []) (st := []) (by decide +kernel) kv_Model_line lk_Model_174 ⟨by decide, by decide⟩ (c_Model_line _ _ x0 h0 hv2) h0 rfl (Nat.le_of_ble_eq_true rfl) rfl ?_
        refine ja_iinc (pc := 58) (i := 2) (n := 1) (v := x2 + 1) (lv' := [(2, .int (x2 + 1)), (0, .ref x0), (1, .int x1)]) 2 (by decide +kernel) rfl rfl (by decide) rfl ?_
        refine ja_goto (pc := 61) (off := (-22)) 39 (by decide +kernel) (by decide) ?_
        refine ja_lv [1, 2, 0] rfl ?_
        exact ih x0 x1 (x2 + 1) v2 h0 hf
def f_Model_parses (x0 : Nat) (sg : ja_S) : Option (Int32 × ja_S) := (ja_pu sg x0 18 (0 : Int32)).bind fun s1 => (ja_pu s1 x0 19 (0 : Int32)).bind fun s2 => (ja_pu s2 x0 20 (0 : Int32)).bind fun s3 => (f_Model_passes x0 (0 : Int32) (0 : Int32) s3).bind fun v4 => (f_Model_number x0 (2 : Int32) (12 : Int32) v4.2).bind fun v5 => (ja_pu v5.2 x0 17 v5.1).bind fun s6 => (f_Model_semicolon x0 s6).bind fun v7 => f_Model_parses_L39  ja_FU x0 v4.1 (1 : Int32) v7
set_option maxRecDepth 4000 in
theorem c_Model_parses (l : Launch) (x : ja_X) (x0 : Nat) {sg : ja_S} {w : Int32 × ja_S} (h0 : ja_ob ja_L0 8 x0) (hf : f_Model_parses x0 sg = some w) : ja_Ct l x y_Model_parses M_Model_parses [.ref x0] ja_L0 sg (some (.int w.1), ja_L0, w.2) := by
  refine ja_mk ⟨by decide, rfl, rfl⟩ (Nat.le_of_ble_eq_true rfl) (lv := [(0, .ref x0)]) rfl (fun C hl hx _ _ _ _ => ?_)
  subst hl; subst hx
  unfold f_Model_parses at hf
  refine ja_aload_n (pc := 0) (f := 0) (i := 0) 0 (by decide +kernel) rfl rfl ?_
  refine ja_iconst (pc := 1) (n := 0) (v := 0) (by decide +kernel) (by decide +kernel) ?_
  refine ja_bind hf (fun s1 hs1 hf => ?_)
  refine ja_puti2 (pc := 2) (idx := 143) (t := 8) (j := 18) (by decide +kernel) fd_Model_143 h0 ⟨rfl, rfl⟩ hs1 ?_
  refine ja_aload_n (pc := 5) (f := 0) (i := 0) 0 (by decide +kernel) rfl rfl ?_
  refine ja_iconst (pc := 6) (n := 0) (v := 0) (by decide +kernel) (by decide +kernel) ?_
  refine ja_bind hf (fun s2 hs2 hf => ?_)
  refine ja_puti2 (pc := 7) (idx := 149) (t := 8) (j := 19) (by decide +kernel) fd_Model_149 h0 ⟨rfl, rfl⟩ hs2 ?_
  refine ja_aload_n (pc := 10) (f := 0) (i := 0) 0 (by decide +kernel) rfl rfl ?_
  refine ja_iconst (pc := 11) (n := 0) (v := 0) (by decide +kernel) (by decide +kernel) ?_
  refine ja_bind hf (fun s3 hs3 hf => ?_)
  refine ja_puti2 (pc := 12) (idx := 156) (t := 8) (j := 20) (by decide +kernel) fd_Model_156 h0 ⟨rfl, rfl⟩ hs3 ?_
  refine ja_aload_n (pc := 15) (f := 0) (i := 0) 0 (by decide +kernel) rfl rfl ?_
  refine ja_iconst (pc := 16) (n := 0) (v := 0) (by decide +kernel) (by decide +kernel) ?_
  refine ja_iconst (pc := 17) (n := 0) (v := 0) (by decide +kernel) (by decide +kernel) ?_
  refine ja_bind hf (fun v4 hv4 hf => ?_)
  refine ja_callVi (pc := 18) (idx := 146) (t := 8) (b := x0) (as := [.int (0 : Int32), .int (0 : Int32)]) (st := []) (by decide +kernel) kv_Model_passes lk_Model_146 ⟨by decide, by decide⟩ (c_Model_passes _ _ x0 (0 : Int32) (0 : Int32) h0 hv4) h0 rfl (Nat.le_of_ble_eq_true rfl) rfl ?_
  refine ja_istore_n (pc := 21) (f := 1) (i := 1) (lv' := [(1, .int v4.1), (0, .ref x0)]) (by decide +kernel) rfl (by decide) rfl ?_
  refine ja_aload_n (pc := 22) (f := 0) (i := 0) 1 (by decide +kernel) rfl rfl ?_
  refine ja_aload_n (pc := 23) (f := 0) (i := 0) 1 (by decide +kernel) rfl rfl ?_
  refine ja_iconst (pc := 24) (n := 2) (v := 2) (by decide +kernel) (by decide +kernel) ?_
  refine ja_bipush (pc := 25) (n := 12) (v := 12) (by decide +kernel) (by decide +kernel) ?_
  refine ja_bind hf (fun v5 hv5 hf => ?_)
  refine ja_callVi (pc := 27) (idx := 136) (t := 8) (b := x0) (as := [.int (2 : Int32), .int (12 : Int32)]) (st := [.ref x0]) (by decide +kernel) kv_Model_number lk_Model_136 ⟨by decide, by decide⟩ (c_Model_number _ _ x0 (2 : Int32) (12 : Int32) h0 hv5) h0 rfl (Nat.le_of_ble_eq_true rfl) rfl ?_
  refine ja_bind hf (fun s6 hs6 hf => ?_)
  refine ja_puti2 (pc := 30) (idx := 133) (t := 8) (j := 17) (by decide +kernel) fd_Model_133 h0 ⟨rfl, rfl⟩ hs6 ?_
  refine ja_aload_n (pc := 33) (f := 0) (i := 0) 1 (by decide +kernel) rfl rfl ?_
  refine ja_bind hf (fun v7 hv7 hf => ?_)
  refine ja_callVv (pc := 34) (idx := 171) (t := 8) (b := x0) (as := []) (st := []) (by decide +kernel) kv_Model_semicolon lk_Model_171 ⟨by decide, by decide⟩ (c_Model_semicolon _ _ x0 h0 hv7) h0 rfl (Nat.le_of_ble_eq_true rfl) rfl ?_
  refine ja_iconst (pc := 37) (n := 1) (v := 1) (by decide +kernel) (by decide +kernel) ?_
  refine ja_istore_n (pc := 38) (f := 2) (i := 2) (lv' := [(2, .int (1 : Int32)), (1, .int v4.1), (0, .ref x0)]) (by decide +kernel) rfl (by decide) rfl ?_
  refine ja_lv [2, 1, 0] rfl ?_
  exact w_Model_parses_L39 C  ja_FU x0 v4.1 (1 : Int32) v7 h0 hf
def f_Model_parseSheet_L164  : Nat → Nat → Int32 → Int32 → ja_S → Option (Int32 × ja_S)
  | 0, _, _, _, _ => none
  | n + 1, x0, x2, x3, sg => (if (8 : Int32) ≤ x3 then (ja_pu sg x0 8 (0 : Int32)).bind fun s1 => some (x2, s1) else (ja_ld ja_L0 sg (ja_q x0 23) x3).bind fun v2 => (ja_st ja_L0 sg (ja_q x0 6) x3 v2).bind fun s3 => (ja_ld ja_L0 s3 (ja_q x0 24) x3).bind fun v4 => (ja_st ja_L0 s3 (ja_q x0 7) x3 v4).bind fun s5 => f_Model_parseSheet_L164  n x0 x2 (x3 + 1) s5)
set_option maxRecDepth 4000 in
theorem w_Model_parseSheet_L164 (C : ja_C) {w : Int32 × ja_S}    (n : Nat) : ∀ (x0 : Nat) (x2 : Int32) (x3 : Int32) (sg : ja_S), ja_ob ja_L0 8 x0 → f_Model_parseSheet_L164  n x0 x2 x3 sg = some w → ja_J M_Model_parseSheet C 164 [(0, .ref x0), (2, .int x2), (3, .int x3)] [] ja_L0 sg (some (.int w.1), ja_L0, w.2) := by
  induction n with
  | zero => intro _ _ _ _ _ hf; exact absurd (show (none : Option _) = some w from hf) (by simp)
  | succ n ih =>
    intro x0 x2 x3 sg h0 hf
    unfold f_Model_parseSheet_L164 at hf
    refine ja_iload_n (pc := 164) (f := 3) (i := 3) 2 (by decide +kernel) rfl rfl ?_
    refine ja_bipush (pc := 165) (n := 8) (v := 8) (by decide +kernel) (by decide +kernel) ?_
    refine ja_icmp_ge (pc := 167) (off := 33) 200 (by decide +kernel) (by decide) hf (fun hf => ?_) (fun hf => ?_)
    · refine ja_aload_n (pc := 200) (f := 0) (i := 0) 0 (by decide +kernel) rfl rfl ?_
      refine ja_iconst (pc := 201) (n := 0) (v := 0) (by decide +kernel) (by decide +kernel) ?_
      refine ja_bind hf (fun s1 hs1 hf => ?_)
      refine ja_puti2 (pc := 202) (idx := 186) (t := 8) (j := 8) (by decide +kernel) fd_Model_186 h0 ⟨rfl, rfl⟩ hs1 ?_
      refine ja_iload_n (pc := 205) (f := 2) (i := 2) 1 (by decide +kernel) rfl rfl ?_
      exact ja_ret (pc := 206) (some (.int x2)) .ireturn (by decide +kernel) rfl (ja_zi hf)
    · refine ja_aload_n (pc := 170) (f := 0) (i := 0) 0 (by decide +kernel) rfl rfl ?_
      refine ja_getr (pc := 171) (idx := 26) (t := 8) (j := 6) (by decide +kernel) fd_Model_26 h0 (fr_8_6 h0) ?_
      refine ja_iload_n (pc := 174) (f := 3) (i := 3) 2 (by decide +kernel) rfl rfl ?_
      refine ja_aload_n (pc := 175) (f := 0) (i := 0) 0 (by decide +kernel) rfl rfl ?_
      refine ja_getr (pc := 176) (idx := 44) (t := 8) (j := 23) (by decide +kernel) fd_Model_44 h0 (fr_8_23 h0) ?_
      refine ja_iload_n (pc := 179) (f := 3) (i := 3) 2 (by decide +kernel) rfl rfl ?_
      refine ja_bind hf (fun v2 hv2 hf => ?_)
      refine ja_iald (pc := 180) (by decide +kernel) (fk_8_23 h0) hv2 ?_
      refine ja_bind hf (fun s3 hs3 hf => ?_)
      refine ja_iast (pc := 181) (by decide +kernel) (fk_8_6 h0) hs3 ?_
      refine ja_aload_n (pc := 182) (f := 0) (i := 0) 0 (by decide +kernel) rfl rfl ?_
      refine ja_getr (pc := 183) (idx := 29) (t := 8) (j := 7) (by decide +kernel) fd_Model_29 h0 (fr_8_7 h0) ?_
      refine ja_iload_n (pc := 186) (f := 3) (i := 3) 2 (by decide +kernel) rfl rfl ?_
      refine ja_aload_n (pc := 187) (f := 0) (i := 0) 0 (by decide +kernel) rfl rfl ?_
      refine ja_getr (pc := 188) (idx := 47) (t := 8) (j := 24) (by decide +kernel) fd_Model_47 h0 (fr_8_24 h0) ?_
      refine ja_iload_n (pc := 191) (f := 3) (i := 3) 2 (by decide +kernel) rfl rfl ?_
      refine ja_bind hf (fun v4 hv4 hf => ?_)
      refine ja_iald (pc := 192) (by decide +kernel) (fk_8_24 h0) hv4 ?_
      refine ja_bind hf (fun s5 hs5 hf => ?_)
      refine ja_iast (pc := 193) (by decide +kernel) (fk_8_7 h0) hs5 ?_
      refine ja_iinc (pc := 194) (i := 3) (n := 1) (v := x3 + 1) (lv' := [(3, .int (x3 + 1)), (0, .ref x0), (2, .int x2)]) 2 (by decide +kernel) rfl rfl (by decide) rfl ?_
      refine ja_goto (pc := 197) (off := (-33)) 164 (by decide +kernel) (by decide) ?_
      refine ja_lv [1, 2, 0] rfl ?_
      exact ih x0 x2 (x3 + 1) s5 h0 hf
def f_Model_parseSheet_L138  : Nat → Nat → Int32 → Int32 → ja_S → Option (Int32 × ja_S)
  | 0, _, _, _, _ => none
  | n + 1, x0, x2, x3, sg => (if (8 : Int32) ≤ x3 then f_Model_parseSheet_L164  ja_FU x0 x2 (0 : Int32) sg else (ja_ld ja_L0 sg (ja_q x0 22) x3).bind fun v1 => (ja_st ja_L0 sg (ja_q x0 5) x3 v1).bind fun s2 => f_Model_parseSheet_L138  n x0 x2 (x3 + 1) s2)
set_option maxRecDepth 4000 in
theorem w_Model_parseSheet_L138 (C : ja_C) {w : Int32 × ja_S}    (n : Nat) : ∀ (x0 : Nat) (x2 : Int32) (x3 : Int32) (sg : ja_S), ja_ob ja_L0 8 x0 → f_Model_parseSheet_L138  n x0 x2 x3 sg = some w → ja_J M_Model_parseSheet C 138 [(0, .ref x0), (2, .int x2), (3, .int x3)] [] ja_L0 sg (some (.int w.1), ja_L0, w.2) := by
  induction n with
  | zero => intro _ _ _ _ _ hf; exact absurd (show (none : Option _) = some w from hf) (by simp)
  | succ n ih =>
    intro x0 x2 x3 sg h0 hf
    unfold f_Model_parseSheet_L138 at hf
    refine ja_iload_n (pc := 138) (f := 3) (i := 3) 2 (by decide +kernel) rfl rfl ?_
    refine ja_bipush (pc := 139) (n := 8) (v := 8) (by decide +kernel) (by decide +kernel) ?_
    refine ja_icmp_ge (pc := 141) (off := 21) 162 (by decide +kernel) (by decide) hf (fun hf => ?_) (fun hf => ?_)
    · refine ja_iconst (pc := 162) (n := 0) (v := 0) (by decide +kernel) (by decide +kernel) ?_
      refine ja_istore_n (pc := 163) (f := 3) (i := 3) (lv' := [(3, .int (0 : Int32)), (0, .ref x0), (2, .int x2)]) (by decide +kernel) rfl (by decide) rfl ?_
      refine ja_lv [1, 2, 0] rfl ?_
      exact w_Model_parseSheet_L164 C  ja_FU x0 x2 (0 : Int32) sg h0 hf
    · refine ja_aload_n (pc := 144) (f := 0) (i := 0) 0 (by decide +kernel) rfl rfl ?_
      refine ja_getr (pc := 145) (idx := 23) (t := 8) (j := 5) (by decide +kernel) fd_Model_23 h0 (fr_8_5 h0) ?_
      refine ja_iload_n (pc := 148) (f := 3) (i := 3) 2 (by decide +kernel) rfl rfl ?_
      refine ja_aload_n (pc := 149) (f := 0) (i := 0) 0 (by decide +kernel) rfl rfl ?_
      refine ja_getr (pc := 150) (idx := 41) (t := 8) (j := 22) (by decide +kernel) fd_Model_41 h0 (fr_8_22 h0) ?_
      refine ja_iload_n (pc := 153) (f := 3) (i := 3) 2 (by decide +kernel) rfl rfl ?_
      refine ja_bind hf (fun v1 hv1 hf => ?_)
      refine ja_iald (pc := 154) (by decide +kernel) (fk_8_22 h0) hv1 ?_
      refine ja_bind hf (fun s2 hs2 hf => ?_)
      refine ja_iast (pc := 155) (by decide +kernel) (fk_8_5 h0) hs2 ?_
      refine ja_iinc (pc := 156) (i := 3) (n := 1) (v := x3 + 1) (lv' := [(3, .int (x3 + 1)), (0, .ref x0), (2, .int x2)]) 2 (by decide +kernel) rfl rfl (by decide) rfl ?_
      refine ja_goto (pc := 159) (off := (-21)) 138 (by decide +kernel) (by decide) ?_
      refine ja_lv [1, 2, 0] rfl ?_
      exact ih x0 x2 (x3 + 1) s2 h0 hf
def f_Model_parseSheet_L110  : Nat → Nat → Int32 → Int32 → ja_S → Option (Int32 × ja_S)
  | 0, _, _, _, _ => none
  | n + 1, x0, x2, x3, sg => (if (96 : Int32) ≤ x3 then f_Model_parseSheet_L138  ja_FU x0 x2 (0 : Int32) sg else (ja_ld ja_L0 sg (ja_q x0 21) x3).bind fun v1 => (ja_st ja_L0 sg (ja_q x0 3) ((2 : Int32) + x3) v1).bind fun s2 => f_Model_parseSheet_L110  n x0 x2 (x3 + 1) s2)
set_option maxRecDepth 4000 in
theorem w_Model_parseSheet_L110 (C : ja_C) {w : Int32 × ja_S}    (n : Nat) : ∀ (x0 : Nat) (x2 : Int32) (x3 : Int32) (sg : ja_S), ja_ob ja_L0 8 x0 → f_Model_parseSheet_L110  n x0 x2 x3 sg = some w → ja_J M_Model_parseSheet C 110 [(0, .ref x0), (2, .int x2), (3, .int x3)] [] ja_L0 sg (some (.int w.1), ja_L0, w.2) := by
  induction n with
  | zero => intro _ _ _ _ _ hf; exact absurd (show (none : Option _) = some w from hf) (by simp)
  | succ n ih =>
    intro x0 x2 x3 sg h0 hf
    unfold f_Model_parseSheet_L110 at hf
    refine ja_iload_n (pc := 110) (f := 3) (i := 3) 2 (by decide +kernel) rfl rfl ?_
    refine ja_bipush (pc := 111) (n := 96) (v := 96) (by decide +kernel) (by decide +kernel) ?_
    refine ja_icmp_ge (pc := 113) (off := 23) 136 (by decide +kernel) (by decide) hf (fun hf => ?_) (fun hf => ?_)
    · refine ja_iconst (pc := 136) (n := 0) (v := 0) (by decide +kernel) (by decide +kernel) ?_
      refine ja_istore_n (pc := 137) (f := 3) (i := 3) (lv' := [(3, .int (0 : Int32)), (0, .ref x0), (2, .int x2)]) (by decide +kernel) rfl (by decide) rfl ?_
      refine ja_lv [1, 2, 0] rfl ?_
      exact w_Model_parseSheet_L138 C  ja_FU x0 x2 (0 : Int32) sg h0 hf
    · refine ja_aload_n (pc := 116) (f := 0) (i := 0) 0 (by decide +kernel) rfl rfl ?_
      refine ja_getr (pc := 117) (idx := 16) (t := 8) (j := 3) (by decide +kernel) fd_Model_16 h0 (fr_8_3 h0) ?_
      refine ja_iconst (pc := 120) (n := 2) (v := 2) (by decide +kernel) (by decide +kernel) ?_
      refine ja_iload_n (pc := 121) (f := 3) (i := 3) 2 (by decide +kernel) rfl rfl ?_
      refine ja_iadd (pc := 122) (by decide +kernel) ?_
      refine ja_aload_n (pc := 123) (f := 0) (i := 0) 0 (by decide +kernel) rfl rfl ?_
      refine ja_getr (pc := 124) (idx := 38) (t := 8) (j := 21) (by decide +kernel) fd_Model_38 h0 (fr_8_21 h0) ?_
      refine ja_iload_n (pc := 127) (f := 3) (i := 3) 2 (by decide +kernel) rfl rfl ?_
      refine ja_bind hf (fun v1 hv1 hf => ?_)
      refine ja_iald (pc := 128) (by decide +kernel) (fk_8_21 h0) hv1 ?_
      refine ja_bind hf (fun s2 hs2 hf => ?_)
      refine ja_iast (pc := 129) (by decide +kernel) (fk_8_3 h0) hs2 ?_
      refine ja_iinc (pc := 130) (i := 3) (n := 1) (v := x3 + 1) (lv' := [(3, .int (x3 + 1)), (0, .ref x0), (2, .int x2)]) 2 (by decide +kernel) rfl rfl (by decide) rfl ?_
      refine ja_goto (pc := 133) (off := (-23)) 110 (by decide +kernel) (by decide) ?_
      refine ja_lv [1, 2, 0] rfl ?_
      exact ih x0 x2 (x3 + 1) s2 h0 hf
def f_Model_parseSheet (x0 : Nat) (x1 : Int32) (sg : ja_S) : Option (Int32 × ja_S) := (ja_pu sg x0 9 (0 : Int32)).bind fun s1 => (f_Model_isIn ((x1 : Int32).toInt64) (0 : Int64) ((s1.1 x0 11 : Int32).toInt64) s1).bind fun v2 => (if v2.1 = 0 then some ((-3 : Int32), v2.2) else (ja_pu v2.2 x0 11 (0 : Int32)).bind fun s3 => (ja_pu s3 x0 12 x1).bind fun s4 => (ja_pu s4 x0 13 (0 : Int32)).bind fun s5 => (ja_pu s5 x0 14 (0 : Int32)).bind fun s6 => (ja_pu s6 x0 15 (-1 : Int32)).bind fun s7 => (f_Model_parses x0 s7).bind fun v8 => (if (v8.2.1 x0 14) = 0 then (ja_pu v8.2 x0 0 (v8.2.1 x0 17)).bind fun s9 => (ja_pu s9 x0 1 (s9.1 x0 19)).bind fun s10 => (ja_pu s10 x0 2 (s10.1 x0 20)).bind fun s11 => (ja_st ja_L0 s11 (ja_q x0 3) (0 : Int32) (s11.1 x0 18)).bind fun s12 => (ja_st ja_L0 s12 (ja_q x0 3) (1 : Int32) (0 : Int32)).bind fun s13 => f_Model_parseSheet_L110  ja_FU x0 v8.1 (0 : Int32) s13 else some ((-30 : Int32) - (v8.2.1 x0 14), v8.2)))
set_option maxRecDepth 4000 in
theorem c_Model_parseSheet (l : Launch) (x : ja_X) (x0 : Nat) (x1 : Int32) {sg : ja_S} {w : Int32 × ja_S} (h0 : ja_ob ja_L0 8 x0) (hf : f_Model_parseSheet x0 x1 sg = some w) : ja_Ct l x y_Model_parseSheet M_Model_parseSheet [.ref x0, .int x1] ja_L0 sg (some (.int w.1), ja_L0, w.2) := by
  refine ja_mk ⟨by decide, rfl, rfl⟩ (Nat.le_of_ble_eq_true rfl) (lv := [(0, .ref x0), (1, .int x1)]) rfl (fun C hl hx _ _ _ _ => ?_)
  subst hl; subst hx
  unfold f_Model_parseSheet at hf
  refine ja_aload_n (pc := 0) (f := 0) (i := 0) 0 (by decide +kernel) rfl rfl ?_
  refine ja_iconst (pc := 1) (n := 0) (v := 0) (by decide +kernel) (by decide +kernel) ?_
  refine ja_bind hf (fun s1 hs1 hf => ?_)
  refine ja_puti2 (pc := 2) (idx := 1) (t := 8) (j := 9) (by decide +kernel) fd_Model_1 h0 ⟨rfl, rfl⟩ hs1 ?_
  refine ja_iload_n (pc := 5) (f := 1) (i := 1) 1 (by decide +kernel) rfl rfl ?_
  refine ja_i2l (pc := 6) (by decide +kernel) ?_
  refine ja_lconst (pc := 7) (n := 0) (v := 0) (by decide +kernel) (by decide +kernel) ?_
  refine ja_aload_n (pc := 8) (f := 0) (i := 0) 0 (by decide +kernel) rfl rfl ?_
  refine ja_geti (pc := 9) (idx := 77) (t := 8) (j := 11) (by decide +kernel) fd_Model_77 h0 ?_
  refine ja_i2l (pc := 12) (by decide +kernel) ?_
  refine ja_bind hf (fun v2 hv2 hf => ?_)
  refine ja_callSi (pc := 13) (idx := 93) (as := [.long ((x1 : Int32).toInt64), .long (0 : Int64), .long ((s1.1 x0 11 : Int32).toInt64)]) (st := []) (by decide +kernel) ks_Model_isIn lk_Model_93 ⟨by decide, by decide⟩ (c_Model_isIn _ _ ((x1 : Int32).toInt64) (0 : Int64) ((s1.1 x0 11 : Int32).toInt64)  hv2) rfl (Nat.le_of_ble_eq_true rfl) rfl ?_
  refine ja_if_ne (pc := 16) (off := 6) 22 (by decide +kernel) (by decide) hf (fun hf => ?_) (fun hf => ?_)
  · refine ja_aload_n (pc := 22) (f := 0) (i := 0) 0 (by decide +kernel) rfl rfl ?_
    refine ja_iconst (pc := 23) (n := 0) (v := 0) (by decide +kernel) (by decide +kernel) ?_
    refine ja_bind hf (fun s3 hs3 hf => ?_)
    refine ja_puti2 (pc := 24) (idx := 77) (t := 8) (j := 11) (by decide +kernel) fd_Model_77 h0 ⟨rfl, rfl⟩ hs3 ?_
    refine ja_aload_n (pc := 27) (f := 0) (i := 0) 0 (by decide +kernel) rfl rfl ?_
    refine ja_iload_n (pc := 28) (f := 1) (i := 1) 1 (by decide +kernel) rfl rfl ?_
    refine ja_bind hf (fun s4 hs4 hf => ?_)
    refine ja_puti2 (pc := 29) (idx := 83) (t := 8) (j := 12) (by decide +kernel) fd_Model_83 h0 ⟨rfl, rfl⟩ hs4 ?_
    refine ja_aload_n (pc := 32) (f := 0) (i := 0) 0 (by decide +kernel) rfl rfl ?_
    refine ja_iconst (pc := 33) (n := 0) (v := 0) (by decide +kernel) (by decide +kernel) ?_
    refine ja_bind hf (fun s5 hs5 hf => ?_)
    refine ja_puti2 (pc := 34) (idx := 80) (t := 8) (j := 13) (by decide +kernel) fd_Model_80 h0 ⟨rfl, rfl⟩ hs5 ?_
    refine ja_aload_n (pc := 37) (f := 0) (i := 0) 0 (by decide +kernel) rfl rfl ?_
    refine ja_iconst (pc := 38) (n := 0) (v := 0) (by decide +kernel) (by decide +kernel) ?_
    refine ja_bind hf (fun s6 hs6 hf => ?_)
    refine ja_puti2 (pc := 39) (idx := 86) (t := 8) (j := 14) (by decide +kernel) fd_Model_86 h0 ⟨rfl, rfl⟩ hs6 ?_
    refine ja_aload_n (pc := 42) (f := 0) (i := 0) 0 (by decide +kernel) rfl rfl ?_
    refine ja_iconst (pc := 43) (n := (-1)) (v := (-1)) (by decide +kernel) (by decide +kernel) ?_
    refine ja_bind hf (fun s7 hs7 hf => ?_)
    refine ja_puti2 (pc := 44) (idx := 35) (t := 8) (j := 15) (by decide +kernel) fd_Model_35 h0 ⟨rfl, rfl⟩ hs7 ?_
    refine ja_aload_n (pc := 47) (f := 0) (i := 0) 0 (by decide +kernel) rfl rfl ?_
    refine ja_bind hf (fun v8 hv8 hf => ?_)
    refine ja_callVi (pc := 48) (idx := 177) (t := 8) (b := x0) (as := []) (st := []) (by decide +kernel) kv_Model_parses lk_Model_177 ⟨by decide, by decide⟩ (c_Model_parses _ _ x0 h0 hv8) h0 rfl (Nat.le_of_ble_eq_true rfl) rfl ?_
    refine ja_istore_n (pc := 51) (f := 2) (i := 2) (lv' := [(2, .int v8.1), (0, .ref x0), (1, .int x1)]) (by decide +kernel) rfl (by decide) rfl ?_
    refine ja_aload_n (pc := 52) (f := 0) (i := 0) 1 (by decide +kernel) rfl rfl ?_
    refine ja_geti (pc := 53) (idx := 86) (t := 8) (j := 14) (by decide +kernel) fd_Model_86 h0 ?_
    refine ja_if_eq (pc := 56) (off := 11) 67 (by decide +kernel) (by decide) hf (fun hf => ?_) (fun hf => ?_)
    · refine ja_aload_n (pc := 67) (f := 0) (i := 0) 1 (by decide +kernel) rfl rfl ?_
      refine ja_aload_n (pc := 68) (f := 0) (i := 0) 1 (by decide +kernel) rfl rfl ?_
      refine ja_geti (pc := 69) (idx := 133) (t := 8) (j := 17) (by decide +kernel) fd_Model_133 h0 ?_
      refine ja_bind hf (fun s9 hs9 hf => ?_)
      refine ja_puti2 (pc := 72) (idx := 13) (t := 8) (j := 0) (by decide +kernel) fd_Model_13 h0 ⟨rfl, rfl⟩ hs9 ?_
      refine ja_aload_n (pc := 75) (f := 0) (i := 0) 1 (by decide +kernel) rfl rfl ?_
      refine ja_aload_n (pc := 76) (f := 0) (i := 0) 1 (by decide +kernel) rfl rfl ?_
      refine ja_geti (pc := 77) (idx := 149) (t := 8) (j := 19) (by decide +kernel) fd_Model_149 h0 ?_
      refine ja_bind hf (fun s10 hs10 hf => ?_)
      refine ja_puti2 (pc := 80) (idx := 180) (t := 8) (j := 1) (by decide +kernel) fd_Model_180 h0 ⟨rfl, rfl⟩ hs10 ?_
      refine ja_aload_n (pc := 83) (f := 0) (i := 0) 1 (by decide +kernel) rfl rfl ?_
      refine ja_aload_n (pc := 84) (f := 0) (i := 0) 1 (by decide +kernel) rfl rfl ?_
      refine ja_geti (pc := 85) (idx := 156) (t := 8) (j := 20) (by decide +kernel) fd_Model_156 h0 ?_
      refine ja_bind hf (fun s11 hs11 hf => ?_)
      refine ja_puti2 (pc := 88) (idx := 183) (t := 8) (j := 2) (by decide +kernel) fd_Model_183 h0 ⟨rfl, rfl⟩ hs11 ?_
      refine ja_aload_n (pc := 91) (f := 0) (i := 0) 1 (by decide +kernel) rfl rfl ?_
      refine ja_getr (pc := 92) (idx := 16) (t := 8) (j := 3) (by decide +kernel) fd_Model_16 h0 (fr_8_3 h0) ?_
      refine ja_iconst (pc := 95) (n := 0) (v := 0) (by decide +kernel) (by decide +kernel) ?_
      refine ja_aload_n (pc := 96) (f := 0) (i := 0) 1 (by decide +kernel) rfl rfl ?_
      refine ja_geti (pc := 97) (idx := 143) (t := 8) (j := 18) (by decide +kernel) fd_Model_143 h0 ?_
      refine ja_bind hf (fun s12 hs12 hf => ?_)
      refine ja_iast (pc := 100) (by decide +kernel) (fk_8_3 h0) hs12 ?_
      refine ja_aload_n (pc := 101) (f := 0) (i := 0) 1 (by decide +kernel) rfl rfl ?_
      refine ja_getr (pc := 102) (idx := 16) (t := 8) (j := 3) (by decide +kernel) fd_Model_16 h0 (fr_8_3 h0) ?_
      refine ja_iconst (pc := 105) (n := 1) (v := 1) (by decide +kernel) (by decide +kernel) ?_
      refine ja_iconst (pc := 106) (n := 0) (v := 0) (by decide +kernel) (by decide +kernel) ?_
      refine ja_bind hf (fun s13 hs13 hf => ?_)
      refine ja_iast (pc := 107) (by decide +kernel) (fk_8_3 h0) hs13 ?_
      refine ja_iconst (pc := 108) (n := 0) (v := 0) (by decide +kernel) (by decide +kernel) ?_
      refine ja_istore_n (pc := 109) (f := 3) (i := 3) (lv' := [(3, .int (0 : Int32)), (2, .int v8.1), (0, .ref x0), (1, .int x1)]) (by decide +kernel) rfl (by decide) rfl ?_
      refine ja_lv [2, 1, 0] rfl ?_
      exact w_Model_parseSheet_L110 C  ja_FU x0 v8.1 (0 : Int32) s13 h0 hf
    · refine ja_bipush (pc := 59) (n := (-30)) (v := (-30)) (by decide +kernel) (by decide +kernel) ?_
      refine ja_aload_n (pc := 61) (f := 0) (i := 0) 1 (by decide +kernel) rfl rfl ?_
      refine ja_geti (pc := 62) (idx := 86) (t := 8) (j := 14) (by decide +kernel) fd_Model_86 h0 ?_
      refine ja_isub (pc := 65) (by decide +kernel) ?_
      exact ja_ret (pc := 66) (some (.int ((-30 : Int32) - (v8.2.1 x0 14)))) .ireturn (by decide +kernel) rfl (ja_zi hf)
  · refine ja_bipush (pc := 19) (n := (-3)) (v := (-3)) (by decide +kernel) (by decide +kernel) ?_
    exact ja_ret (pc := 21) (some (.int (-3 : Int32))) .ireturn (by decide +kernel) rfl (ja_zi hf)
