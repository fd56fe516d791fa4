/-! the law: rows of its script, its cases, its loop -/
abbrev M_law : ja_M := (code, 4, "InterlockingFrameLaw", "law", some .boolean, 13, 496)
def ja_hX (C : ja_C) (L : Nat) (xs : Nat → Int32) : Prop := match C with
  | ⟨⟨_, _, _, _, s, _, _, _, _, _⟩, _, ⟨ad0, _, _, _, _, A⟩, _, _⟩ => va_X (ad0 3000) L xs s s.heap ∧ ad0 3000 < s.heap.size ∧ ¬ A (ad0 3000)
section JL
variable {M : ja_M} {C : ja_C} {pc idx L : Nat} {xs : Nat → Int32} {lv : List (Nat × Value)} {st : List Value} {Λ : ja_L} {σ : ja_S} {zz : ja_Z}
theorem ja_sld {i : Nat} {x : Int32} (hX : ja_hX C L xs) (hd : decode M.1 pc = .ok (.iaload, 1)) (hx : x = nI i) (hi : i < L) (hL : L < 2 ^ 31) (kk : ja_J M C (pc + 1) lv (.int (xs i) :: st) Λ σ zz) : ja_J M C pc lv (.int x :: .ref 3000 :: st) Λ σ zz := by
  obtain ⟨⟨p, l, e, R, s, m, args, below, meth, c⟩, ⟨D, cI, cJ⟩, ⟨ad0, n0, sl0, MC, MS, A⟩, Qf, L2, xs2⟩ := C
  intro ok ad H locs ls iv hl
  subst hx
  have e : ad 3000 = ad0 3000 := iv.2.2.2.1 3000 (Or.inr (by have := iv.2.2.2.2.2.2.2.2.1; omega))
  show W _ _ _ _ _ _ _ _ _ _ _ _ _ _ _ (F0 m pc ls (.int (nI i) :: .ref (ad 3000) :: st.map (ja_cv ad)))
  rw [e]
  refine va_sld (rest := st.map (ja_cv ad)) ok.1.1 ok.1.2.1 hX.1 hX.2.1 hX.2.2 iv.2.2.1 (vp_in_nI hi hL) hd ?_
  rw [nI_clamp (by omega)]
  exact kk ok ad H locs ls iv hl
theorem ja_slen' (hX : ja_hX C L xs) (hd : decode M.1 pc = .ok (.arraylength, 1)) (kk : ja_J M C (pc + 1) lv (.int (nI L) :: st) Λ σ zz) : ja_J M C pc lv (.ref 3000 :: st) Λ σ zz := by
  obtain ⟨⟨p, l, e, R, s, m, args, below, meth, c⟩, ⟨D, cI, cJ⟩, ⟨ad0, n0, sl0, MC, MS, A⟩, Qf, L2, xs2⟩ := C
  intro ok ad H locs ls iv hl
  have e : ad 3000 = ad0 3000 := iv.2.2.2.1 3000 (Or.inr (by have := iv.2.2.2.2.2.2.2.2.1; omega))
  show W _ _ _ _ _ _ _ _ _ _ _ _ _ _ _ (F0 m pc ls (.ref (ad 3000) :: st.map (ja_cv ad)))
  rw [e]
  exact va_slen (rest := st.map (ja_cv ad)) ok.1.1 ok.1.2.1 hX.1 hX.2.1 hX.2.2 iv.2.2.1 hd (kk ok ad H locs ls iv hl)
theorem ja_tabIn {dflt lo hi off : Int} {offs : Array Int} {len tgt : Nat} {x : Int32} (hd : decode M.1 pc = .ok (.tableswitch dflt lo hi offs, len)) (h1 : ¬ x.toInt < lo) (h2 : ¬ hi < x.toInt) (ho : offs[(x.toInt - lo).toNat]? = some off) (ht : (pc : Int) + off = (tgt : Int)) (kk : ja_J M C tgt lv st Λ σ zz) : ja_J M C pc lv (.int x :: st) Λ σ zz := by
  obtain ⟨⟨p, l, e, R, s, m, args, below, meth, c⟩, ⟨D, cI, cJ⟩, ⟨ad0, n0, sl0, MC, MS, A⟩, Qf, L2, xs2⟩ := C
  intro ok ad H locs ls iv hl
  exact lv_tableIn (rest := st.map (ja_cv ad)) ok.1.1 ok.1.2.1 hd h1 h2 ho ht (kk ok ad H locs ls iv hl)
theorem ja_tabOut {dflt lo hi : Int} {offs : Array Int} {len tgt : Nat} {x : Int32} (hd : decode M.1 pc = .ok (.tableswitch dflt lo hi offs, len)) (h : x.toInt < lo ∨ hi < x.toInt) (ht : (pc : Int) + dflt = (tgt : Int)) (kk : ja_J M C tgt lv st Λ σ zz) : ja_J M C pc lv (.int x :: st) Λ σ zz := by
  obtain ⟨⟨p, l, e, R, s, m, args, below, meth, c⟩, ⟨D, cI, cJ⟩, ⟨ad0, n0, sl0, MC, MS, A⟩, Qf, L2, xs2⟩ := C
  intro ok ad H locs ls iv hl
  exact lv_tableOut (rest := st.map (ja_cv ad)) ok.1.1 ok.1.2.1 hd h ht (kk ok ad H locs ls iv hl)
end JL
theorem ja_ad {i : Nat} (c : Int32) (k : Nat) (h : c = nI k) : nI i + c = nI (i + k) := by rw [h, nI_add]
/-- one call of the script: both answers, alike -/
def ja_case (n : Nat) (a : Nat → Int32) (sg : ja_S) : Option ja_S := match n with
  | 0 => (f_Frame_appendBytes 0 (a 1) (a 2) (a 3) (a 4) (a 5) sg).bind fun v => (f_Model_appendBytes 45 (a 1) (a 2) (a 3) (a 4) (a 5) v.2).bind fun u => if v.1 = u.1 then some u.2 else none
  | 1 => (f_Frame_parseSheet 0 (a 1) sg).bind fun v => (f_Model_parseSheet 45 (a 1) v.2).bind fun u => if v.1 = u.1 then some u.2 else none
  | 2 => (f_Frame_parseError 0  sg).bind fun v => (f_Model_parseError 45  v.2).bind fun u => if v.1 = u.1 then some u.2 else none
  | 3 => (f_Frame_parseErrorOffset 0  sg).bind fun v => (f_Model_parseErrorOffset 45  v.2).bind fun u => if v.1 = u.1 then some u.2 else none
  | 4 => (f_Frame_bufferLength 0  sg).bind fun v => (f_Model_bufferLength 45  v.2).bind fun u => if v.1 = u.1 then some u.2 else none
  | 5 => (f_Frame_leverCount 0  sg).bind fun v => (f_Model_leverCount 45  v.2).bind fun u => if v.1 = u.1 then some u.2 else none
  | 6 => (f_Frame_ruleCount 0  sg).bind fun v => (f_Model_ruleCount 45  v.2).bind fun u => if v.1 = u.1 then some u.2 else none
  | 7 => (f_Frame_ruleKind 0 (a 1) sg).bind fun v => (f_Model_ruleKind 45 (a 1) v.2).bind fun u => if v.1 = u.1 then some u.2 else none
  | 8 => (f_Frame_ruleLevers 0 (a 1) sg).bind fun v => (f_Model_ruleLevers 45 (a 1) v.2).bind fun u => if v.1 = u.1 then some u.2 else none
  | 9 => (f_Frame_ruleCondition 0 (a 1) sg).bind fun v => (f_Model_ruleCondition 45 (a 1) v.2).bind fun u => if v.1 = u.1 then some u.2 else none
  | 10 => (f_Frame_routeCount 0  sg).bind fun v => (f_Model_routeCount 45  v.2).bind fun u => if v.1 = u.1 then some u.2 else none
  | 11 => (f_Frame_routeLevers 0 (a 1) sg).bind fun v => (f_Model_routeLevers 45 (a 1) v.2).bind fun u => if v.1 = u.1 then some u.2 else none
  | 12 => (f_Frame_conflictCount 0  sg).bind fun v => (f_Model_conflictCount 45  v.2).bind fun u => if v.1 = u.1 then some u.2 else none
  | 13 => (f_Frame_currentState 0  sg).bind fun v => (f_Model_currentState 45  v.2).bind fun u => if v.1 = u.1 then some u.2 else none
  | 14 => (f_Frame_moveLever 0 (a 1) sg).bind fun v => (f_Model_moveLever 45 (a 1) v.2).bind fun u => if v.1 = u.1 then some u.2 else none
  | 15 => (f_Frame_addRule 0 (a 1) (a 2) (a 3) (a 4) sg).bind fun v => (f_Model_addRule 45 (a 1) (a 2) (a 3) (a 4) v.2).bind fun u => if v.1 = u.1 then some u.2 else none
  | 16 => (f_Frame_removeRule 0 (a 1) sg).bind fun v => (f_Model_removeRule 45 (a 1) v.2).bind fun u => if v.1 = u.1 then some u.2 else none
  | 17 => (f_Frame_undo 0  sg).bind fun v => (f_Model_undo 45  v.2).bind fun u => if v.1 = u.1 then some u.2 else none
  | 18 => (f_Frame_isLegal 0 (a 1) sg).bind fun v => (f_Model_isLegal 45 (a 1) v.2).bind fun u => if v.1 = u.1 then some u.2 else none
  | 19 => (f_Frame_blockingRule 0 (a 1) (a 2) sg).bind fun v => (f_Model_blockingRule 45 (a 1) (a 2) v.2).bind fun u => if v.1 = u.1 then some u.2 else none
  | 20 => (f_Frame_freeLevers 0 (a 1) sg).bind fun v => (f_Model_freeLevers 45 (a 1) v.2).bind fun u => if v.1 = u.1 then some u.2 else none
  | 21 => (f_Frame_reachableCount 0  sg).bind fun v => (f_Model_reachableCount 45  v.2).bind fun u => if v.1 = u.1 then some u.2 else none
  | 22 => (f_Frame_distance 0 (a 1) (a 2) sg).bind fun v => (f_Model_distance 45 (a 1) (a 2) v.2).bind fun u => if v.1 = u.1 then some u.2 else none
  | 23 => (f_Frame_nextMove 0 (a 1) (a 2) sg).bind fun v => (f_Model_nextMove 45 (a 1) (a 2) v.2).bind fun u => if v.1 = u.1 then some u.2 else none
  | 24 => (f_Frame_excludedLevers 0 (a 1) sg).bind fun v => (f_Model_excludedLevers 45 (a 1) v.2).bind fun u => if v.1 = u.1 then some u.2 else none
  | 25 => (f_Frame_settingState 0 (a 1) sg).bind fun v => (f_Model_settingState 45 (a 1) v.2).bind fun u => if v.1 = u.1 then some u.2 else none
  | 26 => (f_Frame_settingMoves 0 (a 1) sg).bind fun v => (f_Model_settingMoves 45 (a 1) v.2).bind fun u => if v.1 = u.1 then some u.2 else none
  | 27 => (f_Frame_jointStates 0 (a 1) (a 2) sg).bind fun v => (f_Model_jointStates 45 (a 1) (a 2) v.2).bind fun u => if v.1 = u.1 then some u.2 else none
  | 28 => (f_Frame_unprotectedConflicts 0  sg).bind fun v => (f_Model_unprotectedConflicts 45  v.2).bind fun u => if v.1 = u.1 then some u.2 else none
  | 29 => (f_Frame_proposedLock 0 (a 1) sg).bind fun v => (f_Model_proposedLock 45 (a 1) v.2).bind fun u => if v.1 = u.1 then some u.2 else none
  | 30 => (f_Frame_completionSize 0  sg).bind fun v => (f_Model_completionSize 45  v.2).bind fun u => if v.1 = u.1 then some u.2 else none
  | 31 => (f_Frame_completionLock 0 (a 1) sg).bind fun v => (f_Model_completionLock 45 (a 1) v.2).bind fun u => if v.1 = u.1 then some u.2 else none
  | 32 => (f_Frame_largestRouteSet 0  sg).bind fun v => (f_Model_largestRouteSet 45  v.2).bind fun u => if v.1 = u.1 then some u.2 else none
  | 33 => (f_Frame_farthestState 0  sg).bind fun v => (f_Model_farthestState 45  v.2).bind fun u => if v.1 = u.1 then some u.2 else none
  | 34 => (f_Frame_isImplied 0 (a 1) sg).bind fun v => (f_Model_isImplied 45 (a 1) v.2).bind fun u => if v.1 = u.1 then some u.2 else none
  | 35 => (f_Frame_reducedSheet 0  sg).bind fun v => (f_Model_reducedSheet 45  v.2).bind fun u => if v.1 = u.1 then some u.2 else none
  | 36 => (f_Frame_testLength 0 (a 1) sg).bind fun v => (f_Model_testLength 45 (a 1) v.2).bind fun u => if v.1 = u.1 then some u.2 else none
  | 37 => (f_Frame_testMove 0 (a 1) (a 2) sg).bind fun v => (f_Model_testMove 45 (a 1) (a 2) v.2).bind fun u => if v.1 = u.1 then some u.2 else none
  | 38 => (f_Frame_isMergeable 0 (a 1) (a 2) sg).bind fun v => (f_Model_isMergeable 45 (a 1) (a 2) v.2).bind fun u => if v.1 = u.1 then some u.2 else none
  | 39 => (f_Frame_mergedReachableCount 0 (a 1) (a 2) sg).bind fun v => (f_Model_mergedReachableCount 45 (a 1) (a 2) v.2).bind fun u => if v.1 = u.1 then some u.2 else none
  | 40 => (f_Frame_leversAfterMerging 0  sg).bind fun v => (f_Model_leversAfterMerging 45  v.2).bind fun u => if v.1 = u.1 then some u.2 else none
  | _ => some sg
theorem ob0 : ja_ob ja_L0 7 0 := ⟨by decide, by decide⟩
theorem ob45 : ja_ob ja_L0 8 45 := ⟨by decide, by decide⟩
theorem kv_Frame_appendBytes : ja_kV y_Frame_appendBytes M_Frame_appendBytes 5 7 := ⟨⟨ja_m1 1 rfl rfl, ja_m2 28 rfl rfl, by decide +kernel, by decide +kernel, by decide +kernel⟩, ja_m2 26 rfl rfl, ja_m2 27 rfl rfl, _, rfl, rfl⟩
theorem lk_Law_13 : Cond.methodLink "InterlockingFrameLaw" 13 y_Frame_appendBytes ∈ ja_tb := ja_m2 25 rfl rfl
theorem kv_Model_appendBytes : ja_kV y_Model_appendBytes M_Model_appendBytes 5 8 := ⟨⟨ja_m1 10 rfl rfl, ja_m5 79 rfl rfl, by decide +kernel, by decide +kernel, by decide +kernel⟩, ja_m5 77 rfl rfl, ja_m5 78 rfl rfl, _, rfl, rfl⟩
theorem lk_Law_17 : Cond.methodLink "InterlockingFrameLaw" 17 y_Model_appendBytes ∈ ja_tb := ja_m5 76 rfl rfl
theorem kv_Frame_parseSheet : ja_kV y_Frame_parseSheet M_Frame_parseSheet 1 7 := ⟨⟨ja_m1 1 rfl rfl, ja_m2 36 rfl rfl, by decide +kernel, by decide +kernel, by decide +kernel⟩, ja_m2 34 rfl rfl, ja_m2 35 rfl rfl, _, rfl, rfl⟩
theorem lk_Law_18 : Cond.methodLink "InterlockingFrameLaw" 18 y_Frame_parseSheet ∈ ja_tb := ja_m2 33 rfl rfl
theorem kv_Model_parseSheet : ja_kV y_Model_parseSheet M_Model_parseSheet 1 8 := ⟨⟨ja_m1 10 rfl rfl, ja_m5 83 rfl rfl, by decide +kernel, by decide +kernel, by decide +kernel⟩, ja_m5 81 rfl rfl, ja_m5 82 rfl rfl, _, rfl, rfl⟩
theorem lk_Law_22 : Cond.methodLink "InterlockingFrameLaw" 22 y_Model_parseSheet ∈ ja_tb := ja_m5 80 rfl rfl
theorem kv_Frame_parseError : ja_kV y_Frame_parseError M_Frame_parseError 0 7 := ⟨⟨ja_m1 1 rfl rfl, ja_m2 206 rfl rfl, by decide +kernel, by decide +kernel, by decide +kernel⟩, ja_m2 204 rfl rfl, ja_m2 205 rfl rfl, _, rfl, rfl⟩
theorem lk_Law_23 : Cond.methodLink "InterlockingFrameLaw" 23 y_Frame_parseError ∈ ja_tb := ja_m2 203 rfl rfl
theorem kv_Model_parseError : ja_kV y_Model_parseError M_Model_parseError 0 8 := ⟨⟨ja_m1 10 rfl rfl, ja_m5 160 rfl rfl, by decide +kernel, by decide +kernel, by decide +kernel⟩, ja_m5 158 rfl rfl, ja_m5 159 rfl rfl, _, rfl, rfl⟩
theorem lk_Law_27 : Cond.methodLink "InterlockingFrameLaw" 27 y_Model_parseError ∈ ja_tb := ja_m5 157 rfl rfl
theorem kv_Frame_parseErrorOffset : ja_kV y_Frame_parseErrorOffset M_Frame_parseErrorOffset 0 7 := ⟨⟨ja_m1 1 rfl rfl, ja_m2 210 rfl rfl, by decide +kernel, by decide +kernel, by decide +kernel⟩, ja_m2 208 rfl rfl, ja_m2 209 rfl rfl, _, rfl, rfl⟩
theorem lk_Law_28 : Cond.methodLink "InterlockingFrameLaw" 28 y_Frame_parseErrorOffset ∈ ja_tb := ja_m2 207 rfl rfl
theorem kv_Model_parseErrorOffset : ja_kV y_Model_parseErrorOffset M_Model_parseErrorOffset 0 8 := ⟨⟨ja_m1 10 rfl rfl, ja_m5 164 rfl rfl, by decide +kernel, by decide +kernel, by decide +kernel⟩, ja_m5 162 rfl rfl, ja_m5 163 rfl rfl, _, rfl, rfl⟩
theorem lk_Law_31 : Cond.methodLink "InterlockingFrameLaw" 31 y_Model_parseErrorOffset ∈ ja_tb := ja_m5 161 rfl rfl
theorem kv_Frame_bufferLength : ja_kV y_Frame_bufferLength M_Frame_bufferLength 0 7 := ⟨⟨ja_m1 1 rfl rfl, ja_m2 214 rfl rfl, by decide +kernel, by decide +kernel, by decide +kernel⟩, ja_m2 212 rfl rfl, ja_m2 213 rfl rfl, _, rfl, rfl⟩
theorem lk_Law_32 : Cond.methodLink "InterlockingFrameLaw" 32 y_Frame_bufferLength ∈ ja_tb := ja_m2 211 rfl rfl
theorem kv_Model_bufferLength : ja_kV y_Model_bufferLength M_Model_bufferLength 0 8 := ⟨⟨ja_m1 10 rfl rfl, ja_m5 168 rfl rfl, by decide +kernel, by decide +kernel, by decide +kernel⟩, ja_m5 166 rfl rfl, ja_m5 167 rfl rfl, _, rfl, rfl⟩
theorem lk_Law_35 : Cond.methodLink "InterlockingFrameLaw" 35 y_Model_bufferLength ∈ ja_tb := ja_m5 165 rfl rfl
theorem kv_Frame_leverCount : ja_kV y_Frame_leverCount M_Frame_leverCount 0 7 := ⟨⟨ja_m1 1 rfl rfl, ja_m2 218 rfl rfl, by decide +kernel, by decide +kernel, by decide +kernel⟩, ja_m2 216 rfl rfl, ja_m2 217 rfl rfl, _, rfl, rfl⟩
theorem lk_Law_36 : Cond.methodLink "InterlockingFrameLaw" 36 y_Frame_leverCount ∈ ja_tb := ja_m2 215 rfl rfl
theorem kv_Model_leverCount : ja_kV y_Model_leverCount M_Model_leverCount 0 8 := ⟨⟨ja_m1 10 rfl rfl, ja_m5 172 rfl rfl, by decide +kernel, by decide +kernel, by decide +kernel⟩, ja_m5 170 rfl rfl, ja_m5 171 rfl rfl, _, rfl, rfl⟩
theorem lk_Law_39 : Cond.methodLink "InterlockingFrameLaw" 39 y_Model_leverCount ∈ ja_tb := ja_m5 169 rfl rfl
theorem kv_Frame_ruleCount : ja_kV y_Frame_ruleCount M_Frame_ruleCount 0 7 := ⟨⟨ja_m1 1 rfl rfl, ja_m2 222 rfl rfl, by decide +kernel, by decide +kernel, by decide +kernel⟩, ja_m2 220 rfl rfl, ja_m2 221 rfl rfl, _, rfl, rfl⟩
theorem lk_Law_40 : Cond.methodLink "InterlockingFrameLaw" 40 y_Frame_ruleCount ∈ ja_tb := ja_m2 219 rfl rfl
theorem kv_Model_ruleCount : ja_kV y_Model_ruleCount M_Model_ruleCount 0 8 := ⟨⟨ja_m1 10 rfl rfl, ja_m5 176 rfl rfl, by decide +kernel, by decide +kernel, by decide +kernel⟩, ja_m5 174 rfl rfl, ja_m5 175 rfl rfl, _, rfl, rfl⟩
theorem lk_Law_43 : Cond.methodLink "InterlockingFrameLaw" 43 y_Model_ruleCount ∈ ja_tb := ja_m5 173 rfl rfl
theorem kv_Frame_ruleKind : ja_kV y_Frame_ruleKind M_Frame_ruleKind 1 7 := ⟨⟨ja_m1 1 rfl rfl, ja_m2 226 rfl rfl, by decide +kernel, by decide +kernel, by decide +kernel⟩, ja_m2 224 rfl rfl, ja_m2 225 rfl rfl, _, rfl, rfl⟩
theorem lk_Law_44 : Cond.methodLink "InterlockingFrameLaw" 44 y_Frame_ruleKind ∈ ja_tb := ja_m2 223 rfl rfl
theorem kv_Model_ruleKind : ja_kV y_Model_ruleKind M_Model_ruleKind 1 8 := ⟨⟨ja_m1 10 rfl rfl, ja_m5 180 rfl rfl, by decide +kernel, by decide +kernel, by decide +kernel⟩, ja_m5 178 rfl rfl, ja_m5 179 rfl rfl, _, rfl, rfl⟩
theorem lk_Law_47 : Cond.methodLink "InterlockingFrameLaw" 47 y_Model_ruleKind ∈ ja_tb := ja_m5 177 rfl rfl
theorem kv_Frame_ruleLevers : ja_kV y_Frame_ruleLevers M_Frame_ruleLevers 1 7 := ⟨⟨ja_m1 1 rfl rfl, ja_m2 237 rfl rfl, by decide +kernel, by decide +kernel, by decide +kernel⟩, ja_m2 235 rfl rfl, ja_m2 236 rfl rfl, _, rfl, rfl⟩
theorem lk_Law_48 : Cond.methodLink "InterlockingFrameLaw" 48 y_Frame_ruleLevers ∈ ja_tb := ja_m2 234 rfl rfl
theorem kv_Model_ruleLevers : ja_kV y_Model_ruleLevers M_Model_ruleLevers 1 8 := ⟨⟨ja_m1 10 rfl rfl, ja_m5 188 rfl rfl, by decide +kernel, by decide +kernel, by decide +kernel⟩, ja_m5 186 rfl rfl, ja_m5 187 rfl rfl, _, rfl, rfl⟩
theorem lk_Law_51 : Cond.methodLink "InterlockingFrameLaw" 51 y_Model_ruleLevers ∈ ja_tb := ja_m5 185 rfl rfl
theorem kv_Frame_ruleCondition : ja_kV y_Frame_ruleCondition M_Frame_ruleCondition 1 7 := ⟨⟨ja_m1 1 rfl rfl, ja_m3 10 rfl rfl, by decide +kernel, by decide +kernel, by decide +kernel⟩, ja_m3 8 rfl rfl, ja_m3 9 rfl rfl, _, rfl, rfl⟩
theorem lk_Law_52 : Cond.methodLink "InterlockingFrameLaw" 52 y_Frame_ruleCondition ∈ ja_tb := ja_m3 7 rfl rfl
theorem kv_Model_ruleCondition : ja_kV y_Model_ruleCondition M_Model_ruleCondition 1 8 := ⟨⟨ja_m1 10 rfl rfl, ja_m5 192 rfl rfl, by decide +kernel, by decide +kernel, by decide +kernel⟩, ja_m5 190 rfl rfl, ja_m5 191 rfl rfl, _, rfl, rfl⟩
theorem lk_Law_55 : Cond.methodLink "InterlockingFrameLaw" 55 y_Model_ruleCondition ∈ ja_tb := ja_m5 189 rfl rfl
theorem kv_Frame_routeCount : ja_kV y_Frame_routeCount M_Frame_routeCount 0 7 := ⟨⟨ja_m1 1 rfl rfl, ja_m3 17 rfl rfl, by decide +kernel, by decide +kernel, by decide +kernel⟩, ja_m3 15 rfl rfl, ja_m3 16 rfl rfl, _, rfl, rfl⟩
theorem lk_Law_56 : Cond.methodLink "InterlockingFrameLaw" 56 y_Frame_routeCount ∈ ja_tb := ja_m3 14 rfl rfl
theorem kv_Model_routeCount : ja_kV y_Model_routeCount M_Model_routeCount 0 8 := ⟨⟨ja_m1 10 rfl rfl, ja_m5 196 rfl rfl, by decide +kernel, by decide +kernel, by decide +kernel⟩, ja_m5 194 rfl rfl, ja_m5 195 rfl rfl, _, rfl, rfl⟩
theorem lk_Law_59 : Cond.methodLink "InterlockingFrameLaw" 59 y_Model_routeCount ∈ ja_tb := ja_m5 193 rfl rfl
theorem kv_Frame_routeLevers : ja_kV y_Frame_routeLevers M_Frame_routeLevers 1 7 := ⟨⟨ja_m1 1 rfl rfl, ja_m3 21 rfl rfl, by decide +kernel, by decide +kernel, by decide +kernel⟩, ja_m3 19 rfl rfl, ja_m3 20 rfl rfl, _, rfl, rfl⟩
theorem lk_Law_60 : Cond.methodLink "InterlockingFrameLaw" 60 y_Frame_routeLevers ∈ ja_tb := ja_m3 18 rfl rfl
theorem kv_Model_routeLevers : ja_kV y_Model_routeLevers M_Model_routeLevers 1 8 := ⟨⟨ja_m1 10 rfl rfl, ja_m5 200 rfl rfl, by decide +kernel, by decide +kernel, by decide +kernel⟩, ja_m5 198 rfl rfl, ja_m5 199 rfl rfl, _, rfl, rfl⟩
theorem lk_Law_63 : Cond.methodLink "InterlockingFrameLaw" 63 y_Model_routeLevers ∈ ja_tb := ja_m5 197 rfl rfl
theorem kv_Frame_conflictCount : ja_kV y_Frame_conflictCount M_Frame_conflictCount 0 7 := ⟨⟨ja_m1 1 rfl rfl, ja_m3 29 rfl rfl, by decide +kernel, by decide +kernel, by decide +kernel⟩, ja_m3 27 rfl rfl, ja_m3 28 rfl rfl, _, rfl, rfl⟩
theorem lk_Law_64 : Cond.methodLink "InterlockingFrameLaw" 64 y_Frame_conflictCount ∈ ja_tb := ja_m3 26 rfl rfl
theorem kv_Model_conflictCount : ja_kV y_Model_conflictCount M_Model_conflictCount 0 8 := ⟨⟨ja_m1 10 rfl rfl, ja_m5 208 rfl rfl, by decide +kernel, by decide +kernel, by decide +kernel⟩, ja_m5 206 rfl rfl, ja_m5 207 rfl rfl, _, rfl, rfl⟩
theorem lk_Law_67 : Cond.methodLink "InterlockingFrameLaw" 67 y_Model_conflictCount ∈ ja_tb := ja_m5 205 rfl rfl
theorem kv_Frame_currentState : ja_kV y_Frame_currentState M_Frame_currentState 0 7 := ⟨⟨ja_m1 1 rfl rfl, ja_m3 33 rfl rfl, by decide +kernel, by decide +kernel, by decide +kernel⟩, ja_m3 31 rfl rfl, ja_m3 32 rfl rfl, _, rfl, rfl⟩
theorem lk_Law_68 : Cond.methodLink "InterlockingFrameLaw" 68 y_Frame_currentState ∈ ja_tb := ja_m3 30 rfl rfl
theorem kv_Model_currentState : ja_kV y_Model_currentState M_Model_currentState 0 8 := ⟨⟨ja_m1 10 rfl rfl, ja_m5 212 rfl rfl, by decide +kernel, by decide +kernel, by decide +kernel⟩, ja_m5 210 rfl rfl, ja_m5 211 rfl rfl, _, rfl, rfl⟩
theorem lk_Law_71 : Cond.methodLink "InterlockingFrameLaw" 71 y_Model_currentState ∈ ja_tb := ja_m5 209 rfl rfl
theorem kv_Frame_moveLever : ja_kV y_Frame_moveLever M_Frame_moveLever 1 7 := ⟨⟨ja_m1 1 rfl rfl, ja_m3 37 rfl rfl, by decide +kernel, by decide +kernel, by decide +kernel⟩, ja_m3 35 rfl rfl, ja_m3 36 rfl rfl, _, rfl, rfl⟩
theorem lk_Law_72 : Cond.methodLink "InterlockingFrameLaw" 72 y_Frame_moveLever ∈ ja_tb := ja_m3 34 rfl rfl
theorem kv_Model_moveLever : ja_kV y_Model_moveLever M_Model_moveLever 1 8 := ⟨⟨ja_m1 10 rfl rfl, ja_m5 216 rfl rfl, by decide +kernel, by decide +kernel, by decide +kernel⟩, ja_m5 214 rfl rfl, ja_m5 215 rfl rfl, _, rfl, rfl⟩
theorem lk_Law_75 : Cond.methodLink "InterlockingFrameLaw" 75 y_Model_moveLever ∈ ja_tb := ja_m5 213 rfl rfl
theorem kv_Frame_addRule : ja_kV y_Frame_addRule M_Frame_addRule 4 7 := ⟨⟨ja_m1 1 rfl rfl, ja_m3 74 rfl rfl, by decide +kernel, by decide +kernel, by decide +kernel⟩, ja_m3 72 rfl rfl, ja_m3 73 rfl rfl, _, rfl, rfl⟩
theorem lk_Law_76 : Cond.methodLink "InterlockingFrameLaw" 76 y_Frame_addRule ∈ ja_tb := ja_m3 71 rfl rfl
theorem kv_Model_addRule : ja_kV y_Model_addRule M_Model_addRule 4 8 := ⟨⟨ja_m1 10 rfl rfl, ja_m6 8 rfl rfl, by decide +kernel, by decide +kernel, by decide +kernel⟩, ja_m6 6 rfl rfl, ja_m6 7 rfl rfl, _, rfl, rfl⟩
theorem lk_Law_80 : Cond.methodLink "InterlockingFrameLaw" 80 y_Model_addRule ∈ ja_tb := ja_m6 5 rfl rfl
theorem kv_Frame_removeRule : ja_kV y_Frame_removeRule M_Frame_removeRule 1 7 := ⟨⟨ja_m1 1 rfl rfl, ja_m3 83 rfl rfl, by decide +kernel, by decide +kernel, by decide +kernel⟩, ja_m3 81 rfl rfl, ja_m3 82 rfl rfl, _, rfl, rfl⟩
theorem lk_Law_81 : Cond.methodLink "InterlockingFrameLaw" 81 y_Frame_removeRule ∈ ja_tb := ja_m3 80 rfl rfl
theorem kv_Model_removeRule : ja_kV y_Model_removeRule M_Model_removeRule 1 8 := ⟨⟨ja_m1 10 rfl rfl, ja_m6 17 rfl rfl, by decide +kernel, by decide +kernel, by decide +kernel⟩, ja_m6 15 rfl rfl, ja_m6 16 rfl rfl, _, rfl, rfl⟩
theorem lk_Law_84 : Cond.methodLink "InterlockingFrameLaw" 84 y_Model_removeRule ∈ ja_tb := ja_m6 14 rfl rfl
theorem kv_Frame_undo : ja_kV y_Frame_undo M_Frame_undo 0 7 := ⟨⟨ja_m1 1 rfl rfl, ja_m3 92 rfl rfl, by decide +kernel, by decide +kernel, by decide +kernel⟩, ja_m3 90 rfl rfl, ja_m3 91 rfl rfl, _, rfl, rfl⟩
theorem lk_Law_85 : Cond.methodLink "InterlockingFrameLaw" 85 y_Frame_undo ∈ ja_tb := ja_m3 89 rfl rfl
theorem kv_Model_undo : ja_kV y_Model_undo M_Model_undo 0 8 := ⟨⟨ja_m1 10 rfl rfl, ja_m6 21 rfl rfl, by decide +kernel, by decide +kernel, by decide +kernel⟩, ja_m6 19 rfl rfl, ja_m6 20 rfl rfl, _, rfl, rfl⟩
theorem lk_Law_88 : Cond.methodLink "InterlockingFrameLaw" 88 y_Model_undo ∈ ja_tb := ja_m6 18 rfl rfl
theorem kv_Frame_isLegal : ja_kV y_Frame_isLegal M_Frame_isLegal 1 7 := ⟨⟨ja_m1 1 rfl rfl, ja_m3 100 rfl rfl, by decide +kernel, by decide +kernel, by decide +kernel⟩, ja_m3 98 rfl rfl, ja_m3 99 rfl rfl, _, rfl, rfl⟩
theorem lk_Law_89 : Cond.methodLink "InterlockingFrameLaw" 89 y_Frame_isLegal ∈ ja_tb := ja_m3 97 rfl rfl
theorem kv_Model_isLegal : ja_kV y_Model_isLegal M_Model_isLegal 1 8 := ⟨⟨ja_m1 10 rfl rfl, ja_m6 25 rfl rfl, by decide +kernel, by decide +kernel, by decide +kernel⟩, ja_m6 23 rfl rfl, ja_m6 24 rfl rfl, _, rfl, rfl⟩
theorem lk_Law_92 : Cond.methodLink "InterlockingFrameLaw" 92 y_Model_isLegal ∈ ja_tb := ja_m6 22 rfl rfl
theorem kv_Frame_blockingRule : ja_kV y_Frame_blockingRule M_Frame_blockingRule 2 7 := ⟨⟨ja_m1 1 rfl rfl, ja_m3 117 rfl rfl, by decide +kernel, by decide +kernel, by decide +kernel⟩, ja_m3 115 rfl rfl, ja_m3 116 rfl rfl, _, rfl, rfl⟩
theorem lk_Law_93 : Cond.methodLink "InterlockingFrameLaw" 93 y_Frame_blockingRule ∈ ja_tb := ja_m3 114 rfl rfl
theorem kv_Model_blockingRule : ja_kV y_Model_blockingRule M_Model_blockingRule 2 8 := ⟨⟨ja_m1 10 rfl rfl, ja_m6 33 rfl rfl, by decide +kernel, by decide +kernel, by decide +kernel⟩, ja_m6 31 rfl rfl, ja_m6 32 rfl rfl, _, rfl, rfl⟩
theorem lk_Law_97 : Cond.methodLink "InterlockingFrameLaw" 97 y_Model_blockingRule ∈ ja_tb := ja_m6 30 rfl rfl
theorem kv_Frame_freeLevers : ja_kV y_Frame_freeLevers M_Frame_freeLevers 1 7 := ⟨⟨ja_m1 1 rfl rfl, ja_m3 121 rfl rfl, by decide +kernel, by decide +kernel, by decide +kernel⟩, ja_m3 119 rfl rfl, ja_m3 120 rfl rfl, _, rfl, rfl⟩
theorem lk_Law_98 : Cond.methodLink "InterlockingFrameLaw" 98 y_Frame_freeLevers ∈ ja_tb := ja_m3 118 rfl rfl
theorem kv_Model_freeLevers : ja_kV y_Model_freeLevers M_Model_freeLevers 1 8 := ⟨⟨ja_m1 10 rfl rfl, ja_m6 37 rfl rfl, by decide +kernel, by decide +kernel, by decide +kernel⟩, ja_m6 35 rfl rfl, ja_m6 36 rfl rfl, _, rfl, rfl⟩
theorem lk_Law_101 : Cond.methodLink "InterlockingFrameLaw" 101 y_Model_freeLevers ∈ ja_tb := ja_m6 34 rfl rfl
theorem kv_Frame_reachableCount : ja_kV y_Frame_reachableCount M_Frame_reachableCount 0 7 := ⟨⟨ja_m1 1 rfl rfl, ja_m3 125 rfl rfl, by decide +kernel, by decide +kernel, by decide +kernel⟩, ja_m3 123 rfl rfl, ja_m3 124 rfl rfl, _, rfl, rfl⟩
theorem lk_Law_102 : Cond.methodLink "InterlockingFrameLaw" 102 y_Frame_reachableCount ∈ ja_tb := ja_m3 122 rfl rfl
theorem kv_Model_reachableCount : ja_kV y_Model_reachableCount M_Model_reachableCount 0 8 := ⟨⟨ja_m1 10 rfl rfl, ja_m6 41 rfl rfl, by decide +kernel, by decide +kernel, by decide +kernel⟩, ja_m6 39 rfl rfl, ja_m6 40 rfl rfl, _, rfl, rfl⟩
theorem lk_Law_105 : Cond.methodLink "InterlockingFrameLaw" 105 y_Model_reachableCount ∈ ja_tb := ja_m6 38 rfl rfl
theorem kv_Frame_distance : ja_kV y_Frame_distance M_Frame_distance 2 7 := ⟨⟨ja_m1 1 rfl rfl, ja_m3 190 rfl rfl, by decide +kernel, by decide +kernel, by decide +kernel⟩, ja_m3 188 rfl rfl, ja_m3 189 rfl rfl, _, rfl, rfl⟩
theorem lk_Law_106 : Cond.methodLink "InterlockingFrameLaw" 106 y_Frame_distance ∈ ja_tb := ja_m3 187 rfl rfl
theorem kv_Model_distance : ja_kV y_Model_distance M_Model_distance 2 8 := ⟨⟨ja_m1 10 rfl rfl, ja_m6 61 rfl rfl, by decide +kernel, by decide +kernel, by decide +kernel⟩, ja_m6 59 rfl rfl, ja_m6 60 rfl rfl, _, rfl, rfl⟩
theorem lk_Law_109 : Cond.methodLink "InterlockingFrameLaw" 109 y_Model_distance ∈ ja_tb := ja_m6 58 rfl rfl
theorem kv_Frame_nextMove : ja_kV y_Frame_nextMove M_Frame_nextMove 2 7 := ⟨⟨ja_m1 1 rfl rfl, ja_m3 205 rfl rfl, by decide +kernel, by decide +kernel, by decide +kernel⟩, ja_m3 203 rfl rfl, ja_m3 204 rfl rfl, _, rfl, rfl⟩
theorem lk_Law_110 : Cond.methodLink "InterlockingFrameLaw" 110 y_Frame_nextMove ∈ ja_tb := ja_m3 202 rfl rfl
theorem kv_Model_nextMove : ja_kV y_Model_nextMove M_Model_nextMove 2 8 := ⟨⟨ja_m1 10 rfl rfl, ja_m6 69 rfl rfl, by decide +kernel, by decide +kernel, by decide +kernel⟩, ja_m6 67 rfl rfl, ja_m6 68 rfl rfl, _, rfl, rfl⟩
theorem lk_Law_113 : Cond.methodLink "InterlockingFrameLaw" 113 y_Model_nextMove ∈ ja_tb := ja_m6 66 rfl rfl
theorem kv_Frame_excludedLevers : ja_kV y_Frame_excludedLevers M_Frame_excludedLevers 1 7 := ⟨⟨ja_m1 1 rfl rfl, ja_m3 213 rfl rfl, by decide +kernel, by decide +kernel, by decide +kernel⟩, ja_m3 211 rfl rfl, ja_m3 212 rfl rfl, _, rfl, rfl⟩
theorem lk_Law_114 : Cond.methodLink "InterlockingFrameLaw" 114 y_Frame_excludedLevers ∈ ja_tb := ja_m3 210 rfl rfl
theorem kv_Model_excludedLevers : ja_kV y_Model_excludedLevers M_Model_excludedLevers 1 8 := ⟨⟨ja_m1 10 rfl rfl, ja_m6 73 rfl rfl, by decide +kernel, by decide +kernel, by decide +kernel⟩, ja_m6 71 rfl rfl, ja_m6 72 rfl rfl, _, rfl, rfl⟩
theorem lk_Law_117 : Cond.methodLink "InterlockingFrameLaw" 117 y_Model_excludedLevers ∈ ja_tb := ja_m6 70 rfl rfl
theorem kv_Frame_settingState : ja_kV y_Frame_settingState M_Frame_settingState 1 7 := ⟨⟨ja_m1 1 rfl rfl, ja_m3 222 rfl rfl, by decide +kernel, by decide +kernel, by decide +kernel⟩, ja_m3 220 rfl rfl, ja_m3 221 rfl rfl, _, rfl, rfl⟩
theorem lk_Law_118 : Cond.methodLink "InterlockingFrameLaw" 118 y_Frame_settingState ∈ ja_tb := ja_m3 219 rfl rfl
theorem kv_Model_settingState : ja_kV y_Model_settingState M_Model_settingState 1 8 := ⟨⟨ja_m1 10 rfl rfl, ja_m6 77 rfl rfl, by decide +kernel, by decide +kernel, by decide +kernel⟩, ja_m6 75 rfl rfl, ja_m6 76 rfl rfl, _, rfl, rfl⟩
theorem lk_Law_121 : Cond.methodLink "InterlockingFrameLaw" 121 y_Model_settingState ∈ ja_tb := ja_m6 74 rfl rfl
theorem kv_Frame_settingMoves : ja_kV y_Frame_settingMoves M_Frame_settingMoves 1 7 := ⟨⟨ja_m1 1 rfl rfl, ja_m3 230 rfl rfl, by decide +kernel, by decide +kernel, by decide +kernel⟩, ja_m3 228 rfl rfl, ja_m3 229 rfl rfl, _, rfl, rfl⟩
theorem lk_Law_122 : Cond.methodLink "InterlockingFrameLaw" 122 y_Frame_settingMoves ∈ ja_tb := ja_m3 227 rfl rfl
theorem kv_Model_settingMoves : ja_kV y_Model_settingMoves M_Model_settingMoves 1 8 := ⟨⟨ja_m1 10 rfl rfl, ja_m6 89 rfl rfl, by decide +kernel, by decide +kernel, by decide +kernel⟩, ja_m6 87 rfl rfl, ja_m6 88 rfl rfl, _, rfl, rfl⟩
theorem lk_Law_125 : Cond.methodLink "InterlockingFrameLaw" 125 y_Model_settingMoves ∈ ja_tb := ja_m6 86 rfl rfl
theorem kv_Frame_jointStates : ja_kV y_Frame_jointStates M_Frame_jointStates 2 7 := ⟨⟨ja_m1 1 rfl rfl, ja_m3 234 rfl rfl, by decide +kernel, by decide +kernel, by decide +kernel⟩, ja_m3 232 rfl rfl, ja_m3 233 rfl rfl, _, rfl, rfl⟩
theorem lk_Law_126 : Cond.methodLink "InterlockingFrameLaw" 126 y_Frame_jointStates ∈ ja_tb := ja_m3 231 rfl rfl
theorem kv_Model_jointStates : ja_kV y_Model_jointStates M_Model_jointStates 2 8 := ⟨⟨ja_m1 10 rfl rfl, ja_m6 93 rfl rfl, by decide +kernel, by decide +kernel, by decide +kernel⟩, ja_m6 91 rfl rfl, ja_m6 92 rfl rfl, _, rfl, rfl⟩
theorem lk_Law_129 : Cond.methodLink "InterlockingFrameLaw" 129 y_Model_jointStates ∈ ja_tb := ja_m6 90 rfl rfl
theorem kv_Frame_unprotectedConflicts : ja_kV y_Frame_unprotectedConflicts M_Frame_unprotectedConflicts 0 7 := ⟨⟨ja_m1 1 rfl rfl, ja_m4 2 rfl rfl, by decide +kernel, by decide +kernel, by decide +kernel⟩, ja_m4 0 rfl rfl, ja_m4 1 rfl rfl, _, rfl, rfl⟩
theorem lk_Law_130 : Cond.methodLink "InterlockingFrameLaw" 130 y_Frame_unprotectedConflicts ∈ ja_tb := ja_m3 239 rfl rfl
theorem kv_Model_unprotectedConflicts : ja_kV y_Model_unprotectedConflicts M_Model_unprotectedConflicts 0 8 := ⟨⟨ja_m1 10 rfl rfl, ja_m6 101 rfl rfl, by decide +kernel, by decide +kernel, by decide +kernel⟩, ja_m6 99 rfl rfl, ja_m6 100 rfl rfl, _, rfl, rfl⟩
theorem lk_Law_133 : Cond.methodLink "InterlockingFrameLaw" 133 y_Model_unprotectedConflicts ∈ ja_tb := ja_m6 98 rfl rfl
theorem kv_Frame_proposedLock : ja_kV y_Frame_proposedLock M_Frame_proposedLock 1 7 := ⟨⟨ja_m1 1 rfl rfl, ja_m4 19 rfl rfl, by decide +kernel, by decide +kernel, by decide +kernel⟩, ja_m4 17 rfl rfl, ja_m4 18 rfl rfl, _, rfl, rfl⟩
theorem lk_Law_134 : Cond.methodLink "InterlockingFrameLaw" 134 y_Frame_proposedLock ∈ ja_tb := ja_m4 16 rfl rfl
theorem kv_Model_proposedLock : ja_kV y_Model_proposedLock M_Model_proposedLock 1 8 := ⟨⟨ja_m1 10 rfl rfl, ja_m6 109 rfl rfl, by decide +kernel, by decide +kernel, by decide +kernel⟩, ja_m6 107 rfl rfl, ja_m6 108 rfl rfl, _, rfl, rfl⟩
theorem lk_Law_137 : Cond.methodLink "InterlockingFrameLaw" 137 y_Model_proposedLock ∈ ja_tb := ja_m6 106 rfl rfl
theorem kv_Frame_completionSize : ja_kV y_Frame_completionSize M_Frame_completionSize 0 7 := ⟨⟨ja_m1 1 rfl rfl, ja_m4 50 rfl rfl, by decide +kernel, by decide +kernel, by decide +kernel⟩, ja_m4 48 rfl rfl, ja_m4 49 rfl rfl, _, rfl, rfl⟩
theorem lk_Law_138 : Cond.methodLink "InterlockingFrameLaw" 138 y_Frame_completionSize ∈ ja_tb := ja_m4 47 rfl rfl
theorem kv_Model_completionSize : ja_kV y_Model_completionSize M_Model_completionSize 0 8 := ⟨⟨ja_m1 10 rfl rfl, ja_m6 121 rfl rfl, by decide +kernel, by decide +kernel, by decide +kernel⟩, ja_m6 119 rfl rfl, ja_m6 120 rfl rfl, _, rfl, rfl⟩
theorem lk_Law_141 : Cond.methodLink "InterlockingFrameLaw" 141 y_Model_completionSize ∈ ja_tb := ja_m6 118 rfl rfl
theorem kv_Frame_completionLock : ja_kV y_Frame_completionLock M_Frame_completionLock 1 7 := ⟨⟨ja_m1 1 rfl rfl, ja_m4 60 rfl rfl, by decide +kernel, by decide +kernel, by decide +kernel⟩, ja_m4 58 rfl rfl, ja_m4 59 rfl rfl, _, rfl, rfl⟩
theorem lk_Law_142 : Cond.methodLink "InterlockingFrameLaw" 142 y_Frame_completionLock ∈ ja_tb := ja_m4 57 rfl rfl
theorem kv_Model_completionLock : ja_kV y_Model_completionLock M_Model_completionLock 1 8 := ⟨⟨ja_m1 10 rfl rfl, ja_m6 129 rfl rfl, by decide +kernel, by decide +kernel, by decide +kernel⟩, ja_m6 127 rfl rfl, ja_m6 128 rfl rfl, _, rfl, rfl⟩
theorem lk_Law_145 : Cond.methodLink "InterlockingFrameLaw" 145 y_Model_completionLock ∈ ja_tb := ja_m6 126 rfl rfl
theorem kv_Frame_largestRouteSet : ja_kV y_Frame_largestRouteSet M_Frame_largestRouteSet 0 7 := ⟨⟨ja_m1 1 rfl rfl, ja_m4 64 rfl rfl, by decide +kernel, by decide +kernel, by decide +kernel⟩, ja_m4 62 rfl rfl, ja_m4 63 rfl rfl, _, rfl, rfl⟩
theorem lk_Law_146 : Cond.methodLink "InterlockingFrameLaw" 146 y_Frame_largestRouteSet ∈ ja_tb := ja_m4 61 rfl rfl
theorem kv_Model_largestRouteSet : ja_kV y_Model_largestRouteSet M_Model_largestRouteSet 0 8 := ⟨⟨ja_m1 10 rfl rfl, ja_m6 133 rfl rfl, by decide +kernel, by decide +kernel, by decide +kernel⟩, ja_m6 131 rfl rfl, ja_m6 132 rfl rfl, _, rfl, rfl⟩
theorem lk_Law_149 : Cond.methodLink "InterlockingFrameLaw" 149 y_Model_largestRouteSet ∈ ja_tb := ja_m6 130 rfl rfl
theorem kv_Frame_farthestState : ja_kV y_Frame_farthestState M_Frame_farthestState 0 7 := ⟨⟨ja_m1 1 rfl rfl, ja_m4 86 rfl rfl, by decide +kernel, by decide +kernel, by decide +kernel⟩, ja_m4 84 rfl rfl, ja_m4 85 rfl rfl, _, rfl, rfl⟩
theorem lk_Law_150 : Cond.methodLink "InterlockingFrameLaw" 150 y_Frame_farthestState ∈ ja_tb := ja_m4 83 rfl rfl
theorem kv_Model_farthestState : ja_kV y_Model_farthestState M_Model_farthestState 0 8 := ⟨⟨ja_m1 10 rfl rfl, ja_m6 140 rfl rfl, by decide +kernel, by decide +kernel, by decide +kernel⟩, ja_m6 138 rfl rfl, ja_m6 139 rfl rfl, _, rfl, rfl⟩
theorem lk_Law_153 : Cond.methodLink "InterlockingFrameLaw" 153 y_Model_farthestState ∈ ja_tb := ja_m6 137 rfl rfl
theorem kv_Frame_isImplied : ja_kV y_Frame_isImplied M_Frame_isImplied 1 7 := ⟨⟨ja_m1 1 rfl rfl, ja_m4 94 rfl rfl, by decide +kernel, by decide +kernel, by decide +kernel⟩, ja_m4 92 rfl rfl, ja_m4 93 rfl rfl, _, rfl, rfl⟩
theorem lk_Law_154 : Cond.methodLink "InterlockingFrameLaw" 154 y_Frame_isImplied ∈ ja_tb := ja_m4 91 rfl rfl
theorem kv_Model_isImplied : ja_kV y_Model_isImplied M_Model_isImplied 1 8 := ⟨⟨ja_m1 10 rfl rfl, ja_m6 144 rfl rfl, by decide +kernel, by decide +kernel, by decide +kernel⟩, ja_m6 142 rfl rfl, ja_m6 143 rfl rfl, _, rfl, rfl⟩
theorem lk_Law_157 : Cond.methodLink "InterlockingFrameLaw" 157 y_Model_isImplied ∈ ja_tb := ja_m6 141 rfl rfl
theorem kv_Frame_reducedSheet : ja_kV y_Frame_reducedSheet M_Frame_reducedSheet 0 7 := ⟨⟨ja_m1 1 rfl rfl, ja_m4 110 rfl rfl, by decide +kernel, by decide +kernel, by decide +kernel⟩, ja_m4 108 rfl rfl, ja_m4 109 rfl rfl, _, rfl, rfl⟩
theorem lk_Law_158 : Cond.methodLink "InterlockingFrameLaw" 158 y_Frame_reducedSheet ∈ ja_tb := ja_m4 107 rfl rfl
theorem kv_Model_reducedSheet : ja_kV y_Model_reducedSheet M_Model_reducedSheet 0 8 := ⟨⟨ja_m1 10 rfl rfl, ja_m6 160 rfl rfl, by decide +kernel, by decide +kernel, by decide +kernel⟩, ja_m6 158 rfl rfl, ja_m6 159 rfl rfl, _, rfl, rfl⟩
theorem lk_Law_161 : Cond.methodLink "InterlockingFrameLaw" 161 y_Model_reducedSheet ∈ ja_tb := ja_m6 157 rfl rfl
theorem kv_Frame_testLength : ja_kV y_Frame_testLength M_Frame_testLength 1 7 := ⟨⟨ja_m1 1 rfl rfl, ja_m4 114 rfl rfl, by decide +kernel, by decide +kernel, by decide +kernel⟩, ja_m4 112 rfl rfl, ja_m4 113 rfl rfl, _, rfl, rfl⟩
theorem lk_Law_162 : Cond.methodLink "InterlockingFrameLaw" 162 y_Frame_testLength ∈ ja_tb := ja_m4 111 rfl rfl
theorem kv_Model_testLength : ja_kV y_Model_testLength M_Model_testLength 1 8 := ⟨⟨ja_m1 10 rfl rfl, ja_m6 164 rfl rfl, by decide +kernel, by decide +kernel, by decide +kernel⟩, ja_m6 162 rfl rfl, ja_m6 163 rfl rfl, _, rfl, rfl⟩
theorem lk_Law_165 : Cond.methodLink "InterlockingFrameLaw" 165 y_Model_testLength ∈ ja_tb := ja_m6 161 rfl rfl
theorem kv_Frame_testMove : ja_kV y_Frame_testMove M_Frame_testMove 2 7 := ⟨⟨ja_m1 1 rfl rfl, ja_m4 119 rfl rfl, by decide +kernel, by decide +kernel, by decide +kernel⟩, ja_m4 117 rfl rfl, ja_m4 118 rfl rfl, _, rfl, rfl⟩
theorem lk_Law_166 : Cond.methodLink "InterlockingFrameLaw" 166 y_Frame_testMove ∈ ja_tb := ja_m4 116 rfl rfl
theorem kv_Model_testMove : ja_kV y_Model_testMove M_Model_testMove 2 8 := ⟨⟨ja_m1 10 rfl rfl, ja_m6 172 rfl rfl, by decide +kernel, by decide +kernel, by decide +kernel⟩, ja_m6 170 rfl rfl, ja_m6 171 rfl rfl, _, rfl, rfl⟩
theorem lk_Law_169 : Cond.methodLink "InterlockingFrameLaw" 169 y_Model_testMove ∈ ja_tb := ja_m6 169 rfl rfl
theorem kv_Frame_isMergeable : ja_kV y_Frame_isMergeable M_Frame_isMergeable 2 7 := ⟨⟨ja_m1 1 rfl rfl, ja_m4 124 rfl rfl, by decide +kernel, by decide +kernel, by decide +kernel⟩, ja_m4 122 rfl rfl, ja_m4 123 rfl rfl, _, rfl, rfl⟩
theorem lk_Law_170 : Cond.methodLink "InterlockingFrameLaw" 170 y_Frame_isMergeable ∈ ja_tb := ja_m4 121 rfl rfl
theorem kv_Model_isMergeable : ja_kV y_Model_isMergeable M_Model_isMergeable 2 8 := ⟨⟨ja_m1 10 rfl rfl, ja_m6 180 rfl rfl, by decide +kernel, by decide +kernel, by decide +kernel⟩, ja_m6 178 rfl rfl, ja_m6 179 rfl rfl, _, rfl, rfl⟩
theorem lk_Law_173 : Cond.methodLink "InterlockingFrameLaw" 173 y_Model_isMergeable ∈ ja_tb := ja_m6 177 rfl rfl
theorem kv_Frame_mergedReachableCount : ja_kV y_Frame_mergedReachableCount M_Frame_mergedReachableCount 2 7 := ⟨⟨ja_m1 1 rfl rfl, ja_m4 163 rfl rfl, by decide +kernel, by decide +kernel, by decide +kernel⟩, ja_m4 161 rfl rfl, ja_m4 162 rfl rfl, _, rfl, rfl⟩
theorem lk_Law_174 : Cond.methodLink "InterlockingFrameLaw" 174 y_Frame_mergedReachableCount ∈ ja_tb := ja_m4 160 rfl rfl
theorem kv_Model_mergedReachableCount : ja_kV y_Model_mergedReachableCount M_Model_mergedReachableCount 2 8 := ⟨⟨ja_m1 10 rfl rfl, ja_m6 207 rfl rfl, by decide +kernel, by decide +kernel, by decide +kernel⟩, ja_m6 205 rfl rfl, ja_m6 206 rfl rfl, _, rfl, rfl⟩
theorem lk_Law_177 : Cond.methodLink "InterlockingFrameLaw" 177 y_Model_mergedReachableCount ∈ ja_tb := ja_m6 204 rfl rfl
theorem kv_Frame_leversAfterMerging : ja_kV y_Frame_leversAfterMerging M_Frame_leversAfterMerging 0 7 := ⟨⟨ja_m1 1 rfl rfl, ja_m4 167 rfl rfl, by decide +kernel, by decide +kernel, by decide +kernel⟩, ja_m4 165 rfl rfl, ja_m4 166 rfl rfl, _, rfl, rfl⟩
theorem lk_Law_178 : Cond.methodLink "InterlockingFrameLaw" 178 y_Frame_leversAfterMerging ∈ ja_tb := ja_m4 164 rfl rfl
theorem kv_Model_leversAfterMerging : ja_kV y_Model_leversAfterMerging M_Model_leversAfterMerging 0 8 := ⟨⟨ja_m1 10 rfl rfl, ja_m6 211 rfl rfl, by decide +kernel, by decide +kernel, by decide +kernel⟩, ja_m6 209 rfl rfl, ja_m6 210 rfl rfl, _, rfl, rfl⟩
theorem lk_Law_181 : Cond.methodLink "InterlockingFrameLaw" 181 y_Model_leversAfterMerging ∈ ja_tb := ja_m6 208 rfl rfl
theorem lc_0 {C : ja_C} {L i : Nat} {xs : Nat → Int32} {sg sg2 : ja_S} {zz : ja_Z} (hX : ja_hX C L xs) (hi : i + 6 ≤ L) (hL : L ≤ 3072) (hf : ja_case 0 (fun j => xs (i + j)) sg = some sg2) (kk : ja_J M_law C 1135 [(0, .ref 3000), (1, .ref 0), (2, .ref 45), (3, .int (nI i))] [] ja_L0 sg2 zz) : ja_J M_law C 212 [(0, .ref 3000), (1, .ref 0), (2, .ref 45), (3, .int (nI i))] [] ja_L0 sg zz := by
  unfold ja_case at hf
  refine ja_aload_n (pc := 212) (f := 1) (i := 1) 1 (by decide +kernel) rfl rfl ?_
  refine ja_aload_n (pc := 213) (f := 0) (i := 0) 0 (by decide +kernel) rfl rfl ?_
  refine ja_iload_n (pc := 214) (f := 3) (i := 3) 3 (by decide +kernel) rfl rfl ?_
  refine ja_iconst (pc := 215) (n := 1) (v := 1) (by decide +kernel) (by decide +kernel) ?_
  refine ja_iadd (pc := 216) (by decide +kernel) ?_
  refine ja_sld (pc := 217) (i := i + 1) hX (by decide +kernel) (ja_ad 1 1 (by decide +kernel)) (by omega) (by omega) ?_
  refine ja_aload_n (pc := 218) (f := 0) (i := 0) 0 (by decide +kernel) rfl rfl ?_
  refine ja_iload_n (pc := 219) (f := 3) (i := 3) 3 (by decide +kernel) rfl rfl ?_
  refine ja_iconst (pc := 220) (n := 2) (v := 2) (by decide +kernel) (by decide +kernel) ?_
  refine ja_iadd (pc := 221) (by decide +kernel) ?_
  refine ja_sld (pc := 222) (i := i + 2) hX (by decide +kernel) (ja_ad 2 2 (by decide +kernel)) (by omega) (by omega) ?_
  refine ja_aload_n (pc := 223) (f := 0) (i := 0) 0 (by decide +kernel) rfl rfl ?_
  refine ja_iload_n (pc := 224) (f := 3) (i := 3) 3 (by decide +kernel) rfl rfl ?_
  refine ja_iconst (pc := 225) (n := 3) (v := 3) (by decide +kernel) (by decide +kernel) ?_
  refine ja_iadd (pc := 226) (by decide +kernel) ?_
  refine ja_sld (pc := 227) (i := i + 3) hX (by decide +kernel) (ja_ad 3 3 (by decide +kernel)) (by omega) (by omega) ?_
  refine ja_aload_n (pc := 228) (f := 0) (i := 0) 0 (by decide +kernel) rfl rfl ?_
  refine ja_iload_n (pc := 229) (f := 3) (i := 3) 3 (by decide +kernel) rfl rfl ?_
  refine ja_iconst (pc := 230) (n := 4) (v := 4) (by decide +kernel) (by decide +kernel) ?_
  refine ja_iadd (pc := 231) (by decide +kernel) ?_
  refine ja_sld (pc := 232) (i := i + 4) hX (by decide +kernel) (ja_ad 4 4 (by decide +kernel)) (by omega) (by omega) ?_
  refine ja_aload_n (pc := 233) (f := 0) (i := 0) 0 (by decide +kernel) rfl rfl ?_
  refine ja_iload_n (pc := 234) (f := 3) (i := 3) 3 (by decide +kernel) rfl rfl ?_
  refine ja_iconst (pc := 235) (n := 5) (v := 5) (by decide +kernel) (by decide +kernel) ?_
  refine ja_iadd (pc := 236) (by decide +kernel) ?_
  refine ja_sld (pc := 237) (i := i + 5) hX (by decide +kernel) (ja_ad 5 5 (by decide +kernel)) (by omega) (by omega) ?_
  refine ja_bind hf (fun v hv hf => ?_)
  refine ja_callVi (pc := 238) (idx := 13) (t := 7) (b := 0) (as := [.int (xs (i + 1)), .int (xs (i + 2)), .int (xs (i + 3)), .int (xs (i + 4)), .int (xs (i + 5))]) (st := []) (by decide +kernel) kv_Frame_appendBytes lk_Law_13 ⟨by decide, by decide⟩ (c_Frame_appendBytes _ _ 0 (xs (i + 1)) (xs (i + 2)) (xs (i + 3)) (xs (i + 4)) (xs (i + 5)) ob0 hv) ob0 rfl (Nat.le_of_ble_eq_true rfl) rfl ?_
  refine ja_aload_n (pc := 241) (f := 2) (i := 2) 2 (by decide +kernel) rfl rfl ?_
  refine ja_aload_n (pc := 242) (f := 0) (i := 0) 0 (by decide +kernel) rfl rfl ?_
  refine ja_iload_n (pc := 243) (f := 3) (i := 3) 3 (by decide +kernel) rfl rfl ?_
  refine ja_iconst (pc := 244) (n := 1) (v := 1) (by decide +kernel) (by decide +kernel) ?_
  refine ja_iadd (pc := 245) (by decide +kernel) ?_
  refine ja_sld (pc := 246) (i := i + 1) hX (by decide +kernel) (ja_ad 1 1 (by decide +kernel)) (by omega) (by omega) ?_
  refine ja_aload_n (pc := 247) (f := 0) (i := 0) 0 (by decide +kernel) rfl rfl ?_
  refine ja_iload_n (pc := 248) (f := 3) (i := 3) 3 (by decide +kernel) rfl rfl ?_
  refine ja_iconst (pc := 249) (n := 2) (v := 2) (by decide +kernel) (by decide +kernel) ?_
  refine ja_iadd (pc := 250) (by decide +kernel) ?_
  refine ja_sld (pc := 251) (i := i + 2) hX (by decide +kernel) (ja_ad 2 2 (by decide +kernel)) (by omega) (by omega) ?_
  refine ja_aload_n (pc := 252) (f := 0) (i := 0) 0 (by decide +kernel) rfl rfl ?_
  refine ja_iload_n (pc := 253) (f := 3) (i := 3) 3 (by decide +kernel) rfl rfl ?_
  refine ja_iconst (pc := 254) (n := 3) (v := 3) (by decide +kernel) (by decide +kernel) ?_
  refine ja_iadd (pc := 255) (by decide +kernel) ?_
  refine ja_sld (pc := 256) (i := i + 3) hX (by decide +kernel) (ja_ad 3 3 (by decide +kernel)) (by omega) (by omega) ?_
  refine ja_aload_n (pc := 257) (f := 0) (i := 0) 0 (by decide +kernel) rfl rfl ?_
  refine ja_iload_n (pc := 258) (f := 3) (i := 3) 3 (by decide +kernel) rfl rfl ?_
  refine ja_iconst (pc := 259) (n := 4) (v := 4) (by decide +kernel) (by decide +kernel) ?_
  refine ja_iadd (pc := 260) (by decide +kernel) ?_
  refine ja_sld (pc := 261) (i := i + 4) hX (by decide +kernel) (ja_ad 4 4 (by decide +kernel)) (by omega) (by omega) ?_
  refine ja_aload_n (pc := 262) (f := 0) (i := 0) 0 (by decide +kernel) rfl rfl ?_
  refine ja_iload_n (pc := 263) (f := 3) (i := 3) 3 (by decide +kernel) rfl rfl ?_
  refine ja_iconst (pc := 264) (n := 5) (v := 5) (by decide +kernel) (by decide +kernel) ?_
  refine ja_iadd (pc := 265) (by decide +kernel) ?_
  refine ja_sld (pc := 266) (i := i + 5) hX (by decide +kernel) (ja_ad 5 5 (by decide +kernel)) (by omega) (by omega) ?_
  refine ja_bind hf (fun u hu hf => ?_)
  refine ja_callVi (pc := 267) (idx := 17) (t := 8) (b := 45) (as := [.int (xs (i + 1)), .int (xs (i + 2)), .int (xs (i + 3)), .int (xs (i + 4)), .int (xs (i + 5))]) (st := [.int v.1]) (by decide +kernel) kv_Model_appendBytes lk_Law_17 ⟨by decide, by decide⟩ (c_Model_appendBytes _ _ 45 (xs (i + 1)) (xs (i + 2)) (xs (i + 3)) (xs (i + 4)) (xs (i + 5)) ob45 hu) ob45 rfl (Nat.le_of_ble_eq_true rfl) rfl ?_
  refine ja_icmp_eq (pc := 270) (off := 865) 1135 (by decide +kernel) (by decide) hf (fun hf => ?_) (fun hf => by cases hf)
  cases hf
  exact kk
theorem lc_1 {C : ja_C} {L i : Nat} {xs : Nat → Int32} {sg sg2 : ja_S} {zz : ja_Z} (hX : ja_hX C L xs) (hi : i + 6 ≤ L) (hL : L ≤ 3072) (hf : ja_case 1 (fun j => xs (i + j)) sg = some sg2) (kk : ja_J M_law C 1135 [(0, .ref 3000), (1, .ref 0), (2, .ref 45), (3, .int (nI i))] [] ja_L0 sg2 zz) : ja_J M_law C 275 [(0, .ref 3000), (1, .ref 0), (2, .ref 45), (3, .int (nI i))] [] ja_L0 sg zz := by
  unfold ja_case at hf
  refine ja_aload_n (pc := 275) (f := 1) (i := 1) 1 (by decide +kernel) rfl rfl ?_
  refine ja_aload_n (pc := 276) (f := 0) (i := 0) 0 (by decide +kernel) rfl rfl ?_
  refine ja_iload_n (pc := 277) (f := 3) (i := 3) 3 (by decide +kernel) rfl rfl ?_
  refine ja_iconst (pc := 278) (n := 1) (v := 1) (by decide +kernel) (by decide +kernel) ?_
  refine ja_iadd (pc := 279) (by decide +kernel) ?_
  refine ja_sld (pc := 280) (i := i + 1) hX (by decide +kernel) (ja_ad 1 1 (by decide +kernel)) (by omega) (by omega) ?_
  refine ja_bind hf (fun v hv hf => ?_)
  refine ja_callVi (pc := 281) (idx := 18) (t := 7) (b := 0) (as := [.int (xs (i + 1))]) (st := []) (by decide +kernel) kv_Frame_parseSheet lk_Law_18 ⟨by decide, by decide⟩ (c_Frame_parseSheet _ _ 0 (xs (i + 1)) ob0 hv) ob0 rfl (Nat.le_of_ble_eq_true rfl) rfl ?_
  refine ja_aload_n (pc := 284) (f := 2) (i := 2) 2 (by decide +kernel) rfl rfl ?_
  refine ja_aload_n (pc := 285) (f := 0) (i := 0) 0 (by decide +kernel) rfl rfl ?_
  refine ja_iload_n (pc := 286) (f := 3) (i := 3) 3 (by decide +kernel) rfl rfl ?_
  refine ja_iconst (pc := 287) (n := 1) (v := 1) (by decide +kernel) (by decide +kernel) ?_
  refine ja_iadd (pc := 288) (by decide +kernel) ?_
  refine ja_sld (pc := 289) (i := i + 1) hX (by decide +kernel) (ja_ad 1 1 (by decide +kernel)) (by omega) (by omega) ?_
  refine ja_bind hf (fun u hu hf => ?_)
  refine ja_callVi (pc := 290) (idx := 22) (t := 8) (b := 45) (as := [.int (xs (i + 1))]) (st := [.int v.1]) (by decide +kernel) kv_Model_parseSheet lk_Law_22 ⟨by decide, by decide⟩ (c_Model_parseSheet _ _ 45 (xs (i + 1)) ob45 hu) ob45 rfl (Nat.le_of_ble_eq_true rfl) rfl ?_
  refine ja_icmp_eq (pc := 293) (off := 842) 1135 (by decide +kernel) (by decide) hf (fun hf => ?_) (fun hf => by cases hf)
  cases hf
  exact kk
theorem lc_2 {C : ja_C} {L i : Nat} {xs : Nat → Int32} {sg sg2 : ja_S} {zz : ja_Z} (hX : ja_hX C L xs) (hi : i + 6 ≤ L) (hL : L ≤ 3072) (hf : ja_case 2 (fun j => xs (i + j)) sg = some sg2) (kk : ja_J M_law C 1135 [(0, .ref 3000), (1, .ref 0), (2, .ref 45), (3, .int (nI i))] [] ja_L0 sg2 zz) : ja_J M_law C 298 [(0, .ref 3000), (1, .ref 0), (2, .ref 45), (3, .int (nI i))] [] ja_L0 sg zz := by
  unfold ja_case at hf
  refine ja_aload_n (pc := 298) (f := 1) (i := 1) 1 (by decide +kernel) rfl rfl ?_
  refine ja_bind hf (fun v hv hf => ?_)
  refine ja_callVi (pc := 299) (idx := 23) (t := 7) (b := 0) (as := []) (st := []) (by decide +kernel) kv_Frame_parseError lk_Law_23 ⟨by decide, by decide⟩ (c_Frame_parseError _ _ 0  ob0 hv) ob0 rfl (Nat.le_of_ble_eq_true rfl) rfl ?_
  refine ja_aload_n (pc := 302) (f := 2) (i := 2) 2 (by decide +kernel) rfl rfl ?_
  refine ja_bind hf (fun u hu hf => ?_)
  refine ja_callVi (pc := 303) (idx := 27) (t := 8) (b := 45) (as := []) (st := [.int v.1]) (by decide +kernel) kv_Model_parseError lk_Law_27 ⟨by decide, by decide⟩ (c_Model_parseError _ _ 45  ob45 hu) ob45 rfl (Nat.le_of_ble_eq_true rfl) rfl ?_
  refine ja_icmp_eq (pc := 306) (off := 829) 1135 (by decide +kernel) (by decide) hf (fun hf => ?_) (fun hf => by cases hf)
  cases hf
  exact kk
theorem lc_3 {C : ja_C} {L i : Nat} {xs : Nat → Int32} {sg sg2 : ja_S} {zz : ja_Z} (hX : ja_hX C L xs) (hi : i + 6 ≤ L) (hL : L ≤ 3072) (hf : ja_case 3 (fun j => xs (i + j)) sg = some sg2) (kk : ja_J M_law C 1135 [(0, .ref 3000), (1, .ref 0), (2, .ref 45), (3, .int (nI i))] [] ja_L0 sg2 zz) : ja_J M_law C 311 [(0, .ref 3000), (1, .ref 0), (2, .ref 45), (3, .int (nI i))] [] ja_L0 sg zz := by
  unfold ja_case at hf
  refine ja_aload_n (pc := 311) (f := 1) (i := 1) 1 (by decide +kernel) rfl rfl ?_
  refine ja_bind hf (fun v hv hf => ?_)
  refine ja_callVi (pc := 312) (idx := 28) (t := 7) (b := 0) (as := []) (st := []) (by decide +kernel) kv_Frame_parseErrorOffset lk_Law_28 ⟨by decide, by decide⟩ (c_Frame_parseErrorOffset _ _ 0  ob0 hv) ob0 rfl (Nat.le_of_ble_eq_true rfl) rfl ?_
  refine ja_aload_n (pc := 315) (f := 2) (i := 2) 2 (by decide +kernel) rfl rfl ?_
  refine ja_bind hf (fun u hu hf => ?_)
  refine ja_callVi (pc := 316) (idx := 31) (t := 8) (b := 45) (as := []) (st := [.int v.1]) (by decide +kernel) kv_Model_parseErrorOffset lk_Law_31 ⟨by decide, by decide⟩ (c_Model_parseErrorOffset _ _ 45  ob45 hu) ob45 rfl (Nat.le_of_ble_eq_true rfl) rfl ?_
  refine ja_icmp_eq (pc := 319) (off := 816) 1135 (by decide +kernel) (by decide) hf (fun hf => ?_) (fun hf => by cases hf)
  cases hf
  exact kk
theorem lc_4 {C : ja_C} {L i : Nat} {xs : Nat → Int32} {sg sg2 : ja_S} {zz : ja_Z} (hX : ja_hX C L xs) (hi : i + 6 ≤ L) (hL : L ≤ 3072) (hf : ja_case 4 (fun j => xs (i + j)) sg = some sg2) (kk : ja_J M_law C 1135 [(0, .ref 3000), (1, .ref 0), (2, .ref 45), (3, .int (nI i))] [] ja_L0 sg2 zz) : ja_J M_law C 324 [(0, .ref 3000), (1, .ref 0), (2, .ref 45), (3, .int (nI i))] [] ja_L0 sg zz := by
  unfold ja_case at hf
  refine ja_aload_n (pc := 324) (f := 1) (i := 1) 1 (by decide +kernel) rfl rfl ?_
  refine ja_bind hf (fun v hv hf => ?_)
  refine ja_callVi (pc := 325) (idx := 32) (t := 7) (b := 0) (as := []) (st := []) (by decide +kernel) kv_Frame_bufferLength lk_Law_32 ⟨by decide, by decide⟩ (c_Frame_bufferLength _ _ 0  ob0 hv) ob0 rfl (Nat.le_of_ble_eq_true rfl) rfl ?_
  refine ja_aload_n (pc := 328) (f := 2) (i := 2) 2 (by decide +kernel) rfl rfl ?_
  refine ja_bind hf (fun u hu hf => ?_)
  refine ja_callVi (pc := 329) (idx := 35) (t := 8) (b := 45) (as := []) (st := [.int v.1]) (by decide +kernel) kv_Model_bufferLength lk_Law_35 ⟨by decide, by decide⟩ (c_Model_bufferLength _ _ 45  ob45 hu) ob45 rfl (Nat.le_of_ble_eq_true rfl) rfl ?_
  refine ja_icmp_eq (pc := 332) (off := 803) 1135 (by decide +kernel) (by decide) hf (fun hf => ?_) (fun hf => by cases hf)
  cases hf
  exact kk
theorem lc_5 {C : ja_C} {L i : Nat} {xs : Nat → Int32} {sg sg2 : ja_S} {zz : ja_Z} (hX : ja_hX C L xs) (hi : i + 6 ≤ L) (hL : L ≤ 3072) (hf : ja_case 5 (fun j => xs (i + j)) sg = some sg2) (kk : ja_J M_law C 1135 [(0, .ref 3000), (1, .ref 0), (2, .ref 45), (3, .int (nI i))] [] ja_L0 sg2 zz) : ja_J M_law C 337 [(0, .ref 3000), (1, .ref 0), (2, .ref 45), (3, .int (nI i))] [] ja_L0 sg zz := by
  unfold ja_case at hf
  refine ja_aload_n (pc := 337) (f := 1) (i := 1) 1 (by decide +kernel) rfl rfl ?_
  refine ja_bind hf (fun v hv hf => ?_)
  refine ja_callVi (pc := 338) (idx := 36) (t := 7) (b := 0) (as := []) (st := []) (by decide +kernel) kv_Frame_leverCount lk_Law_36 ⟨by decide, by decide⟩ (c_Frame_leverCount _ _ 0  ob0 hv) ob0 rfl (Nat.le_of_ble_eq_true rfl) rfl ?_
  refine ja_aload_n (pc := 341) (f := 2) (i := 2) 2 (by decide +kernel) rfl rfl ?_
  refine ja_bind hf (fun u hu hf => ?_)
  refine ja_callVi (pc := 342) (idx := 39) (t := 8) (b := 45) (as := []) (st := [.int v.1]) (by decide +kernel) kv_Model_leverCount lk_Law_39 ⟨by decide, by decide⟩ (c_Model_leverCount _ _ 45  ob45 hu) ob45 rfl (Nat.le_of_ble_eq_true rfl) rfl ?_
  refine ja_icmp_eq (pc := 345) (off := 790) 1135 (by decide +kernel) (by decide) hf (fun hf => ?_) (fun hf => by cases hf)
  cases hf
  exact kk
theorem lc_6 {C : ja_C} {L i : Nat} {xs : Nat → Int32} {sg sg2 : ja_S} {zz : ja_Z} (hX : ja_hX C L xs) (hi : i + 6 ≤ L) (hL : L ≤ 3072) (hf : ja_case 6 (fun j => xs (i + j)) sg = some sg2) (kk : ja_J M_law C 1135 [(0, .ref 3000), (1, .ref 0), (2, .ref 45), (3, .int (nI i))] [] ja_L0 sg2 zz) : ja_J M_law C 350 [(0, .ref 3000), (1, .ref 0), (2, .ref 45), (3, .int (nI i))] [] ja_L0 sg zz := by
  unfold ja_case at hf
  refine ja_aload_n (pc := 350) (f := 1) (i := 1) 1 (by decide +kernel) rfl rfl ?_
  refine ja_bind hf (fun v hv hf => ?_)
  refine ja_callVi (pc := 351) (idx := 40) (t := 7) (b := 0) (as := []) (st := []) (by decide +kernel) kv_Frame_ruleCount lk_Law_40 ⟨by decide, by decide⟩ (c_Frame_ruleCount _ _ 0  ob0 hv) ob0 rfl (Nat.le_of_ble_eq_true rfl) rfl ?_
  refine ja_aload_n (pc := 354) (f := 2) (i := 2) 2 (by decide +kernel) rfl rfl ?_
  refine ja_bind hf (fun u hu hf => ?_)
  refine ja_callVi (pc := 355) (idx := 43) (t := 8) (b := 45) (as := []) (st := [.int v.1]) (by decide +kernel) kv_Model_ruleCount lk_Law_43 ⟨by decide, by decide⟩ (c_Model_ruleCount _ _ 45  ob45 hu) ob45 rfl (Nat.le_of_ble_eq_true rfl) rfl ?_
  refine ja_icmp_eq (pc := 358) (off := 777) 1135 (by decide +kernel) (by decide) hf (fun hf => ?_) (fun hf => by cases hf)
  cases hf
  exact kk
theorem lc_7 {C : ja_C} {L i : Nat} {xs : Nat → Int32} {sg sg2 : ja_S} {zz : ja_Z} (hX : ja_hX C L xs) (hi : i + 6 ≤ L) (hL : L ≤ 3072) (hf : ja_case 7 (fun j => xs (i + j)) sg = some sg2) (kk : ja_J M_law C 1135 [(0, .ref 3000), (1, .ref 0), (2, .ref 45), (3, .int (nI i))] [] ja_L0 sg2 zz) : ja_J M_law C 363 [(0, .ref 3000), (1, .ref 0), (2, .ref 45), (3, .int (nI i))] [] ja_L0 sg zz := by
  unfold ja_case at hf
  refine ja_aload_n (pc := 363) (f := 1) (i := 1) 1 (by decide +kernel) rfl rfl ?_
  refine ja_aload_n (pc := 364) (f := 0) (i := 0) 0 (by decide +kernel) rfl rfl ?_
  refine ja_iload_n (pc := 365) (f := 3) (i := 3) 3 (by decide +kernel) rfl rfl ?_
  refine ja_iconst (pc := 366) (n := 1) (v := 1) (by decide +kernel) (by decide +kernel) ?_
  refine ja_iadd (pc := 367) (by decide +kernel) ?_
  refine ja_sld (pc := 368) (i := i + 1) hX (by decide +kernel) (ja_ad 1 1 (by decide +kernel)) (by omega) (by omega) ?_
  refine ja_bind hf (fun v hv hf => ?_)
  refine ja_callVi (pc := 369) (idx := 44) (t := 7) (b := 0) (as := [.int (xs (i + 1))]) (st := []) (by decide +kernel) kv_Frame_ruleKind lk_Law_44 ⟨by decide, by decide⟩ (c_Frame_ruleKind _ _ 0 (xs (i + 1)) ob0 hv) ob0 rfl (Nat.le_of_ble_eq_true rfl) rfl ?_
  refine ja_aload_n (pc := 372) (f := 2) (i := 2) 2 (by decide +kernel) rfl rfl ?_
  refine ja_aload_n (pc := 373) (f := 0) (i := 0) 0 (by decide +kernel) rfl rfl ?_
  refine ja_iload_n (pc := 374) (f := 3) (i := 3) 3 (by decide +kernel) rfl rfl ?_
  refine ja_iconst (pc := 375) (n := 1) (v := 1) (by decide +kernel) (by decide +kernel) ?_
  refine ja_iadd (pc := 376) (by decide +kernel) ?_
  refine ja_sld (pc := 377) (i := i + 1) hX (by decide +kernel) (ja_ad 1 1 (by decide +kernel)) (by omega) (by omega) ?_
  refine ja_bind hf (fun u hu hf => ?_)
  refine ja_callVi (pc := 378) (idx := 47) (t := 8) (b := 45) (as := [.int (xs (i + 1))]) (st := [.int v.1]) (by decide +kernel) kv_Model_ruleKind lk_Law_47 ⟨by decide, by decide⟩ (c_Model_ruleKind _ _ 45 (xs (i + 1)) ob45 hu) ob45 rfl (Nat.le_of_ble_eq_true rfl) rfl ?_
  refine ja_icmp_eq (pc := 381) (off := 754) 1135 (by decide +kernel) (by decide) hf (fun hf => ?_) (fun hf => by cases hf)
  cases hf
  exact kk
theorem lc_8 {C : ja_C} {L i : Nat} {xs : Nat → Int32} {sg sg2 : ja_S} {zz : ja_Z} (hX : ja_hX C L xs) (hi : i + 6 ≤ L) (hL : L ≤ 3072) (hf : ja_case 8 (fun j => xs (i + j)) sg = some sg2) (kk : ja_J M_law C 1135 [(0, .ref 3000), (1, .ref 0), (2, .ref 45), (3, .int (nI i))] [] ja_L0 sg2 zz) : ja_J M_law C 386 [(0, .ref 3000), (1, .ref 0), (2, .ref 45), (3, .int (nI i))] [] ja_L0 sg zz := by
  unfold ja_case at hf
  refine ja_aload_n (pc := 386) (f := 1) (i := 1) 1 (by decide +kernel) rfl rfl ?_
  refine ja_aload_n (pc := 387) (f := 0) (i := 0) 0 (by decide +kernel) rfl rfl ?_
  refine ja_iload_n (pc := 388) (f := 3) (i := 3) 3 (by decide +kernel) rfl rfl ?_
  refine ja_iconst (pc := 389) (n := 1) (v := 1) (by decide +kernel) (by decide +kernel) ?_
  refine ja_iadd (pc := 390) (by decide +kernel) ?_
  refine ja_sld (pc := 391) (i := i + 1) hX (by decide +kernel) (ja_ad 1 1 (by decide +kernel)) (by omega) (by omega) ?_
  refine ja_bind hf (fun v hv hf => ?_)
  refine ja_callVi (pc := 392) (idx := 48) (t := 7) (b := 0) (as := [.int (xs (i + 1))]) (st := []) (by decide +kernel) kv_Frame_ruleLevers lk_Law_48 ⟨by decide, by decide⟩ (c_Frame_ruleLevers _ _ 0 (xs (i + 1)) ob0 hv) ob0 rfl (Nat.le_of_ble_eq_true rfl) rfl ?_
  refine ja_aload_n (pc := 395) (f := 2) (i := 2) 2 (by decide +kernel) rfl rfl ?_
  refine ja_aload_n (pc := 396) (f := 0) (i := 0) 0 (by decide +kernel) rfl rfl ?_
  refine ja_iload_n (pc := 397) (f := 3) (i := 3) 3 (by decide +kernel) rfl rfl ?_
  refine ja_iconst (pc := 398) (n := 1) (v := 1) (by decide +kernel) (by decide +kernel) ?_
  refine ja_iadd (pc := 399) (by decide +kernel) ?_
  refine ja_sld (pc := 400) (i := i + 1) hX (by decide +kernel) (ja_ad 1 1 (by decide +kernel)) (by omega) (by omega) ?_
  refine ja_bind hf (fun u hu hf => ?_)
  refine ja_callVi (pc := 401) (idx := 51) (t := 8) (b := 45) (as := [.int (xs (i + 1))]) (st := [.int v.1]) (by decide +kernel) kv_Model_ruleLevers lk_Law_51 ⟨by decide, by decide⟩ (c_Model_ruleLevers _ _ 45 (xs (i + 1)) ob45 hu) ob45 rfl (Nat.le_of_ble_eq_true rfl) rfl ?_
  refine ja_icmp_eq (pc := 404) (off := 731) 1135 (by decide +kernel) (by decide) hf (fun hf => ?_) (fun hf => by cases hf)
  cases hf
  exact kk
theorem lc_9 {C : ja_C} {L i : Nat} {xs : Nat → Int32} {sg sg2 : ja_S} {zz : ja_Z} (hX : ja_hX C L xs) (hi : i + 6 ≤ L) (hL : L ≤ 3072) (hf : ja_case 9 (fun j => xs (i + j)) sg = some sg2) (kk : ja_J M_law C 1135 [(0, .ref 3000), (1, .ref 0), (2, .ref 45), (3, .int (nI i))] [] ja_L0 sg2 zz) : ja_J M_law C 409 [(0, .ref 3000), (1, .ref 0), (2, .ref 45), (3, .int (nI i))] [] ja_L0 sg zz := by
  unfold ja_case at hf
  refine ja_aload_n (pc := 409) (f := 1) (i := 1) 1 (by decide +kernel) rfl rfl ?_
  refine ja_aload_n (pc := 410) (f := 0) (i := 0) 0 (by decide +kernel) rfl rfl ?_
  refine ja_iload_n (pc := 411) (f := 3) (i := 3) 3 (by decide +kernel) rfl rfl ?_
  refine ja_iconst (pc := 412) (n := 1) (v := 1) (by decide +kernel) (by decide +kernel) ?_
  refine ja_iadd (pc := 413) (by decide +kernel) ?_
  refine ja_sld (pc := 414) (i := i + 1) hX (by decide +kernel) (ja_ad 1 1 (by decide +kernel)) (by omega) (by omega) ?_
  refine ja_bind hf (fun v hv hf => ?_)
  refine ja_callVi (pc := 415) (idx := 52) (t := 7) (b := 0) (as := [.int (xs (i + 1))]) (st := []) (by decide +kernel) kv_Frame_ruleCondition lk_Law_52 ⟨by decide, by decide⟩ (c_Frame_ruleCondition _ _ 0 (xs (i + 1)) ob0 hv) ob0 rfl (Nat.le_of_ble_eq_true rfl) rfl ?_
  refine ja_aload_n (pc := 418) (f := 2) (i := 2) 2 (by decide +kernel) rfl rfl ?_
  refine ja_aload_n (pc := 419) (f := 0) (i := 0) 0 (by decide +kernel) rfl rfl ?_
  refine ja_iload_n (pc := 420) (f := 3) (i := 3) 3 (by decide +kernel) rfl rfl ?_
  refine ja_iconst (pc := 421) (n := 1) (v := 1) (by decide +kernel) (by decide +kernel) ?_
  refine ja_iadd (pc := 422) (by decide +kernel) ?_
  refine ja_sld (pc := 423) (i := i + 1) hX (by decide +kernel) (ja_ad 1 1 (by decide +kernel)) (by omega) (by omega) ?_
  refine ja_bind hf (fun u hu hf => ?_)
  refine ja_callVi (pc := 424) (idx := 55) (t := 8) (b := 45) (as := [.int (xs (i + 1))]) (st := [.int v.1]) (by decide +kernel) kv_Model_ruleCondition lk_Law_55 ⟨by decide, by decide⟩ (c_Model_ruleCondition _ _ 45 (xs (i + 1)) ob45 hu) ob45 rfl (Nat.le_of_ble_eq_true rfl) rfl ?_
  refine ja_icmp_eq (pc := 427) (off := 708) 1135 (by decide +kernel) (by decide) hf (fun hf => ?_) (fun hf => by cases hf)
  cases hf
  exact kk
theorem lc_10 {C : ja_C} {L i : Nat} {xs : Nat → Int32} {sg sg2 : ja_S} {zz : ja_Z} (hX : ja_hX C L xs) (hi : i + 6 ≤ L) (hL : L ≤ 3072) (hf : ja_case 10 (fun j => xs (i + j)) sg = some sg2) (kk : ja_J M_law C 1135 [(0, .ref 3000), (1, .ref 0), (2, .ref 45), (3, .int (nI i))] [] ja_L0 sg2 zz) : ja_J M_law C 432 [(0, .ref 3000), (1, .ref 0), (2, .ref 45), (3, .int (nI i))] [] ja_L0 sg zz := by
  unfold ja_case at hf
  refine ja_aload_n (pc := 432) (f := 1) (i := 1) 1 (by decide +kernel) rfl rfl ?_
  refine ja_bind hf (fun v hv hf => ?_)
  refine ja_callVi (pc := 433) (idx := 56) (t := 7) (b := 0) (as := []) (st := []) (by decide +kernel) kv_Frame_routeCount lk_Law_56 ⟨by decide, by decide⟩ (c_Frame_routeCount _ _ 0  ob0 hv) ob0 rfl (Nat.le_of_ble_eq_true rfl) rfl ?_
  refine ja_aload_n (pc := 436) (f := 2) (i := 2) 2 (by decide +kernel) rfl rfl ?_
  refine ja_bind hf (fun u hu hf => ?_)
  refine ja_callVi (pc := 437) (idx := 59) (t := 8) (b := 45) (as := []) (st := [.int v.1]) (by decide +kernel) kv_Model_routeCount lk_Law_59 ⟨by decide, by decide⟩ (c_Model_routeCount _ _ 45  ob45 hu) ob45 rfl (Nat.le_of_ble_eq_true rfl) rfl ?_
  refine ja_icmp_eq (pc := 440) (off := 695) 1135 (by decide +kernel) (by decide) hf (fun hf => ?_) (fun hf => by cases hf)
  cases hf
  exact kk
theorem lc_11 {C : ja_C} {L i : Nat} {xs : Nat → Int32} {sg sg2 : ja_S} {zz : ja_Z} (hX : ja_hX C L xs) (hi : i + 6 ≤ L) (hL : L ≤ 3072) (hf : ja_case 11 (fun j => xs (i + j)) sg = some sg2) (kk : ja_J M_law C 1135 [(0, .ref 3000), (1, .ref 0), (2, .ref 45), (3, .int (nI i))] [] ja_L0 sg2 zz) : ja_J M_law C 445 [(0, .ref 3000), (1, .ref 0), (2, .ref 45), (3, .int (nI i))] [] ja_L0 sg zz := by
  unfold ja_case at hf
  refine ja_aload_n (pc := 445) (f := 1) (i := 1) 1 (by decide +kernel) rfl rfl ?_
  refine ja_aload_n (pc := 446) (f := 0) (i := 0) 0 (by decide +kernel) rfl rfl ?_
  refine ja_iload_n (pc := 447) (f := 3) (i := 3) 3 (by decide +kernel) rfl rfl ?_
  refine ja_iconst (pc := 448) (n := 1) (v := 1) (by decide +kernel) (by decide +kernel) ?_
  refine ja_iadd (pc := 449) (by decide +kernel) ?_
  refine ja_sld (pc := 450) (i := i + 1) hX (by decide +kernel) (ja_ad 1 1 (by decide +kernel)) (by omega) (by omega) ?_
  refine ja_bind hf (fun v hv hf => ?_)
  refine ja_callVi (pc := 451) (idx := 60) (t := 7) (b := 0) (as := [.int (xs (i + 1))]) (st := []) (by decide +kernel) kv_Frame_routeLevers lk_Law_60 ⟨by decide, by decide⟩ (c_Frame_routeLevers _ _ 0 (xs (i + 1)) ob0 hv) ob0 rfl (Nat.le_of_ble_eq_true rfl) rfl ?_
  refine ja_aload_n (pc := 454) (f := 2) (i := 2) 2 (by decide +kernel) rfl rfl ?_
  refine ja_aload_n (pc := 455) (f := 0) (i := 0) 0 (by decide +kernel) rfl rfl ?_
  refine ja_iload_n (pc := 456) (f := 3) (i := 3) 3 (by decide +kernel) rfl rfl ?_
  refine ja_iconst (pc := 457) (n := 1) (v := 1) (by decide +kernel) (by decide +kernel) ?_
  refine ja_iadd (pc := 458) (by decide +kernel) ?_
  refine ja_sld (pc := 459) (i := i + 1) hX (by decide +kernel) (ja_ad 1 1 (by decide +kernel)) (by omega) (by omega) ?_
  refine ja_bind hf (fun u hu hf => ?_)
  refine ja_callVi (pc := 460) (idx := 63) (t := 8) (b := 45) (as := [.int (xs (i + 1))]) (st := [.int v.1]) (by decide +kernel) kv_Model_routeLevers lk_Law_63 ⟨by decide, by decide⟩ (c_Model_routeLevers _ _ 45 (xs (i + 1)) ob45 hu) ob45 rfl (Nat.le_of_ble_eq_true rfl) rfl ?_
  refine ja_icmp_eq (pc := 463) (off := 672) 1135 (by decide +kernel) (by decide) hf (fun hf => ?_) (fun hf => by cases hf)
  cases hf
  exact kk
theorem lc_12 {C : ja_C} {L i : Nat} {xs : Nat → Int32} {sg sg2 : ja_S} {zz : ja_Z} (hX : ja_hX C L xs) (hi : i + 6 ≤ L) (hL : L ≤ 3072) (hf : ja_case 12 (fun j => xs (i + j)) sg = some sg2) (kk : ja_J M_law C 1135 [(0, .ref 3000), (1, .ref 0), (2, .ref 45), (3, .int (nI i))] [] ja_L0 sg2 zz) : ja_J M_law C 468 [(0, .ref 3000), (1, .ref 0), (2, .ref 45), (3, .int (nI i))] [] ja_L0 sg zz := by
  unfold ja_case at hf
  refine ja_aload_n (pc := 468) (f := 1) (i := 1) 1 (by decide +kernel) rfl rfl ?_
  refine ja_bind hf (fun v hv hf => ?_)
  refine ja_callVi (pc := 469) (idx := 64) (t := 7) (b := 0) (as := []) (st := []) (by decide +kernel) kv_Frame_conflictCount lk_Law_64 ⟨by decide, by decide⟩ (c_Frame_conflictCount _ _ 0  ob0 hv) ob0 rfl (Nat.le_of_ble_eq_true rfl) rfl ?_
  refine ja_aload_n (pc := 472) (f := 2) (i := 2) 2 (by decide +kernel) rfl rfl ?_
  refine ja_bind hf (fun u hu hf => ?_)
  refine ja_callVi (pc := 473) (idx := 67) (t := 8) (b := 45) (as := []) (st := [.int v.1]) (by decide +kernel) kv_Model_conflictCount lk_Law_67 ⟨by decide, by decide⟩ (c_Model_conflictCount _ _ 45  ob45 hu) ob45 rfl (Nat.le_of_ble_eq_true rfl) rfl ?_
  refine ja_icmp_eq (pc := 476) (off := 659) 1135 (by decide +kernel) (by decide) hf (fun hf => ?_) (fun hf => by cases hf)
  cases hf
  exact kk
theorem lc_13 {C : ja_C} {L i : Nat} {xs : Nat → Int32} {sg sg2 : ja_S} {zz : ja_Z} (hX : ja_hX C L xs) (hi : i + 6 ≤ L) (hL : L ≤ 3072) (hf : ja_case 13 (fun j => xs (i + j)) sg = some sg2) (kk : ja_J M_law C 1135 [(0, .ref 3000), (1, .ref 0), (2, .ref 45), (3, .int (nI i))] [] ja_L0 sg2 zz) : ja_J M_law C 481 [(0, .ref 3000), (1, .ref 0), (2, .ref 45), (3, .int (nI i))] [] ja_L0 sg zz := by
  unfold ja_case at hf
  refine ja_aload_n (pc := 481) (f := 1) (i := 1) 1 (by decide +kernel) rfl rfl ?_
  refine ja_bind hf (fun v hv hf => ?_)
  refine ja_callVi (pc := 482) (idx := 68) (t := 7) (b := 0) (as := []) (st := []) (by decide +kernel) kv_Frame_currentState lk_Law_68 ⟨by decide, by decide⟩ (c_Frame_currentState _ _ 0  ob0 hv) ob0 rfl (Nat.le_of_ble_eq_true rfl) rfl ?_
  refine ja_aload_n (pc := 485) (f := 2) (i := 2) 2 (by decide +kernel) rfl rfl ?_
  refine ja_bind hf (fun u hu hf => ?_)
  refine ja_callVi (pc := 486) (idx := 71) (t := 8) (b := 45) (as := []) (st := [.int v.1]) (by decide +kernel) kv_Model_currentState lk_Law_71 ⟨by decide, by decide⟩ (c_Model_currentState _ _ 45  ob45 hu) ob45 rfl (Nat.le_of_ble_eq_true rfl) rfl ?_
  refine ja_icmp_eq (pc := 489) (off := 646) 1135 (by decide +kernel) (by decide) hf (fun hf => ?_) (fun hf => by cases hf)
  cases hf
  exact kk
theorem lc_14 {C : ja_C} {L i : Nat} {xs : Nat → Int32} {sg sg2 : ja_S} {zz : ja_Z} (hX : ja_hX C L xs) (hi : i + 6 ≤ L) (hL : L ≤ 3072) (hf : ja_case 14 (fun j => xs (i + j)) sg = some sg2) (kk : ja_J M_law C 1135 [(0, .ref 3000), (1, .ref 0), (2, .ref 45), (3, .int (nI i))] [] ja_L0 sg2 zz) : ja_J M_law C 494 [(0, .ref 3000), (1, .ref 0), (2, .ref 45), (3, .int (nI i))] [] ja_L0 sg zz := by
  unfold ja_case at hf
  refine ja_aload_n (pc := 494) (f := 1) (i := 1) 1 (by decide +kernel) rfl rfl ?_
  refine ja_aload_n (pc := 495) (f := 0) (i := 0) 0 (by decide +kernel) rfl rfl ?_
  refine ja_iload_n (pc := 496) (f := 3) (i := 3) 3 (by decide +kernel) rfl rfl ?_
  refine ja_iconst (pc := 497) (n := 1) (v := 1) (by decide +kernel) (by decide +kernel) ?_
  refine ja_iadd (pc := 498) (by decide +kernel) ?_
  refine ja_sld (pc := 499) (i := i + 1) hX (by decide +kernel) (ja_ad 1 1 (by decide +kernel)) (by omega) (by omega) ?_
  refine ja_bind hf (fun v hv hf => ?_)
  refine ja_callVi (pc := 500) (idx := 72) (t := 7) (b := 0) (as := [.int (xs (i + 1))]) (st := []) (by decide +kernel) kv_Frame_moveLever lk_Law_72 ⟨by decide, by decide⟩ (c_Frame_moveLever _ _ 0 (xs (i + 1)) ob0 hv) ob0 rfl (Nat.le_of_ble_eq_true rfl) rfl ?_
  refine ja_aload_n (pc := 503) (f := 2) (i := 2) 2 (by decide +kernel) rfl rfl ?_
  refine ja_aload_n (pc := 504) (f := 0) (i := 0) 0 (by decide +kernel) rfl rfl ?_
  refine ja_iload_n (pc := 505) (f := 3) (i := 3) 3 (by decide +kernel) rfl rfl ?_
  refine ja_iconst (pc := 506) (n := 1) (v := 1) (by decide +kernel) (by decide +kernel) ?_
  refine ja_iadd (pc := 507) (by decide +kernel) ?_
  refine ja_sld (pc := 508) (i := i + 1) hX (by decide +kernel) (ja_ad 1 1 (by decide +kernel)) (by omega) (by omega) ?_
  refine ja_bind hf (fun u hu hf => ?_)
  refine ja_callVi (pc := 509) (idx := 75) (t := 8) (b := 45) (as := [.int (xs (i + 1))]) (st := [.int v.1]) (by decide +kernel) kv_Model_moveLever lk_Law_75 ⟨by decide, by decide⟩ (c_Model_moveLever _ _ 45 (xs (i + 1)) ob45 hu) ob45 rfl (Nat.le_of_ble_eq_true rfl) rfl ?_
  refine ja_icmp_eq (pc := 512) (off := 623) 1135 (by decide +kernel) (by decide) hf (fun hf => ?_) (fun hf => by cases hf)
  cases hf
  exact kk
theorem lc_15 {C : ja_C} {L i : Nat} {xs : Nat → Int32} {sg sg2 : ja_S} {zz : ja_Z} (hX : ja_hX C L xs) (hi : i + 6 ≤ L) (hL : L ≤ 3072) (hf : ja_case 15 (fun j => xs (i + j)) sg = some sg2) (kk : ja_J M_law C 1135 [(0, .ref 3000), (1, .ref 0), (2, .ref 45), (3, .int (nI i))] [] ja_L0 sg2 zz) : ja_J M_law C 517 [(0, .ref 3000), (1, .ref 0), (2, .ref 45), (3, .int (nI i))] [] ja_L0 sg zz := by
  unfold ja_case at hf
  refine ja_aload_n (pc := 517) (f := 1) (i := 1) 1 (by decide +kernel) rfl rfl ?_
  refine ja_aload_n (pc := 518) (f := 0) (i := 0) 0 (by decide +kernel) rfl rfl ?_
  refine ja_iload_n (pc := 519) (f := 3) (i := 3) 3 (by decide +kernel) rfl rfl ?_
  refine ja_iconst (pc := 520) (n := 1) (v := 1) (by decide +kernel) (by decide +kernel) ?_
  refine ja_iadd (pc := 521) (by decide +kernel) ?_
  refine ja_sld (pc := 522) (i := i + 1) hX (by decide +kernel) (ja_ad 1 1 (by decide +kernel)) (by omega) (by omega) ?_
  refine ja_aload_n (pc := 523) (f := 0) (i := 0) 0 (by decide +kernel) rfl rfl ?_
  refine ja_iload_n (pc := 524) (f := 3) (i := 3) 3 (by decide +kernel) rfl rfl ?_
  refine ja_iconst (pc := 525) (n := 2) (v := 2) (by decide +kernel) (by decide +kernel) ?_
  refine ja_iadd (pc := 526) (by decide +kernel) ?_
  refine ja_sld (pc := 527) (i := i + 2) hX (by decide +kernel) (ja_ad 2 2 (by decide +kernel)) (by omega) (by omega) ?_
  refine ja_aload_n (pc := 528) (f := 0) (i := 0) 0 (by decide +kernel) rfl rfl ?_
  refine ja_iload_n (pc := 529) (f := 3) (i := 3) 3 (by decide +kernel) rfl rfl ?_
  refine ja_iconst (pc := 530) (n := 3) (v := 3) (by decide +kernel) (by decide +kernel) ?_
  refine ja_iadd (pc := 531) (by decide +kernel) ?_
  refine ja_sld (pc := 532) (i := i + 3) hX (by decide +kernel) (ja_ad 3 3 (by decide +kernel)) (by omega) (by omega) ?_
  refine ja_aload_n (pc := 533) (f := 0) (i := 0) 0 (by decide +kernel) rfl rfl ?_
  refine ja_iload_n (pc := 534) (f := 3) (i := 3) 3 (by decide +kernel) rfl rfl ?_
  refine ja_iconst (pc := 535) (n := 4) (v := 4) (by decide +kernel) (by decide +kernel) ?_
  refine ja_iadd (pc := 536) (by decide +kernel) ?_
  refine ja_sld (pc := 537) (i := i + 4) hX (by decide +kernel) (ja_ad 4 4 (by decide +kernel)) (by omega) (by omega) ?_
  refine ja_bind hf (fun v hv hf => ?_)
  refine ja_callVi (pc := 538) (idx := 76) (t := 7) (b := 0) (as := [.int (xs (i + 1)), .int (xs (i + 2)), .int (xs (i + 3)), .int (xs (i + 4))]) (st := []) (by decide +kernel) kv_Frame_addRule lk_Law_76 ⟨by decide, by decide⟩ (c_Frame_addRule _ _ 0 (xs (i + 1)) (xs (i + 2)) (xs (i + 3)) (xs (i + 4)) ob0 hv) ob0 rfl (Nat.le_of_ble_eq_true rfl) rfl ?_
  refine ja_aload_n (pc := 541) (f := 2) (i := 2) 2 (by decide +kernel) rfl rfl ?_
  refine ja_aload_n (pc := 542) (f := 0) (i := 0) 0 (by decide +kernel) rfl rfl ?_
  refine ja_iload_n (pc := 543) (f := 3) (i := 3) 3 (by decide +kernel) rfl rfl ?_
  refine ja_iconst (pc := 544) (n := 1) (v := 1) (by decide +kernel) (by decide +kernel) ?_
  refine ja_iadd (pc := 545) (by decide +kernel) ?_
  refine ja_sld (pc := 546) (i := i + 1) hX (by decide +kernel) (ja_ad 1 1 (by decide +kernel)) (by omega) (by omega) ?_
  refine ja_aload_n (pc := 547) (f := 0) (i := 0) 0 (by decide +kernel) rfl rfl ?_
  refine ja_iload_n (pc := 548) (f := 3) (i := 3) 3 (by decide +kernel) rfl rfl ?_
  refine ja_iconst (pc := 549) (n := 2) (v := 2) (by decide +kernel) (by decide +kernel) ?_
  refine ja_iadd (pc := 550) (by decide +kernel) ?_
  refine ja_sld (pc := 551) (i := i + 2) hX (by decide +kernel) (ja_ad 2 2 (by decide +kernel)) (by omega) (by omega) ?_
  refine ja_aload_n (pc := 552) (f := 0) (i := 0) 0 (by decide +kernel) rfl rfl ?_
  refine ja_iload_n (pc := 553) (f := 3) (i := 3) 3 (by decide +kernel) rfl rfl ?_
  refine ja_iconst (pc := 554) (n := 3) (v := 3) (by decide +kernel) (by decide +kernel) ?_
  refine ja_iadd (pc := 555) (by decide +kernel) ?_
  refine ja_sld (pc := 556) (i := i + 3) hX (by decide +kernel) (ja_ad 3 3 (by decide +kernel)) (by omega) (by omega) ?_
  refine ja_aload_n (pc := 557) (f := 0) (i := 0) 0 (by decide +kernel) rfl rfl ?_
  refine ja_iload_n (pc := 558) (f := 3) (i := 3) 3 (by decide +kernel) rfl rfl ?_
  refine ja_iconst (pc := 559) (n := 4) (v := 4) (by decide +kernel) (by decide +kernel) ?_
  refine ja_iadd (pc := 560) (by decide +kernel) ?_
  refine ja_sld (pc := 561) (i := i + 4) hX (by decide +kernel) (ja_ad 4 4 (by decide +kernel)) (by omega) (by omega) ?_
  refine ja_bind hf (fun u hu hf => ?_)
  refine ja_callVi (pc := 562) (idx := 80) (t := 8) (b := 45) (as := [.int (xs (i + 1)), .int (xs (i + 2)), .int (xs (i + 3)), .int (xs (i + 4))]) (st := [.int v.1]) (by decide +kernel) kv_Model_addRule lk_Law_80 ⟨by decide, by decide⟩ (c_Model_addRule _ _ 45 (xs (i + 1)) (xs (i + 2)) (xs (i + 3)) (xs (i + 4)) ob45 hu) ob45 rfl (Nat.le_of_ble_eq_true rfl) rfl ?_
  refine ja_icmp_eq (pc := 565) (off := 570) 1135 (by decide +kernel) (by decide) hf (fun hf => ?_) (fun hf => by cases hf)
  cases hf
  exact kk
theorem lc_16 {C : ja_C} {L i : Nat} {xs : Nat → Int32} {sg sg2 : ja_S} {zz : ja_Z} (hX : ja_hX C L xs) (hi : i + 6 ≤ L) (hL : L ≤ 3072) (hf : ja_case 16 (fun j => xs (i + j)) sg = some sg2) (kk : ja_J M_law C 1135 [(0, .ref 3000), (1, .ref 0), (2, .ref 45), (3, .int (nI i))] [] ja_L0 sg2 zz) : ja_J M_law C 570 [(0, .ref 3000), (1, .ref 0), (2, .ref 45), (3, .int (nI i))] [] ja_L0 sg zz := by
  unfold ja_case at hf
  refine ja_aload_n (pc := 570) (f := 1) (i := 1) 1 (by decide +kernel) rfl rfl ?_
  refine ja_aload_n (pc := 571) (f := 0) (i := 0) 0 (by decide +kernel) rfl rfl ?_
  refine ja_iload_n (pc := 572) (f := 3) (i := 3) 3 (by decide +kernel) rfl rfl ?_
  refine ja_iconst (pc := 573) (n := 1) (v := 1) (by decide +kernel) (by decide +kernel) ?_
  refine ja_iadd (pc := 574) (by decide +kernel) ?_
  refine ja_sld (pc := 575) (i := i + 1) hX (by decide +kernel) (ja_ad 1 1 (by decide +kernel)) (by omega) (by omega) ?_
  refine ja_bind hf (fun v hv hf => ?_)
  refine ja_callVi (pc := 576) (idx := 81) (t := 7) (b := 0) (as := [.int (xs (i + 1))]) (st := []) (by decide +kernel) kv_Frame_removeRule lk_Law_81 ⟨by decide, by decide⟩ (c_Frame_removeRule _ _ 0 (xs (i + 1)) ob0 hv) ob0 rfl (Nat.le_of_ble_eq_true rfl) rfl ?_
  refine ja_aload_n (pc := 579) (f := 2) (i := 2) 2 (by decide +kernel) rfl rfl ?_
  refine ja_aload_n (pc := 580) (f := 0) (i := 0) 0 (by decide +kernel) rfl rfl ?_
  refine ja_iload_n (pc := 581) (f := 3) (i := 3) 3 (by decide +kernel) rfl rfl ?_
  refine ja_iconst (pc := 582) (n := 1) (v := 1) (by decide +kernel) (by decide +kernel) ?_
  refine ja_iadd (pc := 583) (by decide +kernel) ?_
  refine ja_sld (pc := 584) (i := i + 1) hX (by decide +kernel) (ja_ad 1 1 (by decide +kernel)) (by omega) (by omega) ?_
  refine ja_bind hf (fun u hu hf => ?_)
  refine ja_callVi (pc := 585) (idx := 84) (t := 8) (b := 45) (as := [.int (xs (i + 1))]) (st := [.int v.1]) (by decide +kernel) kv_Model_removeRule lk_Law_84 ⟨by decide, by decide⟩ (c_Model_removeRule _ _ 45 (xs (i + 1)) ob45 hu) ob45 rfl (Nat.le_of_ble_eq_true rfl) rfl ?_
  refine ja_icmp_eq (pc := 588) (off := 547) 1135 (by decide +kernel) (by decide) hf (fun hf => ?_) (fun hf => by cases hf)
  cases hf
  exact kk
theorem lc_17 {C : ja_C} {L i : Nat} {xs : Nat → Int32} {sg sg2 : ja_S} {zz : ja_Z} (hX : ja_hX C L xs) (hi : i + 6 ≤ L) (hL : L ≤ 3072) (hf : ja_case 17 (fun j => xs (i + j)) sg = some sg2) (kk : ja_J M_law C 1135 [(0, .ref 3000), (1, .ref 0), (2, .ref 45), (3, .int (nI i))] [] ja_L0 sg2 zz) : ja_J M_law C 593 [(0, .ref 3000), (1, .ref 0), (2, .ref 45), (3, .int (nI i))] [] ja_L0 sg zz := by
  unfold ja_case at hf
  refine ja_aload_n (pc := 593) (f := 1) (i := 1) 1 (by decide +kernel) rfl rfl ?_
  refine ja_bind hf (fun v hv hf => ?_)
  refine ja_callVi (pc := 594) (idx := 85) (t := 7) (b := 0) (as := []) (st := []) (by decide +kernel) kv_Frame_undo lk_Law_85 ⟨by decide, by decide⟩ (c_Frame_undo _ _ 0  ob0 hv) ob0 rfl (Nat.le_of_ble_eq_true rfl) rfl ?_
  refine ja_aload_n (pc := 597) (f := 2) (i := 2) 2 (by decide +kernel) rfl rfl ?_
  refine ja_bind hf (fun u hu hf => ?_)
  refine ja_callVi (pc := 598) (idx := 88) (t := 8) (b := 45) (as := []) (st := [.int v.1]) (by decide +kernel) kv_Model_undo lk_Law_88 ⟨by decide, by decide⟩ (c_Model_undo _ _ 45  ob45 hu) ob45 rfl (Nat.le_of_ble_eq_true rfl) rfl ?_
  refine ja_icmp_eq (pc := 601) (off := 534) 1135 (by decide +kernel) (by decide) hf (fun hf => ?_) (fun hf => by cases hf)
  cases hf
  exact kk
theorem lc_18 {C : ja_C} {L i : Nat} {xs : Nat → Int32} {sg sg2 : ja_S} {zz : ja_Z} (hX : ja_hX C L xs) (hi : i + 6 ≤ L) (hL : L ≤ 3072) (hf : ja_case 18 (fun j => xs (i + j)) sg = some sg2) (kk : ja_J M_law C 1135 [(0, .ref 3000), (1, .ref 0), (2, .ref 45), (3, .int (nI i))] [] ja_L0 sg2 zz) : ja_J M_law C 606 [(0, .ref 3000), (1, .ref 0), (2, .ref 45), (3, .int (nI i))] [] ja_L0 sg zz := by
  unfold ja_case at hf
  refine ja_aload_n (pc := 606) (f := 1) (i := 1) 1 (by decide +kernel) rfl rfl ?_
  refine ja_aload_n (pc := 607) (f := 0) (i := 0) 0 (by decide +kernel) rfl rfl ?_
  refine ja_iload_n (pc := 608) (f := 3) (i := 3) 3 (by decide +kernel) rfl rfl ?_
  refine ja_iconst (pc := 609) (n := 1) (v := 1) (by decide +kernel) (by decide +kernel) ?_
  refine ja_iadd (pc := 610) (by decide +kernel) ?_
  refine ja_sld (pc := 611) (i := i + 1) hX (by decide +kernel) (ja_ad 1 1 (by decide +kernel)) (by omega) (by omega) ?_
  refine ja_bind hf (fun v hv hf => ?_)
  refine ja_callVi (pc := 612) (idx := 89) (t := 7) (b := 0) (as := [.int (xs (i + 1))]) (st := []) (by decide +kernel) kv_Frame_isLegal lk_Law_89 ⟨by decide, by decide⟩ (c_Frame_isLegal _ _ 0 (xs (i + 1)) ob0 hv) ob0 rfl (Nat.le_of_ble_eq_true rfl) rfl ?_
  refine ja_aload_n (pc := 615) (f := 2) (i := 2) 2 (by decide +kernel) rfl rfl ?_
  refine ja_aload_n (pc := 616) (f := 0) (i := 0) 0 (by decide +kernel) rfl rfl ?_
  refine ja_iload_n (pc := 617) (f := 3) (i := 3) 3 (by decide +kernel) rfl rfl ?_
  refine ja_iconst (pc := 618) (n := 1) (v := 1) (by decide +kernel) (by decide +kernel) ?_
  refine ja_iadd (pc := 619) (by decide +kernel) ?_
  refine ja_sld (pc := 620) (i := i + 1) hX (by decide +kernel) (ja_ad 1 1 (by decide +kernel)) (by omega) (by omega) ?_
  refine ja_bind hf (fun u hu hf => ?_)
  refine ja_callVi (pc := 621) (idx := 92) (t := 8) (b := 45) (as := [.int (xs (i + 1))]) (st := [.int v.1]) (by decide +kernel) kv_Model_isLegal lk_Law_92 ⟨by decide, by decide⟩ (c_Model_isLegal _ _ 45 (xs (i + 1)) ob45 hu) ob45 rfl (Nat.le_of_ble_eq_true rfl) rfl ?_
  refine ja_icmp_eq (pc := 624) (off := 511) 1135 (by decide +kernel) (by decide) hf (fun hf => ?_) (fun hf => by cases hf)
  cases hf
  exact kk
theorem lc_19 {C : ja_C} {L i : Nat} {xs : Nat → Int32} {sg sg2 : ja_S} {zz : ja_Z} (hX : ja_hX C L xs) (hi : i + 6 ≤ L) (hL : L ≤ 3072) (hf : ja_case 19 (fun j => xs (i + j)) sg = some sg2) (kk : ja_J M_law C 1135 [(0, .ref 3000), (1, .ref 0), (2, .ref 45), (3, .int (nI i))] [] ja_L0 sg2 zz) : ja_J M_law C 629 [(0, .ref 3000), (1, .ref 0), (2, .ref 45), (3, .int (nI i))] [] ja_L0 sg zz := by
  unfold ja_case at hf
  refine ja_aload_n (pc := 629) (f := 1) (i := 1) 1 (by decide +kernel) rfl rfl ?_
  refine ja_aload_n (pc := 630) (f := 0) (i := 0) 0 (by decide +kernel) rfl rfl ?_
  refine ja_iload_n (pc := 631) (f := 3) (i := 3) 3 (by decide +kernel) rfl rfl ?_
  refine ja_iconst (pc := 632) (n := 1) (v := 1) (by decide +kernel) (by decide +kernel) ?_
  refine ja_iadd (pc := 633) (by decide +kernel) ?_
  refine ja_sld (pc := 634) (i := i + 1) hX (by decide +kernel) (ja_ad 1 1 (by decide +kernel)) (by omega) (by omega) ?_
  refine ja_aload_n (pc := 635) (f := 0) (i := 0) 0 (by decide +kernel) rfl rfl ?_
  refine ja_iload_n (pc := 636) (f := 3) (i := 3) 3 (by decide +kernel) rfl rfl ?_
  refine ja_iconst (pc := 637) (n := 2) (v := 2) (by decide +kernel) (by decide +kernel) ?_
  refine ja_iadd (pc := 638) (by decide +kernel) ?_
  refine ja_sld (pc := 639) (i := i + 2) hX (by decide +kernel) (ja_ad 2 2 (by decide +kernel)) (by omega) (by omega) ?_
  refine ja_bind hf (fun v hv hf => ?_)
  refine ja_callVi (pc := 640) (idx := 93) (t := 7) (b := 0) (as := [.int (xs (i + 1)), .int (xs (i + 2))]) (st := []) (by decide +kernel) kv_Frame_blockingRule lk_Law_93 ⟨by decide, by decide⟩ (c_Frame_blockingRule _ _ 0 (xs (i + 1)) (xs (i + 2)) ob0 hv) ob0 rfl (Nat.le_of_ble_eq_true rfl) rfl ?_
  refine ja_aload_n (pc := 643) (f := 2) (i := 2) 2 (by decide +kernel) rfl rfl ?_
  refine ja_aload_n (pc := 644) (f := 0) (i := 0) 0 (by decide +kernel) rfl rfl ?_
  refine ja_iload_n (pc := 645) (f := 3) (i := 3) 3 (by decide +kernel) rfl rfl ?_
  refine ja_iconst (pc := 646) (n := 1) (v := 1) (by decide +kernel) (by decide +kernel) ?_
  refine ja_iadd (pc := 647) (by decide +kernel) ?_
  refine ja_sld (pc := 648) (i := i + 1) hX (by decide +kernel) (ja_ad 1 1 (by decide +kernel)) (by omega) (by omega) ?_
  refine ja_aload_n (pc := 649) (f := 0) (i := 0) 0 (by decide +kernel) rfl rfl ?_
  refine ja_iload_n (pc := 650) (f := 3) (i := 3) 3 (by decide +kernel) rfl rfl ?_
  refine ja_iconst (pc := 651) (n := 2) (v := 2) (by decide +kernel) (by decide +kernel) ?_
  refine ja_iadd (pc := 652) (by decide +kernel) ?_
  refine ja_sld (pc := 653) (i := i + 2) hX (by decide +kernel) (ja_ad 2 2 (by decide +kernel)) (by omega) (by omega) ?_
  refine ja_bind hf (fun u hu hf => ?_)
  refine ja_callVi (pc := 654) (idx := 97) (t := 8) (b := 45) (as := [.int (xs (i + 1)), .int (xs (i + 2))]) (st := [.int v.1]) (by decide +kernel) kv_Model_blockingRule lk_Law_97 ⟨by decide, by decide⟩ (c_Model_blockingRule _ _ 45 (xs (i + 1)) (xs (i + 2)) ob45 hu) ob45 rfl (Nat.le_of_ble_eq_true rfl) rfl ?_
  refine ja_icmp_eq (pc := 657) (off := 478) 1135 (by decide +kernel) (by decide) hf (fun hf => ?_) (fun hf => by cases hf)
  cases hf
  exact kk
theorem lc_20 {C : ja_C} {L i : Nat} {xs : Nat → Int32} {sg sg2 : ja_S} {zz : ja_Z} (hX : ja_hX C L xs) (hi : i + 6 ≤ L) (hL : L ≤ 3072) (hf : ja_case 20 (fun j => xs (i + j)) sg = some sg2) (kk : ja_J M_law C 1135 [(0, .ref 3000), (1, .ref 0), (2, .ref 45), (3, .int (nI i))] [] ja_L0 sg2 zz) : ja_J M_law C 662 [(0, .ref 3000), (1, .ref 0), (2, .ref 45), (3, .int (nI i))] [] ja_L0 sg zz := by
  unfold ja_case at hf
  refine ja_aload_n (pc := 662) (f := 1) (i := 1) 1 (by decide +kernel) rfl rfl ?_
  refine ja_aload_n (pc := 663) (f := 0) (i := 0) 0 (by decide +kernel) rfl rfl ?_
  refine ja_iload_n (pc := 664) (f := 3) (i := 3) 3 (by decide +kernel) rfl rfl ?_
  refine ja_iconst (pc := 665) (n := 1) (v := 1) (by decide +kernel) (by decide +kernel) ?_
  refine ja_iadd (pc := 666) (by decide +kernel) ?_
  refine ja_sld (pc := 667) (i := i + 1) hX (by decide +kernel) (ja_ad 1 1 (by decide +kernel)) (by omega) (by omega) ?_
  refine ja_bind hf (fun v hv hf => ?_)
  refine ja_callVi (pc := 668) (idx := 98) (t := 7) (b := 0) (as := [.int (xs (i + 1))]) (st := []) (by decide +kernel) kv_Frame_freeLevers lk_Law_98 ⟨by decide, by decide⟩ (c_Frame_freeLevers _ _ 0 (xs (i + 1)) ob0 hv) ob0 rfl (Nat.le_of_ble_eq_true rfl) rfl ?_
  refine ja_aload_n (pc := 671) (f := 2) (i := 2) 2 (by decide +kernel) rfl rfl ?_
  refine ja_aload_n (pc := 672) (f := 0) (i := 0) 0 (by decide +kernel) rfl rfl ?_
  refine ja_iload_n (pc := 673) (f := 3) (i := 3) 3 (by decide +kernel) rfl rfl ?_
  refine ja_iconst (pc := 674) (n := 1) (v := 1) (by decide +kernel) (by decide +kernel) ?_
  refine ja_iadd (pc := 675) (by decide +kernel) ?_
  refine ja_sld (pc := 676) (i := i + 1) hX (by decide +kernel) (ja_ad 1 1 (by decide +kernel)) (by omega) (by omega) ?_
  refine ja_bind hf (fun u hu hf => ?_)
  refine ja_callVi (pc := 677) (idx := 101) (t := 8) (b := 45) (as := [.int (xs (i + 1))]) (st := [.int v.1]) (by decide +kernel) kv_Model_freeLevers lk_Law_101 ⟨by decide, by decide⟩ (c_Model_freeLevers _ _ 45 (xs (i + 1)) ob45 hu) ob45 rfl (Nat.le_of_ble_eq_true rfl) rfl ?_
  refine ja_icmp_eq (pc := 680) (off := 455) 1135 (by decide +kernel) (by decide) hf (fun hf => ?_) (fun hf => by cases hf)
  cases hf
  exact kk
theorem lc_21 {C : ja_C} {L i : Nat} {xs : Nat → Int32} {sg sg2 : ja_S} {zz : ja_Z} (hX : ja_hX C L xs) (hi : i + 6 ≤ L) (hL : L ≤ 3072) (hf : ja_case 21 (fun j => xs (i + j)) sg = some sg2) (kk : ja_J M_law C 1135 [(0, .ref 3000), (1, .ref 0), (2, .ref 45), (3, .int (nI i))] [] ja_L0 sg2 zz) : ja_J M_law C 685 [(0, .ref 3000), (1, .ref 0), (2, .ref 45), (3, .int (nI i))] [] ja_L0 sg zz := by
  unfold ja_case at hf
  refine ja_aload_n (pc := 685) (f := 1) (i := 1) 1 (by decide +kernel) rfl rfl ?_
  refine ja_bind hf (fun v hv hf => ?_)
  refine ja_callVi (pc := 686) (idx := 102) (t := 7) (b := 0) (as := []) (st := []) (by decide +kernel) kv_Frame_reachableCount lk_Law_102 ⟨by decide, by decide⟩ (c_Frame_reachableCount _ _ 0  ob0 hv) ob0 rfl (Nat.le_of_ble_eq_true rfl) rfl ?_
  refine ja_aload_n (pc := 689) (f := 2) (i := 2) 2 (by decide +kernel) rfl rfl ?_
  refine ja_bind hf (fun u hu hf => ?_)
  refine ja_callVi (pc := 690) (idx := 105) (t := 8) (b := 45) (as := []) (st := [.int v.1]) (by decide +kernel) kv_Model_reachableCount lk_Law_105 ⟨by decide, by decide⟩ (c_Model_reachableCount _ _ 45  ob45 hu) ob45 rfl (Nat.le_of_ble_eq_true rfl) rfl ?_
  refine ja_icmp_eq (pc := 693) (off := 442) 1135 (by decide +kernel) (by decide) hf (fun hf => ?_) (fun hf => by cases hf)
  cases hf
  exact kk
theorem lc_22 {C : ja_C} {L i : Nat} {xs : Nat → Int32} {sg sg2 : ja_S} {zz : ja_Z} (hX : ja_hX C L xs) (hi : i + 6 ≤ L) (hL : L ≤ 3072) (hf : ja_case 22 (fun j => xs (i + j)) sg = some sg2) (kk : ja_J M_law C 1135 [(0, .ref 3000), (1, .ref 0), (2, .ref 45), (3, .int (nI i))] [] ja_L0 sg2 zz) : ja_J M_law C 698 [(0, .ref 3000), (1, .ref 0), (2, .ref 45), (3, .int (nI i))] [] ja_L0 sg zz := by
  unfold ja_case at hf
  refine ja_aload_n (pc := 698) (f := 1) (i := 1) 1 (by decide +kernel) rfl rfl ?_
  refine ja_aload_n (pc := 699) (f := 0) (i := 0) 0 (by decide +kernel) rfl rfl ?_
  refine ja_iload_n (pc := 700) (f := 3) (i := 3) 3 (by decide +kernel) rfl rfl ?_
  refine ja_iconst (pc := 701) (n := 1) (v := 1) (by decide +kernel) (by decide +kernel) ?_
  refine ja_iadd (pc := 702) (by decide +kernel) ?_
  refine ja_sld (pc := 703) (i := i + 1) hX (by decide +kernel) (ja_ad 1 1 (by decide +kernel)) (by omega) (by omega) ?_
  refine ja_aload_n (pc := 704) (f := 0) (i := 0) 0 (by decide +kernel) rfl rfl ?_
  refine ja_iload_n (pc := 705) (f := 3) (i := 3) 3 (by decide +kernel) rfl rfl ?_
  refine ja_iconst (pc := 706) (n := 2) (v := 2) (by decide +kernel) (by decide +kernel) ?_
  refine ja_iadd (pc := 707) (by decide +kernel) ?_
  refine ja_sld (pc := 708) (i := i + 2) hX (by decide +kernel) (ja_ad 2 2 (by decide +kernel)) (by omega) (by omega) ?_
  refine ja_bind hf (fun v hv hf => ?_)
  refine ja_callVi (pc := 709) (idx := 106) (t := 7) (b := 0) (as := [.int (xs (i + 1)), .int (xs (i + 2))]) (st := []) (by decide +kernel) kv_Frame_distance lk_Law_106 ⟨by decide, by decide⟩ (c_Frame_distance _ _ 0 (xs (i + 1)) (xs (i + 2)) ob0 hv) ob0 rfl (Nat.le_of_ble_eq_true rfl) rfl ?_
  refine ja_aload_n (pc := 712) (f := 2) (i := 2) 2 (by decide +kernel) rfl rfl ?_
  refine ja_aload_n (pc := 713) (f := 0) (i := 0) 0 (by decide +kernel) rfl rfl ?_
  refine ja_iload_n (pc := 714) (f := 3) (i := 3) 3 (by decide +kernel) rfl rfl ?_
  refine ja_iconst (pc := 715) (n := 1) (v := 1) (by decide +kernel) (by decide +kernel) ?_
  refine ja_iadd (pc := 716) (by decide +kernel) ?_
  refine ja_sld (pc := 717) (i := i + 1) hX (by decide +kernel) (ja_ad 1 1 (by decide +kernel)) (by omega) (by omega) ?_
  refine ja_aload_n (pc := 718) (f := 0) (i := 0) 0 (by decide +kernel) rfl rfl ?_
  refine ja_iload_n (pc := 719) (f := 3) (i := 3) 3 (by decide +kernel) rfl rfl ?_
  refine ja_iconst (pc := 720) (n := 2) (v := 2) (by decide +kernel) (by decide +kernel) ?_
  refine ja_iadd (pc := 721) (by decide +kernel) ?_
  refine ja_sld (pc := 722) (i := i + 2) hX (by decide +kernel) (ja_ad 2 2 (by decide +kernel)) (by omega) (by omega) ?_
  refine ja_bind hf (fun u hu hf => ?_)
  refine ja_callVi (pc := 723) (idx := 109) (t := 8) (b := 45) (as := [.int (xs (i + 1)), .int (xs (i + 2))]) (st := [.int v.1]) (by decide +kernel) kv_Model_distance lk_Law_109 ⟨by decide, by decide⟩ (c_Model_distance _ _ 45 (xs (i + 1)) (xs (i + 2)) ob45 hu) ob45 rfl (Nat.le_of_ble_eq_true rfl) rfl ?_
  refine ja_icmp_eq (pc := 726) (off := 409) 1135 (by decide +kernel) (by decide) hf (fun hf => ?_) (fun hf => by cases hf)
  cases hf
  exact kk
theorem lc_23 {C : ja_C} {L i : Nat} {xs : Nat → Int32} {sg sg2 : ja_S} {zz : ja_Z} (hX : ja_hX C L xs) (hi : i + 6 ≤ L) (hL : L ≤ 3072) (hf : ja_case 23 (fun j => xs (i + j)) sg = some sg2) (kk : ja_J M_law C 1135 [(0, .ref 3000), (1, .ref 0), (2, .ref 45), (3, .int (nI i))] [] ja_L0 sg2 zz) : ja_J M_law C 731 [(0, .ref 3000), (1, .ref 0), (2, .ref 45), (3, .int (nI i))] [] ja_L0 sg zz := by
  unfold ja_case at hf
  refine ja_aload_n (pc := 731) (f := 1) (i := 1) 1 (by decide +kernel) rfl rfl ?_
  refine ja_aload_n (pc := 732) (f := 0) (i := 0) 0 (by decide +kernel) rfl rfl ?_
  refine ja_iload_n (pc := 733) (f := 3) (i := 3) 3 (by decide +kernel) rfl rfl ?_
  refine ja_iconst (pc := 734) (n := 1) (v := 1) (by decide +kernel) (by decide +kernel) ?_
  refine ja_iadd (pc := 735) (by decide +kernel) ?_
  refine ja_sld (pc := 736) (i := i + 1) hX (by decide +kernel) (ja_ad 1 1 (by decide +kernel)) (by omega) (by omega) ?_
  refine ja_aload_n (pc := 737) (f := 0) (i := 0) 0 (by decide +kernel) rfl rfl ?_
  refine ja_iload_n (pc := 738) (f := 3) (i := 3) 3 (by decide +kernel) rfl rfl ?_
  refine ja_iconst (pc := 739) (n := 2) (v := 2) (by decide +kernel) (by decide +kernel) ?_
  refine ja_iadd (pc := 740) (by decide +kernel) ?_
  refine ja_sld (pc := 741) (i := i + 2) hX (by decide +kernel) (ja_ad 2 2 (by decide +kernel)) (by omega) (by omega) ?_
  refine ja_bind hf (fun v hv hf => ?_)
  refine ja_callVi (pc := 742) (idx := 110) (t := 7) (b := 0) (as := [.int (xs (i + 1)), .int (xs (i + 2))]) (st := []) (by decide +kernel) kv_Frame_nextMove lk_Law_110 ⟨by decide, by decide⟩ (c_Frame_nextMove _ _ 0 (xs (i + 1)) (xs (i + 2)) ob0 hv) ob0 rfl (Nat.le_of_ble_eq_true rfl) rfl ?_
  refine ja_aload_n (pc := 745) (f := 2) (i := 2) 2 (by decide +kernel) rfl rfl ?_
  refine ja_aload_n (pc := 746) (f := 0) (i := 0) 0 (by decide +kernel) rfl rfl ?_
  refine ja_iload_n (pc := 747) (f := 3) (i := 3) 3 (by decide +kernel) rfl rfl ?_
  refine ja_iconst (pc := 748) (n := 1) (v := 1) (by decide +kernel) (by decide +kernel) ?_
  refine ja_iadd (pc := 749) (by decide +kernel) ?_
  refine ja_sld (pc := 750) (i := i + 1) hX (by decide +kernel) (ja_ad 1 1 (by decide +kernel)) (by omega) (by omega) ?_
  refine ja_aload_n (pc := 751) (f := 0) (i := 0) 0 (by decide +kernel) rfl rfl ?_
  refine ja_iload_n (pc := 752) (f := 3) (i := 3) 3 (by decide +kernel) rfl rfl ?_
  refine ja_iconst (pc := 753) (n := 2) (v := 2) (by decide +kernel) (by decide +kernel) ?_
  refine ja_iadd (pc := 754) (by decide +kernel) ?_
  refine ja_sld (pc := 755) (i := i + 2) hX (by decide +kernel) (ja_ad 2 2 (by decide +kernel)) (by omega) (by omega) ?_
  refine ja_bind hf (fun u hu hf => ?_)
  refine ja_callVi (pc := 756) (idx := 113) (t := 8) (b := 45) (as := [.int (xs (i + 1)), .int (xs (i + 2))]) (st := [.int v.1]) (by decide +kernel) kv_Model_nextMove lk_Law_113 ⟨by decide, by decide⟩ (c_Model_nextMove _ _ 45 (xs (i + 1)) (xs (i + 2)) ob45 hu) ob45 rfl (Nat.le_of_ble_eq_true rfl) rfl ?_
  refine ja_icmp_eq (pc := 759) (off := 376) 1135 (by decide +kernel) (by decide) hf (fun hf => ?_) (fun hf => by cases hf)
  cases hf
  exact kk
theorem lc_24 {C : ja_C} {L i : Nat} {xs : Nat → Int32} {sg sg2 : ja_S} {zz : ja_Z} (hX : ja_hX C L xs) (hi : i + 6 ≤ L) (hL : L ≤ 3072) (hf : ja_case 24 (fun j => xs (i + j)) sg = some sg2) (kk : ja_J M_law C 1135 [(0, .ref 3000), (1, .ref 0), (2, .ref 45), (3, .int (nI i))] [] ja_L0 sg2 zz) : ja_J M_law C 764 [(0, .ref 3000), (1, .ref 0), (2, .ref 45), (3, .int (nI i))] [] ja_L0 sg zz := by
  unfold ja_case at hf
  refine ja_aload_n (pc := 764) (f := 1) (i := 1) 1 (by decide +kernel) rfl rfl ?_
  refine ja_aload_n (pc := 765) (f := 0) (i := 0) 0 (by decide +kernel) rfl rfl ?_
  refine ja_iload_n (pc := 766) (f := 3) (i := 3) 3 (by decide +kernel) rfl rfl ?_
  refine ja_iconst (pc := 767) (n := 1) (v := 1) (by decide +kernel) (by decide +kernel) ?_
  refine ja_iadd (pc := 768) (by decide +kernel) ?_
  refine ja_sld (pc := 769) (i := i + 1) hX (by decide +kernel) (ja_ad 1 1 (by decide +kernel)) (by omega) (by omega) ?_
  refine ja_bind hf (fun v hv hf => ?_)
  refine ja_callVi (pc := 770) (idx := 114) (t := 7) (b := 0) (as := [.int (xs (i + 1))]) (st := []) (by decide +kernel) kv_Frame_excludedLevers lk_Law_114 ⟨by decide, by decide⟩ (c_Frame_excludedLevers _ _ 0 (xs (i + 1)) ob0 hv) ob0 rfl (Nat.le_of_ble_eq_true rfl) rfl ?_
  refine ja_aload_n (pc := 773) (f := 2) (i := 2) 2 (by decide +kernel) rfl rfl ?_
  refine ja_aload_n (pc := 774) (f := 0) (i := 0) 0 (by decide +kernel) rfl rfl ?_
  refine ja_iload_n (pc := 775) (f := 3) (i := 3) 3 (by decide +kernel) rfl rfl ?_
  refine ja_iconst (pc := 776) (n := 1) (v := 1) (by decide +kernel) (by decide +kernel) ?_
  refine ja_iadd (pc := 777) (by decide +kernel) ?_
  refine ja_sld (pc := 778) (i := i + 1) hX (by decide +kernel) (ja_ad 1 1 (by decide +kernel)) (by omega) (by omega) ?_
  refine ja_bind hf (fun u hu hf => ?_)
  refine ja_callVi (pc := 779) (idx := 117) (t := 8) (b := 45) (as := [.int (xs (i + 1))]) (st := [.int v.1]) (by decide +kernel) kv_Model_excludedLevers lk_Law_117 ⟨by decide, by decide⟩ (c_Model_excludedLevers _ _ 45 (xs (i + 1)) ob45 hu) ob45 rfl (Nat.le_of_ble_eq_true rfl) rfl ?_
  refine ja_icmp_eq (pc := 782) (off := 353) 1135 (by decide +kernel) (by decide) hf (fun hf => ?_) (fun hf => by cases hf)
  cases hf
  exact kk
theorem lc_25 {C : ja_C} {L i : Nat} {xs : Nat → Int32} {sg sg2 : ja_S} {zz : ja_Z} (hX : ja_hX C L xs) (hi : i + 6 ≤ L) (hL : L ≤ 3072) (hf : ja_case 25 (fun j => xs (i + j)) sg = some sg2) (kk : ja_J M_law C 1135 [(0, .ref 3000), (1, .ref 0), (2, .ref 45), (3, .int (nI i))] [] ja_L0 sg2 zz) : ja_J M_law C 787 [(0, .ref 3000), (1, .ref 0), (2, .ref 45), (3, .int (nI i))] [] ja_L0 sg zz := by
  unfold ja_case at hf
  refine ja_aload_n (pc := 787) (f := 1) (i := 1) 1 (by decide +kernel) rfl rfl ?_
  refine ja_aload_n (pc := 788) (f := 0) (i := 0) 0 (by decide +kernel) rfl rfl ?_
  refine ja_iload_n (pc := 789) (f := 3) (i := 3) 3 (by decide +kernel) rfl rfl ?_
  refine ja_iconst (pc := 790) (n := 1) (v := 1) (by decide +kernel) (by decide +kernel) ?_
  refine ja_iadd (pc := 791) (by decide +kernel) ?_
  refine ja_sld (pc := 792) (i := i + 1) hX (by decide +kernel) (ja_ad 1 1 (by decide +kernel)) (by omega) (by omega) ?_
  refine ja_bind hf (fun v hv hf => ?_)
  refine ja_callVi (pc := 793) (idx := 118) (t := 7) (b := 0) (as := [.int (xs (i + 1))]) (st := []) (by decide +kernel) kv_Frame_settingState lk_Law_118 ⟨by decide, by decide⟩ (c_Frame_settingState _ _ 0 (xs (i + 1)) ob0 hv) ob0 rfl (Nat.le_of_ble_eq_true rfl) rfl ?_
  refine ja_aload_n (pc := 796) (f := 2) (i := 2) 2 (by decide +kernel) rfl rfl ?_
  refine ja_aload_n (pc := 797) (f := 0) (i := 0) 0 (by decide +kernel) rfl rfl ?_
  refine ja_iload_n (pc := 798) (f := 3) (i := 3) 3 (by decide +kernel) rfl rfl ?_
  refine ja_iconst (pc := 799) (n := 1) (v := 1) (by decide +kernel) (by decide +kernel) ?_
  refine ja_iadd (pc := 800) (by decide +kernel) ?_
  refine ja_sld (pc := 801) (i := i + 1) hX (by decide +kernel) (ja_ad 1 1 (by decide +kernel)) (by omega) (by omega) ?_
  refine ja_bind hf (fun u hu hf => ?_)
  refine ja_callVi (pc := 802) (idx := 121) (t := 8) (b := 45) (as := [.int (xs (i + 1))]) (st := [.int v.1]) (by decide +kernel) kv_Model_settingState lk_Law_121 ⟨by decide, by decide⟩ (c_Model_settingState _ _ 45 (xs (i + 1)) ob45 hu) ob45 rfl (Nat.le_of_ble_eq_true rfl) rfl ?_
  refine ja_icmp_eq (pc := 805) (off := 330) 1135 (by decide +kernel) (by decide) hf (fun hf => ?_) (fun hf => by cases hf)
  cases hf
  exact kk
theorem lc_26 {C : ja_C} {L i : Nat} {xs : Nat → Int32} {sg sg2 : ja_S} {zz : ja_Z} (hX : ja_hX C L xs) (hi : i + 6 ≤ L) (hL : L ≤ 3072) (hf : ja_case 26 (fun j => xs (i + j)) sg = some sg2) (kk : ja_J M_law C 1135 [(0, .ref 3000), (1, .ref 0), (2, .ref 45), (3, .int (nI i))] [] ja_L0 sg2 zz) : ja_J M_law C 810 [(0, .ref 3000), (1, .ref 0), (2, .ref 45), (3, .int (nI i))] [] ja_L0 sg zz := by
  unfold ja_case at hf
  refine ja_aload_n (pc := 810) (f := 1) (i := 1) 1 (by decide +kernel) rfl rfl ?_
  refine ja_aload_n (pc := 811) (f := 0) (i := 0) 0 (by decide +kernel) rfl rfl ?_
  refine ja_iload_n (pc := 812) (f := 3) (i := 3) 3 (by decide +kernel) rfl rfl ?_
  refine ja_iconst (pc := 813) (n := 1) (v := 1) (by decide +kernel) (by decide +kernel) ?_
  refine ja_iadd (pc := 814) (by decide +kernel) ?_
  refine ja_sld (pc := 815) (i := i + 1) hX (by decide +kernel) (ja_ad 1 1 (by decide +kernel)) (by omega) (by omega) ?_
  refine ja_bind hf (fun v hv hf => ?_)
  refine ja_callVi (pc := 816) (idx := 122) (t := 7) (b := 0) (as := [.int (xs (i + 1))]) (st := []) (by decide +kernel) kv_Frame_settingMoves lk_Law_122 ⟨by decide, by decide⟩ (c_Frame_settingMoves _ _ 0 (xs (i + 1)) ob0 hv) ob0 rfl (Nat.le_of_ble_eq_true rfl) rfl ?_
  refine ja_aload_n (pc := 819) (f := 2) (i := 2) 2 (by decide +kernel) rfl rfl ?_
  refine ja_aload_n (pc := 820) (f := 0) (i := 0) 0 (by decide +kernel) rfl rfl ?_
  refine ja_iload_n (pc := 821) (f := 3) (i := 3) 3 (by decide +kernel) rfl rfl ?_
  refine ja_iconst (pc := 822) (n := 1) (v := 1) (by decide +kernel) (by decide +kernel) ?_
  refine ja_iadd (pc := 823) (by decide +kernel) ?_
  refine ja_sld (pc := 824) (i := i + 1) hX (by decide +kernel) (ja_ad 1 1 (by decide +kernel)) (by omega) (by omega) ?_
  refine ja_bind hf (fun u hu hf => ?_)
  refine ja_callVi (pc := 825) (idx := 125) (t := 8) (b := 45) (as := [.int (xs (i + 1))]) (st := [.int v.1]) (by decide +kernel) kv_Model_settingMoves lk_Law_125 ⟨by decide, by decide⟩ (c_Model_settingMoves _ _ 45 (xs (i + 1)) ob45 hu) ob45 rfl (Nat.le_of_ble_eq_true rfl) rfl ?_
  refine ja_icmp_eq (pc := 828) (off := 307) 1135 (by decide +kernel) (by decide) hf (fun hf => ?_) (fun hf => by cases hf)
  cases hf
  exact kk
theorem lc_27 {C : ja_C} {L i : Nat} {xs : Nat → Int32} {sg sg2 : ja_S} {zz : ja_Z} (hX : ja_hX C L xs) (hi : i + 6 ≤ L) (hL : L ≤ 3072) (hf : ja_case 27 (fun j => xs (i + j)) sg = some sg2) (kk : ja_J M_law C 1135 [(0, .ref 3000), (1, .ref 0), (2, .ref 45), (3, .int (nI i))] [] ja_L0 sg2 zz) : ja_J M_law C 833 [(0, .ref 3000), (1, .ref 0), (2, .ref 45), (3, .int (nI i))] [] ja_L0 sg zz := by
  unfold ja_case at hf
  refine ja_aload_n (pc := 833) (f := 1) (i := 1) 1 (by decide +kernel) rfl rfl ?_
  refine ja_aload_n (pc := 834) (f := 0) (i := 0) 0 (by decide +kernel) rfl rfl ?_
  refine ja_iload_n (pc := 835) (f := 3) (i := 3) 3 (by decide +kernel) rfl rfl ?_
  refine ja_iconst (pc := 836) (n := 1) (v := 1) (by decide +kernel) (by decide +kernel) ?_
  refine ja_iadd (pc := 837) (by decide +kernel) ?_
  refine ja_sld (pc := 838) (i := i + 1) hX (by decide +kernel) (ja_ad 1 1 (by decide +kernel)) (by omega) (by omega) ?_
  refine ja_aload_n (pc := 839) (f := 0) (i := 0) 0 (by decide +kernel) rfl rfl ?_
  refine ja_iload_n (pc := 840) (f := 3) (i := 3) 3 (by decide +kernel) rfl rfl ?_
  refine ja_iconst (pc := 841) (n := 2) (v := 2) (by decide +kernel) (by decide +kernel) ?_
  refine ja_iadd (pc := 842) (by decide +kernel) ?_
  refine ja_sld (pc := 843) (i := i + 2) hX (by decide +kernel) (ja_ad 2 2 (by decide +kernel)) (by omega) (by omega) ?_
  refine ja_bind hf (fun v hv hf => ?_)
  refine ja_callVi (pc := 844) (idx := 126) (t := 7) (b := 0) (as := [.int (xs (i + 1)), .int (xs (i + 2))]) (st := []) (by decide +kernel) kv_Frame_jointStates lk_Law_126 ⟨by decide, by decide⟩ (c_Frame_jointStates _ _ 0 (xs (i + 1)) (xs (i + 2)) ob0 hv) ob0 rfl (Nat.le_of_ble_eq_true rfl) rfl ?_
  refine ja_aload_n (pc := 847) (f := 2) (i := 2) 2 (by decide +kernel) rfl rfl ?_
  refine ja_aload_n (pc := 848) (f := 0) (i := 0) 0 (by decide +kernel) rfl rfl ?_
  refine ja_iload_n (pc := 849) (f := 3) (i := 3) 3 (by decide +kernel) rfl rfl ?_
  refine ja_iconst (pc := 850) (n := 1) (v := 1) (by decide +kernel) (by decide +kernel) ?_
  refine ja_iadd (pc := 851) (by decide +kernel) ?_
  refine ja_sld (pc := 852) (i := i + 1) hX (by decide +kernel) (ja_ad 1 1 (by decide +kernel)) (by omega) (by omega) ?_
  refine ja_aload_n (pc := 853) (f := 0) (i := 0) 0 (by decide +kernel) rfl rfl ?_
  refine ja_iload_n (pc := 854) (f := 3) (i := 3) 3 (by decide +kernel) rfl rfl ?_
  refine ja_iconst (pc := 855) (n := 2) (v := 2) (by decide +kernel) (by decide +kernel) ?_
  refine ja_iadd (pc := 856) (by decide +kernel) ?_
  refine ja_sld (pc := 857) (i := i + 2) hX (by decide +kernel) (ja_ad 2 2 (by decide +kernel)) (by omega) (by omega) ?_
  refine ja_bind hf (fun u hu hf => ?_)
  refine ja_callVi (pc := 858) (idx := 129) (t := 8) (b := 45) (as := [.int (xs (i + 1)), .int (xs (i + 2))]) (st := [.int v.1]) (by decide +kernel) kv_Model_jointStates lk_Law_129 ⟨by decide, by decide⟩ (c_Model_jointStates _ _ 45 (xs (i + 1)) (xs (i + 2)) ob45 hu) ob45 rfl (Nat.le_of_ble_eq_true rfl) rfl ?_
  refine ja_icmp_eq (pc := 861) (off := 274) 1135 (by decide +kernel) (by decide) hf (fun hf => ?_) (fun hf => by cases hf)
  cases hf
  exact kk
theorem lc_28 {C : ja_C} {L i : Nat} {xs : Nat → Int32} {sg sg2 : ja_S} {zz : ja_Z} (hX : ja_hX C L xs) (hi : i + 6 ≤ L) (hL : L ≤ 3072) (hf : ja_case 28 (fun j => xs (i + j)) sg = some sg2) (kk : ja_J M_law C 1135 [(0, .ref 3000), (1, .ref 0), (2, .ref 45), (3, .int (nI i))] [] ja_L0 sg2 zz) : ja_J M_law C 866 [(0, .ref 3000), (1, .ref 0), (2, .ref 45), (3, .int (nI i))] [] ja_L0 sg zz := by
  unfold ja_case at hf
  refine ja_aload_n (pc := 866) (f := 1) (i := 1) 1 (by decide +kernel) rfl rfl ?_
  refine ja_bind hf (fun v hv hf => ?_)
  refine ja_callVi (pc := 867) (idx := 130) (t := 7) (b := 0) (as := []) (st := []) (by decide +kernel) kv_Frame_unprotectedConflicts lk_Law_130 ⟨by decide, by decide⟩ (c_Frame_unprotectedConflicts _ _ 0  ob0 hv) ob0 rfl (Nat.le_of_ble_eq_true rfl) rfl ?_
  refine ja_aload_n (pc := 870) (f := 2) (i := 2) 2 (by decide +kernel) rfl rfl ?_
  refine ja_bind hf (fun u hu hf => ?_)
  refine ja_callVi (pc := 871) (idx := 133) (t := 8) (b := 45) (as := []) (st := [.int v.1]) (by decide +kernel) kv_Model_unprotectedConflicts lk_Law_133 ⟨by decide, by decide⟩ (c_Model_unprotectedConflicts _ _ 45  ob45 hu) ob45 rfl (Nat.le_of_ble_eq_true rfl) rfl ?_
  refine ja_icmp_eq (pc := 874) (off := 261) 1135 (by decide +kernel) (by decide) hf (fun hf => ?_) (fun hf => by cases hf)
  cases hf
  exact kk
theorem lc_29 {C : ja_C} {L i : Nat} {xs : Nat → Int32} {sg sg2 : ja_S} {zz : ja_Z} (hX : ja_hX C L xs) (hi : i + 6 ≤ L) (hL : L ≤ 3072) (hf : ja_case 29 (fun j => xs (i + j)) sg = some sg2) (kk : ja_J M_law C 1135 [(0, .ref 3000), (1, .ref 0), (2, .ref 45), (3, .int (nI i))] [] ja_L0 sg2 zz) : ja_J M_law C 879 [(0, .ref 3000), (1, .ref 0), (2, .ref 45), (3, .int (nI i))] [] ja_L0 sg zz := by
  unfold ja_case at hf
  refine ja_aload_n (pc := 879) (f := 1) (i := 1) 1 (by decide +kernel) rfl rfl ?_
  refine ja_aload_n (pc := 880) (f := 0) (i := 0) 0 (by decide +kernel) rfl rfl ?_
  refine ja_iload_n (pc := 881) (f := 3) (i := 3) 3 (by decide +kernel) rfl rfl ?_
  refine ja_iconst (pc := 882) (n := 1) (v := 1) (by decide +kernel) (by decide +kernel) ?_
  refine ja_iadd (pc := 883) (by decide +kernel) ?_
  refine ja_sld (pc := 884) (i := i + 1) hX (by decide +kernel) (ja_ad 1 1 (by decide +kernel)) (by omega) (by omega) ?_
  refine ja_bind hf (fun v hv hf => ?_)
  refine ja_callVi (pc := 885) (idx := 134) (t := 7) (b := 0) (as := [.int (xs (i + 1))]) (st := []) (by decide +kernel) kv_Frame_proposedLock lk_Law_134 ⟨by decide, by decide⟩ (c_Frame_proposedLock _ _ 0 (xs (i + 1)) ob0 hv) ob0 rfl (Nat.le_of_ble_eq_true rfl) rfl ?_
  refine ja_aload_n (pc := 888) (f := 2) (i := 2) 2 (by decide +kernel) rfl rfl ?_
  refine ja_aload_n (pc := 889) (f := 0) (i := 0) 0 (by decide +kernel) rfl rfl ?_
  refine ja_iload_n (pc := 890) (f := 3) (i := 3) 3 (by decide +kernel) rfl rfl ?_
  refine ja_iconst (pc := 891) (n := 1) (v := 1) (by decide +kernel) (by decide +kernel) ?_
  refine ja_iadd (pc := 892) (by decide +kernel) ?_
  refine ja_sld (pc := 893) (i := i + 1) hX (by decide +kernel) (ja_ad 1 1 (by decide +kernel)) (by omega) (by omega) ?_
  refine ja_bind hf (fun u hu hf => ?_)
  refine ja_callVi (pc := 894) (idx := 137) (t := 8) (b := 45) (as := [.int (xs (i + 1))]) (st := [.int v.1]) (by decide +kernel) kv_Model_proposedLock lk_Law_137 ⟨by decide, by decide⟩ (c_Model_proposedLock _ _ 45 (xs (i + 1)) ob45 hu) ob45 rfl (Nat.le_of_ble_eq_true rfl) rfl ?_
  refine ja_icmp_eq (pc := 897) (off := 238) 1135 (by decide +kernel) (by decide) hf (fun hf => ?_) (fun hf => by cases hf)
  cases hf
  exact kk
theorem lc_30 {C : ja_C} {L i : Nat} {xs : Nat → Int32} {sg sg2 : ja_S} {zz : ja_Z} (hX : ja_hX C L xs) (hi : i + 6 ≤ L) (hL : L ≤ 3072) (hf : ja_case 30 (fun j => xs (i + j)) sg = some sg2) (kk : ja_J M_law C 1135 [(0, .ref 3000), (1, .ref 0), (2, .ref 45), (3, .int (nI i))] [] ja_L0 sg2 zz) : ja_J M_law C 902 [(0, .ref 3000), (1, .ref 0), (2, .ref 45), (3, .int (nI i))] [] ja_L0 sg zz := by
  unfold ja_case at hf
  refine ja_aload_n (pc := 902) (f := 1) (i := 1) 1 (by decide +kernel) rfl rfl ?_
  refine ja_bind hf (fun v hv hf => ?_)
  refine ja_callVi (pc := 903) (idx := 138) (t := 7) (b := 0) (as := []) (st := []) (by decide +kernel) kv_Frame_completionSize lk_Law_138 ⟨by decide, by decide⟩ (c_Frame_completionSize _ _ 0  ob0 hv) ob0 rfl (Nat.le_of_ble_eq_true rfl) rfl ?_
  refine ja_aload_n (pc := 906) (f := 2) (i := 2) 2 (by decide +kernel) rfl rfl ?_
  refine ja_bind hf (fun u hu hf => ?_)
  refine ja_callVi (pc := 907) (idx := 141) (t := 8) (b := 45) (as := []) (st := [.int v.1]) (by decide +kernel) kv_Model_completionSize lk_Law_141 ⟨by decide, by decide⟩ (c_Model_completionSize _ _ 45  ob45 hu) ob45 rfl (Nat.le_of_ble_eq_true rfl) rfl ?_
  refine ja_icmp_eq (pc := 910) (off := 225) 1135 (by decide +kernel) (by decide) hf (fun hf => ?_) (fun hf => by cases hf)
  cases hf
  exact kk
theorem lc_31 {C : ja_C} {L i : Nat} {xs : Nat → Int32} {sg sg2 : ja_S} {zz : ja_Z} (hX : ja_hX C L xs) (hi : i + 6 ≤ L) (hL : L ≤ 3072) (hf : ja_case 31 (fun j => xs (i + j)) sg = some sg2) (kk : ja_J M_law C 1135 [(0, .ref 3000), (1, .ref 0), (2, .ref 45), (3, .int (nI i))] [] ja_L0 sg2 zz) : ja_J M_law C 915 [(0, .ref 3000), (1, .ref 0), (2, .ref 45), (3, .int (nI i))] [] ja_L0 sg zz := by
  unfold ja_case at hf
  refine ja_aload_n (pc := 915) (f := 1) (i := 1) 1 (by decide +kernel) rfl rfl ?_
  refine ja_aload_n (pc := 916) (f := 0) (i := 0) 0 (by decide +kernel) rfl rfl ?_
  refine ja_iload_n (pc := 917) (f := 3) (i := 3) 3 (by decide +kernel) rfl rfl ?_
  refine ja_iconst (pc := 918) (n := 1) (v := 1) (by decide +kernel) (by decide +kernel) ?_
  refine ja_iadd (pc := 919) (by decide +kernel) ?_
  refine ja_sld (pc := 920) (i := i + 1) hX (by decide +kernel) (ja_ad 1 1 (by decide +kernel)) (by omega) (by omega) ?_
  refine ja_bind hf (fun v hv hf => ?_)
  refine ja_callVi (pc := 921) (idx := 142) (t := 7) (b := 0) (as := [.int (xs (i + 1))]) (st := []) (by decide +kernel) kv_Frame_completionLock lk_Law_142 ⟨by decide, by decide⟩ (c_Frame_completionLock _ _ 0 (xs (i + 1)) ob0 hv) ob0 rfl (Nat.le_of_ble_eq_true rfl) rfl ?_
  refine ja_aload_n (pc := 924) (f := 2) (i := 2) 2 (by decide +kernel) rfl rfl ?_
  refine ja_aload_n (pc := 925) (f := 0) (i := 0) 0 (by decide +kernel) rfl rfl ?_
  refine ja_iload_n (pc := 926) (f := 3) (i := 3) 3 (by decide +kernel) rfl rfl ?_
  refine ja_iconst (pc := 927) (n := 1) (v := 1) (by decide +kernel) (by decide +kernel) ?_
  refine ja_iadd (pc := 928) (by decide +kernel) ?_
  refine ja_sld (pc := 929) (i := i + 1) hX (by decide +kernel) (ja_ad 1 1 (by decide +kernel)) (by omega) (by omega) ?_
  refine ja_bind hf (fun u hu hf => ?_)
  refine ja_callVi (pc := 930) (idx := 145) (t := 8) (b := 45) (as := [.int (xs (i + 1))]) (st := [.int v.1]) (by decide +kernel) kv_Model_completionLock lk_Law_145 ⟨by decide, by decide⟩ (c_Model_completionLock _ _ 45 (xs (i + 1)) ob45 hu) ob45 rfl (Nat.le_of_ble_eq_true rfl) rfl ?_
  refine ja_icmp_eq (pc := 933) (off := 202) 1135 (by decide +kernel) (by decide) hf (fun hf => ?_) (fun hf => by cases hf)
  cases hf
  exact kk
theorem lc_32 {C : ja_C} {L i : Nat} {xs : Nat → Int32} {sg sg2 : ja_S} {zz : ja_Z} (hX : ja_hX C L xs) (hi : i + 6 ≤ L) (hL : L ≤ 3072) (hf : ja_case 32 (fun j => xs (i + j)) sg = some sg2) (kk : ja_J M_law C 1135 [(0, .ref 3000), (1, .ref 0), (2, .ref 45), (3, .int (nI i))] [] ja_L0 sg2 zz) : ja_J M_law C 938 [(0, .ref 3000), (1, .ref 0), (2, .ref 45), (3, .int (nI i))] [] ja_L0 sg zz := by
  unfold ja_case at hf
  refine ja_aload_n (pc := 938) (f := 1) (i := 1) 1 (by decide +kernel) rfl rfl ?_
  refine ja_bind hf (fun v hv hf => ?_)
  refine ja_callVi (pc := 939) (idx := 146) (t := 7) (b := 0) (as := []) (st := []) (by decide +kernel) kv_Frame_largestRouteSet lk_Law_146 ⟨by decide, by decide⟩ (c_Frame_largestRouteSet _ _ 0  ob0 hv) ob0 rfl (Nat.le_of_ble_eq_true rfl) rfl ?_
  refine ja_aload_n (pc := 942) (f := 2) (i := 2) 2 (by decide +kernel) rfl rfl ?_
  refine ja_bind hf (fun u hu hf => ?_)
  refine ja_callVi (pc := 943) (idx := 149) (t := 8) (b := 45) (as := []) (st := [.int v.1]) (by decide +kernel) kv_Model_largestRouteSet lk_Law_149 ⟨by decide, by decide⟩ (c_Model_largestRouteSet _ _ 45  ob45 hu) ob45 rfl (Nat.le_of_ble_eq_true rfl) rfl ?_
  refine ja_icmp_eq (pc := 946) (off := 189) 1135 (by decide +kernel) (by decide) hf (fun hf => ?_) (fun hf => by cases hf)
  cases hf
  exact kk
theorem lc_33 {C : ja_C} {L i : Nat} {xs : Nat → Int32} {sg sg2 : ja_S} {zz : ja_Z} (hX : ja_hX C L xs) (hi : i + 6 ≤ L) (hL : L ≤ 3072) (hf : ja_case 33 (fun j => xs (i + j)) sg = some sg2) (kk : ja_J M_law C 1135 [(0, .ref 3000), (1, .ref 0), (2, .ref 45), (3, .int (nI i))] [] ja_L0 sg2 zz) : ja_J M_law C 951 [(0, .ref 3000), (1, .ref 0), (2, .ref 45), (3, .int (nI i))] [] ja_L0 sg zz := by
  unfold ja_case at hf
  refine ja_aload_n (pc := 951) (f := 1) (i := 1) 1 (by decide +kernel) rfl rfl ?_
  refine ja_bind hf (fun v hv hf => ?_)
  refine ja_callVi (pc := 952) (idx := 150) (t := 7) (b := 0) (as := []) (st := []) (by decide +kernel) kv_Frame_farthestState lk_Law_150 ⟨by decide, by decide⟩ (c_Frame_farthestState _ _ 0  ob0 hv) ob0 rfl (Nat.le_of_ble_eq_true rfl) rfl ?_
  refine ja_aload_n (pc := 955) (f := 2) (i := 2) 2 (by decide +kernel) rfl rfl ?_
  refine ja_bind hf (fun u hu hf => ?_)
  refine ja_callVi (pc := 956) (idx := 153) (t := 8) (b := 45) (as := []) (st := [.int v.1]) (by decide +kernel) kv_Model_farthestState lk_Law_153 ⟨by decide, by decide⟩ (c_Model_farthestState _ _ 45  ob45 hu) ob45 rfl (Nat.le_of_ble_eq_true rfl) rfl ?_
  refine ja_icmp_eq (pc := 959) (off := 176) 1135 (by decide +kernel) (by decide) hf (fun hf => ?_) (fun hf => by cases hf)
  cases hf
  exact kk
theorem lc_34 {C : ja_C} {L i : Nat} {xs : Nat → Int32} {sg sg2 : ja_S} {zz : ja_Z} (hX : ja_hX C L xs) (hi : i + 6 ≤ L) (hL : L ≤ 3072) (hf : ja_case 34 (fun j => xs (i + j)) sg = some sg2) (kk : ja_J M_law C 1135 [(0, .ref 3000), (1, .ref 0), (2, .ref 45), (3, .int (nI i))] [] ja_L0 sg2 zz) : ja_J M_law C 964 [(0, .ref 3000), (1, .ref 0), (2, .ref 45), (3, .int (nI i))] [] ja_L0 sg zz := by
  unfold ja_case at hf
  refine ja_aload_n (pc := 964) (f := 1) (i := 1) 1 (by decide +kernel) rfl rfl ?_
  refine ja_aload_n (pc := 965) (f := 0) (i := 0) 0 (by decide +kernel) rfl rfl ?_
  refine ja_iload_n (pc := 966) (f := 3) (i := 3) 3 (by decide +kernel) rfl rfl ?_
  refine ja_iconst (pc := 967) (n := 1) (v := 1) (by decide +kernel) (by decide +kernel) ?_
  refine ja_iadd (pc := 968) (by decide +kernel) ?_
  refine ja_sld (pc := 969) (i := i + 1) hX (by decide +kernel) (ja_ad 1 1 (by decide +kernel)) (by omega) (by omega) ?_
  refine ja_bind hf (fun v hv hf => ?_)
  refine ja_callVi (pc := 970) (idx := 154) (t := 7) (b := 0) (as := [.int (xs (i + 1))]) (st := []) (by decide +kernel) kv_Frame_isImplied lk_Law_154 ⟨by decide, by decide⟩ (c_Frame_isImplied _ _ 0 (xs (i + 1)) ob0 hv) ob0 rfl (Nat.le_of_ble_eq_true rfl) rfl ?_
  refine ja_aload_n (pc := 973) (f := 2) (i := 2) 2 (by decide +kernel) rfl rfl ?_
  refine ja_aload_n (pc := 974) (f := 0) (i := 0) 0 (by decide +kernel) rfl rfl ?_
  refine ja_iload_n (pc := 975) (f := 3) (i := 3) 3 (by decide +kernel) rfl rfl ?_
  refine ja_iconst (pc := 976) (n := 1) (v := 1) (by decide +kernel) (by decide +kernel) ?_
  refine ja_iadd (pc := 977) (by decide +kernel) ?_
  refine ja_sld (pc := 978) (i := i + 1) hX (by decide +kernel) (ja_ad 1 1 (by decide +kernel)) (by omega) (by omega) ?_
  refine ja_bind hf (fun u hu hf => ?_)
  refine ja_callVi (pc := 979) (idx := 157) (t := 8) (b := 45) (as := [.int (xs (i + 1))]) (st := [.int v.1]) (by decide +kernel) kv_Model_isImplied lk_Law_157 ⟨by decide, by decide⟩ (c_Model_isImplied _ _ 45 (xs (i + 1)) ob45 hu) ob45 rfl (Nat.le_of_ble_eq_true rfl) rfl ?_
  refine ja_icmp_eq (pc := 982) (off := 153) 1135 (by decide +kernel) (by decide) hf (fun hf => ?_) (fun hf => by cases hf)
  cases hf
  exact kk
theorem lc_35 {C : ja_C} {L i : Nat} {xs : Nat → Int32} {sg sg2 : ja_S} {zz : ja_Z} (hX : ja_hX C L xs) (hi : i + 6 ≤ L) (hL : L ≤ 3072) (hf : ja_case 35 (fun j => xs (i + j)) sg = some sg2) (kk : ja_J M_law C 1135 [(0, .ref 3000), (1, .ref 0), (2, .ref 45), (3, .int (nI i))] [] ja_L0 sg2 zz) : ja_J M_law C 987 [(0, .ref 3000), (1, .ref 0), (2, .ref 45), (3, .int (nI i))] [] ja_L0 sg zz := by
  unfold ja_case at hf
  refine ja_aload_n (pc := 987) (f := 1) (i := 1) 1 (by decide +kernel) rfl rfl ?_
  refine ja_bind hf (fun v hv hf => ?_)
  refine ja_callVi (pc := 988) (idx := 158) (t := 7) (b := 0) (as := []) (st := []) (by decide +kernel) kv_Frame_reducedSheet lk_Law_158 ⟨by decide, by decide⟩ (c_Frame_reducedSheet _ _ 0  ob0 hv) ob0 rfl (Nat.le_of_ble_eq_true rfl) rfl ?_
  refine ja_aload_n (pc := 991) (f := 2) (i := 2) 2 (by decide +kernel) rfl rfl ?_
  refine ja_bind hf (fun u hu hf => ?_)
  refine ja_callVi (pc := 992) (idx := 161) (t := 8) (b := 45) (as := []) (st := [.int v.1]) (by decide +kernel) kv_Model_reducedSheet lk_Law_161 ⟨by decide, by decide⟩ (c_Model_reducedSheet _ _ 45  ob45 hu) ob45 rfl (Nat.le_of_ble_eq_true rfl) rfl ?_
  refine ja_icmp_eq (pc := 995) (off := 140) 1135 (by decide +kernel) (by decide) hf (fun hf => ?_) (fun hf => by cases hf)
  cases hf
  exact kk
theorem lc_36 {C : ja_C} {L i : Nat} {xs : Nat → Int32} {sg sg2 : ja_S} {zz : ja_Z} (hX : ja_hX C L xs) (hi : i + 6 ≤ L) (hL : L ≤ 3072) (hf : ja_case 36 (fun j => xs (i + j)) sg = some sg2) (kk : ja_J M_law C 1135 [(0, .ref 3000), (1, .ref 0), (2, .ref 45), (3, .int (nI i))] [] ja_L0 sg2 zz) : ja_J M_law C 1000 [(0, .ref 3000), (1, .ref 0), (2, .ref 45), (3, .int (nI i))] [] ja_L0 sg zz := by
  unfold ja_case at hf
  refine ja_aload_n (pc := 1000) (f := 1) (i := 1) 1 (by decide +kernel) rfl rfl ?_
  refine ja_aload_n (pc := 1001) (f := 0) (i := 0) 0 (by decide +kernel) rfl rfl ?_
  refine ja_iload_n (pc := 1002) (f := 3) (i := 3) 3 (by decide +kernel) rfl rfl ?_
  refine ja_iconst (pc := 1003) (n := 1) (v := 1) (by decide +kernel) (by decide +kernel) ?_
  refine ja_iadd (pc := 1004) (by decide +kernel) ?_
  refine ja_sld (pc := 1005) (i := i + 1) hX (by decide +kernel) (ja_ad 1 1 (by decide +kernel)) (by omega) (by omega) ?_
  refine ja_bind hf (fun v hv hf => ?_)
  refine ja_callVi (pc := 1006) (idx := 162) (t := 7) (b := 0) (as := [.int (xs (i + 1))]) (st := []) (by decide +kernel) kv_Frame_testLength lk_Law_162 ⟨by decide, by decide⟩ (c_Frame_testLength _ _ 0 (xs (i + 1)) ob0 hv) ob0 rfl (Nat.le_of_ble_eq_true rfl) rfl ?_
  refine ja_aload_n (pc := 1009) (f := 2) (i := 2) 2 (by decide +kernel) rfl rfl ?_
  refine ja_aload_n (pc := 1010) (f := 0) (i := 0) 0 (by decide +kernel) rfl rfl ?_
  refine ja_iload_n (pc := 1011) (f := 3) (i := 3) 3 (by decide +kernel) rfl rfl ?_
  refine ja_iconst (pc := 1012) (n := 1) (v := 1) (by decide +kernel) (by decide +kernel) ?_
  refine ja_iadd (pc := 1013) (by decide +kernel) ?_
  refine ja_sld (pc := 1014) (i := i + 1) hX (by decide +kernel) (ja_ad 1 1 (by decide +kernel)) (by omega) (by omega) ?_
  refine ja_bind hf (fun u hu hf => ?_)
  refine ja_callVi (pc := 1015) (idx := 165) (t := 8) (b := 45) (as := [.int (xs (i + 1))]) (st := [.int v.1]) (by decide +kernel) kv_Model_testLength lk_Law_165 ⟨by decide, by decide⟩ (c_Model_testLength _ _ 45 (xs (i + 1)) ob45 hu) ob45 rfl (Nat.le_of_ble_eq_true rfl) rfl ?_
  refine ja_icmp_eq (pc := 1018) (off := 117) 1135 (by decide +kernel) (by decide) hf (fun hf => ?_) (fun hf => by cases hf)
  cases hf
  exact kk
theorem lc_37 {C : ja_C} {L i : Nat} {xs : Nat → Int32} {sg sg2 : ja_S} {zz : ja_Z} (hX : ja_hX C L xs) (hi : i + 6 ≤ L) (hL : L ≤ 3072) (hf : ja_case 37 (fun j => xs (i + j)) sg = some sg2) (kk : ja_J M_law C 1135 [(0, .ref 3000), (1, .ref 0), (2, .ref 45), (3, .int (nI i))] [] ja_L0 sg2 zz) : ja_J M_law C 1023 [(0, .ref 3000), (1, .ref 0), (2, .ref 45), (3, .int (nI i))] [] ja_L0 sg zz := by
  unfold ja_case at hf
  refine ja_aload_n (pc := 1023) (f := 1) (i := 1) 1 (by decide +kernel) rfl rfl ?_
  refine ja_aload_n (pc := 1024) (f := 0) (i := 0) 0 (by decide +kernel) rfl rfl ?_
  refine ja_iload_n (pc := 1025) (f := 3) (i := 3) 3 (by decide +kernel) rfl rfl ?_
  refine ja_iconst (pc := 1026) (n := 1) (v := 1) (by decide +kernel) (by decide +kernel) ?_
  refine ja_iadd (pc := 1027) (by decide +kernel) ?_
  refine ja_sld (pc := 1028) (i := i + 1) hX (by decide +kernel) (ja_ad 1 1 (by decide +kernel)) (by omega) (by omega) ?_
  refine ja_aload_n (pc := 1029) (f := 0) (i := 0) 0 (by decide +kernel) rfl rfl ?_
  refine ja_iload_n (pc := 1030) (f := 3) (i := 3) 3 (by decide +kernel) rfl rfl ?_
  refine ja_iconst (pc := 1031) (n := 2) (v := 2) (by decide +kernel) (by decide +kernel) ?_
  refine ja_iadd (pc := 1032) (by decide +kernel) ?_
  refine ja_sld (pc := 1033) (i := i + 2) hX (by decide +kernel) (ja_ad 2 2 (by decide +kernel)) (by omega) (by omega) ?_
  refine ja_bind hf (fun v hv hf => ?_)
  refine ja_callVi (pc := 1034) (idx := 166) (t := 7) (b := 0) (as := [.int (xs (i + 1)), .int (xs (i + 2))]) (st := []) (by decide +kernel) kv_Frame_testMove lk_Law_166 ⟨by decide, by decide⟩ (c_Frame_testMove _ _ 0 (xs (i + 1)) (xs (i + 2)) ob0 hv) ob0 rfl (Nat.le_of_ble_eq_true rfl) rfl ?_
  refine ja_aload_n (pc := 1037) (f := 2) (i := 2) 2 (by decide +kernel) rfl rfl ?_
  refine ja_aload_n (pc := 1038) (f := 0) (i := 0) 0 (by decide +kernel) rfl rfl ?_
  refine ja_iload_n (pc := 1039) (f := 3) (i := 3) 3 (by decide +kernel) rfl rfl ?_
  refine ja_iconst (pc := 1040) (n := 1) (v := 1) (by decide +kernel) (by decide +kernel) ?_
  refine ja_iadd (pc := 1041) (by decide +kernel) ?_
  refine ja_sld (pc := 1042) (i := i + 1) hX (by decide +kernel) (ja_ad 1 1 (by decide +kernel)) (by omega) (by omega) ?_
  refine ja_aload_n (pc := 1043) (f := 0) (i := 0) 0 (by decide +kernel) rfl rfl ?_
  refine ja_iload_n (pc := 1044) (f := 3) (i := 3) 3 (by decide +kernel) rfl rfl ?_
  refine ja_iconst (pc := 1045) (n := 2) (v := 2) (by decide +kernel) (by decide +kernel) ?_
  refine ja_iadd (pc := 1046) (by decide +kernel) ?_
  refine ja_sld (pc := 1047) (i := i + 2) hX (by decide +kernel) (ja_ad 2 2 (by decide +kernel)) (by omega) (by omega) ?_
  refine ja_bind hf (fun u hu hf => ?_)
  refine ja_callVi (pc := 1048) (idx := 169) (t := 8) (b := 45) (as := [.int (xs (i + 1)), .int (xs (i + 2))]) (st := [.int v.1]) (by decide +kernel) kv_Model_testMove lk_Law_169 ⟨by decide, by decide⟩ (c_Model_testMove _ _ 45 (xs (i + 1)) (xs (i + 2)) ob45 hu) ob45 rfl (Nat.le_of_ble_eq_true rfl) rfl ?_
  refine ja_icmp_eq (pc := 1051) (off := 84) 1135 (by decide +kernel) (by decide) hf (fun hf => ?_) (fun hf => by cases hf)
  cases hf
  exact kk
theorem lc_38 {C : ja_C} {L i : Nat} {xs : Nat → Int32} {sg sg2 : ja_S} {zz : ja_Z} (hX : ja_hX C L xs) (hi : i + 6 ≤ L) (hL : L ≤ 3072) (hf : ja_case 38 (fun j => xs (i + j)) sg = some sg2) (kk : ja_J M_law C 1135 [(0, .ref 3000), (1, .ref 0), (2, .ref 45), (3, .int (nI i))] [] ja_L0 sg2 zz) : ja_J M_law C 1056 [(0, .ref 3000), (1, .ref 0), (2, .ref 45), (3, .int (nI i))] [] ja_L0 sg zz := by
  unfold ja_case at hf
  refine ja_aload_n (pc := 1056) (f := 1) (i := 1) 1 (by decide +kernel) rfl rfl ?_
  refine ja_aload_n (pc := 1057) (f := 0) (i := 0) 0 (by decide +kernel) rfl rfl ?_
  refine ja_iload_n (pc := 1058) (f := 3) (i := 3) 3 (by decide +kernel) rfl rfl ?_
  refine ja_iconst (pc := 1059) (n := 1) (v := 1) (by decide +kernel) (by decide +kernel) ?_
  refine ja_iadd (pc := 1060) (by decide +kernel) ?_
  refine ja_sld (pc := 1061) (i := i + 1) hX (by decide +kernel) (ja_ad 1 1 (by decide +kernel)) (by omega) (by omega) ?_
  refine ja_aload_n (pc := 1062) (f := 0) (i := 0) 0 (by decide +kernel) rfl rfl ?_
  refine ja_iload_n (pc := 1063) (f := 3) (i := 3) 3 (by decide +kernel) rfl rfl ?_
  refine ja_iconst (pc := 1064) (n := 2) (v := 2) (by decide +kernel) (by decide +kernel) ?_
  refine ja_iadd (pc := 1065) (by decide +kernel) ?_
  refine ja_sld (pc := 1066) (i := i + 2) hX (by decide +kernel) (ja_ad 2 2 (by decide +kernel)) (by omega) (by omega) ?_
  refine ja_bind hf (fun v hv hf => ?_)
  refine ja_callVi (pc := 1067) (idx := 170) (t := 7) (b := 0) (as := [.int (xs (i + 1)), .int (xs (i + 2))]) (st := []) (by decide +kernel) kv_Frame_isMergeable lk_Law_170 ⟨by decide, by decide⟩ (c_Frame_isMergeable _ _ 0 (xs (i + 1)) (xs (i + 2)) ob0 hv) ob0 rfl (Nat.le_of_ble_eq_true rfl) rfl ?_
  refine ja_aload_n (pc := 1070) (f := 2) (i := 2) 2 (by decide +kernel) rfl rfl ?_
  refine ja_aload_n (pc := 1071) (f := 0) (i := 0) 0 (by decide +kernel) rfl rfl ?_
  refine ja_iload_n (pc := 1072) (f := 3) (i := 3) 3 (by decide +kernel) rfl rfl ?_
  refine ja_iconst (pc := 1073) (n := 1) (v := 1) (by decide +kernel) (by decide +kernel) ?_
  refine ja_iadd (pc := 1074) (by decide +kernel) ?_
  refine ja_sld (pc := 1075) (i := i + 1) hX (by decide +kernel) (ja_ad 1 1 (by decide +kernel)) (by omega) (by omega) ?_
  refine ja_aload_n (pc := 1076) (f := 0) (i := 0) 0 (by decide +kernel) rfl rfl ?_
  refine ja_iload_n (pc := 1077) (f := 3) (i := 3) 3 (by decide +kernel) rfl rfl ?_
  refine ja_iconst (pc := 1078) (n := 2) (v := 2) (by decide +kernel) (by decide +kernel) ?_
  refine ja_iadd (pc := 1079) (by decide +kernel) ?_
  refine ja_sld (pc := 1080) (i := i + 2) hX (by decide +kernel) (ja_ad 2 2 (by decide +kernel)) (by omega) (by omega) ?_
  refine ja_bind hf (fun u hu hf => ?_)
  refine ja_callVi (pc := 1081) (idx := 173) (t := 8) (b := 45) (as := [.int (xs (i + 1)), .int (xs (i + 2))]) (st := [.int v.1]) (by decide +kernel) kv_Model_isMergeable lk_Law_173 ⟨by decide, by decide⟩ (c_Model_isMergeable _ _ 45 (xs (i + 1)) (xs (i + 2)) ob45 hu) ob45 rfl (Nat.le_of_ble_eq_true rfl) rfl ?_
  refine ja_icmp_eq (pc := 1084) (off := 51) 1135 (by decide +kernel) (by decide) hf (fun hf => ?_) (fun hf => by cases hf)
  cases hf
  exact kk
theorem lc_39 {C : ja_C} {L i : Nat} {xs : Nat → Int32} {sg sg2 : ja_S} {zz : ja_Z} (hX : ja_hX C L xs) (hi : i + 6 ≤ L) (hL : L ≤ 3072) (hf : ja_case 39 (fun j => xs (i + j)) sg = some sg2) (kk : ja_J M_law C 1135 [(0, .ref 3000), (1, .ref 0), (2, .ref 45), (3, .int (nI i))] [] ja_L0 sg2 zz) : ja_J M_law C 1089 [(0, .ref 3000), (1, .ref 0), (2, .ref 45), (3, .int (nI i))] [] ja_L0 sg zz := by
  unfold ja_case at hf
  refine ja_aload_n (pc := 1089) (f := 1) (i := 1) 1 (by decide +kernel) rfl rfl ?_
  refine ja_aload_n (pc := 1090) (f := 0) (i := 0) 0 (by decide +kernel) rfl rfl ?_
  refine ja_iload_n (pc := 1091) (f := 3) (i := 3) 3 (by decide +kernel) rfl rfl ?_
  refine ja_iconst (pc := 1092) (n := 1) (v := 1) (by decide +kernel) (by decide +kernel) ?_
  refine ja_iadd (pc := 1093) (by decide +kernel) ?_
  refine ja_sld (pc := 1094) (i := i + 1) hX (by decide +kernel) (ja_ad 1 1 (by decide +kernel)) (by omega) (by omega) ?_
  refine ja_aload_n (pc := 1095) (f := 0) (i := 0) 0 (by decide +kernel) rfl rfl ?_
  refine ja_iload_n (pc := 1096) (f := 3) (i := 3) 3 (by decide +kernel) rfl rfl ?_
  refine ja_iconst (pc := 1097) (n := 2) (v := 2) (by decide +kernel) (by decide +kernel) ?_
  refine ja_iadd (pc := 1098) (by decide +kernel) ?_
  refine ja_sld (pc := 1099) (i := i + 2) hX (by decide +kernel) (ja_ad 2 2 (by decide +kernel)) (by omega) (by omega) ?_
  refine ja_bind hf (fun v hv hf => ?_)
  refine ja_callVi (pc := 1100) (idx := 174) (t := 7) (b := 0) (as := [.int (xs (i + 1)), .int (xs (i + 2))]) (st := []) (by decide +kernel) kv_Frame_mergedReachableCount lk_Law_174 ⟨by decide, by decide⟩ (c_Frame_mergedReachableCount _ _ 0 (xs (i + 1)) (xs (i + 2)) ob0 hv) ob0 rfl (Nat.le_of_ble_eq_true rfl) rfl ?_
  refine ja_aload_n (pc := 1103) (f := 2) (i := 2) 2 (by decide +kernel) rfl rfl ?_
  refine ja_aload_n (pc := 1104) (f := 0) (i := 0) 0 (by decide +kernel) rfl rfl ?_
  refine ja_iload_n (pc := 1105) (f := 3) (i := 3) 3 (by decide +kernel) rfl rfl ?_
  refine ja_iconst (pc := 1106) (n := 1) (v := 1) (by decide +kernel) (by decide +kernel) ?_
  refine ja_iadd (pc := 1107) (by decide +kernel) ?_
  refine ja_sld (pc := 1108) (i := i + 1) hX (by decide +kernel) (ja_ad 1 1 (by decide +kernel)) (by omega) (by omega) ?_
  refine ja_aload_n (pc := 1109) (f := 0) (i := 0) 0 (by decide +kernel) rfl rfl ?_
  refine ja_iload_n (pc := 1110) (f := 3) (i := 3) 3 (by decide +kernel) rfl rfl ?_
  refine ja_iconst (pc := 1111) (n := 2) (v := 2) (by decide +kernel) (by decide +kernel) ?_
  refine ja_iadd (pc := 1112) (by decide +kernel) ?_
  refine ja_sld (pc := 1113) (i := i + 2) hX (by decide +kernel) (ja_ad 2 2 (by decide +kernel)) (by omega) (by omega) ?_
  refine ja_bind hf (fun u hu hf => ?_)
  refine ja_callVi (pc := 1114) (idx := 177) (t := 8) (b := 45) (as := [.int (xs (i + 1)), .int (xs (i + 2))]) (st := [.int v.1]) (by decide +kernel) kv_Model_mergedReachableCount lk_Law_177 ⟨by decide, by decide⟩ (c_Model_mergedReachableCount _ _ 45 (xs (i + 1)) (xs (i + 2)) ob45 hu) ob45 rfl (Nat.le_of_ble_eq_true rfl) rfl ?_
  refine ja_icmp_eq (pc := 1117) (off := 18) 1135 (by decide +kernel) (by decide) hf (fun hf => ?_) (fun hf => by cases hf)
  cases hf
  exact kk
theorem lc_40 {C : ja_C} {L i : Nat} {xs : Nat → Int32} {sg sg2 : ja_S} {zz : ja_Z} (hX : ja_hX C L xs) (hi : i + 6 ≤ L) (hL : L ≤ 3072) (hf : ja_case 40 (fun j => xs (i + j)) sg = some sg2) (kk : ja_J M_law C 1135 [(0, .ref 3000), (1, .ref 0), (2, .ref 45), (3, .int (nI i))] [] ja_L0 sg2 zz) : ja_J M_law C 1122 [(0, .ref 3000), (1, .ref 0), (2, .ref 45), (3, .int (nI i))] [] ja_L0 sg zz := by
  unfold ja_case at hf
  refine ja_aload_n (pc := 1122) (f := 1) (i := 1) 1 (by decide +kernel) rfl rfl ?_
  refine ja_bind hf (fun v hv hf => ?_)
  refine ja_callVi (pc := 1123) (idx := 178) (t := 7) (b := 0) (as := []) (st := []) (by decide +kernel) kv_Frame_leversAfterMerging lk_Law_178 ⟨by decide, by decide⟩ (c_Frame_leversAfterMerging _ _ 0  ob0 hv) ob0 rfl (Nat.le_of_ble_eq_true rfl) rfl ?_
  refine ja_aload_n (pc := 1126) (f := 2) (i := 2) 2 (by decide +kernel) rfl rfl ?_
  refine ja_bind hf (fun u hu hf => ?_)
  refine ja_callVi (pc := 1127) (idx := 181) (t := 8) (b := 45) (as := []) (st := [.int v.1]) (by decide +kernel) kv_Model_leversAfterMerging lk_Law_181 ⟨by decide, by decide⟩ (c_Model_leversAfterMerging _ _ 45  ob45 hu) ob45 rfl (Nat.le_of_ble_eq_true rfl) rfl ?_
  refine ja_icmp_eq (pc := 1130) (off := 5) 1135 (by decide +kernel) (by decide) hf (fun hf => ?_) (fun hf => by cases hf)
  cases hf
  exact kk
/-- the loop of the law, by what one call keeps -/
theorem law_loop {C : ja_C} {L : Nat} {xs : Nat → Int32} (hX : ja_hX C L xs) (hL : L ≤ 3072) (P : ja_S → Prop) (hP : ∀ (i : Nat) (sg : ja_S), i + 6 ≤ L → P sg → ∀ n, xs i &&& 63 = nI n → n < 64 → ∃ sg2, ja_case n (fun j => xs (i + j)) sg = some sg2 ∧ P sg2) : ∀ (n i : Nat) (sg : ja_S), L - i < n → i ≤ L + 5 → P sg → ∃ w, ja_J M_law C 18 [(0, .ref 3000), (1, .ref 0), (2, .ref 45), (3, .int (nI i))] [] ja_L0 sg (some (.int 1), ja_L0, w) := by
  intro n
  induction n with
  | zero => intro i sg h; omega
  | succ n ih =>
    intro i sg hn hi hp
    have hsub : (nI L - 6).toInt = (L : Int) - 6 := by
      rw [show (6 : Int32) = nI 6 by decide +kernel]
      exact pk_sub_toInt (by omega) (by omega)
    have hii : (nI i).toInt = (i : Int) := nI_toInt (by omega)
    by_cases hc : i + 6 ≤ L
    · obtain ⟨j, hj, hx⟩ := pk_andE (xs i) (m := 63) 6 (by decide +kernel)
      have hj : j < 64 := hj
      obtain ⟨sg2, h1, h2⟩ := hP i sg hc hp j hx hj
      obtain ⟨w, hw⟩ := ih (i + 6) sg2 (by omega) (by omega) h2
      refine ⟨w, ?_⟩
      have kk : ja_J M_law C 1135 [(0, .ref 3000), (1, .ref 0), (2, .ref 45), (3, .int (nI i))] [] ja_L0 sg2 (some (.int 1), ja_L0, w) := by
        refine ja_iinc (pc := 1135) (i := 3) (n := 6) (v := nI (i + 6)) (lv' := [(3, .int (nI (i + 6))), (0, .ref 3000), (1, .ref 0), (2, .ref 45)]) 3 (by decide +kernel) rfl (ja_ad 6 6 (by decide +kernel)) (by decide) rfl ?_
        refine ja_goto (pc := 1138) (off := (-1120)) 18 (by decide +kernel) (by decide) ?_
        refine ja_lv [1, 2, 3, 0] rfl ?_
        exact hw
      refine ja_iload_n (pc := 18) (f := 3) (i := 3) 3 (by decide +kernel) rfl rfl ?_
      refine ja_aload_n (pc := 19) (f := 0) (i := 0) 0 (by decide +kernel) rfl rfl ?_
      refine ja_slen' (pc := 20) hX (by decide +kernel) ?_
      refine ja_bipush (pc := 21) (n := 6) (v := 6) (by decide +kernel) (by decide +kernel) ?_
      refine ja_isub (pc := 23) (by decide +kernel) ?_
      refine ja_icmp_gt (pc := 24) (off := 1117) 1141 (by decide +kernel) (by decide) (X := (none : Option Nat)) (Y := some 0) (w := some 0) (if_neg (by rw [Int32.lt_iff_toInt_lt, hsub, hii]; omega)) (fun hf => by cases hf) (fun _ => ?_)
      refine ja_aload_n (pc := 27) (f := 0) (i := 0) 0 (by decide +kernel) rfl rfl ?_
      refine ja_iload_n (pc := 28) (f := 3) (i := 3) 3 (by decide +kernel) rfl rfl ?_
      refine ja_sld (pc := 29) (i := i) hX (by decide +kernel) rfl (by omega) (by omega) ?_
      refine ja_bipush (pc := 30) (n := 63) (v := 63) (by decide +kernel) (by decide +kernel) ?_
      refine ja_iand (pc := 32) (by decide +kernel) ?_
      rw [hx]
      have hjt : (nI j).toInt = (j : Int) := nI_toInt (by omega)
      have hd : decode M_law.1 33 = .ok (.tableswitch 1102 0 40 #[179, 242, 265, 278, 291, 304, 317, 330, 353, 376, 399, 412, 435, 448, 461, 484, 537, 560, 573, 596, 629, 652, 665, 698, 731, 754, 777, 800, 833, 846, 869, 882, 905, 918, 931, 954, 967, 990, 1023, 1056, 1089], 179) := by decide +kernel
      by_cases hj2 : j < 41
      · rcases (show j = 0 ∨ j = 1 ∨ j = 2 ∨ j = 3 ∨ j = 4 ∨ j = 5 ∨ j = 6 ∨ j = 7 ∨ j = 8 ∨ j = 9 ∨ j = 10 ∨ j = 11 ∨ j = 12 ∨ j = 13 ∨ j = 14 ∨ j = 15 ∨ j = 16 ∨ j = 17 ∨ j = 18 ∨ j = 19 ∨ j = 20 ∨ j = 21 ∨ j = 22 ∨ j = 23 ∨ j = 24 ∨ j = 25 ∨ j = 26 ∨ j = 27 ∨ j = 28 ∨ j = 29 ∨ j = 30 ∨ j = 31 ∨ j = 32 ∨ j = 33 ∨ j = 34 ∨ j = 35 ∨ j = 36 ∨ j = 37 ∨ j = 38 ∨ j = 39 ∨ j = 40 by omega) with rfl | rfl | rfl | rfl | rfl | rfl | rfl | rfl | rfl | rfl | rfl | rfl | rfl | rfl | rfl | rfl | rfl | rfl | rfl | rfl | rfl | rfl | rfl | rfl | rfl | rfl | rfl | rfl | rfl | rfl | rfl | rfl | rfl | rfl | rfl | rfl | rfl | rfl | rfl | rfl | rfl
        · exact ja_tabIn (pc := 33) (tgt := 212) hd (by rw [hjt]; omega) (by rw [hjt]; omega) (off := 179) (by rw [hjt]; rfl) (by decide) (lc_0 hX hc hL h1 kk)
        · exact ja_tabIn (pc := 33) (tgt := 275) hd (by rw [hjt]; omega) (by rw [hjt]; omega) (off := 242) (by rw [hjt]; rfl) (by decide) (lc_1 hX hc hL h1 kk)
        · exact ja_tabIn (pc := 33) (tgt := 298) hd (by rw [hjt]; omega) (by rw [hjt]; omega) (off := 265) (by rw [hjt]; rfl) (by decide) (lc_2 hX hc hL h1 kk)
        · exact ja_tabIn (pc := 33) (tgt := 311) hd (by rw [hjt]; omega) (by rw [hjt]; omega) (off := 278) (by rw [hjt]; rfl) (by decide) (lc_3 hX hc hL h1 kk)
        · exact ja_tabIn (pc := 33) (tgt := 324) hd (by rw [hjt]; omega) (by rw [hjt]; omega) (off := 291) (by rw [hjt]; rfl) (by decide) (lc_4 hX hc hL h1 kk)
        · exact ja_tabIn (pc := 33) (tgt := 337) hd (by rw [hjt]; omega) (by rw [hjt]; omega) (off := 304) (by rw [hjt]; rfl) (by decide) (lc_5 hX hc hL h1 kk)
        · exact ja_tabIn (pc := 33) (tgt := 350) hd (by rw [hjt]; omega) (by rw [hjt]; omega) (off := 317) (by rw [hjt]; rfl) (by decide) (lc_6 hX hc hL h1 kk)
        · exact ja_tabIn (pc := 33) (tgt := 363) hd (by rw [hjt]; omega) (by rw [hjt]; omega) (off := 330) (by rw [hjt]; rfl) (by decide) (lc_7 hX hc hL h1 kk)
        · exact ja_tabIn (pc := 33) (tgt := 386) hd (by rw [hjt]; omega) (by rw [hjt]; omega) (off := 353) (by rw [hjt]; rfl) (by decide) (lc_8 hX hc hL h1 kk)
        · exact ja_tabIn (pc := 33) (tgt := 409) hd (by rw [hjt]; omega) (by rw [hjt]; omega) (off := 376) (by rw [hjt]; rfl) (by decide) (lc_9 hX hc hL h1 kk)
        · exact ja_tabIn (pc := 33) (tgt := 432) hd (by rw [hjt]; omega) (by rw [hjt]; omega) (off := 399) (by rw [hjt]; rfl) (by decide) (lc_10 hX hc hL h1 kk)
        · exact ja_tabIn (pc := 33) (tgt := 445) hd (by rw [hjt]; omega) (by rw [hjt]; omega) (off := 412) (by rw [hjt]; rfl) (by decide) (lc_11 hX hc hL h1 kk)
        · exact ja_tabIn (pc := 33) (tgt := 468) hd (by rw [hjt]; omega) (by rw [hjt]; omega) (off := 435) (by rw [hjt]; rfl) (by decide) (lc_12 hX hc hL h1 kk)
        · exact ja_tabIn (pc := 33) (tgt := 481) hd (by rw [hjt]; omega) (by rw [hjt]; omega) (off := 448) (by rw [hjt]; rfl) (by decide) (lc_13 hX hc hL h1 kk)
        · exact ja_tabIn (pc := 33) (tgt := 494) hd (by rw [hjt]; omega) (by rw [hjt]; omega) (off := 461) (by rw [hjt]; rfl) (by decide) (lc_14 hX hc hL h1 kk)
        · exact ja_tabIn (pc := 33) (tgt := 517) hd (by rw [hjt]; omega) (by rw [hjt]; omega) (off := 484) (by rw [hjt]; rfl) (by decide) (lc_15 hX hc hL h1 kk)
        · exact ja_tabIn (pc := 33) (tgt := 570) hd (by rw [hjt]; omega) (by rw [hjt]; omega) (off := 537) (by rw [hjt]; rfl) (by decide) (lc_16 hX hc hL h1 kk)
        · exact ja_tabIn (pc := 33) (tgt := 593) hd (by rw [hjt]; omega) (by rw [hjt]; omega) (off := 560) (by rw [hjt]; rfl) (by decide) (lc_17 hX hc hL h1 kk)
        · exact ja_tabIn (pc := 33) (tgt := 606) hd (by rw [hjt]; omega) (by rw [hjt]; omega) (off := 573) (by rw [hjt]; rfl) (by decide) (lc_18 hX hc hL h1 kk)
        · exact ja_tabIn (pc := 33) (tgt := 629) hd (by rw [hjt]; omega) (by rw [hjt]; omega) (off := 596) (by rw [hjt]; rfl) (by decide) (lc_19 hX hc hL h1 kk)
        · exact ja_tabIn (pc := 33) (tgt := 662) hd (by rw [hjt]; omega) (by rw [hjt]; omega) (off := 629) (by rw [hjt]; rfl) (by decide) (lc_20 hX hc hL h1 kk)
        · exact ja_tabIn (pc := 33) (tgt := 685) hd (by rw [hjt]; omega) (by rw [hjt]; omega) (off := 652) (by rw [hjt]; rfl) (by decide) (lc_21 hX hc hL h1 kk)
        · exact ja_tabIn (pc := 33) (tgt := 698) hd (by rw [hjt]; omega) (by rw [hjt]; omega) (off := 665) (by rw [hjt]; rfl) (by decide) (lc_22 hX hc hL h1 kk)
        · exact ja_tabIn (pc := 33) (tgt := 731) hd (by rw [hjt]; omega) (by rw [hjt]; omega) (off := 698) (by rw [hjt]; rfl) (by decide) (lc_23 hX hc hL h1 kk)
        · exact ja_tabIn (pc := 33) (tgt := 764) hd (by rw [hjt]; omega) (by rw [hjt]; omega) (off := 731) (by rw [hjt]; rfl) (by decide) (lc_24 hX hc hL h1 kk)
        · exact ja_tabIn (pc := 33) (tgt := 787) hd (by rw [hjt]; omega) (by rw [hjt]; omega) (off := 754) (by rw [hjt]; rfl) (by decide) (lc_25 hX hc hL h1 kk)
        · exact ja_tabIn (pc := 33) (tgt := 810) hd (by rw [hjt]; omega) (by rw [hjt]; omega) (off := 777) (by rw [hjt]; rfl) (by decide) (lc_26 hX hc hL h1 kk)
        · exact ja_tabIn (pc := 33) (tgt := 833) hd (by rw [hjt]; omega) (by rw [hjt]; omega) (off := 800) (by rw [hjt]; rfl) (by decide) (lc_27 hX hc hL h1 kk)
        · exact ja_tabIn (pc := 33) (tgt := 866) hd (by rw [hjt]; omega) (by rw [hjt]; omega) (off := 833) (by rw [hjt]; rfl) (by decide) (lc_28 hX hc hL h1 kk)
        · exact ja_tabIn (pc := 33) (tgt := 879) hd (by rw [hjt]; omega) (by rw [hjt]; omega) (off := 846) (by rw [hjt]; rfl) (by decide) (lc_29 hX hc hL h1 kk)
        · exact ja_tabIn (pc := 33) (tgt := 902) hd (by rw [hjt]; omega) (by rw [hjt]; omega) (off := 869) (by rw [hjt]; rfl) (by decide) (lc_30 hX hc hL h1 kk)
        · exact ja_tabIn (pc := 33) (tgt := 915) hd (by rw [hjt]; omega) (by rw [hjt]; omega) (off := 882) (by rw [hjt]; rfl) (by decide) (lc_31 hX hc hL h1 kk)
        · exact ja_tabIn (pc := 33) (tgt := 938) hd (by rw [hjt]; omega) (by rw [hjt]; omega) (off := 905) (by rw [hjt]; rfl) (by decide) (lc_32 hX hc hL h1 kk)
        · exact ja_tabIn (pc := 33) (tgt := 951) hd (by rw [hjt]; omega) (by rw [hjt]; omega) (off := 918) (by rw [hjt]; rfl) (by decide) (lc_33 hX hc hL h1 kk)
        · exact ja_tabIn (pc := 33) (tgt := 964) hd (by rw [hjt]; omega) (by rw [hjt]; omega) (off := 931) (by rw [hjt]; rfl) (by decide) (lc_34 hX hc hL h1 kk)
        · exact ja_tabIn (pc := 33) (tgt := 987) hd (by rw [hjt]; omega) (by rw [hjt]; omega) (off := 954) (by rw [hjt]; rfl) (by decide) (lc_35 hX hc hL h1 kk)
        · exact ja_tabIn (pc := 33) (tgt := 1000) hd (by rw [hjt]; omega) (by rw [hjt]; omega) (off := 967) (by rw [hjt]; rfl) (by decide) (lc_36 hX hc hL h1 kk)
        · exact ja_tabIn (pc := 33) (tgt := 1023) hd (by rw [hjt]; omega) (by rw [hjt]; omega) (off := 990) (by rw [hjt]; rfl) (by decide) (lc_37 hX hc hL h1 kk)
        · exact ja_tabIn (pc := 33) (tgt := 1056) hd (by rw [hjt]; omega) (by rw [hjt]; omega) (off := 1023) (by rw [hjt]; rfl) (by decide) (lc_38 hX hc hL h1 kk)
        · exact ja_tabIn (pc := 33) (tgt := 1089) hd (by rw [hjt]; omega) (by rw [hjt]; omega) (off := 1056) (by rw [hjt]; rfl) (by decide) (lc_39 hX hc hL h1 kk)
        · exact ja_tabIn (pc := 33) (tgt := 1122) hd (by rw [hjt]; omega) (by rw [hjt]; omega) (off := 1089) (by rw [hjt]; rfl) (by decide) (lc_40 hX hc hL h1 kk)
      · have e : ja_case j (fun k => xs (i + k)) sg = some sg := by
          unfold ja_case
          split <;> first | omega | rfl
        rw [e] at h1
        cases h1
        exact ja_tabOut (pc := 33) (tgt := 1135) hd (Or.inr (by rw [hjt]; omega)) (by decide) kk
    · refine ⟨sg, ?_⟩
      refine ja_iload_n (pc := 18) (f := 3) (i := 3) 3 (by decide +kernel) rfl rfl ?_
      refine ja_aload_n (pc := 19) (f := 0) (i := 0) 0 (by decide +kernel) rfl rfl ?_
      refine ja_slen' (pc := 20) hX (by decide +kernel) ?_
      refine ja_bipush (pc := 21) (n := 6) (v := 6) (by decide +kernel) (by decide +kernel) ?_
      refine ja_isub (pc := 23) (by decide +kernel) ?_
      refine ja_icmp_gt (pc := 24) (off := 1117) 1141 (by decide +kernel) (by decide) (X := some 0) (Y := (none : Option Nat)) (w := some 0) (if_pos (by rw [Int32.lt_iff_toInt_lt, hsub, hii]; omega)) (fun _ => ?_) (fun hf => by cases hf)
      refine ja_iconst (pc := 1141) (n := 1) (v := 1) (by decide +kernel) (by decide +kernel) ?_
      exact ja_ret (pc := 1142) (some (.int 1)) .ireturn (by decide +kernel) rfl rfl
