/-! a method: code, locals, its class, its name, what it returns, frames and words that it needs -/
abbrev ja_M : Type := ByteArray × Nat × String × String × Option FieldType × Nat × Nat
abbrev ja_G : Type := Program × Launch × Env × Room × State × MethodId × Array Value × List Frame × Method × Code
abbrev ja_X : Type := va_G × ClassId × ClassId
/-- where it began: addresses, cells, slots, how many of both it may make, which cells are its -/
abbrev ja_B : Type := (Nat → Nat) × Nat × Nat × Nat × Nat × (Nat → Prop)
abbrev ja_C : Type := ja_G × ja_X × ja_B × (ja_Z → State → Prop) × Nat × (Nat → Int32)
def ja_rv (j : Nat) : Int64 := match j with
  | 0 => -6148914691236517206
  | 1 => -3689348814741910324
  | 2 => -1085102592571150096
  | 3 => -71777214294589696
  | 4 => -281470681808896
  | _ => -4294967296
/-- what lies outside and never changes: the static table, the text constants -/
def ja_F (nk : List (String × Nat × MethodName × String)) (N : Nat) (len : List Nat) (byt : List (List Int32)) (rf : Nat → String × Nat × String) (ad : Nat → Nat) (A : Nat → Prop) (U : State) (H : Heap) : Prop :=
  va_Z "InterlockingFrame$Locking" "REVERSED_IN_WORD" "[J" (.ref (ad 2000)) A U H ∧ va_T .long (ad 2000) 6 (fun j => .long (ja_rv j)) A U H ∧ va_Z "java/lang/String" "COMPACT_STRINGS" "Z" (.int 1) A U H ∧ (va_Z "jdk/internal/util/Preconditions" "SIOOBE_FORMATTE\x52" "Ljava/util/function/BiFunction;" .null A U H ∨ va_Z "jdk/internal/util/Preconditions" "SIOOBE_FORMATTE\x52" "Ljava/util/function/BiFunction;" (.ref (ad 2001)) A U H) ∧ vk_S N len byt (fun i => ad (1000 + i)) (fun i => ad (1100 + i)) A U H ∧ (∀ i, i < N → vk_R (rf i).1 (rf i).2.1 (rf i).2.2 (ad (1000 + i)) U) ∧ ∀ q ∈ nk, va_Nw (.methodLinkNest q.1 q.2.1 q.2.2.1 q.2.2.2) U
def ja_ln : List Nat := [6, 1, 5, 8, 5, 4, 8, 6, 5, 8, 65]
def ja_by : List (List Int32) := [[108, 101, 118, 101, 114, 115], [59], [108, 111, 99, 107, 115], [114, 101, 108, 101, 97, 115, 101, 115], [104, 111, 108, 100, 115], [119, 104, 101, 110], [114, 101, 118, 101, 114, 115, 101, 100], [110, 111, 114, 109, 97, 108], [114, 111, 117, 116, 101], [99, 111, 110, 102, 108, 105, 99, 116], [32, 108, 101, 118, 101, 114, 115, 32, 114, 111, 117, 116, 101, 32, 99, 111, 110, 102, 108, 105, 99, 116, 32, 119, 104, 101, 110, 32, 108, 111, 99, 107, 115, 32, 114, 101, 108, 101, 97, 115, 101, 115, 32, 104, 111, 108, 100, 115, 32, 110, 111, 114, 109, 97, 108, 32, 114, 101, 118, 101, 114, 115, 101, 100, 32]]
def ja_sr (i : Nat) : String × Nat × String := match i with
  | 0 => ("InterlockingFrame$SheetParse\x72", 54, "levers")
  | 1 => ("InterlockingFrame$SheetParse\x72", 73, ";")
  | 2 => ("InterlockingFrame$SheetParse\x72", 126, "locks")
  | 3 => ("InterlockingFrame$SheetParse\x72", 128, "releases")
  | 4 => ("InterlockingFrame$SheetParse\x72", 130, "holds")
  | 5 => ("InterlockingFrame$SheetParse\x72", 110, "when")
  | 6 => ("InterlockingFrame$SheetParse\x72", 132, "reversed")
  | 7 => ("InterlockingFrame$SheetParse\x72", 134, "normal")
  | 8 => ("InterlockingFrame$SheetParse\x72", 85, "route")
  | 9 => ("InterlockingFrame$SheetParse\x72", 93, "conflict")
  | _ => ("InterlockingFrameModel", 104, " levers route conflict when locks releases holds normal reversed ")
def ja_nk : List (String × Nat × MethodName × String) := [("InterlockingFrame", 9, ⟨"InterlockingFrame$SheetParse\x72", "<init>", "()V"⟩, "InterlockingFrame"), ("InterlockingFrame", 18, ⟨"InterlockingFrame$Sheet", "<init>", "()V"⟩, "InterlockingFrame"), ("InterlockingFrame", 28, ⟨"InterlockingFrame$History", "<init>", "()V"⟩, "InterlockingFrame"), ("InterlockingFrame$Search", 11, ⟨"InterlockingFrame$Locking", "<init>", "()V"⟩, "InterlockingFrame"), ("InterlockingFrame", 53, ⟨"InterlockingFrame$LockPlanne\x72", "<init>", "()V"⟩, "InterlockingFrame"), ("InterlockingFrame$LockPlanne\x72", 11, ⟨"InterlockingFrame$Locking", "<init>", "()V"⟩, "InterlockingFrame"), ("InterlockingFrame", 60, ⟨"InterlockingFrame$Merge\x72", "<init>", "()V"⟩, "InterlockingFrame"), ("InterlockingFrame$Merge\x72", 11, ⟨"InterlockingFrame$Sheet", "<init>", "()V"⟩, "InterlockingFrame"), ("InterlockingFrame$LockPlanne\x72", 54, ⟨"InterlockingFrame", "leverPai\x72", "(II)I"⟩, "InterlockingFrame")]
def ja_SF : (Nat → Nat) → (Nat → Prop) → State → Heap → Prop := ja_F ja_nk 11 ja_ln ja_by ja_sr
theorem ja_SF_moved {ad : Nat → Nat} {A : Nat → Prop} {u U : State} {H : Heap} (hW : u.WarmedH U.vm) (h : ja_SF ad A u H) : ja_SF ad A U H := by
  obtain ⟨h1, h2, h3, h4, h5, h6, h7⟩ := h
  exact ⟨va_Z.moved hW.alike h1, va_T.moved hW.alike h2, va_Z.moved hW.alike h3, h4.imp (va_Z.moved hW.alike) (va_Z.moved hW.alike), vk_S.moved hW.alike h5, fun i hi => vk_R.warm hW (h6 i hi), fun q hq => va_Nw.warmM hW (h7 q hq)⟩
theorem ja_SF_same {ad : Nat → Nat} {A : Nat → Prop} {u U : State} {H : Heap} (hv : u.vm = U.vm) (h : ja_SF ad A u H) : ja_SF ad A U H := by
  obtain ⟨h1, h2, h3, h4, h5, h6, h7⟩ := h
  have hA : u.vm.Alike U.vm := hv ▸ Vm.Alike.refl u.vm
  exact ⟨va_Z.moved hA h1, va_T.moved hA h2, va_Z.moved hA h3, h4.imp (va_Z.moved hA) (va_Z.moved hA), vk_S.moved hA h5, fun i hi => vk_R.same hv.symm (h6 i hi), fun q hq => va_Nw.same rfl hv (h7 q hq)⟩
theorem ja_SF_kept {ad : Nat → Nat} {A : Nat → Prop} {U : State} {H H1 : Heap} (h : ja_SF ad A U H) (hq : ∀ a : Nat, a < H.size → ¬ A a → H1[a]? = H[a]?) : ja_SF ad A U H1 := by
  obtain ⟨h1, h2, h3, h4, h5, h6, h7⟩ := h
  exact ⟨h1.kept hq, h2.kept hq, h3.kept hq, h4.imp (fun h => h.kept hq) (fun h => h.kept hq), h5.kept hq, h6, h7⟩
theorem ja_SF_narrow {ad : Nat → Nat} {A B : Nat → Prop} {U : State} {H : Heap} (h : ja_SF ad A U H) (hAB : ∀ q, B q → A q) : ja_SF ad B U H := by
  obtain ⟨h1, h2, h3, h4, h5, h6, h7⟩ := h
  exact ⟨h1.narrow hAB, h2.narrow hAB, h3.narrow hAB, h4.imp (fun h => h.narrow hAB) (fun h => h.narrow hAB), h5.narrow hAB, h6, h7⟩
theorem ja_SF_ad {ad ad' : Nat → Nat} {A : Nat → Prop} {U : State} {H : Heap} (h : ja_SF ad A U H) (he : ∀ k, 1000 ≤ k → ad' k = ad k) : ja_SF ad' A U H := by
  obtain ⟨h1, h2, h3, h4, h5, h6, h7⟩ := h
  have e : (fun i => ad' (1000 + i)) = fun i => ad (1000 + i) := funext fun i => he _ (by omega)
  have e2 : (fun i => ad' (1100 + i)) = fun i => ad (1100 + i) := funext fun i => he _ (by omega)
  refine ⟨?_, ?_, h3, ?_, ?_, fun i hi => ?_, h7⟩
  · rw [he 2000 (by omega)]; exact h1
  · rw [he 2000 (by omega)]; exact h2
  · rw [he 2001 (by omega)]; exact h4
  · rw [e, e2]; exact h5
  · rw [he _ (by omega)]; exact h6 i hi
def ja_wf (Λ : ja_L) : Prop := ∀ k j i, k < Λ.1 → Λ.2.2.2 k j = some i → i < Λ.1
def ja_inv (C : ja_C) (ad : Nat → Nat) (Λ : ja_L) (σ : ja_S) (H : Heap) (locs : List Loc) : Prop := match C with
  | ⟨⟨_, _, _, _, s, _, _, _, _, _⟩, ⟨D, cI, cJ⟩, ⟨ad0, n0, sl0, MC, MS, A⟩, _, _⟩ =>
    va_P D classes (ja_wl cI cJ Λ σ ad) H ∧ va_D A (ja_wl cI cJ Λ σ ad) ∧ va_S A s.heap H locs ∧ (∀ k, k < n0 ∨ Λ.1 ≤ k → ad k = ad0 k) ∧ (n0 ≤ Λ.1 ∧ sl0 ≤ Λ.2.1 ∧ Λ.1 - n0 ≤ MC ∧ Λ.2.1 - sl0 ≤ MS ∧ Λ.1 ≤ 1000 ∧ ja_wf Λ)
def ja_W (C : ja_C) (Λ : ja_L) (H : Heap) (locs : List Loc) (zz : ja_Z) (pc : Nat) (ls : Array Slot) (st : List Value) : Prop := match C with
  | ⟨⟨p, l, e, R, s, m, args, below, meth, c⟩, _, ⟨_, n0, sl0, _, _, _⟩, Qf, _⟩ => W p l e R s m args below meth c H locs (Λ.1 - n0) (Λ.2.1 - sl0) (Qf zz) (F0 m pc ls st)
/-- what the instruction of a return must be, by what the method returns -/
def ja_ri (r : Option FieldType) (v : Option Value) : Option Instr := match r, v with
  | none, none => some .return_
  | some .int, some (.int _) => some .ireturn
  | some .boolean, some (.int x) => if x = 0 ∨ x = 1 then some .ireturn else none
  | some .byte, some (.int x) => if narrow .byte (.int x) = .int x then some .ireturn else none
  | some .char, some (.int x) => if narrow .char (.int x) = .int x then some .ireturn else none
  | some .long, some (.long _) => some .lreturn
  | some (.object _), some (.ref _) => some .areturn
  | _, _ => none
def ja_ok (M : ja_M) (C : ja_C) : Prop := match C with
  | ⟨⟨p, _, _, R, s, m, args, _, meth, c⟩, ⟨D, cI, cJ⟩, ⟨ad0, _, _, MC, MS, A⟩, _, ⟨L, xs⟩⟩ =>
    CallFix p m c M.1 M.2.1 s args ja_tb M.2.2.1 ∧ va_K D classes [(cI, .int), (cJ, .long)] s ∧ (∀ q, s.heap.size ≤ q → A q) ∧ ja_SF ad0 A s s.heap ∧ (M.2.2.2.2.2.1 ≤ R.frames ∧ M.2.2.2.2.2.2 ≤ R.locals ∧ MC ≤ R.cells ∧ MS ≤ R.slots) ∧ (M.2.2.2.1 = "<init>" → meth.name = "<init>") ∧ (L = 0 ∨ va_X (ad0 3000) L xs s s.heap ∧ ad0 3000 < s.heap.size ∧ ¬ A (ad0 3000)) ∧
    ∀ v ad Λ σ H locs pc ls, decode M.1 pc = .ok ((ja_ri M.2.2.2.2.1 v).getD .nop, 1) → (ja_ri M.2.2.2.2.1 v).isSome = true → ja_inv C ad Λ σ H locs → ja_W C Λ H locs (v, Λ, σ) pc ls (v.toList.map (ja_cv ad))
/-- from here the method comes to its end with zz -/
def ja_J (M : ja_M) (C : ja_C) (pc : Nat) (lv : List (Nat × Value)) (st : List Value) (Λ : ja_L) (σ : ja_S) (zz : ja_Z) : Prop :=
  ja_ok M C → ∀ ad H locs ls, ja_inv C ad Λ σ H locs → lv_has ls M.2.1 (ja_cl ad lv) → ja_W C Λ H locs zz pc ls (st.map (ja_cv ad))
section JA
variable {M : ja_M} {C : ja_C} {pc : Nat} {lv lv' : List (Nat × Value)} {st : List Value} {Λ : ja_L} {σ : ja_S} {zz : ja_Z}
theorem ja_iconst {n : Int} {v : Int32} (hd : decode M.1 pc = .ok (.iconst n, 1)) (hv : Int32.ofInt n = v) (k : ja_J M C (pc + 1) lv (.int v :: st) Λ σ zz) : ja_J M C pc lv (st) Λ σ zz := by
  obtain ⟨⟨p, l, e, R, s, m, args, below, meth, c⟩, ⟨D, cI, cJ⟩, ⟨ad0, n0, sl0, MC, MS, A⟩, Qf, L, xs⟩ := C
  intro ok ad H locs ls iv hl
  exact lv_iconst  (rest := st.map (ja_cv ad)) ok.1.1 ok.1.2.1 hd hv (k ok ad H locs ls iv hl)
theorem ja_bipush {n : Int} {v : Int32} (hd : decode M.1 pc = .ok (.bipush n, 2)) (hv : (Int8.ofInt n).toInt32 = v) (k : ja_J M C (pc + 2) lv (.int v :: st) Λ σ zz) : ja_J M C pc lv (st) Λ σ zz := by
  obtain ⟨⟨p, l, e, R, s, m, args, below, meth, c⟩, ⟨D, cI, cJ⟩, ⟨ad0, n0, sl0, MC, MS, A⟩, Qf, L, xs⟩ := C
  intro ok ad H locs ls iv hl
  exact lv_bipush  (rest := st.map (ja_cv ad)) ok.1.1 ok.1.2.1 hd hv (k ok ad H locs ls iv hl)
theorem ja_sipush {n : Int} {v : Int32} (hd : decode M.1 pc = .ok (.sipush n, 3)) (hv : (Int16.ofInt n).toInt32 = v) (k : ja_J M C (pc + 3) lv (.int v :: st) Λ σ zz) : ja_J M C pc lv (st) Λ σ zz := by
  obtain ⟨⟨p, l, e, R, s, m, args, below, meth, c⟩, ⟨D, cI, cJ⟩, ⟨ad0, n0, sl0, MC, MS, A⟩, Qf, L, xs⟩ := C
  intro ok ad H locs ls iv hl
  exact lv_sipush  (rest := st.map (ja_cv ad)) ok.1.1 ok.1.2.1 hd hv (k ok ad H locs ls iv hl)
theorem ja_lconst {n : Fin 2} {v : Int64} (hd : decode M.1 pc = .ok (.lconst n, 1)) (hv : Int64.ofNat (n : Nat) = v) (k : ja_J M C (pc + 1) lv (.long v :: st) Λ σ zz) : ja_J M C pc lv (st) Λ σ zz := by
  obtain ⟨⟨p, l, e, R, s, m, args, below, meth, c⟩, ⟨D, cI, cJ⟩, ⟨ad0, n0, sl0, MC, MS, A⟩, Qf, L, xs⟩ := C
  intro ok ad H locs ls iv hl
  exact lv_lconst  (rest := st.map (ja_cv ad)) ok.1.1 ok.1.2.1 hd hv (k ok ad H locs ls iv hl)
theorem ja_iload_n {f : Fin 4} {i : Nat} {x : Int32} (q : Nat) (hd : decode M.1 pc = .ok (.iload_n f, 1)) (hi : (f : Nat) = i) (hq : lv[q]? = some (i, .int x)) (k : ja_J M C (pc + 1) lv (.int x :: st) Λ σ zz) : ja_J M C pc lv (st) Λ σ zz := by
  obtain ⟨⟨p, l, e, R, s, m, args, below, meth, c⟩, ⟨D, cI, cJ⟩, ⟨ad0, n0, sl0, MC, MS, A⟩, Qf, L, xs⟩ := C
  intro ok ad H locs ls iv hl
  exact lv_iload_n  (rest := st.map (ja_cv ad)) ok.1.1 ok.1.2.1 hd hi (lv_at hl q (ja_cl_at hq)) (k ok ad H locs ls iv hl)
theorem ja_lload_n {f : Fin 4} {i : Nat} {x : Int64} (q : Nat) (hd : decode M.1 pc = .ok (.lload_n f, 1)) (hi : (f : Nat) = i) (hq : lv[q]? = some (i, .long x)) (k : ja_J M C (pc + 1) lv (.long x :: st) Λ σ zz) : ja_J M C pc lv (st) Λ σ zz := by
  obtain ⟨⟨p, l, e, R, s, m, args, below, meth, c⟩, ⟨D, cI, cJ⟩, ⟨ad0, n0, sl0, MC, MS, A⟩, Qf, L, xs⟩ := C
  intro ok ad H locs ls iv hl
  exact lv_lload_n  (rest := st.map (ja_cv ad)) ok.1.1 ok.1.2.1 hd hi (lv_at hl q (ja_cl_at hq)) (k ok ad H locs ls iv hl)
theorem ja_aload_n {f : Fin 4} {i : Nat} {x : Nat} (q : Nat) (hd : decode M.1 pc = .ok (.aload_n f, 1)) (hi : (f : Nat) = i) (hq : lv[q]? = some (i, .ref x)) (k : ja_J M C (pc + 1) lv (.ref x :: st) Λ σ zz) : ja_J M C pc lv (st) Λ σ zz := by
  obtain ⟨⟨p, l, e, R, s, m, args, below, meth, c⟩, ⟨D, cI, cJ⟩, ⟨ad0, n0, sl0, MC, MS, A⟩, Qf, L, xs⟩ := C
  intro ok ad H locs ls iv hl
  exact lv_aload_n  (rest := st.map (ja_cv ad)) ok.1.1 ok.1.2.1 hd hi (lv_at hl q (ja_cl_at hq)) (k ok ad H locs ls iv hl)
theorem ja_iload {i : Nat} {x : Int32} (q : Nat) (hd : decode M.1 pc = .ok (.iload i, 2)) (hq : lv[q]? = some (i, .int x)) (k : ja_J M C (pc + 2) lv (.int x :: st) Λ σ zz) : ja_J M C pc lv (st) Λ σ zz := by
  obtain ⟨⟨p, l, e, R, s, m, args, below, meth, c⟩, ⟨D, cI, cJ⟩, ⟨ad0, n0, sl0, MC, MS, A⟩, Qf, L, xs⟩ := C
  intro ok ad H locs ls iv hl
  exact lv_iload  (rest := st.map (ja_cv ad)) ok.1.1 ok.1.2.1 hd (lv_at hl q (ja_cl_at hq)) (k ok ad H locs ls iv hl)
theorem ja_lload {i : Nat} {x : Int64} (q : Nat) (hd : decode M.1 pc = .ok (.lload i, 2)) (hq : lv[q]? = some (i, .long x)) (k : ja_J M C (pc + 2) lv (.long x :: st) Λ σ zz) : ja_J M C pc lv (st) Λ σ zz := by
  obtain ⟨⟨p, l, e, R, s, m, args, below, meth, c⟩, ⟨D, cI, cJ⟩, ⟨ad0, n0, sl0, MC, MS, A⟩, Qf, L, xs⟩ := C
  intro ok ad H locs ls iv hl
  exact lv_lload  (rest := st.map (ja_cv ad)) ok.1.1 ok.1.2.1 hd (lv_at hl q (ja_cl_at hq)) (k ok ad H locs ls iv hl)
theorem ja_aload {i : Nat} {x : Nat} (q : Nat) (hd : decode M.1 pc = .ok (.aload i, 2)) (hq : lv[q]? = some (i, .ref x)) (k : ja_J M C (pc + 2) lv (.ref x :: st) Λ σ zz) : ja_J M C pc lv (st) Λ σ zz := by
  obtain ⟨⟨p, l, e, R, s, m, args, below, meth, c⟩, ⟨D, cI, cJ⟩, ⟨ad0, n0, sl0, MC, MS, A⟩, Qf, L, xs⟩ := C
  intro ok ad H locs ls iv hl
  exact lv_aload  (rest := st.map (ja_cv ad)) ok.1.1 ok.1.2.1 hd (lv_at hl q (ja_cl_at hq)) (k ok ad H locs ls iv hl)
theorem ja_istore_n {f : Fin 4} {i : Nat} {x : Int32} (hd : decode M.1 pc = .ok (.istore_n f, 1)) (hi : (f : Nat) = i) (hn : i < M.2.1) (hl' : (i, Value.int x) :: lv.filter (fun q => !(q.1 == i) && !(q.1 + 1 == i && q.2.category == 2)) = lv') (k : ja_J M C (pc + 1) lv' st Λ σ zz) : ja_J M C pc lv (.int x :: st) Λ σ zz := by
  obtain ⟨⟨p, l, e, R, s, m, args, below, meth, c⟩, ⟨D, cI, cJ⟩, ⟨ad0, n0, sl0, MC, MS, A⟩, Qf, L, xs⟩ := C
  intro ok ad H locs ls iv hl
  exact lv_istore_n (rest := st.map (ja_cv ad)) ok.1.1 ok.1.2.1 hd hi hl hn (by rw [ja_cl_f1, ← hl']; rfl) (fun ls' hl2 => k ok ad H locs ls' iv hl2)
theorem ja_lstore_n {f : Fin 4} {i : Nat} {x : Int64} (hd : decode M.1 pc = .ok (.lstore_n f, 1)) (hi : (f : Nat) = i) (hn : i + 1 < M.2.1) (hl' : (i, Value.long x) :: lv.filter (fun q => !(q.1 == i) && (!(q.1 == i + 1) && !(q.1 + 1 == i && q.2.category == 2))) = lv') (k : ja_J M C (pc + 1) lv' st Λ σ zz) : ja_J M C pc lv (.long x :: st) Λ σ zz := by
  obtain ⟨⟨p, l, e, R, s, m, args, below, meth, c⟩, ⟨D, cI, cJ⟩, ⟨ad0, n0, sl0, MC, MS, A⟩, Qf, L, xs⟩ := C
  intro ok ad H locs ls iv hl
  exact lv_lstore_n (rest := st.map (ja_cv ad)) ok.1.1 ok.1.2.1 hd hi hl hn (by rw [ja_cl_f2, ← hl']; rfl) (fun ls' hl2 => k ok ad H locs ls' iv hl2)
theorem ja_astore_n {f : Fin 4} {i : Nat} {x : Nat} (hd : decode M.1 pc = .ok (.astore_n f, 1)) (hi : (f : Nat) = i) (hn : i < M.2.1) (hl' : (i, Value.ref x) :: lv.filter (fun q => !(q.1 == i) && !(q.1 + 1 == i && q.2.category == 2)) = lv') (k : ja_J M C (pc + 1) lv' st Λ σ zz) : ja_J M C pc lv (.ref x :: st) Λ σ zz := by
  obtain ⟨⟨p, l, e, R, s, m, args, below, meth, c⟩, ⟨D, cI, cJ⟩, ⟨ad0, n0, sl0, MC, MS, A⟩, Qf, L, xs⟩ := C
  intro ok ad H locs ls iv hl
  exact lv_astore_n (rest := st.map (ja_cv ad)) ok.1.1 ok.1.2.1 hd hi hl hn (by rw [ja_cl_f1, ← hl']; rfl) (fun ls' hl2 => k ok ad H locs ls' iv hl2)
theorem ja_istore {i : Nat} {x : Int32} (hd : decode M.1 pc = .ok (.istore i, 2)) (hn : i < M.2.1) (hl' : (i, Value.int x) :: lv.filter (fun q => !(q.1 == i) && !(q.1 + 1 == i && q.2.category == 2)) = lv') (k : ja_J M C (pc + 2) lv' st Λ σ zz) : ja_J M C pc lv (.int x :: st) Λ σ zz := by
  obtain ⟨⟨p, l, e, R, s, m, args, below, meth, c⟩, ⟨D, cI, cJ⟩, ⟨ad0, n0, sl0, MC, MS, A⟩, Qf, L, xs⟩ := C
  intro ok ad H locs ls iv hl
  exact lv_istore (rest := st.map (ja_cv ad)) ok.1.1 ok.1.2.1 hd hl hn (by rw [ja_cl_f1, ← hl']; rfl) (fun ls' hl2 => k ok ad H locs ls' iv hl2)
theorem ja_lstore {i : Nat} {x : Int64} (hd : decode M.1 pc = .ok (.lstore i, 2)) (hn : i + 1 < M.2.1) (hl' : (i, Value.long x) :: lv.filter (fun q => !(q.1 == i) && (!(q.1 == i + 1) && !(q.1 + 1 == i && q.2.category == 2))) = lv') (k : ja_J M C (pc + 2) lv' st Λ σ zz) : ja_J M C pc lv (.long x :: st) Λ σ zz := by
  obtain ⟨⟨p, l, e, R, s, m, args, below, meth, c⟩, ⟨D, cI, cJ⟩, ⟨ad0, n0, sl0, MC, MS, A⟩, Qf, L, xs⟩ := C
  intro ok ad H locs ls iv hl
  exact lv_lstore (rest := st.map (ja_cv ad)) ok.1.1 ok.1.2.1 hd hl hn (by rw [ja_cl_f2, ← hl']; rfl) (fun ls' hl2 => k ok ad H locs ls' iv hl2)
theorem ja_astore {i : Nat} {x : Nat} (hd : decode M.1 pc = .ok (.astore i, 2)) (hn : i < M.2.1) (hl' : (i, Value.ref x) :: lv.filter (fun q => !(q.1 == i) && !(q.1 + 1 == i && q.2.category == 2)) = lv') (k : ja_J M C (pc + 2) lv' st Λ σ zz) : ja_J M C pc lv (.ref x :: st) Λ σ zz := by
  obtain ⟨⟨p, l, e, R, s, m, args, below, meth, c⟩, ⟨D, cI, cJ⟩, ⟨ad0, n0, sl0, MC, MS, A⟩, Qf, L, xs⟩ := C
  intro ok ad H locs ls iv hl
  exact lv_astore (rest := st.map (ja_cv ad)) ok.1.1 ok.1.2.1 hd hl hn (by rw [ja_cl_f1, ← hl']; rfl) (fun ls' hl2 => k ok ad H locs ls' iv hl2)
theorem ja_iinc {i : Nat} {n : Int} {x v : Int32} (q : Nat) (hd : decode M.1 pc = .ok (.iinc i n, 3)) (hq : lv[q]? = some (i, .int x)) (hv : x + Int32.ofInt n = v) (hn : i < M.2.1) (hl' : (i, Value.int v) :: lv.filter (fun q => !(q.1 == i) && !(q.1 + 1 == i && q.2.category == 2)) = lv') (k : ja_J M C (pc + 3) lv' st Λ σ zz) : ja_J M C pc lv st Λ σ zz := by
  obtain ⟨⟨p, l, e, R, s, m, args, below, meth, c⟩, ⟨D, cI, cJ⟩, ⟨ad0, n0, sl0, MC, MS, A⟩, Qf, L, xs⟩ := C
  intro ok ad H locs ls iv hl
  exact lv_iinc (rest := st.map (ja_cv ad)) ok.1.1 ok.1.2.1 hd hl (ja_cl_at hq) hv hn (by rw [ja_cl_f1, ← hl']; rfl) (fun ls' hl2 => k ok ad H locs ls' iv hl2)
theorem ja_iadd {x y : Int32} (hd : decode M.1 pc = .ok (.iadd, 1))  (k : ja_J M C (pc + 1) lv (.int (x + y) :: st) Λ σ zz) : ja_J M C pc lv (.int y :: .int x :: st) Λ σ zz := by
  obtain ⟨⟨p, l, e, R, s, m, args, below, meth, c⟩, ⟨D, cI, cJ⟩, ⟨ad0, n0, sl0, MC, MS, A⟩, Qf, L, xs⟩ := C
  intro ok ad H locs ls iv hl
  exact lv_iadd (x := x) (y := y) (rest := st.map (ja_cv ad)) ok.1.1 ok.1.2.1 hd  (k ok ad H locs ls iv hl)
theorem ja_isub {x y : Int32} (hd : decode M.1 pc = .ok (.isub, 1))  (k : ja_J M C (pc + 1) lv (.int (x - y) :: st) Λ σ zz) : ja_J M C pc lv (.int y :: .int x :: st) Λ σ zz := by
  obtain ⟨⟨p, l, e, R, s, m, args, below, meth, c⟩, ⟨D, cI, cJ⟩, ⟨ad0, n0, sl0, MC, MS, A⟩, Qf, L, xs⟩ := C
  intro ok ad H locs ls iv hl
  exact lv_isub (x := x) (y := y) (rest := st.map (ja_cv ad)) ok.1.1 ok.1.2.1 hd  (k ok ad H locs ls iv hl)
theorem ja_imul {x y : Int32} (hd : decode M.1 pc = .ok (.imul, 1))  (k : ja_J M C (pc + 1) lv (.int (x * y) :: st) Λ σ zz) : ja_J M C pc lv (.int y :: .int x :: st) Λ σ zz := by
  obtain ⟨⟨p, l, e, R, s, m, args, below, meth, c⟩, ⟨D, cI, cJ⟩, ⟨ad0, n0, sl0, MC, MS, A⟩, Qf, L, xs⟩ := C
  intro ok ad H locs ls iv hl
  exact lv_imul (x := x) (y := y) (rest := st.map (ja_cv ad)) ok.1.1 ok.1.2.1 hd  (k ok ad H locs ls iv hl)
theorem ja_iand {x y : Int32} (hd : decode M.1 pc = .ok (.iand, 1))  (k : ja_J M C (pc + 1) lv (.int (x &&& y) :: st) Λ σ zz) : ja_J M C pc lv (.int y :: .int x :: st) Λ σ zz := by
  obtain ⟨⟨p, l, e, R, s, m, args, below, meth, c⟩, ⟨D, cI, cJ⟩, ⟨ad0, n0, sl0, MC, MS, A⟩, Qf, L, xs⟩ := C
  intro ok ad H locs ls iv hl
  exact lv_iand (x := x) (y := y) (rest := st.map (ja_cv ad)) ok.1.1 ok.1.2.1 hd  (k ok ad H locs ls iv hl)
theorem ja_ior {x y : Int32} (hd : decode M.1 pc = .ok (.ior, 1))  (k : ja_J M C (pc + 1) lv (.int (x ||| y) :: st) Λ σ zz) : ja_J M C pc lv (.int y :: .int x :: st) Λ σ zz := by
  obtain ⟨⟨p, l, e, R, s, m, args, below, meth, c⟩, ⟨D, cI, cJ⟩, ⟨ad0, n0, sl0, MC, MS, A⟩, Qf, L, xs⟩ := C
  intro ok ad H locs ls iv hl
  exact lv_ior (x := x) (y := y) (rest := st.map (ja_cv ad)) ok.1.1 ok.1.2.1 hd  (k ok ad H locs ls iv hl)
theorem ja_ixor {x y : Int32} (hd : decode M.1 pc = .ok (.ixor, 1))  (k : ja_J M C (pc + 1) lv (.int (x ^^^ y) :: st) Λ σ zz) : ja_J M C pc lv (.int y :: .int x :: st) Λ σ zz := by
  obtain ⟨⟨p, l, e, R, s, m, args, below, meth, c⟩, ⟨D, cI, cJ⟩, ⟨ad0, n0, sl0, MC, MS, A⟩, Qf, L, xs⟩ := C
  intro ok ad H locs ls iv hl
  exact lv_ixor (x := x) (y := y) (rest := st.map (ja_cv ad)) ok.1.1 ok.1.2.1 hd  (k ok ad H locs ls iv hl)
theorem ja_ishl {x y : Int32} (hd : decode M.1 pc = .ok (.ishl, 1))  (k : ja_J M C (pc + 1) lv (.int (x <<< (y &&& 31)) :: st) Λ σ zz) : ja_J M C pc lv (.int y :: .int x :: st) Λ σ zz := by
  obtain ⟨⟨p, l, e, R, s, m, args, below, meth, c⟩, ⟨D, cI, cJ⟩, ⟨ad0, n0, sl0, MC, MS, A⟩, Qf, L, xs⟩ := C
  intro ok ad H locs ls iv hl
  exact lv_ishl (x := x) (y := y) (rest := st.map (ja_cv ad)) ok.1.1 ok.1.2.1 hd  (k ok ad H locs ls iv hl)
theorem ja_ishr {x y : Int32} (hd : decode M.1 pc = .ok (.ishr, 1))  (k : ja_J M C (pc + 1) lv (.int (x >>> (y &&& 31)) :: st) Λ σ zz) : ja_J M C pc lv (.int y :: .int x :: st) Λ σ zz := by
  obtain ⟨⟨p, l, e, R, s, m, args, below, meth, c⟩, ⟨D, cI, cJ⟩, ⟨ad0, n0, sl0, MC, MS, A⟩, Qf, L, xs⟩ := C
  intro ok ad H locs ls iv hl
  exact lv_ishr (x := x) (y := y) (rest := st.map (ja_cv ad)) ok.1.1 ok.1.2.1 hd  (k ok ad H locs ls iv hl)
theorem ja_land {x y : Int64} (hd : decode M.1 pc = .ok (.land, 1))  (k : ja_J M C (pc + 1) lv (.long (x &&& y) :: st) Λ σ zz) : ja_J M C pc lv (.long y :: .long x :: st) Λ σ zz := by
  obtain ⟨⟨p, l, e, R, s, m, args, below, meth, c⟩, ⟨D, cI, cJ⟩, ⟨ad0, n0, sl0, MC, MS, A⟩, Qf, L, xs⟩ := C
  intro ok ad H locs ls iv hl
  exact lv_land (x := x) (y := y) (rest := st.map (ja_cv ad)) ok.1.1 ok.1.2.1 hd  (k ok ad H locs ls iv hl)
theorem ja_lor {x y : Int64} (hd : decode M.1 pc = .ok (.lor, 1))  (k : ja_J M C (pc + 1) lv (.long (x ||| y) :: st) Λ σ zz) : ja_J M C pc lv (.long y :: .long x :: st) Λ σ zz := by
  obtain ⟨⟨p, l, e, R, s, m, args, below, meth, c⟩, ⟨D, cI, cJ⟩, ⟨ad0, n0, sl0, MC, MS, A⟩, Qf, L, xs⟩ := C
  intro ok ad H locs ls iv hl
  exact lv_lor (x := x) (y := y) (rest := st.map (ja_cv ad)) ok.1.1 ok.1.2.1 hd  (k ok ad H locs ls iv hl)
theorem ja_lxor {x y : Int64} (hd : decode M.1 pc = .ok (.lxor, 1))  (k : ja_J M C (pc + 1) lv (.long (x ^^^ y) :: st) Λ σ zz) : ja_J M C pc lv (.long y :: .long x :: st) Λ σ zz := by
  obtain ⟨⟨p, l, e, R, s, m, args, below, meth, c⟩, ⟨D, cI, cJ⟩, ⟨ad0, n0, sl0, MC, MS, A⟩, Qf, L, xs⟩ := C
  intro ok ad H locs ls iv hl
  exact lv_lxor (x := x) (y := y) (rest := st.map (ja_cv ad)) ok.1.1 ok.1.2.1 hd  (k ok ad H locs ls iv hl)
theorem ja_idiv {x y : Int32} (hd : decode M.1 pc = .ok (.idiv, 1)) (hne : ¬ y = 0) (k : ja_J M C (pc + 1) lv (.int (x / y) :: st) Λ σ zz) : ja_J M C pc lv (.int y :: .int x :: st) Λ σ zz := by
  obtain ⟨⟨p, l, e, R, s, m, args, below, meth, c⟩, ⟨D, cI, cJ⟩, ⟨ad0, n0, sl0, MC, MS, A⟩, Qf, L, xs⟩ := C
  intro ok ad H locs ls iv hl
  exact lv_idiv (x := x) (y := y) (rest := st.map (ja_cv ad)) ok.1.1 ok.1.2.1 hd hne (k ok ad H locs ls iv hl)
theorem ja_irem {x y : Int32} (hd : decode M.1 pc = .ok (.irem, 1)) (hne : ¬ y = 0) (k : ja_J M C (pc + 1) lv (.int (x - x / y * y) :: st) Λ σ zz) : ja_J M C pc lv (.int y :: .int x :: st) Λ σ zz := by
  obtain ⟨⟨p, l, e, R, s, m, args, below, meth, c⟩, ⟨D, cI, cJ⟩, ⟨ad0, n0, sl0, MC, MS, A⟩, Qf, L, xs⟩ := C
  intro ok ad H locs ls iv hl
  exact lv_irem (x := x) (y := y) (rest := st.map (ja_cv ad)) ok.1.1 ok.1.2.1 hd hne (k ok ad H locs ls iv hl)
theorem ja_iushr {x y : Int32} (hd : decode M.1 pc = .ok (.iushr, 1))  (k : ja_J M C (pc + 1) lv (.int ((x.toUInt32 >>> (y.toUInt32 &&& Int32.toUInt32 31)).toInt32) :: st) Λ σ zz) : ja_J M C pc lv (.int y :: .int x :: st) Λ σ zz := by
  obtain ⟨⟨p, l, e, R, s, m, args, below, meth, c⟩, ⟨D, cI, cJ⟩, ⟨ad0, n0, sl0, MC, MS, A⟩, Qf, L, xs⟩ := C
  intro ok ad H locs ls iv hl
  exact lv_iushr (x := x) (y := y) (rest := st.map (ja_cv ad)) ok.1.1 ok.1.2.1 hd rfl (k ok ad H locs ls iv hl)
theorem ja_lushr {x : Int64} {y : Int32} (hd : decode M.1 pc = .ok (.lushr, 1))  (k : ja_J M C (pc + 1) lv (.long ((x.toUInt64 >>> (y.toInt64.toUInt64 &&& Int64.toUInt64 63)).toInt64) :: st) Λ σ zz) : ja_J M C pc lv (.int y :: .long x :: st) Λ σ zz := by
  obtain ⟨⟨p, l, e, R, s, m, args, below, meth, c⟩, ⟨D, cI, cJ⟩, ⟨ad0, n0, sl0, MC, MS, A⟩, Qf, L, xs⟩ := C
  intro ok ad H locs ls iv hl
  exact lv_lushr (x := x) (y := y) (rest := st.map (ja_cv ad)) ok.1.1 ok.1.2.1 hd rfl (k ok ad H locs ls iv hl)
theorem ja_i2l {x : Int32} (hd : decode M.1 pc = .ok (.i2l, 1))  (k : ja_J M C (pc + 1) lv (.long x.toInt64 :: st) Λ σ zz) : ja_J M C pc lv (.int x :: st) Λ σ zz := by
  obtain ⟨⟨p, l, e, R, s, m, args, below, meth, c⟩, ⟨D, cI, cJ⟩, ⟨ad0, n0, sl0, MC, MS, A⟩, Qf, L, xs⟩ := C
  intro ok ad H locs ls iv hl
  exact lv_i2l (x := x) (rest := st.map (ja_cv ad)) ok.1.1 ok.1.2.1 hd rfl (k ok ad H locs ls iv hl)
theorem ja_i2c {x : Int32} (hd : decode M.1 pc = .ok (.i2c, 1))  (k : ja_J M C (pc + 1) lv (.int (x.toUInt32 % 65536).toInt32 :: st) Λ σ zz) : ja_J M C pc lv (.int x :: st) Λ σ zz := by
  obtain ⟨⟨p, l, e, R, s, m, args, below, meth, c⟩, ⟨D, cI, cJ⟩, ⟨ad0, n0, sl0, MC, MS, A⟩, Qf, L, xs⟩ := C
  intro ok ad H locs ls iv hl
  exact lv_i2c (x := x) (rest := st.map (ja_cv ad)) ok.1.1 ok.1.2.1 hd rfl (k ok ad H locs ls iv hl)
theorem ja_lcmp {x y : Int64} (hd : decode M.1 pc = .ok (.lcmp, 1))  (k : ja_J M C (pc + 1) lv (.int (lg_cmp x y) :: st) Λ σ zz) : ja_J M C pc lv (.long y :: .long x :: st) Λ σ zz := by
  obtain ⟨⟨p, l, e, R, s, m, args, below, meth, c⟩, ⟨D, cI, cJ⟩, ⟨ad0, n0, sl0, MC, MS, A⟩, Qf, L, xs⟩ := C
  intro ok ad H locs ls iv hl
  exact W.lcmp (x := x) (y := y) (rest := st.map (ja_cv ad)) ok.1.1 ok.1.2.1 hd  (k ok ad H locs ls iv hl)
theorem ja_dup {v : Value} (hd : decode M.1 pc = .ok (.dup, 1)) (hv : v.category = 1) (k : ja_J M C (pc + 1) lv (v :: v :: st) Λ σ zz) : ja_J M C pc lv (v :: st) Λ σ zz := by
  obtain ⟨⟨p, l, e, R, s, m, args, below, meth, c⟩, ⟨D, cI, cJ⟩, ⟨ad0, n0, sl0, MC, MS, A⟩, Qf, L, xs⟩ := C
  intro ok ad H locs ls iv hl
  exact lv_dup (va := ja_cv ad v) (rest := st.map (ja_cv ad)) ok.1.1 ok.1.2.1 hd ((ja_cat ad v).trans hv) (k ok ad H locs ls iv hl)
theorem ja_pop {v : Value} (hd : decode M.1 pc = .ok (.pop, 1)) (hv : v.category = 1) (k : ja_J M C (pc + 1) lv (st) Λ σ zz) : ja_J M C pc lv (v :: st) Λ σ zz := by
  obtain ⟨⟨p, l, e, R, s, m, args, below, meth, c⟩, ⟨D, cI, cJ⟩, ⟨ad0, n0, sl0, MC, MS, A⟩, Qf, L, xs⟩ := C
  intro ok ad H locs ls iv hl
  exact lv_pop (va := ja_cv ad v) (rest := st.map (ja_cv ad)) ok.1.1 ok.1.2.1 hd ((ja_cat ad v).trans hv) (k ok ad H locs ls iv hl)
theorem ja_dup_x1 {v w : Value} (hd : decode M.1 pc = .ok (.dup_x1, 1)) (hv : v.category = 1) (hw : w.category = 1) (k : ja_J M C (pc + 1) lv (v :: w :: v :: st) Λ σ zz) : ja_J M C pc lv (v :: w :: st) Λ σ zz := by
  obtain ⟨⟨p, l, e, R, s, m, args, below, meth, c⟩, ⟨D, cI, cJ⟩, ⟨ad0, n0, sl0, MC, MS, A⟩, Qf, L, xs⟩ := C
  intro ok ad H locs ls iv hl
  exact lv_dup_x1 (va := ja_cv ad v) (vb := ja_cv ad w) (rest := st.map (ja_cv ad)) ok.1.1 ok.1.2.1 hd ((ja_cat ad v).trans hv) ((ja_cat ad w).trans hw) (k ok ad H locs ls iv hl)
theorem ja_dup2 {v w : Value} (hd : decode M.1 pc = .ok (.dup2, 1)) (hv : v.category = 1) (hw : w.category = 1) (k : ja_J M C (pc + 1) lv (v :: w :: v :: w :: st) Λ σ zz) : ja_J M C pc lv (v :: w :: st) Λ σ zz := by
  obtain ⟨⟨p, l, e, R, s, m, args, below, meth, c⟩, ⟨D, cI, cJ⟩, ⟨ad0, n0, sl0, MC, MS, A⟩, Qf, L, xs⟩ := C
  intro ok ad H locs ls iv hl
  exact lv_dup2_11 (va := ja_cv ad v) (vb := ja_cv ad w) (rest := st.map (ja_cv ad)) ok.1.1 ok.1.2.1 hd ((ja_cat ad v).trans hv) ((ja_cat ad w).trans hw) (k ok ad H locs ls iv hl)
theorem ja_icmp_eq {x y : Int32} {α : Type} {X Y w : Option α} {off : Int} (tgt : Nat) (hd : decode M.1 pc = .ok (.if_icmp .eq off, 3)) (ht : (pc : Int) + off = (tgt : Int)) (hf : (if x = y then X else Y) = w) (kt : X = w → ja_J M C tgt lv st Λ σ zz) (kf : Y = w → ja_J M C (pc + 3) lv st Λ σ zz) : ja_J M C pc lv (.int y :: .int x :: st) Λ σ zz := by
  obtain ⟨⟨p, l, e, R, s, m, args, below, meth, c⟩, ⟨D, cI, cJ⟩, ⟨ad0, n0, sl0, MC, MS, A⟩, Qf, L, xs⟩ := C
  intro ok ad H locs ls iv hl
  exact lv_icmp_eq (x := x) (y := y) (rest := st.map (ja_cv ad)) ok.1.1 ok.1.2.1 hd ht (fun hc => kt (by rw [← hf, if_pos hc]) ok ad H locs ls iv hl) (fun hc => kf (by rw [← hf, if_neg hc]) ok ad H locs ls iv hl)
theorem ja_if_eq {x : Int32} {α : Type} {X Y w : Option α} {off : Int} (tgt : Nat) (hd : decode M.1 pc = .ok (.ifCond .eq off, 3)) (ht : (pc : Int) + off = (tgt : Int)) (hf : (if x = 0 then X else Y) = w) (kt : X = w → ja_J M C tgt lv st Λ σ zz) (kf : Y = w → ja_J M C (pc + 3) lv st Λ σ zz) : ja_J M C pc lv (.int x :: st) Λ σ zz := by
  obtain ⟨⟨p, l, e, R, s, m, args, below, meth, c⟩, ⟨D, cI, cJ⟩, ⟨ad0, n0, sl0, MC, MS, A⟩, Qf, L, xs⟩ := C
  intro ok ad H locs ls iv hl
  exact lv_if_eq (x := x) (rest := st.map (ja_cv ad)) ok.1.1 ok.1.2.1 hd ht (fun hc => kt (by rw [← hf, if_pos hc]) ok ad H locs ls iv hl) (fun hc => kf (by rw [← hf, if_neg hc]) ok ad H locs ls iv hl)
theorem ja_icmp_ne {x y : Int32} {α : Type} {X Y w : Option α} {off : Int} (tgt : Nat) (hd : decode M.1 pc = .ok (.if_icmp .ne off, 3)) (ht : (pc : Int) + off = (tgt : Int)) (hf : (if x = y then X else Y) = w) (kt : Y = w → ja_J M C tgt lv st Λ σ zz) (kf : X = w → ja_J M C (pc + 3) lv st Λ σ zz) : ja_J M C pc lv (.int y :: .int x :: st) Λ σ zz := by
  obtain ⟨⟨p, l, e, R, s, m, args, below, meth, c⟩, ⟨D, cI, cJ⟩, ⟨ad0, n0, sl0, MC, MS, A⟩, Qf, L, xs⟩ := C
  intro ok ad H locs ls iv hl
  exact lv_icmp_ne (x := x) (y := y) (rest := st.map (ja_cv ad)) ok.1.1 ok.1.2.1 hd ht (fun hc => kt (by rw [← hf, if_neg hc]) ok ad H locs ls iv hl) (fun hc => kf (by rw [← hf, if_pos hc]) ok ad H locs ls iv hl)
theorem ja_if_ne {x : Int32} {α : Type} {X Y w : Option α} {off : Int} (tgt : Nat) (hd : decode M.1 pc = .ok (.ifCond .ne off, 3)) (ht : (pc : Int) + off = (tgt : Int)) (hf : (if x = 0 then X else Y) = w) (kt : Y = w → ja_J M C tgt lv st Λ σ zz) (kf : X = w → ja_J M C (pc + 3) lv st Λ σ zz) : ja_J M C pc lv (.int x :: st) Λ σ zz := by
  obtain ⟨⟨p, l, e, R, s, m, args, below, meth, c⟩, ⟨D, cI, cJ⟩, ⟨ad0, n0, sl0, MC, MS, A⟩, Qf, L, xs⟩ := C
  intro ok ad H locs ls iv hl
  exact lv_if_ne (x := x) (rest := st.map (ja_cv ad)) ok.1.1 ok.1.2.1 hd ht (fun hc => kt (by rw [← hf, if_neg hc]) ok ad H locs ls iv hl) (fun hc => kf (by rw [← hf, if_pos hc]) ok ad H locs ls iv hl)
theorem ja_icmp_lt {x y : Int32} {α : Type} {X Y w : Option α} {off : Int} (tgt : Nat) (hd : decode M.1 pc = .ok (.if_icmp .lt off, 3)) (ht : (pc : Int) + off = (tgt : Int)) (hf : (if x < y then X else Y) = w) (kt : X = w → ja_J M C tgt lv st Λ σ zz) (kf : Y = w → ja_J M C (pc + 3) lv st Λ σ zz) : ja_J M C pc lv (.int y :: .int x :: st) Λ σ zz := by
  obtain ⟨⟨p, l, e, R, s, m, args, below, meth, c⟩, ⟨D, cI, cJ⟩, ⟨ad0, n0, sl0, MC, MS, A⟩, Qf, L, xs⟩ := C
  intro ok ad H locs ls iv hl
  exact lv_icmp_lt (x := x) (y := y) (rest := st.map (ja_cv ad)) ok.1.1 ok.1.2.1 hd ht (fun hc => kt (by rw [← hf, if_pos hc]) ok ad H locs ls iv hl) (fun hc => kf (by rw [← hf, if_neg hc]) ok ad H locs ls iv hl)
theorem ja_if_lt {x : Int32} {α : Type} {X Y w : Option α} {off : Int} (tgt : Nat) (hd : decode M.1 pc = .ok (.ifCond .lt off, 3)) (ht : (pc : Int) + off = (tgt : Int)) (hf : (if x < 0 then X else Y) = w) (kt : X = w → ja_J M C tgt lv st Λ σ zz) (kf : Y = w → ja_J M C (pc + 3) lv st Λ σ zz) : ja_J M C pc lv (.int x :: st) Λ σ zz := by
  obtain ⟨⟨p, l, e, R, s, m, args, below, meth, c⟩, ⟨D, cI, cJ⟩, ⟨ad0, n0, sl0, MC, MS, A⟩, Qf, L, xs⟩ := C
  intro ok ad H locs ls iv hl
  exact lv_if_lt (x := x) (rest := st.map (ja_cv ad)) ok.1.1 ok.1.2.1 hd ht (fun hc => kt (by rw [← hf, if_pos hc]) ok ad H locs ls iv hl) (fun hc => kf (by rw [← hf, if_neg hc]) ok ad H locs ls iv hl)
theorem ja_icmp_ge {x y : Int32} {α : Type} {X Y w : Option α} {off : Int} (tgt : Nat) (hd : decode M.1 pc = .ok (.if_icmp .ge off, 3)) (ht : (pc : Int) + off = (tgt : Int)) (hf : (if y ≤ x then X else Y) = w) (kt : X = w → ja_J M C tgt lv st Λ σ zz) (kf : Y = w → ja_J M C (pc + 3) lv st Λ σ zz) : ja_J M C pc lv (.int y :: .int x :: st) Λ σ zz := by
  obtain ⟨⟨p, l, e, R, s, m, args, below, meth, c⟩, ⟨D, cI, cJ⟩, ⟨ad0, n0, sl0, MC, MS, A⟩, Qf, L, xs⟩ := C
  intro ok ad H locs ls iv hl
  exact lv_icmp_ge (x := x) (y := y) (rest := st.map (ja_cv ad)) ok.1.1 ok.1.2.1 hd ht (fun hc => kt (by rw [← hf, if_pos hc]) ok ad H locs ls iv hl) (fun hc => kf (by rw [← hf, if_neg hc]) ok ad H locs ls iv hl)
theorem ja_if_ge {x : Int32} {α : Type} {X Y w : Option α} {off : Int} (tgt : Nat) (hd : decode M.1 pc = .ok (.ifCond .ge off, 3)) (ht : (pc : Int) + off = (tgt : Int)) (hf : (if 0 ≤ x then X else Y) = w) (kt : X = w → ja_J M C tgt lv st Λ σ zz) (kf : Y = w → ja_J M C (pc + 3) lv st Λ σ zz) : ja_J M C pc lv (.int x :: st) Λ σ zz := by
  obtain ⟨⟨p, l, e, R, s, m, args, below, meth, c⟩, ⟨D, cI, cJ⟩, ⟨ad0, n0, sl0, MC, MS, A⟩, Qf, L, xs⟩ := C
  intro ok ad H locs ls iv hl
  exact lv_if_ge (x := x) (rest := st.map (ja_cv ad)) ok.1.1 ok.1.2.1 hd ht (fun hc => kt (by rw [← hf, if_pos hc]) ok ad H locs ls iv hl) (fun hc => kf (by rw [← hf, if_neg hc]) ok ad H locs ls iv hl)
theorem ja_icmp_gt {x y : Int32} {α : Type} {X Y w : Option α} {off : Int} (tgt : Nat) (hd : decode M.1 pc = .ok (.if_icmp .gt off, 3)) (ht : (pc : Int) + off = (tgt : Int)) (hf : (if y < x then X else Y) = w) (kt : X = w → ja_J M C tgt lv st Λ σ zz) (kf : Y = w → ja_J M C (pc + 3) lv st Λ σ zz) : ja_J M C pc lv (.int y :: .int x :: st) Λ σ zz := by
  obtain ⟨⟨p, l, e, R, s, m, args, below, meth, c⟩, ⟨D, cI, cJ⟩, ⟨ad0, n0, sl0, MC, MS, A⟩, Qf, L, xs⟩ := C
  intro ok ad H locs ls iv hl
  exact lv_icmp_gt (x := x) (y := y) (rest := st.map (ja_cv ad)) ok.1.1 ok.1.2.1 hd ht (fun hc => kt (by rw [← hf, if_pos hc]) ok ad H locs ls iv hl) (fun hc => kf (by rw [← hf, if_neg hc]) ok ad H locs ls iv hl)
theorem ja_if_gt {x : Int32} {α : Type} {X Y w : Option α} {off : Int} (tgt : Nat) (hd : decode M.1 pc = .ok (.ifCond .gt off, 3)) (ht : (pc : Int) + off = (tgt : Int)) (hf : (if 0 < x then X else Y) = w) (kt : X = w → ja_J M C tgt lv st Λ σ zz) (kf : Y = w → ja_J M C (pc + 3) lv st Λ σ zz) : ja_J M C pc lv (.int x :: st) Λ σ zz := by
  obtain ⟨⟨p, l, e, R, s, m, args, below, meth, c⟩, ⟨D, cI, cJ⟩, ⟨ad0, n0, sl0, MC, MS, A⟩, Qf, L, xs⟩ := C
  intro ok ad H locs ls iv hl
  exact lv_if_gt (x := x) (rest := st.map (ja_cv ad)) ok.1.1 ok.1.2.1 hd ht (fun hc => kt (by rw [← hf, if_pos hc]) ok ad H locs ls iv hl) (fun hc => kf (by rw [← hf, if_neg hc]) ok ad H locs ls iv hl)
theorem ja_icmp_le {x y : Int32} {α : Type} {X Y w : Option α} {off : Int} (tgt : Nat) (hd : decode M.1 pc = .ok (.if_icmp .le off, 3)) (ht : (pc : Int) + off = (tgt : Int)) (hf : (if x ≤ y then X else Y) = w) (kt : X = w → ja_J M C tgt lv st Λ σ zz) (kf : Y = w → ja_J M C (pc + 3) lv st Λ σ zz) : ja_J M C pc lv (.int y :: .int x :: st) Λ σ zz := by
  obtain ⟨⟨p, l, e, R, s, m, args, below, meth, c⟩, ⟨D, cI, cJ⟩, ⟨ad0, n0, sl0, MC, MS, A⟩, Qf, L, xs⟩ := C
  intro ok ad H locs ls iv hl
  exact lv_icmp_le (x := x) (y := y) (rest := st.map (ja_cv ad)) ok.1.1 ok.1.2.1 hd ht (fun hc => kt (by rw [← hf, if_pos hc]) ok ad H locs ls iv hl) (fun hc => kf (by rw [← hf, if_neg hc]) ok ad H locs ls iv hl)
theorem ja_if_le {x : Int32} {α : Type} {X Y w : Option α} {off : Int} (tgt : Nat) (hd : decode M.1 pc = .ok (.ifCond .le off, 3)) (ht : (pc : Int) + off = (tgt : Int)) (hf : (if x ≤ 0 then X else Y) = w) (kt : X = w → ja_J M C tgt lv st Λ σ zz) (kf : Y = w → ja_J M C (pc + 3) lv st Λ σ zz) : ja_J M C pc lv (.int x :: st) Λ σ zz := by
  obtain ⟨⟨p, l, e, R, s, m, args, below, meth, c⟩, ⟨D, cI, cJ⟩, ⟨ad0, n0, sl0, MC, MS, A⟩, Qf, L, xs⟩ := C
  intro ok ad H locs ls iv hl
  exact lv_if_le (x := x) (rest := st.map (ja_cv ad)) ok.1.1 ok.1.2.1 hd ht (fun hc => kt (by rw [← hf, if_pos hc]) ok ad H locs ls iv hl) (fun hc => kf (by rw [← hf, if_neg hc]) ok ad H locs ls iv hl)
theorem ja_goto {off : Int} (tgt : Nat) (hd : decode M.1 pc = .ok (.goto off, 3)) (ht : (pc : Int) + off = (tgt : Int)) (k : ja_J M C tgt lv st Λ σ zz) : ja_J M C pc lv st Λ σ zz := by
  obtain ⟨⟨p, l, e, R, s, m, args, below, meth, c⟩, ⟨D, cI, cJ⟩, ⟨ad0, n0, sl0, MC, MS, A⟩, Qf, L, xs⟩ := C
  intro ok ad H locs ls iv hl
  exact lv_goto ok.1.1 ok.1.2.1 hd ht (k ok ad H locs ls iv hl)
theorem ja_ret (v : Option Value) (i : Instr) (hd : decode M.1 pc = .ok (i, 1)) (hi : ja_ri M.2.2.2.2.1 v = some i) (hz : zz = (v, Λ, σ)) : ja_J M C pc lv v.toList Λ σ zz := by
  intro ok ad H locs ls iv hl
  subst hz
  have ok2 := ok
  obtain ⟨⟨p, l, e, R, s, m, args, below, meth, c⟩, ⟨D, cI, cJ⟩, ⟨ad0, n0, sl0, MC, MS, A⟩, Qf, L, xs⟩ := C
  exact ok.2.2.2.2.2.2.2 v ad Λ σ H locs pc ls (by rw [hi]; exact hd) (by rw [hi]; rfl) iv
end JA
theorem ja_bind {α β : Type} {o : Option α} {g : α → Option β} {w : β} {P : Prop} (hf : o.bind g = some w) (k : ∀ a, o = some a → g a = some w → P) : P := by
  cases o with
  | none => cases hf
  | some a => exact k a rfl hf
