theorem ja_m0 (i : Nat) {w : Cond} (h : (k2_sels lw_privs)[i]? = some w) (hg : goodWord w = true) : w ∈ ja_tb := List.mem_filter.mpr ⟨List.mem_append_left _ (List.mem_of_getElem? h), hg⟩
theorem ja_m1 (i : Nat) {w : Cond} (h : tables_1_1[i]? = some w) (hg : goodWord w = true) : w ∈ ja_tb := List.mem_filter.mpr ⟨List.mem_append_right _ (List.mem_append_left _ (List.mem_of_getElem? h)), hg⟩
theorem ja_m2 (i : Nat) {w : Cond} (h : tables_1_2[i]? = some w) (hg : goodWord w = true) : w ∈ ja_tb := List.mem_filter.mpr ⟨List.mem_append_right _ (List.mem_append_right _ (List.mem_append_left _ (List.mem_of_getElem? h))), hg⟩
theorem ja_m3 (i : Nat) {w : Cond} (h : tables_1_3[i]? = some w) (hg : goodWord w = true) : w ∈ ja_tb := List.mem_filter.mpr ⟨List.mem_append_right _ (List.mem_append_right _ (List.mem_append_right _ (List.mem_append_left _ (List.mem_of_getElem? h)))), hg⟩
theorem ja_m4 (i : Nat) {w : Cond} (h : tables_1_4[i]? = some w) (hg : goodWord w = true) : w ∈ ja_tb := List.mem_filter.mpr ⟨List.mem_append_right _ (List.mem_append_right _ (List.mem_append_right _ (List.mem_append_right _ (List.mem_append_left _ (List.mem_of_getElem? h))))), hg⟩
theorem ja_m5 (i : Nat) {w : Cond} (h : tables_1_5[i]? = some w) (hg : goodWord w = true) : w ∈ ja_tb := List.mem_filter.mpr ⟨List.mem_append_right _ (List.mem_append_right _ (List.mem_append_right _ (List.mem_append_right _ (List.mem_append_right _ (List.mem_append_left _ (List.mem_of_getElem? h)))))), hg⟩
theorem ja_m6 (i : Nat) {w : Cond} (h : tables_1_6[i]? = some w) (hg : goodWord w = true) : w ∈ ja_tb := List.mem_filter.mpr ⟨List.mem_append_right _ (List.mem_append_right _ (List.mem_append_right _ (List.mem_append_right _ (List.mem_append_right _ (List.mem_append_right _ (List.mem_of_getElem? h)))))), hg⟩
/-! the layout behind both constructors -/
def ja_shl : List (Nat × Nat) := [(9, 0), (8, 0), (0, 900), (7, 0), (0, 24), (0, 8), (0, 8), (0, 8), (7, 0), (0, 24), (0, 8), (0, 8), (0, 8), (2, 0), (0, 12), (0, 12), (0, 12), (6, 0), (4, 0), (1, 64), (1, 768), (0, 4096), (0, 4096), (6, 0), (4, 0), (1, 64), (1, 768), (0, 4096), (0, 4096), (3, 0), (4, 0), (1, 64), (1, 768), (0, 8), (5, 0), (7, 0), (0, 24), (0, 8), (0, 8), (0, 8), (7, 0), (0, 24), (0, 8), (0, 8), (0, 8), (10, 0), (0, 98), (0, 1176), (0, 8), (0, 8), (0, 8), (0, 900), (0, 100), (0, 8), (0, 8), (0, 8), (0, 128), (0, 8), (0, 4096), (0, 4096), (0, 8), (0, 4096), (0, 128), (0, 8)]
def ja_rfl : List (List (Option Nat)) := [[some 34, none, some 1, some 3, some 8, some 13, none, some 17, none, some 23, some 29, none], [none, none, some 2, none, none, none, none], [], [none, none, some 4, none, some 5, none, some 6, some 7, none], [], [], [], [], [none, none, some 9, none, some 10, none, some 11, some 12, none], [], [], [], [], [none, none, none, none, some 14, some 15, some 16], [], [], [], [some 18, none, none, some 21, some 22], [some 19, some 20], [], [], [], [], [some 24, none, none, some 27, some 28], [some 25, some 26], [], [], [], [], [none, some 30, some 33, none], [some 31, some 32], [], [], [], [none, some 35, some 40, none], [none, none, some 36, none, some 37, none, some 38, some 39, none], [], [], [], [], [none, none, some 41, none, some 42, none, some 43, some 44, none], [], [], [], [], [none, none, none, some 46, some 47, some 48, some 49, some 50, none, none, some 51, none, none, none, none, none, none, none, none, none, none, some 52, some 53, some 54, some 55, some 56, some 57, none, none, none, some 58, some 59, none, some 60, none, some 61, none, none, none, some 62, some 63, none], [], [], [], [], [], [], [], [], [], [], [], [], [], [], [], [], [], []]
def ja_L0 : ja_L := (64, 35034, (fun k => ja_shl.getD k (0, 0)), fun k j => (ja_rfl.getD k []).getD j none)
def ja_q (k j : Nat) : Nat := ((ja_rfl.getD k []).getD j none).getD 0
theorem fa_0_4 : ∀ k, k < 64 → (ja_shl.getD k (0, 0)).1 = 2 → (ja_rfl.getD k []).getD 4 none = some (ja_q k 4) ∧ ja_q k 4 < 64 ∧ (ja_shl.getD (ja_q k 4) (0, 0)).1 = 0 := by decide +kernel
theorem fr_0_4 {k : Nat} (h : ja_ob ja_L0 0 k) : ja_L0.2.2.2 k 4 = some (ja_q k 4) := (fa_0_4 k h.1 h.2).1
theorem fk_0_4 {k : Nat} (h : ja_ob ja_L0 0 k) : ja_ai ja_L0 (ja_q k 4) := (fa_0_4 k h.1 h.2).2
theorem fa_0_5 : ∀ k, k < 64 → (ja_shl.getD k (0, 0)).1 = 2 → (ja_rfl.getD k []).getD 5 none = some (ja_q k 5) ∧ ja_q k 5 < 64 ∧ (ja_shl.getD (ja_q k 5) (0, 0)).1 = 0 := by decide +kernel
theorem fr_0_5 {k : Nat} (h : ja_ob ja_L0 0 k) : ja_L0.2.2.2 k 5 = some (ja_q k 5) := (fa_0_5 k h.1 h.2).1
theorem fk_0_5 {k : Nat} (h : ja_ob ja_L0 0 k) : ja_ai ja_L0 (ja_q k 5) := (fa_0_5 k h.1 h.2).2
theorem fa_0_6 : ∀ k, k < 64 → (ja_shl.getD k (0, 0)).1 = 2 → (ja_rfl.getD k []).getD 6 none = some (ja_q k 6) ∧ ja_q k 6 < 64 ∧ (ja_shl.getD (ja_q k 6) (0, 0)).1 = 0 := by decide +kernel
theorem fr_0_6 {k : Nat} (h : ja_ob ja_L0 0 k) : ja_L0.2.2.2 k 6 = some (ja_q k 6) := (fa_0_6 k h.1 h.2).1
theorem fk_0_6 {k : Nat} (h : ja_ob ja_L0 0 k) : ja_ai ja_L0 (ja_q k 6) := (fa_0_6 k h.1 h.2).2
theorem fa_1_1 : ∀ k, k < 64 → (ja_shl.getD k (0, 0)).1 = 3 → (ja_rfl.getD k []).getD 1 none = some (ja_q k 1) ∧ ja_q k 1 < 64 ∧ (ja_shl.getD (ja_q k 1) (0, 0)).1 = 4 := by decide +kernel
theorem fr_1_1 {k : Nat} (h : ja_ob ja_L0 1 k) : ja_L0.2.2.2 k 1 = some (ja_q k 1) := (fa_1_1 k h.1 h.2).1
theorem fk_1_1 {k : Nat} (h : ja_ob ja_L0 1 k) : ja_ob ja_L0 2 (ja_q k 1) := (fa_1_1 k h.1 h.2).2
theorem fa_1_2 : ∀ k, k < 64 → (ja_shl.getD k (0, 0)).1 = 3 → (ja_rfl.getD k []).getD 2 none = some (ja_q k 2) ∧ ja_q k 2 < 64 ∧ (ja_shl.getD (ja_q k 2) (0, 0)).1 = 0 := by decide +kernel
theorem fr_1_2 {k : Nat} (h : ja_ob ja_L0 1 k) : ja_L0.2.2.2 k 2 = some (ja_q k 2) := (fa_1_2 k h.1 h.2).1
theorem fk_1_2 {k : Nat} (h : ja_ob ja_L0 1 k) : ja_ai ja_L0 (ja_q k 2) := (fa_1_2 k h.1 h.2).2
theorem fa_2_0 : ∀ k, k < 64 → (ja_shl.getD k (0, 0)).1 = 4 → (ja_rfl.getD k []).getD 0 none = some (ja_q k 0) ∧ ja_q k 0 < 64 ∧ (ja_shl.getD (ja_q k 0) (0, 0)).1 = 1 := by decide +kernel
theorem fr_2_0 {k : Nat} (h : ja_ob ja_L0 2 k) : ja_L0.2.2.2 k 0 = some (ja_q k 0) := (fa_2_0 k h.1 h.2).1
theorem fk_2_0 {k : Nat} (h : ja_ob ja_L0 2 k) : ja_al ja_L0 (ja_q k 0) := (fa_2_0 k h.1 h.2).2
theorem fa_2_1 : ∀ k, k < 64 → (ja_shl.getD k (0, 0)).1 = 4 → (ja_rfl.getD k []).getD 1 none = some (ja_q k 1) ∧ ja_q k 1 < 64 ∧ (ja_shl.getD (ja_q k 1) (0, 0)).1 = 1 := by decide +kernel
theorem fr_2_1 {k : Nat} (h : ja_ob ja_L0 2 k) : ja_L0.2.2.2 k 1 = some (ja_q k 1) := (fa_2_1 k h.1 h.2).1
theorem fk_2_1 {k : Nat} (h : ja_ob ja_L0 2 k) : ja_al ja_L0 (ja_q k 1) := (fa_2_1 k h.1 h.2).2
theorem fa_3_1 : ∀ k, k < 64 → (ja_shl.getD k (0, 0)).1 = 5 → (ja_rfl.getD k []).getD 1 none = some (ja_q k 1) ∧ ja_q k 1 < 64 ∧ (ja_shl.getD (ja_q k 1) (0, 0)).1 = 7 := by decide +kernel
theorem fr_3_1 {k : Nat} (h : ja_ob ja_L0 3 k) : ja_L0.2.2.2 k 1 = some (ja_q k 1) := (fa_3_1 k h.1 h.2).1
theorem fk_3_1 {k : Nat} (h : ja_ob ja_L0 3 k) : ja_ob ja_L0 5 (ja_q k 1) := (fa_3_1 k h.1 h.2).2
theorem fa_3_2 : ∀ k, k < 64 → (ja_shl.getD k (0, 0)).1 = 5 → (ja_rfl.getD k []).getD 2 none = some (ja_q k 2) ∧ ja_q k 2 < 64 ∧ (ja_shl.getD (ja_q k 2) (0, 0)).1 = 7 := by decide +kernel
theorem fr_3_2 {k : Nat} (h : ja_ob ja_L0 3 k) : ja_L0.2.2.2 k 2 = some (ja_q k 2) := (fa_3_2 k h.1 h.2).1
theorem fk_3_2 {k : Nat} (h : ja_ob ja_L0 3 k) : ja_ob ja_L0 5 (ja_q k 2) := (fa_3_2 k h.1 h.2).2
theorem fa_4_0 : ∀ k, k < 64 → (ja_shl.getD k (0, 0)).1 = 6 → (ja_rfl.getD k []).getD 0 none = some (ja_q k 0) ∧ ja_q k 0 < 64 ∧ (ja_shl.getD (ja_q k 0) (0, 0)).1 = 4 := by decide +kernel
theorem fr_4_0 {k : Nat} (h : ja_ob ja_L0 4 k) : ja_L0.2.2.2 k 0 = some (ja_q k 0) := (fa_4_0 k h.1 h.2).1
theorem fk_4_0 {k : Nat} (h : ja_ob ja_L0 4 k) : ja_ob ja_L0 2 (ja_q k 0) := (fa_4_0 k h.1 h.2).2
theorem fa_4_3 : ∀ k, k < 64 → (ja_shl.getD k (0, 0)).1 = 6 → (ja_rfl.getD k []).getD 3 none = some (ja_q k 3) ∧ ja_q k 3 < 64 ∧ (ja_shl.getD (ja_q k 3) (0, 0)).1 = 0 := by decide +kernel
theorem fr_4_3 {k : Nat} (h : ja_ob ja_L0 4 k) : ja_L0.2.2.2 k 3 = some (ja_q k 3) := (fa_4_3 k h.1 h.2).1
theorem fk_4_3 {k : Nat} (h : ja_ob ja_L0 4 k) : ja_ai ja_L0 (ja_q k 3) := (fa_4_3 k h.1 h.2).2
theorem fa_4_4 : ∀ k, k < 64 → (ja_shl.getD k (0, 0)).1 = 6 → (ja_rfl.getD k []).getD 4 none = some (ja_q k 4) ∧ ja_q k 4 < 64 ∧ (ja_shl.getD (ja_q k 4) (0, 0)).1 = 0 := by decide +kernel
theorem fr_4_4 {k : Nat} (h : ja_ob ja_L0 4 k) : ja_L0.2.2.2 k 4 = some (ja_q k 4) := (fa_4_4 k h.1 h.2).1
theorem fk_4_4 {k : Nat} (h : ja_ob ja_L0 4 k) : ja_ai ja_L0 (ja_q k 4) := (fa_4_4 k h.1 h.2).2
theorem fa_5_2 : ∀ k, k < 64 → (ja_shl.getD k (0, 0)).1 = 7 → (ja_rfl.getD k []).getD 2 none = some (ja_q k 2) ∧ ja_q k 2 < 64 ∧ (ja_shl.getD (ja_q k 2) (0, 0)).1 = 0 := by decide +kernel
theorem fr_5_2 {k : Nat} (h : ja_ob ja_L0 5 k) : ja_L0.2.2.2 k 2 = some (ja_q k 2) := (fa_5_2 k h.1 h.2).1
theorem fk_5_2 {k : Nat} (h : ja_ob ja_L0 5 k) : ja_ai ja_L0 (ja_q k 2) := (fa_5_2 k h.1 h.2).2
theorem fa_5_4 : ∀ k, k < 64 → (ja_shl.getD k (0, 0)).1 = 7 → (ja_rfl.getD k []).getD 4 none = some (ja_q k 4) ∧ ja_q k 4 < 64 ∧ (ja_shl.getD (ja_q k 4) (0, 0)).1 = 0 := by decide +kernel
theorem fr_5_4 {k : Nat} (h : ja_ob ja_L0 5 k) : ja_L0.2.2.2 k 4 = some (ja_q k 4) := (fa_5_4 k h.1 h.2).1
theorem fk_5_4 {k : Nat} (h : ja_ob ja_L0 5 k) : ja_ai ja_L0 (ja_q k 4) := (fa_5_4 k h.1 h.2).2
theorem fa_5_6 : ∀ k, k < 64 → (ja_shl.getD k (0, 0)).1 = 7 → (ja_rfl.getD k []).getD 6 none = some (ja_q k 6) ∧ ja_q k 6 < 64 ∧ (ja_shl.getD (ja_q k 6) (0, 0)).1 = 0 := by decide +kernel
theorem fr_5_6 {k : Nat} (h : ja_ob ja_L0 5 k) : ja_L0.2.2.2 k 6 = some (ja_q k 6) := (fa_5_6 k h.1 h.2).1
theorem fk_5_6 {k : Nat} (h : ja_ob ja_L0 5 k) : ja_ai ja_L0 (ja_q k 6) := (fa_5_6 k h.1 h.2).2
theorem fa_5_7 : ∀ k, k < 64 → (ja_shl.getD k (0, 0)).1 = 7 → (ja_rfl.getD k []).getD 7 none = some (ja_q k 7) ∧ ja_q k 7 < 64 ∧ (ja_shl.getD (ja_q k 7) (0, 0)).1 = 0 := by decide +kernel
theorem fr_5_7 {k : Nat} (h : ja_ob ja_L0 5 k) : ja_L0.2.2.2 k 7 = some (ja_q k 7) := (fa_5_7 k h.1 h.2).1
theorem fk_5_7 {k : Nat} (h : ja_ob ja_L0 5 k) : ja_ai ja_L0 (ja_q k 7) := (fa_5_7 k h.1 h.2).2
theorem fa_6_2 : ∀ k, k < 64 → (ja_shl.getD k (0, 0)).1 = 8 → (ja_rfl.getD k []).getD 2 none = some (ja_q k 2) ∧ ja_q k 2 < 64 ∧ (ja_shl.getD (ja_q k 2) (0, 0)).1 = 0 := by decide +kernel
theorem fr_6_2 {k : Nat} (h : ja_ob ja_L0 6 k) : ja_L0.2.2.2 k 2 = some (ja_q k 2) := (fa_6_2 k h.1 h.2).1
theorem fk_6_2 {k : Nat} (h : ja_ob ja_L0 6 k) : ja_ai ja_L0 (ja_q k 2) := (fa_6_2 k h.1 h.2).2
theorem fa_7_0 : ∀ k, k < 64 → (ja_shl.getD k (0, 0)).1 = 9 → (ja_rfl.getD k []).getD 0 none = some (ja_q k 0) ∧ ja_q k 0 < 64 ∧ (ja_shl.getD (ja_q k 0) (0, 0)).1 = 5 := by decide +kernel
theorem fr_7_0 {k : Nat} (h : ja_ob ja_L0 7 k) : ja_L0.2.2.2 k 0 = some (ja_q k 0) := (fa_7_0 k h.1 h.2).1
theorem fk_7_0 {k : Nat} (h : ja_ob ja_L0 7 k) : ja_ob ja_L0 3 (ja_q k 0) := (fa_7_0 k h.1 h.2).2
theorem fa_7_2 : ∀ k, k < 64 → (ja_shl.getD k (0, 0)).1 = 9 → (ja_rfl.getD k []).getD 2 none = some (ja_q k 2) ∧ ja_q k 2 < 64 ∧ (ja_shl.getD (ja_q k 2) (0, 0)).1 = 8 := by decide +kernel
theorem fr_7_2 {k : Nat} (h : ja_ob ja_L0 7 k) : ja_L0.2.2.2 k 2 = some (ja_q k 2) := (fa_7_2 k h.1 h.2).1
theorem fk_7_2 {k : Nat} (h : ja_ob ja_L0 7 k) : ja_ob ja_L0 6 (ja_q k 2) := (fa_7_2 k h.1 h.2).2
theorem fa_7_3 : ∀ k, k < 64 → (ja_shl.getD k (0, 0)).1 = 9 → (ja_rfl.getD k []).getD 3 none = some (ja_q k 3) ∧ ja_q k 3 < 64 ∧ (ja_shl.getD (ja_q k 3) (0, 0)).1 = 7 := by decide +kernel
theorem fr_7_3 {k : Nat} (h : ja_ob ja_L0 7 k) : ja_L0.2.2.2 k 3 = some (ja_q k 3) := (fa_7_3 k h.1 h.2).1
theorem fk_7_3 {k : Nat} (h : ja_ob ja_L0 7 k) : ja_ob ja_L0 5 (ja_q k 3) := (fa_7_3 k h.1 h.2).2
theorem fa_7_4 : ∀ k, k < 64 → (ja_shl.getD k (0, 0)).1 = 9 → (ja_rfl.getD k []).getD 4 none = some (ja_q k 4) ∧ ja_q k 4 < 64 ∧ (ja_shl.getD (ja_q k 4) (0, 0)).1 = 7 := by decide +kernel
theorem fr_7_4 {k : Nat} (h : ja_ob ja_L0 7 k) : ja_L0.2.2.2 k 4 = some (ja_q k 4) := (fa_7_4 k h.1 h.2).1
theorem fk_7_4 {k : Nat} (h : ja_ob ja_L0 7 k) : ja_ob ja_L0 5 (ja_q k 4) := (fa_7_4 k h.1 h.2).2
theorem fa_7_5 : ∀ k, k < 64 → (ja_shl.getD k (0, 0)).1 = 9 → (ja_rfl.getD k []).getD 5 none = some (ja_q k 5) ∧ ja_q k 5 < 64 ∧ (ja_shl.getD (ja_q k 5) (0, 0)).1 = 2 := by decide +kernel
theorem fr_7_5 {k : Nat} (h : ja_ob ja_L0 7 k) : ja_L0.2.2.2 k 5 = some (ja_q k 5) := (fa_7_5 k h.1 h.2).1
theorem fk_7_5 {k : Nat} (h : ja_ob ja_L0 7 k) : ja_ob ja_L0 0 (ja_q k 5) := (fa_7_5 k h.1 h.2).2
theorem fa_7_7 : ∀ k, k < 64 → (ja_shl.getD k (0, 0)).1 = 9 → (ja_rfl.getD k []).getD 7 none = some (ja_q k 7) ∧ ja_q k 7 < 64 ∧ (ja_shl.getD (ja_q k 7) (0, 0)).1 = 6 := by decide +kernel
theorem fr_7_7 {k : Nat} (h : ja_ob ja_L0 7 k) : ja_L0.2.2.2 k 7 = some (ja_q k 7) := (fa_7_7 k h.1 h.2).1
theorem fk_7_7 {k : Nat} (h : ja_ob ja_L0 7 k) : ja_ob ja_L0 4 (ja_q k 7) := (fa_7_7 k h.1 h.2).2
theorem fa_7_9 : ∀ k, k < 64 → (ja_shl.getD k (0, 0)).1 = 9 → (ja_rfl.getD k []).getD 9 none = some (ja_q k 9) ∧ ja_q k 9 < 64 ∧ (ja_shl.getD (ja_q k 9) (0, 0)).1 = 6 := by decide +kernel
theorem fr_7_9 {k : Nat} (h : ja_ob ja_L0 7 k) : ja_L0.2.2.2 k 9 = some (ja_q k 9) := (fa_7_9 k h.1 h.2).1
theorem fk_7_9 {k : Nat} (h : ja_ob ja_L0 7 k) : ja_ob ja_L0 4 (ja_q k 9) := (fa_7_9 k h.1 h.2).2
theorem fa_7_10 : ∀ k, k < 64 → (ja_shl.getD k (0, 0)).1 = 9 → (ja_rfl.getD k []).getD 10 none = some (ja_q k 10) ∧ ja_q k 10 < 64 ∧ (ja_shl.getD (ja_q k 10) (0, 0)).1 = 3 := by decide +kernel
theorem fr_7_10 {k : Nat} (h : ja_ob ja_L0 7 k) : ja_L0.2.2.2 k 10 = some (ja_q k 10) := (fa_7_10 k h.1 h.2).1
theorem fk_7_10 {k : Nat} (h : ja_ob ja_L0 7 k) : ja_ob ja_L0 1 (ja_q k 10) := (fa_7_10 k h.1 h.2).2
theorem fa_8_3 : ∀ k, k < 64 → (ja_shl.getD k (0, 0)).1 = 10 → (ja_rfl.getD k []).getD 3 none = some (ja_q k 3) ∧ ja_q k 3 < 64 ∧ (ja_shl.getD (ja_q k 3) (0, 0)).1 = 0 := by decide +kernel
theorem fr_8_3 {k : Nat} (h : ja_ob ja_L0 8 k) : ja_L0.2.2.2 k 3 = some (ja_q k 3) := (fa_8_3 k h.1 h.2).1
theorem fk_8_3 {k : Nat} (h : ja_ob ja_L0 8 k) : ja_ai ja_L0 (ja_q k 3) := (fa_8_3 k h.1 h.2).2
theorem fa_8_4 : ∀ k, k < 64 → (ja_shl.getD k (0, 0)).1 = 10 → (ja_rfl.getD k []).getD 4 none = some (ja_q k 4) ∧ ja_q k 4 < 64 ∧ (ja_shl.getD (ja_q k 4) (0, 0)).1 = 0 := by decide +kernel
theorem fr_8_4 {k : Nat} (h : ja_ob ja_L0 8 k) : ja_L0.2.2.2 k 4 = some (ja_q k 4) := (fa_8_4 k h.1 h.2).1
theorem fk_8_4 {k : Nat} (h : ja_ob ja_L0 8 k) : ja_ai ja_L0 (ja_q k 4) := (fa_8_4 k h.1 h.2).2
theorem fa_8_5 : ∀ k, k < 64 → (ja_shl.getD k (0, 0)).1 = 10 → (ja_rfl.getD k []).getD 5 none = some (ja_q k 5) ∧ ja_q k 5 < 64 ∧ (ja_shl.getD (ja_q k 5) (0, 0)).1 = 0 := by decide +kernel
theorem fr_8_5 {k : Nat} (h : ja_ob ja_L0 8 k) : ja_L0.2.2.2 k 5 = some (ja_q k 5) := (fa_8_5 k h.1 h.2).1
theorem fk_8_5 {k : Nat} (h : ja_ob ja_L0 8 k) : ja_ai ja_L0 (ja_q k 5) := (fa_8_5 k h.1 h.2).2
theorem fa_8_6 : ∀ k, k < 64 → (ja_shl.getD k (0, 0)).1 = 10 → (ja_rfl.getD k []).getD 6 none = some (ja_q k 6) ∧ ja_q k 6 < 64 ∧ (ja_shl.getD (ja_q k 6) (0, 0)).1 = 0 := by decide +kernel
theorem fr_8_6 {k : Nat} (h : ja_ob ja_L0 8 k) : ja_L0.2.2.2 k 6 = some (ja_q k 6) := (fa_8_6 k h.1 h.2).1
theorem fk_8_6 {k : Nat} (h : ja_ob ja_L0 8 k) : ja_ai ja_L0 (ja_q k 6) := (fa_8_6 k h.1 h.2).2
theorem fa_8_7 : ∀ k, k < 64 → (ja_shl.getD k (0, 0)).1 = 10 → (ja_rfl.getD k []).getD 7 none = some (ja_q k 7) ∧ ja_q k 7 < 64 ∧ (ja_shl.getD (ja_q k 7) (0, 0)).1 = 0 := by decide +kernel
theorem fr_8_7 {k : Nat} (h : ja_ob ja_L0 8 k) : ja_L0.2.2.2 k 7 = some (ja_q k 7) := (fa_8_7 k h.1 h.2).1
theorem fk_8_7 {k : Nat} (h : ja_ob ja_L0 8 k) : ja_ai ja_L0 (ja_q k 7) := (fa_8_7 k h.1 h.2).2
theorem fa_8_10 : ∀ k, k < 64 → (ja_shl.getD k (0, 0)).1 = 10 → (ja_rfl.getD k []).getD 10 none = some (ja_q k 10) ∧ ja_q k 10 < 64 ∧ (ja_shl.getD (ja_q k 10) (0, 0)).1 = 0 := by decide +kernel
theorem fr_8_10 {k : Nat} (h : ja_ob ja_L0 8 k) : ja_L0.2.2.2 k 10 = some (ja_q k 10) := (fa_8_10 k h.1 h.2).1
theorem fk_8_10 {k : Nat} (h : ja_ob ja_L0 8 k) : ja_ai ja_L0 (ja_q k 10) := (fa_8_10 k h.1 h.2).2
theorem fa_8_21 : ∀ k, k < 64 → (ja_shl.getD k (0, 0)).1 = 10 → (ja_rfl.getD k []).getD 21 none = some (ja_q k 21) ∧ ja_q k 21 < 64 ∧ (ja_shl.getD (ja_q k 21) (0, 0)).1 = 0 := by decide +kernel
theorem fr_8_21 {k : Nat} (h : ja_ob ja_L0 8 k) : ja_L0.2.2.2 k 21 = some (ja_q k 21) := (fa_8_21 k h.1 h.2).1
theorem fk_8_21 {k : Nat} (h : ja_ob ja_L0 8 k) : ja_ai ja_L0 (ja_q k 21) := (fa_8_21 k h.1 h.2).2
theorem fa_8_22 : ∀ k, k < 64 → (ja_shl.getD k (0, 0)).1 = 10 → (ja_rfl.getD k []).getD 22 none = some (ja_q k 22) ∧ ja_q k 22 < 64 ∧ (ja_shl.getD (ja_q k 22) (0, 0)).1 = 0 := by decide +kernel
theorem fr_8_22 {k : Nat} (h : ja_ob ja_L0 8 k) : ja_L0.2.2.2 k 22 = some (ja_q k 22) := (fa_8_22 k h.1 h.2).1
theorem fk_8_22 {k : Nat} (h : ja_ob ja_L0 8 k) : ja_ai ja_L0 (ja_q k 22) := (fa_8_22 k h.1 h.2).2
theorem fa_8_23 : ∀ k, k < 64 → (ja_shl.getD k (0, 0)).1 = 10 → (ja_rfl.getD k []).getD 23 none = some (ja_q k 23) ∧ ja_q k 23 < 64 ∧ (ja_shl.getD (ja_q k 23) (0, 0)).1 = 0 := by decide +kernel
theorem fr_8_23 {k : Nat} (h : ja_ob ja_L0 8 k) : ja_L0.2.2.2 k 23 = some (ja_q k 23) := (fa_8_23 k h.1 h.2).1
theorem fk_8_23 {k : Nat} (h : ja_ob ja_L0 8 k) : ja_ai ja_L0 (ja_q k 23) := (fa_8_23 k h.1 h.2).2
theorem fa_8_24 : ∀ k, k < 64 → (ja_shl.getD k (0, 0)).1 = 10 → (ja_rfl.getD k []).getD 24 none = some (ja_q k 24) ∧ ja_q k 24 < 64 ∧ (ja_shl.getD (ja_q k 24) (0, 0)).1 = 0 := by decide +kernel
theorem fr_8_24 {k : Nat} (h : ja_ob ja_L0 8 k) : ja_L0.2.2.2 k 24 = some (ja_q k 24) := (fa_8_24 k h.1 h.2).1
theorem fk_8_24 {k : Nat} (h : ja_ob ja_L0 8 k) : ja_ai ja_L0 (ja_q k 24) := (fa_8_24 k h.1 h.2).2
theorem fa_8_25 : ∀ k, k < 64 → (ja_shl.getD k (0, 0)).1 = 10 → (ja_rfl.getD k []).getD 25 none = some (ja_q k 25) ∧ ja_q k 25 < 64 ∧ (ja_shl.getD (ja_q k 25) (0, 0)).1 = 0 := by decide +kernel
theorem fr_8_25 {k : Nat} (h : ja_ob ja_L0 8 k) : ja_L0.2.2.2 k 25 = some (ja_q k 25) := (fa_8_25 k h.1 h.2).1
theorem fk_8_25 {k : Nat} (h : ja_ob ja_L0 8 k) : ja_ai ja_L0 (ja_q k 25) := (fa_8_25 k h.1 h.2).2
theorem fa_8_26 : ∀ k, k < 64 → (ja_shl.getD k (0, 0)).1 = 10 → (ja_rfl.getD k []).getD 26 none = some (ja_q k 26) ∧ ja_q k 26 < 64 ∧ (ja_shl.getD (ja_q k 26) (0, 0)).1 = 0 := by decide +kernel
theorem fr_8_26 {k : Nat} (h : ja_ob ja_L0 8 k) : ja_L0.2.2.2 k 26 = some (ja_q k 26) := (fa_8_26 k h.1 h.2).1
theorem fk_8_26 {k : Nat} (h : ja_ob ja_L0 8 k) : ja_ai ja_L0 (ja_q k 26) := (fa_8_26 k h.1 h.2).2
theorem fa_8_30 : ∀ k, k < 64 → (ja_shl.getD k (0, 0)).1 = 10 → (ja_rfl.getD k []).getD 30 none = some (ja_q k 30) ∧ ja_q k 30 < 64 ∧ (ja_shl.getD (ja_q k 30) (0, 0)).1 = 0 := by decide +kernel
theorem fr_8_30 {k : Nat} (h : ja_ob ja_L0 8 k) : ja_L0.2.2.2 k 30 = some (ja_q k 30) := (fa_8_30 k h.1 h.2).1
theorem fk_8_30 {k : Nat} (h : ja_ob ja_L0 8 k) : ja_ai ja_L0 (ja_q k 30) := (fa_8_30 k h.1 h.2).2
theorem fa_8_31 : ∀ k, k < 64 → (ja_shl.getD k (0, 0)).1 = 10 → (ja_rfl.getD k []).getD 31 none = some (ja_q k 31) ∧ ja_q k 31 < 64 ∧ (ja_shl.getD (ja_q k 31) (0, 0)).1 = 0 := by decide +kernel
theorem fr_8_31 {k : Nat} (h : ja_ob ja_L0 8 k) : ja_L0.2.2.2 k 31 = some (ja_q k 31) := (fa_8_31 k h.1 h.2).1
theorem fk_8_31 {k : Nat} (h : ja_ob ja_L0 8 k) : ja_ai ja_L0 (ja_q k 31) := (fa_8_31 k h.1 h.2).2
theorem fa_8_33 : ∀ k, k < 64 → (ja_shl.getD k (0, 0)).1 = 10 → (ja_rfl.getD k []).getD 33 none = some (ja_q k 33) ∧ ja_q k 33 < 64 ∧ (ja_shl.getD (ja_q k 33) (0, 0)).1 = 0 := by decide +kernel
theorem fr_8_33 {k : Nat} (h : ja_ob ja_L0 8 k) : ja_L0.2.2.2 k 33 = some (ja_q k 33) := (fa_8_33 k h.1 h.2).1
theorem fk_8_33 {k : Nat} (h : ja_ob ja_L0 8 k) : ja_ai ja_L0 (ja_q k 33) := (fa_8_33 k h.1 h.2).2
theorem fa_8_35 : ∀ k, k < 64 → (ja_shl.getD k (0, 0)).1 = 10 → (ja_rfl.getD k []).getD 35 none = some (ja_q k 35) ∧ ja_q k 35 < 64 ∧ (ja_shl.getD (ja_q k 35) (0, 0)).1 = 0 := by decide +kernel
theorem fr_8_35 {k : Nat} (h : ja_ob ja_L0 8 k) : ja_L0.2.2.2 k 35 = some (ja_q k 35) := (fa_8_35 k h.1 h.2).1
theorem fk_8_35 {k : Nat} (h : ja_ob ja_L0 8 k) : ja_ai ja_L0 (ja_q k 35) := (fa_8_35 k h.1 h.2).2
theorem fa_8_39 : ∀ k, k < 64 → (ja_shl.getD k (0, 0)).1 = 10 → (ja_rfl.getD k []).getD 39 none = some (ja_q k 39) ∧ ja_q k 39 < 64 ∧ (ja_shl.getD (ja_q k 39) (0, 0)).1 = 0 := by decide +kernel
theorem fr_8_39 {k : Nat} (h : ja_ob ja_L0 8 k) : ja_L0.2.2.2 k 39 = some (ja_q k 39) := (fa_8_39 k h.1 h.2).1
theorem fk_8_39 {k : Nat} (h : ja_ob ja_L0 8 k) : ja_ai ja_L0 (ja_q k 39) := (fa_8_39 k h.1 h.2).2
theorem fa_8_40 : ∀ k, k < 64 → (ja_shl.getD k (0, 0)).1 = 10 → (ja_rfl.getD k []).getD 40 none = some (ja_q k 40) ∧ ja_q k 40 < 64 ∧ (ja_shl.getD (ja_q k 40) (0, 0)).1 = 0 := by decide +kernel
theorem fr_8_40 {k : Nat} (h : ja_ob ja_L0 8 k) : ja_L0.2.2.2 k 40 = some (ja_q k 40) := (fa_8_40 k h.1 h.2).1
theorem fk_8_40 {k : Nat} (h : ja_ob ja_L0 8 k) : ja_ai ja_L0 (ja_q k 40) := (fa_8_40 k h.1 h.2).2
/-- a text constant -/
def ja_is (k : Nat) : Prop := ∃ i, i < 11 ∧ k = 1000 + i
theorem ja_is_mk (i : Nat) (h : i < 11) : ja_is (1000 + i) := ⟨i, h, rfl⟩
theorem ja_ri_b {v : Int32} (h : v = 0 ∨ v = 1) : ja_ri (some .boolean) (some (.int v)) = some .ireturn := if_pos h
section JW
variable {M M' : ja_M} {C : ja_C} {pc idx t j k b n : Nat} {lv : List (Nat × Value)} {st st0 as : List Value} {Λ : ja_L} {σ σ' σ1 : ja_S} {zz : ja_Z} {y : MethodName}
theorem ja_puti2 {v : Int32} {ty : FieldType} (hd : decode M.1 pc = .ok (.putfield idx, 3)) (hF : ja_fd M.2.2.1 idx t j false false ty) (hk : ja_ob Λ t k) (hv : narrow ty (.int v) = .int v ∧ fits ty (.int v) = true) (hs : ja_pu σ k j v = some σ') (kk : ja_J M C (pc + 3) lv st Λ σ' zz) : ja_J M C pc lv (.int v :: .ref k :: st) Λ σ zz := by
  cases hs
  exact ja_puti hd hF hk hv kk
theorem ja_callVi {r : Int32} (hd : decode M.1 pc = .ok (.invokevirtual idx, 3)) (hk : ja_kV y M' n t) (hlink : Cond.methodLink M.2.2.1 idx y ∈ ja_tb) (hro : ja_rr M M') (hM : ja_Ct C.1.2.1 C.2.1 y M' (.ref b :: as) Λ σ (some (.int r), Λ, σ1)) (hb : ja_ob Λ t b) (hn : as.length = n) (hst : (st.map fun v => v.category).sum ≤ 8) (hs : st0 = as.reverse ++ .ref b :: st) (kk : ja_J M C (pc + 3) lv (.int r :: st) Λ σ1 zz) : ja_J M C pc lv st0 Λ σ zz := ja_callV0 hd hk hlink hro hM hb hn hst hs kk
theorem ja_callVl {r : Int64} (hd : decode M.1 pc = .ok (.invokevirtual idx, 3)) (hk : ja_kV y M' n t) (hlink : Cond.methodLink M.2.2.1 idx y ∈ ja_tb) (hro : ja_rr M M') (hM : ja_Ct C.1.2.1 C.2.1 y M' (.ref b :: as) Λ σ (some (.long r), Λ, σ1)) (hb : ja_ob Λ t b) (hn : as.length = n) (hst : (st.map fun v => v.category).sum ≤ 8) (hs : st0 = as.reverse ++ .ref b :: st) (kk : ja_J M C (pc + 3) lv (.long r :: st) Λ σ1 zz) : ja_J M C pc lv st0 Λ σ zz := ja_callV0 hd hk hlink hro hM hb hn hst hs kk
theorem ja_callVr {r : Nat} (hd : decode M.1 pc = .ok (.invokevirtual idx, 3)) (hk : ja_kV y M' n t) (hlink : Cond.methodLink M.2.2.1 idx y ∈ ja_tb) (hro : ja_rr M M') (hM : ja_Ct C.1.2.1 C.2.1 y M' (.ref b :: as) Λ σ (some (.ref r), Λ, σ1)) (hb : ja_ob Λ t b) (hn : as.length = n) (hst : (st.map fun v => v.category).sum ≤ 8) (hs : st0 = as.reverse ++ .ref b :: st) (kk : ja_J M C (pc + 3) lv (.ref r :: st) Λ σ1 zz) : ja_J M C pc lv st0 Λ σ zz := ja_callV0 hd hk hlink hro hM hb hn hst hs kk
theorem ja_callVv  (hd : decode M.1 pc = .ok (.invokevirtual idx, 3)) (hk : ja_kV y M' n t) (hlink : Cond.methodLink M.2.2.1 idx y ∈ ja_tb) (hro : ja_rr M M') (hM : ja_Ct C.1.2.1 C.2.1 y M' (.ref b :: as) Λ σ (none, Λ, σ1)) (hb : ja_ob Λ t b) (hn : as.length = n) (hst : (st.map fun v => v.category).sum ≤ 8) (hs : st0 = as.reverse ++ .ref b :: st) (kk : ja_J M C (pc + 3) lv st Λ σ1 zz) : ja_J M C pc lv st0 Λ σ zz := ja_callV0 hd hk hlink hro hM hb hn hst hs kk
theorem ja_callSi {r : Int32} (hd : decode M.1 pc = .ok (.invokestatic idx, 3)) (hk : ja_kS y M' n) (hlink : Cond.methodLink M.2.2.1 idx y ∈ ja_tb) (hro : ja_rr M M') (hM : ja_Ct C.1.2.1 C.2.1 y M' as Λ σ (some (.int r), Λ, σ1)) (hn : as.length = n) (hst : (st.map fun v => v.category).sum ≤ 8) (hs : st0 = as.reverse ++ st) (kk : ja_J M C (pc + 3) lv (.int r :: st) Λ σ1 zz) : ja_J M C pc lv st0 Λ σ zz := ja_callS0 hd hk hlink hro hM hn hst hs kk
theorem ja_callSl {r : Int64} (hd : decode M.1 pc = .ok (.invokestatic idx, 3)) (hk : ja_kS y M' n) (hlink : Cond.methodLink M.2.2.1 idx y ∈ ja_tb) (hro : ja_rr M M') (hM : ja_Ct C.1.2.1 C.2.1 y M' as Λ σ (some (.long r), Λ, σ1)) (hn : as.length = n) (hst : (st.map fun v => v.category).sum ≤ 8) (hs : st0 = as.reverse ++ st) (kk : ja_J M C (pc + 3) lv (.long r :: st) Λ σ1 zz) : ja_J M C pc lv st0 Λ σ zz := ja_callS0 hd hk hlink hro hM hn hst hs kk
theorem ja_callSr {r : Nat} (hd : decode M.1 pc = .ok (.invokestatic idx, 3)) (hk : ja_kS y M' n) (hlink : Cond.methodLink M.2.2.1 idx y ∈ ja_tb) (hro : ja_rr M M') (hM : ja_Ct C.1.2.1 C.2.1 y M' as Λ σ (some (.ref r), Λ, σ1)) (hn : as.length = n) (hst : (st.map fun v => v.category).sum ≤ 8) (hs : st0 = as.reverse ++ st) (kk : ja_J M C (pc + 3) lv (.ref r :: st) Λ σ1 zz) : ja_J M C pc lv st0 Λ σ zz := ja_callS0 hd hk hlink hro hM hn hst hs kk
theorem ja_callSv  (hd : decode M.1 pc = .ok (.invokestatic idx, 3)) (hk : ja_kS y M' n) (hlink : Cond.methodLink M.2.2.1 idx y ∈ ja_tb) (hro : ja_rr M M') (hM : ja_Ct C.1.2.1 C.2.1 y M' as Λ σ (none, Λ, σ1)) (hn : as.length = n) (hst : (st.map fun v => v.category).sum ≤ 8) (hs : st0 = as.reverse ++ st) (kk : ja_J M C (pc + 3) lv st Λ σ1 zz) : ja_J M C pc lv st0 Λ σ zz := ja_callS0 hd hk hlink hro hM hn hst hs kk
theorem ja_callNi (q : Nat) {host : String} {r : Int32} (hd : decode M.1 pc = .ok (.invokestatic idx, 3)) (hk : ja_kS y M' n) (hlink : ja_nk[q]? = some (M.2.2.1, idx, y, host)) (hro : ja_rr M M') (hM : ja_Ct C.1.2.1 C.2.1 y M' as Λ σ (some (.int r), Λ, σ1)) (hn : as.length = n) (hst : (st.map fun v => v.category).sum ≤ 8) (hs : st0 = as.reverse ++ st) (kk : ja_J M C (pc + 3) lv (.int r :: st) Λ σ1 zz) : ja_J M C pc lv st0 Λ σ zz := ja_callN0 q hd hk hlink hro hM hn hst hs kk
theorem ja_callNl (q : Nat) {host : String} {r : Int64} (hd : decode M.1 pc = .ok (.invokestatic idx, 3)) (hk : ja_kS y M' n) (hlink : ja_nk[q]? = some (M.2.2.1, idx, y, host)) (hro : ja_rr M M') (hM : ja_Ct C.1.2.1 C.2.1 y M' as Λ σ (some (.long r), Λ, σ1)) (hn : as.length = n) (hst : (st.map fun v => v.category).sum ≤ 8) (hs : st0 = as.reverse ++ st) (kk : ja_J M C (pc + 3) lv (.long r :: st) Λ σ1 zz) : ja_J M C pc lv st0 Λ σ zz := ja_callN0 q hd hk hlink hro hM hn hst hs kk
theorem ja_callNr (q : Nat) {host : String} {r : Nat} (hd : decode M.1 pc = .ok (.invokestatic idx, 3)) (hk : ja_kS y M' n) (hlink : ja_nk[q]? = some (M.2.2.1, idx, y, host)) (hro : ja_rr M M') (hM : ja_Ct C.1.2.1 C.2.1 y M' as Λ σ (some (.ref r), Λ, σ1)) (hn : as.length = n) (hst : (st.map fun v => v.category).sum ≤ 8) (hs : st0 = as.reverse ++ st) (kk : ja_J M C (pc + 3) lv (.ref r :: st) Λ σ1 zz) : ja_J M C pc lv st0 Λ σ zz := ja_callN0 q hd hk hlink hro hM hn hst hs kk
theorem ja_callNv (q : Nat) {host : String}  (hd : decode M.1 pc = .ok (.invokestatic idx, 3)) (hk : ja_kS y M' n) (hlink : ja_nk[q]? = some (M.2.2.1, idx, y, host)) (hro : ja_rr M M') (hM : ja_Ct C.1.2.1 C.2.1 y M' as Λ σ (none, Λ, σ1)) (hn : as.length = n) (hst : (st.map fun v => v.category).sum ≤ 8) (hs : st0 = as.reverse ++ st) (kk : ja_J M C (pc + 3) lv st Λ σ1 zz) : ja_J M C pc lv st0 Λ σ zz := ja_callN0 q hd hk hlink hro hM hn hst hs kk
end JW
def y_Arrays_fillI : MethodName := ⟨"java/util/Arrays", "fill", "([II)V"⟩
abbrev M_Arrays_fillI : ja_M := (prog_18_method_103_code, 4, "java/util/Arrays", "fill", (Option.none : Option FieldType), 0, 0)
def y_Arrays_fillJ : MethodName := ⟨"java/util/Arrays", "fill", "([JJ)V"⟩
abbrev M_Arrays_fillJ : ja_M := (prog_18_method_101_code, 5, "java/util/Arrays", "fill", (Option.none : Option FieldType), 0, 0)
def y_Frame_addRule : MethodName := ⟨"InterlockingFrame", "addRule", "(IIII)I"⟩
abbrev M_Frame_addRule : ja_M := (prog_1_method_17_code, 6, "InterlockingFrame", "addRule", (Option.some FieldType.int), 4, 84)
def y_Frame_appendBytes : MethodName := ⟨"InterlockingFrame", "appendBytes", "(IIIII)I"⟩
abbrev M_Frame_appendBytes : ja_M := (prog_1_method_2_code, 6, "InterlockingFrame", "appendBytes", (Option.some FieldType.int), 1, 22)
def y_Frame_blockingRule : MethodName := ⟨"InterlockingFrame", "blockingRule", "(II)I"⟩
abbrev M_Frame_blockingRule : ja_M := (prog_1_method_21_code, 3, "InterlockingFrame", "blockingRule", (Option.some FieldType.int), 5, 108)
def y_Frame_bufferLength : MethodName := ⟨"InterlockingFrame", "bufferLength", "()I"⟩
abbrev M_Frame_bufferLength : ja_M := (prog_1_method_6_code, 1, "InterlockingFrame", "bufferLength", (Option.some FieldType.int), 0, 0)
def y_Frame_completionLock : MethodName := ⟨"InterlockingFrame", "completionLock", "(I)I"⟩
abbrev M_Frame_completionLock : ja_M := (prog_1_method_33_code, 3, "InterlockingFrame", "completionLock", (Option.some FieldType.int), 6, 156)
def y_Frame_completionSize : MethodName := ⟨"InterlockingFrame", "completionSize", "()I"⟩
abbrev M_Frame_completionSize : ja_M := (prog_1_method_32_code, 1, "InterlockingFrame", "completionSize", (Option.some FieldType.int), 6, 156)
def y_Frame_conflictCount : MethodName := ⟨"InterlockingFrame", "conflictCount", "()I"⟩
abbrev M_Frame_conflictCount : ja_M := (prog_1_method_14_code, 1, "InterlockingFrame", "conflictCount", (Option.some FieldType.int), 0, 0)
def y_Frame_countMerged : MethodName := ⟨"InterlockingFrame", "countMerged", "(II)I"⟩
abbrev M_Frame_countMerged : ja_M := (prog_1_method_47_code, 3, "InterlockingFrame", "countMerged", (Option.some FieldType.int), 5, 121)
def y_Frame_currentState : MethodName := ⟨"InterlockingFrame", "currentState", "()I"⟩
abbrev M_Frame_currentState : ja_M := (prog_1_method_15_code, 1, "InterlockingFrame", "currentState", (Option.some FieldType.int), 0, 0)
def y_Frame_distance : MethodName := ⟨"InterlockingFrame", "distance", "(II)I"⟩
abbrev M_Frame_distance : ja_M := (prog_1_method_24_code, 3, "InterlockingFrame", "distance", (Option.some FieldType.int), 6, 141)
def y_Frame_excludedLevers : MethodName := ⟨"InterlockingFrame", "excludedLevers", "(I)I"⟩
abbrev M_Frame_excludedLevers : ja_M := (prog_1_method_26_code, 3, "InterlockingFrame", "excludedLevers", (Option.some FieldType.int), 5, 118)
def y_Frame_farthestState : MethodName := ⟨"InterlockingFrame", "farthestState", "()I"⟩
abbrev M_Frame_farthestState : ja_M := (prog_1_method_35_code, 1, "InterlockingFrame", "farthestState", (Option.some FieldType.int), 5, 118)
def y_Frame_forgetFindings : MethodName := ⟨"InterlockingFrame", "forgetFindings", "()V"⟩
abbrev M_Frame_forgetFindings : ja_M := (prog_1_method_43_code, 1, "InterlockingFrame", "forgetFindings", (Option.none : Option FieldType), 1, 20)
def y_Frame_freeLevers : MethodName := ⟨"InterlockingFrame", "freeLevers", "(I)I"⟩
abbrev M_Frame_freeLevers : ja_M := (prog_1_method_22_code, 4, "InterlockingFrame", "freeLevers", (Option.some FieldType.int), 5, 108)
def y_Frame_init : MethodName := ⟨"InterlockingFrame", "<init>", "()V"⟩
abbrev M_Frame_init : ja_M := (prog_1_method_1_code, 1, "InterlockingFrame", "<init>", (Option.none : Option FieldType), 3, 60)
def y_Frame_isImplied : MethodName := ⟨"InterlockingFrame", "isImplied", "(I)I"⟩
abbrev M_Frame_isImplied : ja_M := (prog_1_method_36_code, 2, "InterlockingFrame", "isImplied", (Option.some FieldType.int), 6, 140)
def y_Frame_isLegal : MethodName := ⟨"InterlockingFrame", "isLegal", "(I)I"⟩
abbrev M_Frame_isLegal : ja_M := (prog_1_method_20_code, 2, "InterlockingFrame", "isLegal", (Option.some FieldType.int), 5, 106)
def y_Frame_isMergeable : MethodName := ⟨"InterlockingFrame", "isMergeable", "(II)I"⟩
abbrev M_Frame_isMergeable : ja_M := (prog_1_method_40_code, 4, "InterlockingFrame", "isMergeable", (Option.some FieldType.int), 6, 143)
def y_Frame_jointStates : MethodName := ⟨"InterlockingFrame", "jointStates", "(II)I"⟩
abbrev M_Frame_jointStates : ja_M := (prog_1_method_29_code, 3, "InterlockingFrame", "jointStates", (Option.some FieldType.int), 5, 118)
def y_Frame_largestRouteSet : MethodName := ⟨"InterlockingFrame", "largestRouteSet", "()I"⟩
abbrev M_Frame_largestRouteSet : ja_M := (prog_1_method_34_code, 1, "InterlockingFrame", "largestRouteSet", (Option.some FieldType.int), 5, 118)
def y_Frame_leverCount : MethodName := ⟨"InterlockingFrame", "leverCount", "()I"⟩
abbrev M_Frame_leverCount : ja_M := (prog_1_method_7_code, 1, "InterlockingFrame", "leverCount", (Option.some FieldType.int), 0, 0)
def y_Frame_leverPair : MethodName := ⟨"InterlockingFrame", "leverPai\x72", "(II)I"⟩
abbrev M_Frame_leverPair : ja_M := (prog_1_method_48_code, 2, "InterlockingFrame", "leverPai\x72", (Option.some FieldType.int), 0, 0)
def y_Frame_leversAfterMerging : MethodName := ⟨"InterlockingFrame", "leversAfterMerging", "()I"⟩
abbrev M_Frame_leversAfterMerging : ja_M := (prog_1_method_42_code, 2, "InterlockingFrame", "leversAfterMerging", (Option.some FieldType.int), 6, 144)
def y_Frame_mergedReachableCount : MethodName := ⟨"InterlockingFrame", "mergedReachableCount", "(II)I"⟩
abbrev M_Frame_mergedReachableCount : ja_M := (prog_1_method_41_code, 3, "InterlockingFrame", "mergedReachableCount", (Option.some FieldType.int), 6, 143)
def y_Frame_moveLever : MethodName := ⟨"InterlockingFrame", "moveLeve\x72", "(I)I"⟩
abbrev M_Frame_moveLever : ja_M := (prog_1_method_16_code, 2, "InterlockingFrame", "moveLeve\x72", (Option.some FieldType.int), 5, 108)
def y_Frame_nextMove : MethodName := ⟨"InterlockingFrame", "nextMove", "(II)I"⟩
abbrev M_Frame_nextMove : ja_M := (prog_1_method_25_code, 3, "InterlockingFrame", "nextMove", (Option.some FieldType.int), 6, 141)
def y_Frame_parseError : MethodName := ⟨"InterlockingFrame", "parseErro\x72", "()I"⟩
abbrev M_Frame_parseError : ja_M := (prog_1_method_4_code, 1, "InterlockingFrame", "parseErro\x72", (Option.some FieldType.int), 0, 0)
def y_Frame_parseErrorOffset : MethodName := ⟨"InterlockingFrame", "parseErrorOffset", "()I"⟩
abbrev M_Frame_parseErrorOffset : ja_M := (prog_1_method_5_code, 1, "InterlockingFrame", "parseErrorOffset", (Option.some FieldType.int), 0, 0)
def y_Frame_parseSheet : MethodName := ⟨"InterlockingFrame", "parseSheet", "(I)I"⟩
abbrev M_Frame_parseSheet : ja_M := (prog_1_method_3_code, 2, "InterlockingFrame", "parseSheet", (Option.some FieldType.int), 9, 202)
def y_Frame_placeFreedWithout : MethodName := ⟨"InterlockingFrame", "placeFreedWithout", "(I)I"⟩
abbrev M_Frame_placeFreedWithout : ja_M := (prog_1_method_46_code, 3, "InterlockingFrame", "placeFreedWithout", (Option.some FieldType.int), 5, 118)
def y_Frame_proposedLock : MethodName := ⟨"InterlockingFrame", "proposedLock", "(I)I"⟩
abbrev M_Frame_proposedLock : ja_M := (prog_1_method_31_code, 3, "InterlockingFrame", "proposedLock", (Option.some FieldType.int), 5, 129)
def y_Frame_reachableCount : MethodName := ⟨"InterlockingFrame", "reachableCount", "()I"⟩
abbrev M_Frame_reachableCount : ja_M := (prog_1_method_23_code, 1, "InterlockingFrame", "reachableCount", (Option.some FieldType.int), 5, 118)
def y_Frame_reducedSheet : MethodName := ⟨"InterlockingFrame", "reducedSheet", "()I"⟩
abbrev M_Frame_reducedSheet : ja_M := (prog_1_method_37_code, 4, "InterlockingFrame", "reducedSheet", (Option.some FieldType.int), 5, 118)
def y_Frame_removeRule : MethodName := ⟨"InterlockingFrame", "removeRule", "(I)I"⟩
abbrev M_Frame_removeRule : ja_M := (prog_1_method_18_code, 2, "InterlockingFrame", "removeRule", (Option.some FieldType.int), 3, 69)
def y_Frame_routeCount : MethodName := ⟨"InterlockingFrame", "routeCount", "()I"⟩
abbrev M_Frame_routeCount : ja_M := (prog_1_method_12_code, 1, "InterlockingFrame", "routeCount", (Option.some FieldType.int), 0, 0)
def y_Frame_routeLevers : MethodName := ⟨"InterlockingFrame", "routeLevers", "(I)I"⟩
abbrev M_Frame_routeLevers : ja_M := (prog_1_method_13_code, 2, "InterlockingFrame", "routeLevers", (Option.some FieldType.int), 1, 21)
def y_Frame_ruleCondition : MethodName := ⟨"InterlockingFrame", "ruleCondition", "(I)I"⟩
abbrev M_Frame_ruleCondition : ja_M := (prog_1_method_11_code, 2, "InterlockingFrame", "ruleCondition", (Option.some FieldType.int), 1, 21)
def y_Frame_ruleCount : MethodName := ⟨"InterlockingFrame", "ruleCount", "()I"⟩
abbrev M_Frame_ruleCount : ja_M := (prog_1_method_8_code, 1, "InterlockingFrame", "ruleCount", (Option.some FieldType.int), 0, 0)
def y_Frame_ruleKind : MethodName := ⟨"InterlockingFrame", "ruleKind", "(I)I"⟩
abbrev M_Frame_ruleKind : ja_M := (prog_1_method_9_code, 2, "InterlockingFrame", "ruleKind", (Option.some FieldType.int), 1, 21)
def y_Frame_ruleLevers : MethodName := ⟨"InterlockingFrame", "ruleLevers", "(I)I"⟩
abbrev M_Frame_ruleLevers : ja_M := (prog_1_method_10_code, 2, "InterlockingFrame", "ruleLevers", (Option.some FieldType.int), 1, 21)
def y_Frame_searchBetween : MethodName := ⟨"InterlockingFrame", "searchBetween", "(II)Z"⟩
abbrev M_Frame_searchBetween : ja_M := (prog_1_method_45_code, 4, "InterlockingFrame", "searchBetween", (Option.some FieldType.boolean), 5, 118)
def y_Frame_searchedHome : MethodName := ⟨"InterlockingFrame", "searchedHome", "()LInterlockingFrame$Search;"⟩
abbrev M_Frame_searchedHome : ja_M := (prog_1_method_44_code, 1, "InterlockingFrame", "searchedHome", (Option.some (FieldType.object "InterlockingFrame$Search")), 4, 98)
def y_Frame_settingMoves : MethodName := ⟨"InterlockingFrame", "settingMoves", "(I)I"⟩
abbrev M_Frame_settingMoves : ja_M := (prog_1_method_28_code, 3, "InterlockingFrame", "settingMoves", (Option.some FieldType.int), 5, 118)
def y_Frame_settingState : MethodName := ⟨"InterlockingFrame", "settingState", "(I)I"⟩
abbrev M_Frame_settingState : ja_M := (prog_1_method_27_code, 2, "InterlockingFrame", "settingState", (Option.some FieldType.int), 5, 118)
def y_Frame_testLength : MethodName := ⟨"InterlockingFrame", "testLength", "(I)I"⟩
abbrev M_Frame_testLength : ja_M := (prog_1_method_38_code, 3, "InterlockingFrame", "testLength", (Option.some FieldType.int), 6, 140)
def y_Frame_testMove : MethodName := ⟨"InterlockingFrame", "testMove", "(II)I"⟩
abbrev M_Frame_testMove : ja_M := (prog_1_method_39_code, 6, "InterlockingFrame", "testMove", (Option.some FieldType.int), 6, 140)
def y_Frame_undo : MethodName := ⟨"InterlockingFrame", "undo", "()I"⟩
abbrev M_Frame_undo : ja_M := (prog_1_method_19_code, 1, "InterlockingFrame", "undo", (Option.some FieldType.int), 2, 48)
def y_Frame_unprotectedConflicts : MethodName := ⟨"InterlockingFrame", "unprotectedConflicts", "()I"⟩
abbrev M_Frame_unprotectedConflicts : ja_M := (prog_1_method_30_code, 1, "InterlockingFrame", "unprotectedConflicts", (Option.some FieldType.int), 5, 118)
def y_History_clear : MethodName := ⟨"InterlockingFrame$History", "clea\x72", "()V"⟩
abbrev M_History_clear : ja_M := (prog_2_method_2_code, 1, "InterlockingFrame$History", "clea\x72", (Option.none : Option FieldType), 0, 0)
def y_History_forgetOldest : MethodName := ⟨"InterlockingFrame$History", "forgetOldest", "()V"⟩
abbrev M_History_forgetOldest : ja_M := (prog_2_method_4_code, 1, "InterlockingFrame$History", "forgetOldest", (Option.none : Option FieldType), 1, 26)
def y_History_init : MethodName := ⟨"InterlockingFrame$History", "<init>", "()V"⟩
abbrev M_History_init : ja_M := (prog_2_method_1_code, 1, "InterlockingFrame$History", "<init>", (Option.none : Option FieldType), 1, 20)
def y_History_note : MethodName := ⟨"InterlockingFrame$History", "note", "(III)V"⟩
abbrev M_History_note : ja_M := (prog_2_method_3_code, 4, "InterlockingFrame$History", "note", (Option.none : Option FieldType), 2, 46)
def y_History_takeLatest : MethodName := ⟨"InterlockingFrame$History", "takeLatest", "()Z"⟩
abbrev M_History_takeLatest : ja_M := (prog_2_method_5_code, 1, "InterlockingFrame$History", "takeLatest", (Option.some FieldType.boolean), 0, 0)
def y_Integer_bitCount : MethodName := ⟨"java/lang/Intege\x72", "bitCount", "(I)I"⟩
abbrev M_Integer_bitCount : ja_M := (prog_12_method_49_code, 1, "java/lang/Intege\x72", "bitCount", (Option.some FieldType.int), 0, 0)
def y_Latin1_charAt : MethodName := ⟨"java/lang/StringLatin1", "charAt", "([BI)C"⟩
abbrev M_Latin1_charAt : ja_M := (prog_15_method_2_code, 2, "java/lang/StringLatin1", "charAt", (Option.some FieldType.char), 2, 43)
def y_LockPlanner_complete : MethodName := ⟨"InterlockingFrame$LockPlanne\x72", "complete", "(LInterlockingFrame$Search;LInterlockingFrame$Sheet;LInterlockingFrame$Search;)I"⟩
abbrev M_LockPlanner_complete : ja_M := (prog_3_method_5_code, 8, "InterlockingFrame$LockPlanne\x72", "complete", (Option.some FieldType.int), 5, 129)
def y_LockPlanner_forget : MethodName := ⟨"InterlockingFrame$LockPlanne\x72", "forget", "()V"⟩
abbrev M_LockPlanner_forget : ja_M := (prog_3_method_2_code, 1, "InterlockingFrame$LockPlanne\x72", "forget", (Option.none : Option FieldType), 0, 0)
def y_LockPlanner_init : MethodName := ⟨"InterlockingFrame$LockPlanne\x72", "<init>", "()V"⟩
abbrev M_LockPlanner_init : ja_M := (prog_3_method_1_code, 1, "InterlockingFrame$LockPlanne\x72", "<init>", (Option.none : Option FieldType), 2, 40)
def y_LockPlanner_keepsRoutes : MethodName := ⟨"InterlockingFrame$LockPlanne\x72", "keepsRoutes", "(LInterlockingFrame$Search;LInterlockingFrame$Sheet;LInterlockingFrame$Locking;II)Z"⟩
abbrev M_LockPlanner_keepsRoutes : ja_M := (prog_3_method_4_code, 5, "InterlockingFrame$LockPlanne\x72", "keepsRoutes", (Option.some FieldType.boolean), 3, 75)
def y_LockPlanner_lockOf : MethodName := ⟨"InterlockingFrame$LockPlanne\x72", "lockOf", "(II)I"⟩
abbrev M_LockPlanner_lockOf : ja_M := (prog_3_method_6_code, 2, "InterlockingFrame$LockPlanne\x72", "lockOf", (Option.some FieldType.int), 1, 23)
def y_LockPlanner_propose : MethodName := ⟨"InterlockingFrame$LockPlanne\x72", "propose", "(LInterlockingFrame$Search;LInterlockingFrame$Sheet;ILInterlockingFrame$Locking;I)I"⟩
abbrev M_LockPlanner_propose : ja_M := (prog_3_method_3_code, 11, "InterlockingFrame$LockPlanne\x72", "propose", (Option.some FieldType.int), 4, 99)
def y_Locking_addStates : MethodName := ⟨"InterlockingFrame$Locking", "addStates", "([JIII)V"⟩
abbrev M_Locking_addStates : ja_M := (prog_4_method_5_code, 9, "InterlockingFrame$Locking", "addStates", (Option.none : Option FieldType), 1, 24)
def y_Locking_allows : MethodName := ⟨"InterlockingFrame$Locking", "allows", "(II)Z"⟩
abbrev M_Locking_allows : ja_M := (prog_4_method_7_code, 8, "InterlockingFrame$Locking", "allows", (Option.some FieldType.boolean), 0, 0)
def y_Locking_copyFrom : MethodName := ⟨"InterlockingFrame$Locking", "copyFrom", "(LInterlockingFrame$Locking;)V"⟩
abbrev M_Locking_copyFrom : ja_M := (prog_4_method_2_code, 2, "InterlockingFrame$Locking", "copyFrom", (Option.none : Option FieldType), 1, 26)
def y_Locking_enforce : MethodName := ⟨"InterlockingFrame$Locking", "enforce", "(I)V"⟩
abbrev M_Locking_enforce : ja_M := (prog_4_method_4_code, 4, "InterlockingFrame$Locking", "enforce", (Option.none : Option FieldType), 2, 52)
def y_Locking_enforceAll : MethodName := ⟨"InterlockingFrame$Locking", "enforceAll", "(LInterlockingFrame$Sheet;I)V"⟩
abbrev M_Locking_enforceAll : ja_M := (prog_4_method_3_code, 4, "InterlockingFrame$Locking", "enforceAll", (Option.none : Option FieldType), 3, 75)
def y_Locking_init : MethodName := ⟨"InterlockingFrame$Locking", "<init>", "()V"⟩
abbrev M_Locking_init : ja_M := (prog_4_method_1_code, 1, "InterlockingFrame$Locking", "<init>", (Option.none : Option FieldType), 1, 20)
def y_Locking_statesInWord : MethodName := ⟨"InterlockingFrame$Locking", "statesInWord", "(II)J"⟩
abbrev M_Locking_statesInWord : ja_M := (prog_4_method_6_code, 5, "InterlockingFrame$Locking", "statesInWord", (Option.some FieldType.long), 0, 0)
def y_Merger_attempt : MethodName := ⟨"InterlockingFrame$Merge\x72", "attempt", "(LInterlockingFrame$Search;II)V"⟩
abbrev M_Merger_attempt : ja_M := (prog_5_method_3_code, 4, "InterlockingFrame$Merge\x72", "attempt", (Option.none : Option FieldType), 4, 98)
def y_Merger_begin : MethodName := ⟨"InterlockingFrame$Merge\x72", "begin", "(LInterlockingFrame$Sheet;LInterlockingFrame$Search;)V"⟩
abbrev M_Merger_begin : ja_M := (prog_5_method_2_code, 3, "InterlockingFrame$Merge\x72", "begin", (Option.none : Option FieldType), 3, 66)
def y_Merger_init : MethodName := ⟨"InterlockingFrame$Merge\x72", "<init>", "()V"⟩
abbrev M_Merger_init : ja_M := (prog_5_method_1_code, 1, "InterlockingFrame$Merge\x72", "<init>", (Option.none : Option FieldType), 2, 40)
def y_Merger_keepsRoutesAndConflicts : MethodName := ⟨"InterlockingFrame$Merge\x72", "keepsRoutesAndConflicts", "(LInterlockingFrame$Search;)Z"⟩
abbrev M_Merger_keepsRoutesAndConflicts : ja_M := (prog_5_method_4_code, 2, "InterlockingFrame$Merge\x72", "keepsRoutesAndConflicts", (Option.some FieldType.boolean), 3, 66)
def y_Merger_mergeFirstPair : MethodName := ⟨"InterlockingFrame$Merge\x72", "mergeFirstPai\x72", "(LInterlockingFrame$Search;)Z"⟩
abbrev M_Merger_mergeFirstPair : ja_M := (prog_5_method_5_code, 4, "InterlockingFrame$Merge\x72", "mergeFirstPai\x72", (Option.some FieldType.boolean), 5, 121)
def y_Model_addRule : MethodName := ⟨"InterlockingFrameModel", "addRule", "(IIII)I"⟩
abbrev M_Model_addRule : ja_M := (prog_11_method_50_code, 7, "InterlockingFrameModel", "addRule", (Option.some FieldType.int), 3, 66)
def y_Model_appendBytes : MethodName := ⟨"InterlockingFrameModel", "appendBytes", "(IIIII)I"⟩
abbrev M_Model_appendBytes : ja_M := (prog_11_method_5_code, 8, "InterlockingFrameModel", "appendBytes", (Option.some FieldType.int), 0, 0)
def y_Model_areReachable : MethodName := ⟨"InterlockingFrameModel", "areReachable", "(II)Z"⟩
abbrev M_Model_areReachable : ja_M := (prog_11_method_58_code, 3, "InterlockingFrameModel", "areReachable", (Option.some FieldType.boolean), 8, 180)
def y_Model_bits : MethodName := ⟨"InterlockingFrameModel", "bits", "(I)I"⟩
abbrev M_Model_bits : ja_M := (prog_11_method_76_code, 3, "InterlockingFrameModel", "bits", (Option.some FieldType.int), 0, 0)
def y_Model_blockOf : MethodName := ⟨"InterlockingFrameModel", "blockOf", "(II)I"⟩
abbrev M_Model_blockOf : ja_M := (prog_11_method_41_code, 4, "InterlockingFrameModel", "blockOf", (Option.some FieldType.int), 4, 91)
def y_Model_blockingRule : MethodName := ⟨"InterlockingFrameModel", "blockingRule", "(II)I"⟩
abbrev M_Model_blockingRule : ja_M := (prog_11_method_55_code, 3, "InterlockingFrameModel", "blockingRule", (Option.some FieldType.int), 5, 114)
def y_Model_blocks : MethodName := ⟨"InterlockingFrameModel", "blocks", "(III)Z"⟩
abbrev M_Model_blocks : ja_M := (prog_11_method_40_code, 6, "InterlockingFrameModel", "blocks", (Option.some FieldType.boolean), 3, 66)
def y_Model_bufferLength : MethodName := ⟨"InterlockingFrameModel", "bufferLength", "()I"⟩
abbrev M_Model_bufferLength : ja_M := (prog_11_method_24_code, 1, "InterlockingFrameModel", "bufferLength", (Option.some FieldType.int), 0, 0)
def y_Model_clears : MethodName := ⟨"InterlockingFrameModel", "clears", "()V"⟩
abbrev M_Model_clears : ja_M := (prog_11_method_43_code, 2, "InterlockingFrameModel", "clears", (Option.none : Option FieldType), 0, 0)
def y_Model_completes : MethodName := ⟨"InterlockingFrameModel", "completes", "()Z"⟩
abbrev M_Model_completes : ja_M := (prog_11_method_73_code, 2, "InterlockingFrameModel", "completes", (Option.some FieldType.boolean), 9, 205)
def y_Model_completionLock : MethodName := ⟨"InterlockingFrameModel", "completionLock", "(I)I"⟩
abbrev M_Model_completionLock : ja_M := (prog_11_method_75_code, 2, "InterlockingFrameModel", "completionLock", (Option.some FieldType.int), 10, 226)
def y_Model_completionSize : MethodName := ⟨"InterlockingFrameModel", "completionSize", "()I"⟩
abbrev M_Model_completionSize : ja_M := (prog_11_method_74_code, 1, "InterlockingFrameModel", "completionSize", (Option.some FieldType.int), 10, 226)
def y_Model_conflictCount : MethodName := ⟨"InterlockingFrameModel", "conflictCount", "()I"⟩
abbrev M_Model_conflictCount : ja_M := (prog_11_method_36_code, 1, "InterlockingFrameModel", "conflictCount", (Option.some FieldType.int), 0, 0)
def y_Model_conflictLine : MethodName := ⟨"InterlockingFrameModel", "conflictLine", "()V"⟩
abbrev M_Model_conflictLine : ja_M := (prog_11_method_18_code, 3, "InterlockingFrameModel", "conflictLine", (Option.none : Option FieldType), 3, 68)
def y_Model_copies : MethodName := ⟨"InterlockingFrameModel", "copies", "(Z)V"⟩
abbrev M_Model_copies : ja_M := (prog_11_method_96_code, 3, "InterlockingFrameModel", "copies", (Option.none : Option FieldType), 0, 0)
def y_Model_currentState : MethodName := ⟨"InterlockingFrameModel", "currentState", "()I"⟩
abbrev M_Model_currentState : ja_M := (prog_11_method_48_code, 1, "InterlockingFrameModel", "currentState", (Option.some FieldType.int), 0, 0)
def y_Model_distance : MethodName := ⟨"InterlockingFrameModel", "distance", "(II)I"⟩
abbrev M_Model_distance : ja_M := (prog_11_method_59_code, 3, "InterlockingFrameModel", "distance", (Option.some FieldType.int), 9, 202)
def y_Model_excludedLevers : MethodName := ⟨"InterlockingFrameModel", "excludedLevers", "(I)I"⟩
abbrev M_Model_excludedLevers : ja_M := (prog_11_method_61_code, 4, "InterlockingFrameModel", "excludedLevers", (Option.some FieldType.int), 8, 180)
def y_Model_fails : MethodName := ⟨"InterlockingFrameModel", "fails", "(II)V"⟩
abbrev M_Model_fails : ja_M := (prog_11_method_7_code, 3, "InterlockingFrameModel", "fails", (Option.none : Option FieldType), 0, 0)
def y_Model_farthestState : MethodName := ⟨"InterlockingFrameModel", "farthestState", "()I"⟩
abbrev M_Model_farthestState : ja_M := (prog_11_method_78_code, 3, "InterlockingFrameModel", "farthestState", (Option.some FieldType.int), 8, 180)
def y_Model_forbids : MethodName := ⟨"InterlockingFrameModel", "forbids", "(II)Z"⟩
abbrev M_Model_forbids : ja_M := (prog_11_method_39_code, 3, "InterlockingFrameModel", "forbids", (Option.some FieldType.boolean), 2, 44)
def y_Model_freeLevers : MethodName := ⟨"InterlockingFrameModel", "freeLevers", "(I)I"⟩
abbrev M_Model_freeLevers : ja_M := (prog_11_method_56_code, 4, "InterlockingFrameModel", "freeLevers", (Option.some FieldType.int), 6, 136)
def y_Model_has : MethodName := ⟨"InterlockingFrameModel", "has", "(II)Z"⟩
abbrev M_Model_has : ja_M := (prog_11_method_3_code, 2, "InterlockingFrameModel", "has", (Option.some FieldType.boolean), 0, 0)
def y_Model_higher : MethodName := ⟨"InterlockingFrameModel", "highe\x72", "(II)I"⟩
abbrev M_Model_higher : ja_M := (prog_11_method_93_code, 3, "InterlockingFrameModel", "highe\x72", (Option.some FieldType.int), 0, 0)
def y_Model_init : MethodName := ⟨"InterlockingFrameModel", "<init>", "()V"⟩
abbrev M_Model_init : ja_M := (prog_11_method_4_code, 1, "InterlockingFrameModel", "<init>", (Option.none : Option FieldType), 1, 21)
def y_Model_isActive : MethodName := ⟨"InterlockingFrameModel", "isActive", "(II)Z"⟩
abbrev M_Model_isActive : ja_M := (prog_11_method_38_code, 4, "InterlockingFrameModel", "isActive", (Option.some FieldType.boolean), 1, 21)
def y_Model_isDeclared : MethodName := ⟨"InterlockingFrameModel", "isDeclared", "(II)Z"⟩
abbrev M_Model_isDeclared : ja_M := (prog_11_method_17_code, 5, "InterlockingFrameModel", "isDeclared", (Option.some FieldType.boolean), 0, 0)
def y_Model_isDigitHere : MethodName := ⟨"InterlockingFrameModel", "isDigitHere", "()Z"⟩
abbrev M_Model_isDigitHere : ja_M := (prog_11_method_11_code, 1, "InterlockingFrameModel", "isDigitHere", (Option.some FieldType.boolean), 1, 25)
def y_Model_isDue : MethodName := ⟨"InterlockingFrameModel", "isDue", "()Z"⟩
abbrev M_Model_isDue : ja_M := (prog_11_method_91_code, 1, "InterlockingFrameModel", "isDue", (Option.some FieldType.boolean), 8, 180)
def y_Model_isFree : MethodName := ⟨"InterlockingFrameModel", "isFree", "(II)Z"⟩
abbrev M_Model_isFree : ja_M := (prog_11_method_42_code, 3, "InterlockingFrameModel", "isFree", (Option.some FieldType.boolean), 5, 114)
def y_Model_isImplied : MethodName := ⟨"InterlockingFrameModel", "isImplied", "(I)I"⟩
abbrev M_Model_isImplied : ja_M := (prog_11_method_82_code, 2, "InterlockingFrameModel", "isImplied", (Option.some FieldType.int), 9, 202)
def y_Model_isImpliedBy : MethodName := ⟨"InterlockingFrameModel", "isImpliedBy", "(I)Z"⟩
abbrev M_Model_isImpliedBy : ja_M := (prog_11_method_81_code, 3, "InterlockingFrameModel", "isImpliedBy", (Option.some FieldType.boolean), 8, 180)
def y_Model_isIn : MethodName := ⟨"InterlockingFrameModel", "isIn", "(JJJ)Z"⟩
abbrev M_Model_isIn : ja_M := (prog_11_method_2_code, 6, "InterlockingFrameModel", "isIn", (Option.some FieldType.boolean), 0, 0)
def y_Model_isLegal : MethodName := ⟨"InterlockingFrameModel", "isLegal", "(I)I"⟩
abbrev M_Model_isLegal : ja_M := (prog_11_method_54_code, 3, "InterlockingFrameModel", "isLegal", (Option.some FieldType.int), 3, 66)
def y_Model_isLever : MethodName := ⟨"InterlockingFrameModel", "isLeve\x72", "(I)Z"⟩
abbrev M_Model_isLever : ja_M := (prog_11_method_25_code, 2, "InterlockingFrameModel", "isLeve\x72", (Option.some FieldType.boolean), 1, 25)
def y_Model_isMergeable : MethodName := ⟨"InterlockingFrameModel", "isMergeable", "(II)I"⟩
abbrev M_Model_isMergeable : ja_M := (prog_11_method_94_code, 3, "InterlockingFrameModel", "isMergeable", (Option.some FieldType.int), 9, 200)
def y_Model_isRoute : MethodName := ⟨"InterlockingFrameModel", "isRoute", "(I)Z"⟩
abbrev M_Model_isRoute : ja_M := (prog_11_method_27_code, 2, "InterlockingFrameModel", "isRoute", (Option.some FieldType.boolean), 1, 25)
def y_Model_isRule : MethodName := ⟨"InterlockingFrameModel", "isRule", "(I)Z"⟩
abbrev M_Model_isRule : ja_M := (prog_11_method_26_code, 2, "InterlockingFrameModel", "isRule", (Option.some FieldType.boolean), 1, 25)
def y_Model_isState : MethodName := ⟨"InterlockingFrameModel", "isState", "(I)Z"⟩
abbrev M_Model_isState : ja_M := (prog_11_method_28_code, 2, "InterlockingFrameModel", "isState", (Option.some FieldType.boolean), 1, 25)
def y_Model_isTold : MethodName := ⟨"InterlockingFrameModel", "isTold", "(III)Z"⟩
abbrev M_Model_isTold : ja_M := (prog_11_method_79_code, 5, "InterlockingFrameModel", "isTold", (Option.some FieldType.boolean), 4, 91)
def y_Model_joint : MethodName := ⟨"InterlockingFrameModel", "joint", "(II)I"⟩
abbrev M_Model_joint : ja_M := (prog_11_method_66_code, 5, "InterlockingFrameModel", "joint", (Option.some FieldType.int), 1, 22)
def y_Model_jointStates : MethodName := ⟨"InterlockingFrameModel", "jointStates", "(II)I"⟩
abbrev M_Model_jointStates : ja_M := (prog_11_method_67_code, 3, "InterlockingFrameModel", "jointStates", (Option.some FieldType.int), 8, 180)
def y_Model_largestRouteSet : MethodName := ⟨"InterlockingFrameModel", "largestRouteSet", "()I"⟩
abbrev M_Model_largestRouteSet : ja_M := (prog_11_method_77_code, 5, "InterlockingFrameModel", "largestRouteSet", (Option.some FieldType.int), 8, 180)
def y_Model_laysDue : MethodName := ⟨"InterlockingFrameModel", "laysDue", "()V"⟩
abbrev M_Model_laysDue : ja_M := (prog_11_method_90_code, 1, "InterlockingFrameModel", "laysDue", (Option.none : Option FieldType), 8, 180)
def y_Model_laysFrom : MethodName := ⟨"InterlockingFrameModel", "laysFrom", "(I)V"⟩
abbrev M_Model_laysFrom : ja_M := (prog_11_method_46_code, 2, "InterlockingFrameModel", "laysFrom", (Option.none : Option FieldType), 7, 159)
def y_Model_laysTest : MethodName := ⟨"InterlockingFrameModel", "laysTest", "(I)V"⟩
abbrev M_Model_laysTest : ja_M := (prog_11_method_84_code, 4, "InterlockingFrameModel", "laysTest", (Option.none : Option FieldType), 8, 180)
def y_Model_lettersHere : MethodName := ⟨"InterlockingFrameModel", "lettersHere", "()I"⟩
abbrev M_Model_lettersHere : ja_M := (prog_11_method_8_code, 2, "InterlockingFrameModel", "lettersHere", (Option.some FieldType.int), 1, 25)
def y_Model_lever : MethodName := ⟨"InterlockingFrameModel", "leve\x72", "()I"⟩
abbrev M_Model_lever : ja_M := (prog_11_method_14_code, 1, "InterlockingFrameModel", "leve\x72", (Option.some FieldType.int), 3, 68)
def y_Model_leverCount : MethodName := ⟨"InterlockingFrameModel", "leverCount", "()I"⟩
abbrev M_Model_leverCount : ja_M := (prog_11_method_29_code, 1, "InterlockingFrameModel", "leverCount", (Option.some FieldType.int), 0, 0)
def y_Model_leversAfterMerging : MethodName := ⟨"InterlockingFrameModel", "leversAfterMerging", "()I"⟩
abbrev M_Model_leversAfterMerging : ja_M := (prog_11_method_98_code, 2, "InterlockingFrameModel", "leversAfterMerging", (Option.some FieldType.int), 10, 222)
def y_Model_line : MethodName := ⟨"InterlockingFrameModel", "line", "()V"⟩
abbrev M_Model_line : ja_M := (prog_11_method_19_code, 2, "InterlockingFrameModel", "line", (Option.none : Option FieldType), 7, 159)
def y_Model_lockFor : MethodName := ⟨"InterlockingFrameModel", "lockFo\x72", "(I)I"⟩
abbrev M_Model_lockFor : ja_M := (prog_11_method_72_code, 6, "InterlockingFrameModel", "lockFo\x72", (Option.some FieldType.int), 8, 180)
def y_Model_lower : MethodName := ⟨"InterlockingFrameModel", "lowe\x72", "(II)I"⟩
abbrev M_Model_lower : ja_M := (prog_11_method_92_code, 3, "InterlockingFrameModel", "lowe\x72", (Option.some FieldType.int), 0, 0)
def y_Model_mergedLever : MethodName := ⟨"InterlockingFrameModel", "mergedLeve\x72", "(III)I"⟩
abbrev M_Model_mergedLever : ja_M := (prog_11_method_88_code, 3, "InterlockingFrameModel", "mergedLeve\x72", (Option.some FieldType.int), 0, 0)
def y_Model_mergedReachableCount : MethodName := ⟨"InterlockingFrameModel", "mergedReachableCount", "(II)I"⟩
abbrev M_Model_mergedReachableCount : ja_M := (prog_11_method_95_code, 3, "InterlockingFrameModel", "mergedReachableCount", (Option.some FieldType.int), 8, 180)
def y_Model_merges : MethodName := ⟨"InterlockingFrameModel", "merges", "(II)V"⟩
abbrev M_Model_merges : ja_M := (prog_11_method_89_code, 5, "InterlockingFrameModel", "merges", (Option.none : Option FieldType), 1, 22)
def y_Model_mergesOne : MethodName := ⟨"InterlockingFrameModel", "mergesOne", "()Z"⟩
abbrev M_Model_mergesOne : ja_M := (prog_11_method_97_code, 3, "InterlockingFrameModel", "mergesOne", (Option.some FieldType.boolean), 9, 200)
def y_Model_moveLever : MethodName := ⟨"InterlockingFrameModel", "moveLeve\x72", "(I)I"⟩
abbrev M_Model_moveLever : ja_M := (prog_11_method_49_code, 2, "InterlockingFrameModel", "moveLeve\x72", (Option.some FieldType.int), 6, 136)
def y_Model_nearer : MethodName := ⟨"InterlockingFrameModel", "neare\x72", "(I)I"⟩
abbrev M_Model_nearer : ja_M := (prog_11_method_87_code, 3, "InterlockingFrameModel", "neare\x72", (Option.some FieldType.int), 6, 136)
def y_Model_nextMove : MethodName := ⟨"InterlockingFrameModel", "nextMove", "(II)I"⟩
abbrev M_Model_nextMove : ja_M := (prog_11_method_60_code, 4, "InterlockingFrameModel", "nextMove", (Option.some FieldType.int), 9, 202)
def y_Model_number : MethodName := ⟨"InterlockingFrameModel", "numbe\x72", "(II)I"⟩
abbrev M_Model_number : ja_M := (prog_11_method_12_code, 4, "InterlockingFrameModel", "numbe\x72", (Option.some FieldType.int), 2, 45)
def y_Model_parseError : MethodName := ⟨"InterlockingFrameModel", "parseErro\x72", "()I"⟩
abbrev M_Model_parseError : ja_M := (prog_11_method_22_code, 1, "InterlockingFrameModel", "parseErro\x72", (Option.some FieldType.int), 0, 0)
def y_Model_parseErrorOffset : MethodName := ⟨"InterlockingFrameModel", "parseErrorOffset", "()I"⟩
abbrev M_Model_parseErrorOffset : ja_M := (prog_11_method_23_code, 1, "InterlockingFrameModel", "parseErrorOffset", (Option.some FieldType.int), 0, 0)
def y_Model_parseSheet : MethodName := ⟨"InterlockingFrameModel", "parseSheet", "(I)I"⟩
abbrev M_Model_parseSheet : ja_M := (prog_11_method_21_code, 4, "InterlockingFrameModel", "parseSheet", (Option.some FieldType.int), 9, 202)
def y_Model_parses : MethodName := ⟨"InterlockingFrameModel", "parses", "()I"⟩
abbrev M_Model_parses : ja_M := (prog_11_method_20_code, 3, "InterlockingFrameModel", "parses", (Option.some FieldType.int), 8, 180)
def y_Model_passes : MethodName := ⟨"InterlockingFrameModel", "passes", "(II)I"⟩
abbrev M_Model_passes : ja_M := (prog_11_method_10_code, 4, "InterlockingFrameModel", "passes", (Option.some FieldType.int), 5, 111)
def y_Model_peek : MethodName := ⟨"InterlockingFrameModel", "peek", "()I"⟩
abbrev M_Model_peek : ja_M := (prog_11_method_6_code, 1, "InterlockingFrameModel", "peek", (Option.some FieldType.int), 0, 0)
def y_Model_proposedLock : MethodName := ⟨"InterlockingFrameModel", "proposedLock", "(I)I"⟩
abbrev M_Model_proposedLock : ja_M := (prog_11_method_71_code, 2, "InterlockingFrameModel", "proposedLock", (Option.some FieldType.int), 9, 205)
def y_Model_puts : MethodName := ⟨"InterlockingFrameModel", "puts", "(IIIII)V"⟩
abbrev M_Model_puts : ja_M := (prog_11_method_51_code, 6, "InterlockingFrameModel", "puts", (Option.none : Option FieldType), 0, 0)
def y_Model_reachableCount : MethodName := ⟨"InterlockingFrameModel", "reachableCount", "()I"⟩
abbrev M_Model_reachableCount : ja_M := (prog_11_method_57_code, 1, "InterlockingFrameModel", "reachableCount", (Option.some FieldType.int), 8, 180)
def y_Model_reaches : MethodName := ⟨"InterlockingFrameModel", "reaches", "(II)V"⟩
abbrev M_Model_reaches : ja_M := (prog_11_method_44_code, 3, "InterlockingFrameModel", "reaches", (Option.none : Option FieldType), 0, 0)
def y_Model_reducedSheet : MethodName := ⟨"InterlockingFrameModel", "reducedSheet", "()I"⟩
abbrev M_Model_reducedSheet : ja_M := (prog_11_method_83_code, 2, "InterlockingFrameModel", "reducedSheet", (Option.some FieldType.int), 9, 202)
def y_Model_remembers : MethodName := ⟨"InterlockingFrameModel", "remembers", "()V"⟩
abbrev M_Model_remembers : ja_M := (prog_11_method_47_code, 2, "InterlockingFrameModel", "remembers", (Option.none : Option FieldType), 0, 0)
def y_Model_removeRule : MethodName := ⟨"InterlockingFrameModel", "removeRule", "(I)I"⟩
abbrev M_Model_removeRule : ja_M := (prog_11_method_52_code, 3, "InterlockingFrameModel", "removeRule", (Option.some FieldType.int), 2, 46)
def y_Model_routeCount : MethodName := ⟨"InterlockingFrameModel", "routeCount", "()I"⟩
abbrev M_Model_routeCount : ja_M := (prog_11_method_34_code, 1, "InterlockingFrameModel", "routeCount", (Option.some FieldType.int), 0, 0)
def y_Model_routeLevers : MethodName := ⟨"InterlockingFrameModel", "routeLevers", "(I)I"⟩
abbrev M_Model_routeLevers : ja_M := (prog_11_method_35_code, 2, "InterlockingFrameModel", "routeLevers", (Option.some FieldType.int), 2, 46)
def y_Model_routeLine : MethodName := ⟨"InterlockingFrameModel", "routeLine", "()V"⟩
abbrev M_Model_routeLine : ja_M := (prog_11_method_16_code, 3, "InterlockingFrameModel", "routeLine", (Option.none : Option FieldType), 4, 88)
def y_Model_ruleCondition : MethodName := ⟨"InterlockingFrameModel", "ruleCondition", "(I)I"⟩
abbrev M_Model_ruleCondition : ja_M := (prog_11_method_33_code, 2, "InterlockingFrameModel", "ruleCondition", (Option.some FieldType.int), 2, 46)
def y_Model_ruleCount : MethodName := ⟨"InterlockingFrameModel", "ruleCount", "()I"⟩
abbrev M_Model_ruleCount : ja_M := (prog_11_method_30_code, 1, "InterlockingFrameModel", "ruleCount", (Option.some FieldType.int), 0, 0)
def y_Model_ruleKind : MethodName := ⟨"InterlockingFrameModel", "ruleKind", "(I)I"⟩
abbrev M_Model_ruleKind : ja_M := (prog_11_method_31_code, 2, "InterlockingFrameModel", "ruleKind", (Option.some FieldType.int), 2, 46)
def y_Model_ruleLevers : MethodName := ⟨"InterlockingFrameModel", "ruleLevers", "(I)I"⟩
abbrev M_Model_ruleLevers : ja_M := (prog_11_method_32_code, 2, "InterlockingFrameModel", "ruleLevers", (Option.some FieldType.int), 2, 46)
def y_Model_ruleLine : MethodName := ⟨"InterlockingFrameModel", "ruleLine", "()V"⟩
abbrev M_Model_ruleLine : ja_M := (prog_11_method_15_code, 6, "InterlockingFrameModel", "ruleLine", (Option.none : Option FieldType), 6, 134)
def y_Model_semicolon : MethodName := ⟨"InterlockingFrameModel", "semicolon", "()V"⟩
abbrev M_Model_semicolon : ja_M := (prog_11_method_13_code, 1, "InterlockingFrameModel", "semicolon", (Option.none : Option FieldType), 1, 22)
def y_Model_sets : MethodName := ⟨"InterlockingFrameModel", "sets", "(II)Z"⟩
abbrev M_Model_sets : ja_M := (prog_11_method_62_code, 3, "InterlockingFrameModel", "sets", (Option.some FieldType.boolean), 0, 0)
def y_Model_settable : MethodName := ⟨"InterlockingFrameModel", "settable", "()I"⟩
abbrev M_Model_settable : ja_M := (prog_11_method_69_code, 3, "InterlockingFrameModel", "settable", (Option.some FieldType.int), 2, 46)
def y_Model_settingMoves : MethodName := ⟨"InterlockingFrameModel", "settingMoves", "(I)I"⟩
abbrev M_Model_settingMoves : ja_M := (prog_11_method_65_code, 3, "InterlockingFrameModel", "settingMoves", (Option.some FieldType.int), 8, 180)
def y_Model_settingOf : MethodName := ⟨"InterlockingFrameModel", "settingOf", "(I)I"⟩
abbrev M_Model_settingOf : ja_M := (prog_11_method_63_code, 4, "InterlockingFrameModel", "settingOf", (Option.some FieldType.int), 1, 22)
def y_Model_settingState : MethodName := ⟨"InterlockingFrameModel", "settingState", "(I)I"⟩
abbrev M_Model_settingState : ja_M := (prog_11_method_64_code, 2, "InterlockingFrameModel", "settingState", (Option.some FieldType.int), 8, 180)
def y_Model_spreads : MethodName := ⟨"InterlockingFrameModel", "spreads", "()V"⟩
abbrev M_Model_spreads : ja_M := (prog_11_method_45_code, 4, "InterlockingFrameModel", "spreads", (Option.none : Option FieldType), 6, 136)
def y_Model_tellingLever : MethodName := ⟨"InterlockingFrameModel", "tellingLeve\x72", "(II)I"⟩
abbrev M_Model_tellingLever : ja_M := (prog_11_method_80_code, 4, "InterlockingFrameModel", "tellingLeve\x72", (Option.some FieldType.int), 5, 115)
def y_Model_testLength : MethodName := ⟨"InterlockingFrameModel", "testLength", "(I)I"⟩
abbrev M_Model_testLength : ja_M := (prog_11_method_85_code, 2, "InterlockingFrameModel", "testLength", (Option.some FieldType.int), 9, 203)
def y_Model_testMove : MethodName := ⟨"InterlockingFrameModel", "testMove", "(II)I"⟩
abbrev M_Model_testMove : ja_M := (prog_11_method_86_code, 5, "InterlockingFrameModel", "testMove", (Option.some FieldType.int), 9, 203)
def y_Model_undo : MethodName := ⟨"InterlockingFrameModel", "undo", "()I"⟩
abbrev M_Model_undo : ja_M := (prog_11_method_53_code, 2, "InterlockingFrameModel", "undo", (Option.some FieldType.int), 0, 0)
def y_Model_unprotected : MethodName := ⟨"InterlockingFrameModel", "unprotected", "()I"⟩
abbrev M_Model_unprotected : ja_M := (prog_11_method_68_code, 3, "InterlockingFrameModel", "unprotected", (Option.some FieldType.int), 2, 46)
def y_Model_unprotectedConflicts : MethodName := ⟨"InterlockingFrameModel", "unprotectedConflicts", "()I"⟩
abbrev M_Model_unprotectedConflicts : ja_M := (prog_11_method_70_code, 1, "InterlockingFrameModel", "unprotectedConflicts", (Option.some FieldType.int), 8, 180)
def y_Model_usesSheet : MethodName := ⟨"InterlockingFrameModel", "usesSheet", "()V"⟩
abbrev M_Model_usesSheet : ja_M := (prog_11_method_37_code, 2, "InterlockingFrameModel", "usesSheet", (Option.none : Option FieldType), 0, 0)
def y_Model_wordHere : MethodName := ⟨"InterlockingFrameModel", "wordHere", "()I"⟩
abbrev M_Model_wordHere : ja_M := (prog_11_method_9_code, 7, "InterlockingFrameModel", "wordHere", (Option.some FieldType.int), 4, 85)
def y_Precond_checkIndex : MethodName := ⟨"jdk/internal/util/Preconditions", "checkIndex", "(IILjava/util/function/BiFunction;)I"⟩
abbrev M_Precond_checkIndex : ja_M := (prog_19_method_11_code, 3, "jdk/internal/util/Preconditions", "checkIndex", (Option.some FieldType.int), 0, 0)
def y_Rule_bites : MethodName := ⟨"InterlockingFrame$Rule", "bites", "(II)Z"⟩
abbrev M_Rule_bites : ja_M := (prog_6_method_9_code, 3, "InterlockingFrame$Rule", "bites", (Option.some FieldType.boolean), 2, 41)
def y_Rule_blocks : MethodName := ⟨"InterlockingFrame$Rule", "blocks", "(III)Z"⟩
abbrev M_Rule_blocks : ja_M := (prog_6_method_11_code, 3, "InterlockingFrame$Rule", "blocks", (Option.some FieldType.boolean), 3, 63)
def y_Rule_condition : MethodName := ⟨"InterlockingFrame$Rule", "condition", "(I)I"⟩
abbrev M_Rule_condition : ja_M := (prog_6_method_6_code, 1, "InterlockingFrame$Rule", "condition", (Option.some FieldType.int), 0, 0)
def y_Rule_forbids : MethodName := ⟨"InterlockingFrame$Rule", "forbids", "(II)Z"⟩
abbrev M_Rule_forbids : ja_M := (prog_6_method_10_code, 2, "InterlockingFrame$Rule", "forbids", (Option.some FieldType.boolean), 3, 63)
def y_Rule_kind : MethodName := ⟨"InterlockingFrame$Rule", "kind", "(I)I"⟩
abbrev M_Rule_kind : ja_M := (prog_6_method_3_code, 1, "InterlockingFrame$Rule", "kind", (Option.some FieldType.int), 0, 0)
def y_Rule_leverA : MethodName := ⟨"InterlockingFrame$Rule", "leverA", "(I)I"⟩
abbrev M_Rule_leverA : ja_M := (prog_6_method_4_code, 1, "InterlockingFrame$Rule", "leverA", (Option.some FieldType.int), 0, 0)
def y_Rule_leverB : MethodName := ⟨"InterlockingFrame$Rule", "leverB", "(I)I"⟩
abbrev M_Rule_leverB : ja_M := (prog_6_method_5_code, 1, "InterlockingFrame$Rule", "leverB", (Option.some FieldType.int), 0, 0)
def y_Rule_normalLevers : MethodName := ⟨"InterlockingFrame$Rule", "normalLevers", "(I)I"⟩
abbrev M_Rule_normalLevers : ja_M := (prog_6_method_8_code, 2, "InterlockingFrame$Rule", "normalLevers", (Option.some FieldType.int), 1, 20)
def y_Rule_pack : MethodName := ⟨"InterlockingFrame$Rule", "pack", "(IIII)I"⟩
abbrev M_Rule_pack : ja_M := (prog_6_method_2_code, 4, "InterlockingFrame$Rule", "pack", (Option.some FieldType.int), 0, 0)
def y_Rule_reversedLevers : MethodName := ⟨"InterlockingFrame$Rule", "reversedLevers", "(I)I"⟩
abbrev M_Rule_reversedLevers : ja_M := (prog_6_method_7_code, 2, "InterlockingFrame$Rule", "reversedLevers", (Option.some FieldType.int), 1, 20)
def y_Rule_withLeverReplaced : MethodName := ⟨"InterlockingFrame$Rule", "withLeverReplaced", "(III)I"⟩
abbrev M_Rule_withLeverReplaced : ja_M := (prog_6_method_12_code, 6, "InterlockingFrame$Rule", "withLeverReplaced", (Option.some FieldType.int), 1, 23)
def y_Search_countSetting : MethodName := ⟨"InterlockingFrame$Search", "countSetting", "(I)I"⟩
abbrev M_Search_countSetting : ja_M := (prog_7_method_10_code, 4, "InterlockingFrame$Search", "countSetting", (Option.some FieldType.int), 0, 0)
def y_Search_enter : MethodName := ⟨"InterlockingFrame$Search", "ente\x72", "(II)V"⟩
abbrev M_Search_enter : ja_M := (prog_7_method_4_code, 3, "InterlockingFrame$Search", "ente\x72", (Option.none : Option FieldType), 0, 0)
def y_Search_explore : MethodName := ⟨"InterlockingFrame$Search", "explore", "(II)V"⟩
abbrev M_Search_explore : ja_M := (prog_7_method_2_code, 7, "InterlockingFrame$Search", "explore", (Option.none : Option FieldType), 2, 42)
def y_Search_farthest : MethodName := ⟨"InterlockingFrame$Search", "farthest", "()I"⟩
abbrev M_Search_farthest : ja_M := (prog_7_method_12_code, 5, "InterlockingFrame$Search", "farthest", (Option.some FieldType.int), 2, 42)
def y_Search_firstPlaceFreed : MethodName := ⟨"InterlockingFrame$Search", "firstPlaceFreed", "(LInterlockingFrame$Locking;)I"⟩
abbrev M_Search_firstPlaceFreed : ja_M := (prog_7_method_14_code, 3, "InterlockingFrame$Search", "firstPlaceFreed", (Option.some FieldType.int), 2, 50)
def y_Search_forget : MethodName := ⟨"InterlockingFrame$Search", "forget", "()V"⟩
abbrev M_Search_forget : ja_M := (prog_7_method_3_code, 2, "InterlockingFrame$Search", "forget", (Option.none : Option FieldType), 0, 0)
def y_Search_init : MethodName := ⟨"InterlockingFrame$Search", "<init>", "()V"⟩
abbrev M_Search_init : ja_M := (prog_7_method_1_code, 1, "InterlockingFrame$Search", "<init>", (Option.none : Option FieldType), 2, 40)
def y_Search_leverFreed : MethodName := ⟨"InterlockingFrame$Search", "leverFreed", "(LInterlockingFrame$Locking;I)I"⟩
abbrev M_Search_leverFreed : ja_M := (prog_7_method_15_code, 4, "InterlockingFrame$Search", "leverFreed", (Option.some FieldType.int), 1, 27)
def y_Search_leverOnWay : MethodName := ⟨"InterlockingFrame$Search", "leverOnWay", "(II)I"⟩
abbrev M_Search_leverOnWay : ja_M := (prog_7_method_8_code, 5, "InterlockingFrame$Search", "leverOnWay", (Option.some FieldType.int), 2, 42)
def y_Search_leversSeenWith : MethodName := ⟨"InterlockingFrame$Search", "leversSeenWith", "(I)I"⟩
abbrev M_Search_leversSeenWith : ja_M := (prog_7_method_13_code, 4, "InterlockingFrame$Search", "leversSeenWith", (Option.some FieldType.int), 0, 0)
def y_Search_movesTo : MethodName := ⟨"InterlockingFrame$Search", "movesTo", "(I)I"⟩
abbrev M_Search_movesTo : ja_M := (prog_7_method_7_code, 2, "InterlockingFrame$Search", "movesTo", (Option.some FieldType.int), 1, 21)
def y_Search_nearestSetting : MethodName := ⟨"InterlockingFrame$Search", "nearestSetting", "(I)I"⟩
abbrev M_Search_nearestSetting : ja_M := (prog_7_method_11_code, 6, "InterlockingFrame$Search", "nearestSetting", (Option.some FieldType.int), 2, 42)
def y_Search_reached : MethodName := ⟨"InterlockingFrame$Search", "reached", "(I)Z"⟩
abbrev M_Search_reached : ja_M := (prog_7_method_5_code, 2, "InterlockingFrame$Search", "reached", (Option.some FieldType.boolean), 0, 0)
def y_Search_someStateSets : MethodName := ⟨"InterlockingFrame$Search", "someStateSets", "(I)Z"⟩
abbrev M_Search_someStateSets : ja_M := (prog_7_method_9_code, 3, "InterlockingFrame$Search", "someStateSets", (Option.some FieldType.boolean), 0, 0)
def y_Search_stateAt : MethodName := ⟨"InterlockingFrame$Search", "stateAt", "(I)I"⟩
abbrev M_Search_stateAt : ja_M := (prog_7_method_6_code, 2, "InterlockingFrame$Search", "stateAt", (Option.some FieldType.int), 0, 0)
def y_SheetParser_append : MethodName := ⟨"InterlockingFrame$SheetParse\x72", "append", "(I)V"⟩
abbrev M_SheetParser_append : ja_M := (prog_9_method_2_code, 3, "InterlockingFrame$SheetParse\x72", "append", (Option.none : Option FieldType), 0, 0)
def y_SheetParser_atText : MethodName := ⟨"InterlockingFrame$SheetParse\x72", "atText", "(Ljava/lang/String;)Z"⟩
abbrev M_SheetParser_atText : ja_M := (prog_9_method_14_code, 3, "InterlockingFrame$SheetParse\x72", "atText", (Option.some FieldType.boolean), 4, 85)
def y_SheetParser_byteAt : MethodName := ⟨"InterlockingFrame$SheetParse\x72", "byteAt", "(I)I"⟩
abbrev M_SheetParser_byteAt : ja_M := (prog_9_method_18_code, 2, "InterlockingFrame$SheetParse\x72", "byteAt", (Option.some FieldType.int), 0, 0)
def y_SheetParser_fail : MethodName := ⟨"InterlockingFrame$SheetParse\x72", "fail", "(I)Z"⟩
abbrev M_SheetParser_fail : ja_M := (prog_9_method_12_code, 2, "InterlockingFrame$SheetParse\x72", "fail", (Option.some FieldType.boolean), 0, 0)
def y_SheetParser_init : MethodName := ⟨"InterlockingFrame$SheetParse\x72", "<init>", "()V"⟩
abbrev M_SheetParser_init : ja_M := (prog_9_method_1_code, 1, "InterlockingFrame$SheetParse\x72", "<init>", (Option.none : Option FieldType), 1, 20)
def y_SheetParser_isDigit : MethodName := ⟨"InterlockingFrame$SheetParse\x72", "isDigit", "(I)Z"⟩
abbrev M_SheetParser_isDigit : ja_M := (prog_9_method_17_code, 1, "InterlockingFrame$SheetParse\x72", "isDigit", (Option.some FieldType.boolean), 0, 0)
def y_SheetParser_isLetter : MethodName := ⟨"InterlockingFrame$SheetParse\x72", "isLette\x72", "(I)Z"⟩
abbrev M_SheetParser_isLetter : ja_M := (prog_9_method_16_code, 1, "InterlockingFrame$SheetParse\x72", "isLette\x72", (Option.some FieldType.boolean), 0, 0)
def y_SheetParser_numberHere : MethodName := ⟨"InterlockingFrame$SheetParse\x72", "numberHere", "(II)I"⟩
abbrev M_SheetParser_numberHere : ja_M := (prog_9_method_13_code, 5, "InterlockingFrame$SheetParse\x72", "numberHere", (Option.some FieldType.int), 1, 21)
def y_SheetParser_read : MethodName := ⟨"InterlockingFrame$SheetParse\x72", "read", "(ILInterlockingFrame$Sheet;)Z"⟩
abbrev M_SheetParser_read : ja_M := (prog_9_method_3_code, 5, "InterlockingFrame$SheetParse\x72", "read", (Option.some FieldType.boolean), 8, 178)
def y_SheetParser_readCondition : MethodName := ⟨"InterlockingFrame$SheetParse\x72", "readCondition", "(LInterlockingFrame$Sheet;II)I"⟩
abbrev M_SheetParser_readCondition : ja_M := (prog_9_method_9_code, 6, "InterlockingFrame$SheetParse\x72", "readCondition", (Option.some FieldType.int), 5, 107)
def y_SheetParser_readConflict : MethodName := ⟨"InterlockingFrame$SheetParse\x72", "readConflict", "(LInterlockingFrame$Sheet;)Z"⟩
abbrev M_SheetParser_readConflict : ja_M := (prog_9_method_11_code, 4, "InterlockingFrame$SheetParse\x72", "readConflict", (Option.some FieldType.boolean), 2, 48)
def y_SheetParser_readHead : MethodName := ⟨"InterlockingFrame$SheetParse\x72", "readHead", "(LInterlockingFrame$Sheet;)Z"⟩
abbrev M_SheetParser_readHead : ja_M := (prog_9_method_4_code, 3, "InterlockingFrame$SheetParse\x72", "readHead", (Option.some FieldType.boolean), 6, 127)
def y_SheetParser_readRoute : MethodName := ⟨"InterlockingFrame$SheetParse\x72", "readRoute", "(LInterlockingFrame$Sheet;)Z"⟩
abbrev M_SheetParser_readRoute : ja_M := (prog_9_method_10_code, 5, "InterlockingFrame$SheetParse\x72", "readRoute", (Option.some FieldType.boolean), 2, 48)
def y_SheetParser_readRule : MethodName := ⟨"InterlockingFrame$SheetParse\x72", "readRule", "(LInterlockingFrame$Sheet;)Z"⟩
abbrev M_SheetParser_readRule : ja_M := (prog_9_method_7_code, 6, "InterlockingFrame$SheetParse\x72", "readRule", (Option.some FieldType.boolean), 6, 132)
def y_SheetParser_readSemicolon : MethodName := ⟨"InterlockingFrame$SheetParse\x72", "readSemicolon", "()Z"⟩
abbrev M_SheetParser_readSemicolon : ja_M := (prog_9_method_5_code, 1, "InterlockingFrame$SheetParse\x72", "readSemicolon", (Option.some FieldType.boolean), 5, 107)
def y_SheetParser_readStatement : MethodName := ⟨"InterlockingFrame$SheetParse\x72", "readStatement", "(LInterlockingFrame$Sheet;)Z"⟩
abbrev M_SheetParser_readStatement : ja_M := (prog_9_method_6_code, 2, "InterlockingFrame$SheetParse\x72", "readStatement", (Option.some FieldType.boolean), 7, 157)
def y_SheetParser_step : MethodName := ⟨"InterlockingFrame$SheetParse\x72", "step", "()V"⟩
abbrev M_SheetParser_step : ja_M := (prog_9_method_15_code, 3, "InterlockingFrame$SheetParse\x72", "step", (Option.none : Option FieldType), 1, 26)
def y_SheetParser_verbHere : MethodName := ⟨"InterlockingFrame$SheetParse\x72", "verbHere", "()I"⟩
abbrev M_SheetParser_verbHere : ja_M := (prog_9_method_8_code, 1, "InterlockingFrame$SheetParse\x72", "verbHere", (Option.some FieldType.int), 5, 107)
def y_Sheet_allLevers : MethodName := ⟨"InterlockingFrame$Sheet", "allLevers", "()I"⟩
abbrev M_Sheet_allLevers : ja_M := (prog_8_method_9_code, 1, "InterlockingFrame$Sheet", "allLevers", (Option.some FieldType.int), 0, 0)
def y_Sheet_allRules : MethodName := ⟨"InterlockingFrame$Sheet", "allRules", "()I"⟩
abbrev M_Sheet_allRules : ja_M := (prog_8_method_12_code, 1, "InterlockingFrame$Sheet", "allRules", (Option.some FieldType.int), 0, 0)
def y_Sheet_canMove : MethodName := ⟨"InterlockingFrame$Sheet", "canMove", "(I)Z"⟩
abbrev M_Sheet_canMove : ja_M := (prog_8_method_11_code, 2, "InterlockingFrame$Sheet", "canMove", (Option.some FieldType.boolean), 2, 40)
def y_Sheet_copyFrom : MethodName := ⟨"InterlockingFrame$Sheet", "copyFrom", "(LInterlockingFrame$Sheet;)V"⟩
abbrev M_Sheet_copyFrom : ja_M := (prog_8_method_3_code, 2, "InterlockingFrame$Sheet", "copyFrom", (Option.none : Option FieldType), 1, 26)
def y_Sheet_declaresConflict : MethodName := ⟨"InterlockingFrame$Sheet", "declaresConflict", "(II)Z"⟩
abbrev M_Sheet_declaresConflict : ja_M := (prog_8_method_17_code, 4, "InterlockingFrame$Sheet", "declaresConflict", (Option.some FieldType.boolean), 0, 0)
def y_Sheet_dropRule : MethodName := ⟨"InterlockingFrame$Sheet", "dropRule", "(I)V"⟩
abbrev M_Sheet_dropRule : ja_M := (prog_8_method_14_code, 2, "InterlockingFrame$Sheet", "dropRule", (Option.none : Option FieldType), 1, 26)
def y_Sheet_firstBlocker : MethodName := ⟨"InterlockingFrame$Sheet", "firstBlocke\x72", "(II)I"⟩
abbrev M_Sheet_firstBlocker : ja_M := (prog_8_method_20_code, 4, "InterlockingFrame$Sheet", "firstBlocke\x72", (Option.some FieldType.int), 4, 85)
def y_Sheet_hasConflict : MethodName := ⟨"InterlockingFrame$Sheet", "hasConflict", "(I)Z"⟩
abbrev M_Sheet_hasConflict : ja_M := (prog_8_method_8_code, 2, "InterlockingFrame$Sheet", "hasConflict", (Option.some FieldType.boolean), 0, 0)
def y_Sheet_hasLever : MethodName := ⟨"InterlockingFrame$Sheet", "hasLeve\x72", "(I)Z"⟩
abbrev M_Sheet_hasLever : ja_M := (prog_8_method_4_code, 2, "InterlockingFrame$Sheet", "hasLeve\x72", (Option.some FieldType.boolean), 0, 0)
def y_Sheet_hasRoute : MethodName := ⟨"InterlockingFrame$Sheet", "hasRoute", "(I)Z"⟩
abbrev M_Sheet_hasRoute : ja_M := (prog_8_method_7_code, 2, "InterlockingFrame$Sheet", "hasRoute", (Option.some FieldType.boolean), 0, 0)
def y_Sheet_hasRule : MethodName := ⟨"InterlockingFrame$Sheet", "hasRule", "(I)Z"⟩
abbrev M_Sheet_hasRule : ja_M := (prog_8_method_6_code, 2, "InterlockingFrame$Sheet", "hasRule", (Option.some FieldType.boolean), 0, 0)
def y_Sheet_hasState : MethodName := ⟨"InterlockingFrame$Sheet", "hasState", "(I)Z"⟩
abbrev M_Sheet_hasState : ja_M := (prog_8_method_5_code, 2, "InterlockingFrame$Sheet", "hasState", (Option.some FieldType.boolean), 1, 20)
def y_Sheet_init : MethodName := ⟨"InterlockingFrame$Sheet", "<init>", "()V"⟩
abbrev M_Sheet_init : ja_M := (prog_8_method_1_code, 1, "InterlockingFrame$Sheet", "<init>", (Option.none : Option FieldType), 1, 20)
def y_Sheet_insertConflict : MethodName := ⟨"InterlockingFrame$Sheet", "insertConflict", "(II)V"⟩
abbrev M_Sheet_insertConflict : ja_M := (prog_8_method_16_code, 3, "InterlockingFrame$Sheet", "insertConflict", (Option.none : Option FieldType), 0, 0)
def y_Sheet_insertRoute : MethodName := ⟨"InterlockingFrame$Sheet", "insertRoute", "(I)V"⟩
abbrev M_Sheet_insertRoute : ja_M := (prog_8_method_15_code, 2, "InterlockingFrame$Sheet", "insertRoute", (Option.none : Option FieldType), 0, 0)
def y_Sheet_insertRule : MethodName := ⟨"InterlockingFrame$Sheet", "insertRule", "(II)V"⟩
abbrev M_Sheet_insertRule : ja_M := (prog_8_method_13_code, 3, "InterlockingFrame$Sheet", "insertRule", (Option.none : Option FieldType), 1, 26)
def y_Sheet_largestJointSet : MethodName := ⟨"InterlockingFrame$Sheet", "largestJointSet", "(LInterlockingFrame$Search;)I"⟩
abbrev M_Sheet_largestJointSet : ja_M := (prog_8_method_24_code, 6, "InterlockingFrame$Sheet", "largestJointSet", (Option.some FieldType.int), 1, 23)
def y_Sheet_leversOfRoute : MethodName := ⟨"InterlockingFrame$Sheet", "leversOfRoute", "(I)I"⟩
abbrev M_Sheet_leversOfRoute : ja_M := (prog_8_method_18_code, 2, "InterlockingFrame$Sheet", "leversOfRoute", (Option.some FieldType.int), 1, 21)
def y_Sheet_mergeLever : MethodName := ⟨"InterlockingFrame$Sheet", "mergeLeve\x72", "(II)V"⟩
abbrev M_Sheet_mergeLever : ja_M := (prog_8_method_25_code, 4, "InterlockingFrame$Sheet", "mergeLeve\x72", (Option.none : Option FieldType), 2, 48)
def y_Sheet_movableLevers : MethodName := ⟨"InterlockingFrame$Sheet", "movableLevers", "()I"⟩
abbrev M_Sheet_movableLevers : ja_M := (prog_8_method_10_code, 1, "InterlockingFrame$Sheet", "movableLevers", (Option.some FieldType.int), 1, 20)
def y_Sheet_openConflicts : MethodName := ⟨"InterlockingFrame$Sheet", "openConflicts", "(LInterlockingFrame$Search;)I"⟩
abbrev M_Sheet_openConflicts : ja_M := (prog_8_method_22_code, 5, "InterlockingFrame$Sheet", "openConflicts", (Option.some FieldType.int), 2, 42)
def y_Sheet_permits : MethodName := ⟨"InterlockingFrame$Sheet", "permits", "(I)Z"⟩
abbrev M_Sheet_permits : ja_M := (prog_8_method_19_code, 3, "InterlockingFrame$Sheet", "permits", (Option.some FieldType.boolean), 4, 84)
def y_Sheet_routesSetIn : MethodName := ⟨"InterlockingFrame$Sheet", "routesSetIn", "(I)I"⟩
abbrev M_Sheet_routesSetIn : ja_M := (prog_8_method_23_code, 4, "InterlockingFrame$Sheet", "routesSetIn", (Option.some FieldType.int), 0, 0)
def y_Sheet_settableRoutes : MethodName := ⟨"InterlockingFrame$Sheet", "settableRoutes", "(LInterlockingFrame$Search;)I"⟩
abbrev M_Sheet_settableRoutes : ja_M := (prog_8_method_21_code, 4, "InterlockingFrame$Sheet", "settableRoutes", (Option.some FieldType.int), 1, 22)
def y_Sheet_wipe : MethodName := ⟨"InterlockingFrame$Sheet", "wipe", "(I)V"⟩
abbrev M_Sheet_wipe : ja_M := (prog_8_method_2_code, 2, "InterlockingFrame$Sheet", "wipe", (Option.none : Option FieldType), 0, 0)
def y_String_charAt : MethodName := ⟨"java/lang/String", "charAt", "(I)C"⟩
abbrev M_String_charAt : ja_M := (prog_14_method_56_code, 2, "java/lang/String", "charAt", (Option.some FieldType.char), 3, 64)
def y_String_checkIndex : MethodName := ⟨"java/lang/String", "checkIndex", "(II)V"⟩
abbrev M_String_checkIndex : ja_M := (prog_14_method_155_code, 2, "java/lang/String", "checkIndex", (Option.none : Option FieldType), 1, 22)
def y_String_coder : MethodName := ⟨"java/lang/String", "code\x72", "()B"⟩
abbrev M_String_coder : ja_M := (prog_14_method_152_code, 1, "java/lang/String", "code\x72", (Option.some FieldType.byte), 0, 0)
def y_String_isLatin1 : MethodName := ⟨"java/lang/String", "isLatin1", "()Z"⟩
abbrev M_String_isLatin1 : ja_M := (prog_14_method_154_code, 1, "java/lang/String", "isLatin1", (Option.some FieldType.boolean), 0, 0)
def y_String_length : MethodName := ⟨"java/lang/String", "length", "()I"⟩
abbrev M_String_length : ja_M := (prog_14_method_54_code, 1, "java/lang/String", "length", (Option.some FieldType.int), 1, 20)
theorem ks_Arrays_fillJ : ja_kS y_Arrays_fillJ M_Arrays_fillJ 2 := ⟨⟨ja_m1 7 rfl rfl, ja_m3 140 rfl rfl, by decide +kernel, by decide +kernel, by decide +kernel⟩, ja_m3 139 rfl rfl⟩
theorem kv_Frame_countMerged : ja_kV y_Frame_countMerged M_Frame_countMerged 2 7 := ⟨⟨ja_m1 1 rfl rfl, ja_m4 128 rfl rfl, by decide +kernel, by decide +kernel, by decide +kernel⟩, ja_m4 127 rfl rfl, ja_m0 20 rfl rfl, _, rfl, rfl⟩
theorem kv_Frame_forgetFindings : ja_kV y_Frame_forgetFindings M_Frame_forgetFindings 0 7 := ⟨⟨ja_m1 1 rfl rfl, ja_m2 197 rfl rfl, by decide +kernel, by decide +kernel, by decide +kernel⟩, ja_m2 196 rfl rfl, ja_m0 13 rfl rfl, _, rfl, rfl⟩
theorem ks_Frame_leverPair : ja_kS y_Frame_leverPair M_Frame_leverPair 2 := ⟨⟨ja_m1 1 rfl rfl, ja_m3 6 rfl rfl, by decide +kernel, by decide +kernel, by decide +kernel⟩, ja_m3 5 rfl rfl⟩
theorem kv_Frame_placeFreedWithout : ja_kV y_Frame_placeFreedWithout M_Frame_placeFreedWithout 1 7 := ⟨⟨ja_m1 1 rfl rfl, ja_m4 98 rfl rfl, by decide +kernel, by decide +kernel, by decide +kernel⟩, ja_m4 97 rfl rfl, ja_m0 19 rfl rfl, _, rfl, rfl⟩
theorem kv_Frame_searchBetween : ja_kV y_Frame_searchBetween M_Frame_searchBetween 2 7 := ⟨⟨ja_m1 1 rfl rfl, ja_m3 194 rfl rfl, by decide +kernel, by decide +kernel, by decide +kernel⟩, ja_m3 193 rfl rfl, ja_m0 18 rfl rfl, _, rfl, rfl⟩
theorem kv_Frame_searchedHome : ja_kV y_Frame_searchedHome M_Frame_searchedHome 0 7 := ⟨⟨ja_m1 1 rfl rfl, ja_m3 129 rfl rfl, by decide +kernel, by decide +kernel, by decide +kernel⟩, ja_m3 128 rfl rfl, ja_m0 15 rfl rfl, _, rfl, rfl⟩
theorem kv_History_clear : ja_kV y_History_clear M_History_clear 0 0 := ⟨⟨ja_m1 4 rfl rfl, ja_m2 193 rfl rfl, by decide +kernel, by decide +kernel, by decide +kernel⟩, ja_m2 191 rfl rfl, ja_m2 192 rfl rfl, _, rfl, rfl⟩
theorem kv_History_forgetOldest : ja_kV y_History_forgetOldest M_History_forgetOldest 0 0 := ⟨⟨ja_m1 4 rfl rfl, ja_m3 69 rfl rfl, by decide +kernel, by decide +kernel, by decide +kernel⟩, ja_m3 68 rfl rfl, ja_m0 14 rfl rfl, _, rfl, rfl⟩
theorem kv_History_note : ja_kV y_History_note M_History_note 3 0 := ⟨⟨ja_m1 4 rfl rfl, ja_m3 65 rfl rfl, by decide +kernel, by decide +kernel, by decide +kernel⟩, ja_m3 63 rfl rfl, ja_m3 64 rfl rfl, _, rfl, rfl⟩
theorem kv_History_takeLatest : ja_kV y_History_takeLatest M_History_takeLatest 0 0 := ⟨⟨ja_m1 4 rfl rfl, ja_m3 96 rfl rfl, by decide +kernel, by decide +kernel, by decide +kernel⟩, ja_m3 94 rfl rfl, ja_m3 95 rfl rfl, _, rfl, rfl⟩
theorem ks_Integer_bitCount : ja_kS y_Integer_bitCount M_Integer_bitCount 1 := ⟨⟨ja_m1 18 rfl rfl, ja_m4 79 rfl rfl, by decide +kernel, by decide +kernel, by decide +kernel⟩, ja_m4 78 rfl rfl⟩
theorem kv_LockPlanner_complete : ja_kV y_LockPlanner_complete M_LockPlanner_complete 3 1 := ⟨⟨ja_m1 8 rfl rfl, ja_m4 54 rfl rfl, by decide +kernel, by decide +kernel, by decide +kernel⟩, ja_m4 52 rfl rfl, ja_m4 53 rfl rfl, _, rfl, rfl⟩
theorem kv_LockPlanner_forget : ja_kV y_LockPlanner_forget M_LockPlanner_forget 0 1 := ⟨⟨ja_m1 8 rfl rfl, ja_m2 201 rfl rfl, by decide +kernel, by decide +kernel, by decide +kernel⟩, ja_m2 199 rfl rfl, ja_m2 200 rfl rfl, _, rfl, rfl⟩
theorem ks_LockPlanner_keepsRoutes : ja_kS y_LockPlanner_keepsRoutes M_LockPlanner_keepsRoutes 5 := ⟨⟨ja_m1 8 rfl rfl, ja_m4 40 rfl rfl, by decide +kernel, by decide +kernel, by decide +kernel⟩, ja_m4 39 rfl rfl⟩
theorem ks_LockPlanner_lockOf : ja_kS y_LockPlanner_lockOf M_LockPlanner_lockOf 2 := ⟨⟨ja_m1 8 rfl rfl, ja_m4 36 rfl rfl, by decide +kernel, by decide +kernel, by decide +kernel⟩, ja_m4 35 rfl rfl⟩
theorem kv_LockPlanner_propose : ja_kV y_LockPlanner_propose M_LockPlanner_propose 5 1 := ⟨⟨ja_m1 8 rfl rfl, ja_m4 31 rfl rfl, by decide +kernel, by decide +kernel, by decide +kernel⟩, ja_m4 29 rfl rfl, ja_m4 30 rfl rfl, _, rfl, rfl⟩
theorem ks_Locking_addStates : ja_kS y_Locking_addStates M_Locking_addStates 4 := ⟨⟨ja_m1 6 rfl rfl, ja_m3 150 rfl rfl, by decide +kernel, by decide +kernel, by decide +kernel⟩, ja_m3 149 rfl rfl⟩
theorem kv_Locking_allows : ja_kV y_Locking_allows M_Locking_allows 2 2 := ⟨⟨ja_m1 6 rfl rfl, ja_m3 182 rfl rfl, by decide +kernel, by decide +kernel, by decide +kernel⟩, ja_m3 180 rfl rfl, ja_m3 181 rfl rfl, _, rfl, rfl⟩
theorem kv_Locking_copyFrom : ja_kV y_Locking_copyFrom M_Locking_copyFrom 1 2 := ⟨⟨ja_m1 6 rfl rfl, ja_m3 199 rfl rfl, by decide +kernel, by decide +kernel, by decide +kernel⟩, ja_m3 197 rfl rfl, ja_m3 198 rfl rfl, _, rfl, rfl⟩
theorem kv_Locking_enforce : ja_kV y_Locking_enforce M_Locking_enforce 1 2 := ⟨⟨ja_m1 6 rfl rfl, ja_m3 144 rfl rfl, by decide +kernel, by decide +kernel, by decide +kernel⟩, ja_m3 142 rfl rfl, ja_m3 143 rfl rfl, _, rfl, rfl⟩
theorem kv_Locking_enforceAll : ja_kV y_Locking_enforceAll M_Locking_enforceAll 2 2 := ⟨⟨ja_m1 6 rfl rfl, ja_m3 137 rfl rfl, by decide +kernel, by decide +kernel, by decide +kernel⟩, ja_m3 135 rfl rfl, ja_m3 136 rfl rfl, _, rfl, rfl⟩
theorem ks_Locking_statesInWord : ja_kS y_Locking_statesInWord M_Locking_statesInWord 2 := ⟨⟨ja_m1 6 rfl rfl, ja_m3 153 rfl rfl, by decide +kernel, by decide +kernel, by decide +kernel⟩, ja_m3 152 rfl rfl⟩
theorem kv_Merger_attempt : ja_kV y_Merger_attempt M_Merger_attempt 3 3 := ⟨⟨ja_m1 9 rfl rfl, ja_m4 143 rfl rfl, by decide +kernel, by decide +kernel, by decide +kernel⟩, ja_m4 141 rfl rfl, ja_m4 142 rfl rfl, _, rfl, rfl⟩
theorem kv_Merger_begin : ja_kV y_Merger_begin M_Merger_begin 2 3 := ⟨⟨ja_m1 9 rfl rfl, ja_m4 132 rfl rfl, by decide +kernel, by decide +kernel, by decide +kernel⟩, ja_m4 130 rfl rfl, ja_m4 131 rfl rfl, _, rfl, rfl⟩
theorem kv_Merger_keepsRoutesAndConflicts : ja_kV y_Merger_keepsRoutesAndConflicts M_Merger_keepsRoutesAndConflicts 1 3 := ⟨⟨ja_m1 9 rfl rfl, ja_m4 159 rfl rfl, by decide +kernel, by decide +kernel, by decide +kernel⟩, ja_m4 157 rfl rfl, ja_m4 158 rfl rfl, _, rfl, rfl⟩
theorem kv_Merger_mergeFirstPair : ja_kV y_Merger_mergeFirstPair M_Merger_mergeFirstPair 1 3 := ⟨⟨ja_m1 9 rfl rfl, ja_m4 171 rfl rfl, by decide +kernel, by decide +kernel, by decide +kernel⟩, ja_m4 169 rfl rfl, ja_m4 170 rfl rfl, _, rfl, rfl⟩
theorem kv_Model_areReachable : ja_kV y_Model_areReachable M_Model_areReachable 2 8 := ⟨⟨ja_m1 10 rfl rfl, ja_m6 65 rfl rfl, by decide +kernel, by decide +kernel, by decide +kernel⟩, ja_m6 64 rfl rfl, ja_m0 52 rfl rfl, _, rfl, rfl⟩
theorem ks_Model_bits : ja_kS y_Model_bits M_Model_bits 1 := ⟨⟨ja_m1 10 rfl rfl, ja_m6 136 rfl rfl, by decide +kernel, by decide +kernel, by decide +kernel⟩, ja_m6 135 rfl rfl⟩
theorem kv_Model_blockOf : ja_kV y_Model_blockOf M_Model_blockOf 2 8 := ⟨⟨ja_m1 10 rfl rfl, ja_m5 228 rfl rfl, by decide +kernel, by decide +kernel, by decide +kernel⟩, ja_m5 227 rfl rfl, ja_m0 41 rfl rfl, _, rfl, rfl⟩
theorem kv_Model_blocks : ja_kV y_Model_blocks M_Model_blocks 3 8 := ⟨⟨ja_m1 10 rfl rfl, ja_m5 232 rfl rfl, by decide +kernel, by decide +kernel, by decide +kernel⟩, ja_m5 231 rfl rfl, ja_m0 42 rfl rfl, _, rfl, rfl⟩
theorem kv_Model_clears : ja_kV y_Model_clears M_Model_clears 0 8 := ⟨⟨ja_m1 10 rfl rfl, ja_m6 49 rfl rfl, by decide +kernel, by decide +kernel, by decide +kernel⟩, ja_m6 48 rfl rfl, ja_m0 49 rfl rfl, _, rfl, rfl⟩
theorem kv_Model_completes : ja_kV y_Model_completes M_Model_completes 0 8 := ⟨⟨ja_m1 10 rfl rfl, ja_m6 125 rfl rfl, by decide +kernel, by decide +kernel, by decide +kernel⟩, ja_m6 124 rfl rfl, ja_m0 59 rfl rfl, _, rfl, rfl⟩
theorem kv_Model_conflictLine : ja_kV y_Model_conflictLine M_Model_conflictLine 0 8 := ⟨⟨ja_m1 10 rfl rfl, ja_m5 152 rfl rfl, by decide +kernel, by decide +kernel, by decide +kernel⟩, ja_m5 151 rfl rfl, ja_m0 35 rfl rfl, _, rfl, rfl⟩
theorem kv_Model_copies : ja_kV y_Model_copies M_Model_copies 1 8 := ⟨⟨ja_m1 10 rfl rfl, ja_m6 219 rfl rfl, by decide +kernel, by decide +kernel, by decide +kernel⟩, ja_m6 218 rfl rfl, ja_m0 71 rfl rfl, _, rfl, rfl⟩
theorem kv_Model_fails : ja_kV y_Model_fails M_Model_fails 2 8 := ⟨⟨ja_m1 10 rfl rfl, ja_m5 115 rfl rfl, by decide +kernel, by decide +kernel, by decide +kernel⟩, ja_m5 114 rfl rfl, ja_m0 27 rfl rfl, _, rfl, rfl⟩
theorem kv_Model_forbids : ja_kV y_Model_forbids M_Model_forbids 2 8 := ⟨⟨ja_m1 10 rfl rfl, ja_m5 236 rfl rfl, by decide +kernel, by decide +kernel, by decide +kernel⟩, ja_m5 235 rfl rfl, ja_m0 43 rfl rfl, _, rfl, rfl⟩
theorem ks_Model_has : ja_kS y_Model_has M_Model_has 2 := ⟨⟨ja_m1 10 rfl rfl, ja_m5 148 rfl rfl, by decide +kernel, by decide +kernel, by decide +kernel⟩, ja_m5 147 rfl rfl⟩
theorem kv_Model_higher : ja_kV y_Model_higher M_Model_higher 2 8 := ⟨⟨ja_m1 10 rfl rfl, ja_m6 192 rfl rfl, by decide +kernel, by decide +kernel, by decide +kernel⟩, ja_m6 191 rfl rfl, ja_m0 67 rfl rfl, _, rfl, rfl⟩
theorem kv_Model_isActive : ja_kV y_Model_isActive M_Model_isActive 2 8 := ⟨⟨ja_m1 10 rfl rfl, ja_m6 0 rfl rfl, by decide +kernel, by decide +kernel, by decide +kernel⟩, ja_m5 239 rfl rfl, ja_m0 44 rfl rfl, _, rfl, rfl⟩
theorem kv_Model_isDeclared : ja_kV y_Model_isDeclared M_Model_isDeclared 2 8 := ⟨⟨ja_m1 10 rfl rfl, ja_m5 156 rfl rfl, by decide +kernel, by decide +kernel, by decide +kernel⟩, ja_m5 155 rfl rfl, ja_m0 36 rfl rfl, _, rfl, rfl⟩
theorem kv_Model_isDigitHere : ja_kV y_Model_isDigitHere M_Model_isDigitHere 0 8 := ⟨⟨ja_m1 10 rfl rfl, ja_m5 123 rfl rfl, by decide +kernel, by decide +kernel, by decide +kernel⟩, ja_m5 122 rfl rfl, ja_m0 29 rfl rfl, _, rfl, rfl⟩
theorem kv_Model_isDue : ja_kV y_Model_isDue M_Model_isDue 0 8 := ⟨⟨ja_m1 10 rfl rfl, ja_m6 203 rfl rfl, by decide +kernel, by decide +kernel, by decide +kernel⟩, ja_m6 202 rfl rfl, ja_m0 69 rfl rfl, _, rfl, rfl⟩
theorem kv_Model_isFree : ja_kV y_Model_isFree M_Model_isFree 2 8 := ⟨⟨ja_m1 10 rfl rfl, ja_m5 224 rfl rfl, by decide +kernel, by decide +kernel, by decide +kernel⟩, ja_m5 223 rfl rfl, ja_m0 40 rfl rfl, _, rfl, rfl⟩
theorem kv_Model_isImpliedBy : ja_kV y_Model_isImpliedBy M_Model_isImpliedBy 1 8 := ⟨⟨ja_m1 10 rfl rfl, ja_m6 148 rfl rfl, by decide +kernel, by decide +kernel, by decide +kernel⟩, ja_m6 147 rfl rfl, ja_m0 60 rfl rfl, _, rfl, rfl⟩
theorem ks_Model_isIn : ja_kS y_Model_isIn M_Model_isIn 3 := ⟨⟨ja_m1 10 rfl rfl, ja_m5 86 rfl rfl, by decide +kernel, by decide +kernel, by decide +kernel⟩, ja_m5 85 rfl rfl⟩
theorem kv_Model_isLever : ja_kV y_Model_isLever M_Model_isLever 1 8 := ⟨⟨ja_m1 10 rfl rfl, ja_m5 220 rfl rfl, by decide +kernel, by decide +kernel, by decide +kernel⟩, ja_m5 219 rfl rfl, ja_m0 39 rfl rfl, _, rfl, rfl⟩
theorem kv_Model_isRoute : ja_kV y_Model_isRoute M_Model_isRoute 1 8 := ⟨⟨ja_m1 10 rfl rfl, ja_m5 204 rfl rfl, by decide +kernel, by decide +kernel, by decide +kernel⟩, ja_m5 203 rfl rfl, ja_m0 38 rfl rfl, _, rfl, rfl⟩
theorem kv_Model_isRule : ja_kV y_Model_isRule M_Model_isRule 1 8 := ⟨⟨ja_m1 10 rfl rfl, ja_m5 184 rfl rfl, by decide +kernel, by decide +kernel, by decide +kernel⟩, ja_m5 183 rfl rfl, ja_m0 37 rfl rfl, _, rfl, rfl⟩
theorem kv_Model_isState : ja_kV y_Model_isState M_Model_isState 1 8 := ⟨⟨ja_m1 10 rfl rfl, ja_m6 29 rfl rfl, by decide +kernel, by decide +kernel, by decide +kernel⟩, ja_m6 28 rfl rfl, ja_m0 47 rfl rfl, _, rfl, rfl⟩
theorem kv_Model_isTold : ja_kV y_Model_isTold M_Model_isTold 3 8 := ⟨⟨ja_m1 10 rfl rfl, ja_m6 156 rfl rfl, by decide +kernel, by decide +kernel, by decide +kernel⟩, ja_m6 155 rfl rfl, ja_m0 62 rfl rfl, _, rfl, rfl⟩
theorem kv_Model_joint : ja_kV y_Model_joint M_Model_joint 2 8 := ⟨⟨ja_m1 10 rfl rfl, ja_m6 97 rfl rfl, by decide +kernel, by decide +kernel, by decide +kernel⟩, ja_m6 96 rfl rfl, ja_m0 55 rfl rfl, _, rfl, rfl⟩
theorem kv_Model_laysDue : ja_kV y_Model_laysDue M_Model_laysDue 0 8 := ⟨⟨ja_m1 10 rfl rfl, ja_m6 184 rfl rfl, by decide +kernel, by decide +kernel, by decide +kernel⟩, ja_m6 183 rfl rfl, ja_m0 65 rfl rfl, _, rfl, rfl⟩
theorem kv_Model_laysFrom : ja_kV y_Model_laysFrom M_Model_laysFrom 1 8 := ⟨⟨ja_m1 10 rfl rfl, ja_m6 45 rfl rfl, by decide +kernel, by decide +kernel, by decide +kernel⟩, ja_m6 44 rfl rfl, ja_m0 48 rfl rfl, _, rfl, rfl⟩
theorem kv_Model_laysTest : ja_kV y_Model_laysTest M_Model_laysTest 1 8 := ⟨⟨ja_m1 10 rfl rfl, ja_m6 168 rfl rfl, by decide +kernel, by decide +kernel, by decide +kernel⟩, ja_m6 167 rfl rfl, ja_m0 63 rfl rfl, _, rfl, rfl⟩
theorem kv_Model_lettersHere : ja_kV y_Model_lettersHere M_Model_lettersHere 0 8 := ⟨⟨ja_m1 10 rfl rfl, ja_m5 108 rfl rfl, by decide +kernel, by decide +kernel, by decide +kernel⟩, ja_m5 107 rfl rfl, ja_m0 26 rfl rfl, _, rfl, rfl⟩
theorem kv_Model_lever : ja_kV y_Model_lever M_Model_lever 0 8 := ⟨⟨ja_m1 10 rfl rfl, ja_m5 141 rfl rfl, by decide +kernel, by decide +kernel, by decide +kernel⟩, ja_m5 140 rfl rfl, ja_m0 33 rfl rfl, _, rfl, rfl⟩
theorem kv_Model_line : ja_kV y_Model_line M_Model_line 0 8 := ⟨⟨ja_m1 10 rfl rfl, ja_m5 133 rfl rfl, by decide +kernel, by decide +kernel, by decide +kernel⟩, ja_m5 132 rfl rfl, ja_m0 31 rfl rfl, _, rfl, rfl⟩
theorem kv_Model_lockFor : ja_kV y_Model_lockFor M_Model_lockFor 1 8 := ⟨⟨ja_m1 10 rfl rfl, ja_m6 113 rfl rfl, by decide +kernel, by decide +kernel, by decide +kernel⟩, ja_m6 112 rfl rfl, ja_m0 57 rfl rfl, _, rfl, rfl⟩
theorem kv_Model_lower : ja_kV y_Model_lower M_Model_lower 2 8 := ⟨⟨ja_m1 10 rfl rfl, ja_m6 188 rfl rfl, by decide +kernel, by decide +kernel, by decide +kernel⟩, ja_m6 187 rfl rfl, ja_m0 66 rfl rfl, _, rfl, rfl⟩
theorem ks_Model_mergedLever : ja_kS y_Model_mergedLever M_Model_mergedLever 3 := ⟨⟨ja_m1 10 rfl rfl, ja_m6 199 rfl rfl, by decide +kernel, by decide +kernel, by decide +kernel⟩, ja_m6 198 rfl rfl⟩
theorem kv_Model_merges : ja_kV y_Model_merges M_Model_merges 2 8 := ⟨⟨ja_m1 10 rfl rfl, ja_m6 196 rfl rfl, by decide +kernel, by decide +kernel, by decide +kernel⟩, ja_m6 195 rfl rfl, ja_m0 68 rfl rfl, _, rfl, rfl⟩
theorem kv_Model_mergesOne : ja_kV y_Model_mergesOne M_Model_mergesOne 0 8 := ⟨⟨ja_m1 10 rfl rfl, ja_m6 215 rfl rfl, by decide +kernel, by decide +kernel, by decide +kernel⟩, ja_m6 214 rfl rfl, ja_m0 70 rfl rfl, _, rfl, rfl⟩
theorem kv_Model_nearer : ja_kV y_Model_nearer M_Model_nearer 1 8 := ⟨⟨ja_m1 10 rfl rfl, ja_m6 176 rfl rfl, by decide +kernel, by decide +kernel, by decide +kernel⟩, ja_m6 175 rfl rfl, ja_m0 64 rfl rfl, _, rfl, rfl⟩
theorem kv_Model_number : ja_kV y_Model_number M_Model_number 2 8 := ⟨⟨ja_m1 10 rfl rfl, ja_m5 119 rfl rfl, by decide +kernel, by decide +kernel, by decide +kernel⟩, ja_m5 118 rfl rfl, ja_m0 28 rfl rfl, _, rfl, rfl⟩
theorem kv_Model_parses : ja_kV y_Model_parses M_Model_parses 0 8 := ⟨⟨ja_m1 10 rfl rfl, ja_m5 90 rfl rfl, by decide +kernel, by decide +kernel, by decide +kernel⟩, ja_m5 89 rfl rfl, ja_m0 22 rfl rfl, _, rfl, rfl⟩
theorem kv_Model_passes : ja_kV y_Model_passes M_Model_passes 2 8 := ⟨⟨ja_m1 10 rfl rfl, ja_m5 94 rfl rfl, by decide +kernel, by decide +kernel, by decide +kernel⟩, ja_m5 93 rfl rfl, ja_m0 23 rfl rfl, _, rfl, rfl⟩
theorem kv_Model_peek : ja_kV y_Model_peek M_Model_peek 0 8 := ⟨⟨ja_m1 10 rfl rfl, ja_m5 102 rfl rfl, by decide +kernel, by decide +kernel, by decide +kernel⟩, ja_m5 101 rfl rfl, ja_m0 25 rfl rfl, _, rfl, rfl⟩
theorem kv_Model_puts : ja_kV y_Model_puts M_Model_puts 5 8 := ⟨⟨ja_m1 10 rfl rfl, ja_m6 13 rfl rfl, by decide +kernel, by decide +kernel, by decide +kernel⟩, ja_m6 12 rfl rfl, ja_m0 46 rfl rfl, _, rfl, rfl⟩
theorem kv_Model_reaches : ja_kV y_Model_reaches M_Model_reaches 2 8 := ⟨⟨ja_m1 10 rfl rfl, ja_m6 53 rfl rfl, by decide +kernel, by decide +kernel, by decide +kernel⟩, ja_m6 52 rfl rfl, ja_m0 50 rfl rfl, _, rfl, rfl⟩
theorem kv_Model_remembers : ja_kV y_Model_remembers M_Model_remembers 0 8 := ⟨⟨ja_m1 10 rfl rfl, ja_m6 4 rfl rfl, by decide +kernel, by decide +kernel, by decide +kernel⟩, ja_m6 3 rfl rfl, ja_m0 45 rfl rfl, _, rfl, rfl⟩
theorem kv_Model_routeLine : ja_kV y_Model_routeLine M_Model_routeLine 0 8 := ⟨⟨ja_m1 10 rfl rfl, ja_m5 145 rfl rfl, by decide +kernel, by decide +kernel, by decide +kernel⟩, ja_m5 144 rfl rfl, ja_m0 34 rfl rfl, _, rfl, rfl⟩
theorem kv_Model_ruleLine : ja_kV y_Model_ruleLine M_Model_ruleLine 0 8 := ⟨⟨ja_m1 10 rfl rfl, ja_m5 137 rfl rfl, by decide +kernel, by decide +kernel, by decide +kernel⟩, ja_m5 136 rfl rfl, ja_m0 32 rfl rfl, _, rfl, rfl⟩
theorem kv_Model_semicolon : ja_kV y_Model_semicolon M_Model_semicolon 0 8 := ⟨⟨ja_m1 10 rfl rfl, ja_m5 129 rfl rfl, by decide +kernel, by decide +kernel, by decide +kernel⟩, ja_m5 128 rfl rfl, ja_m0 30 rfl rfl, _, rfl, rfl⟩
theorem kv_Model_sets : ja_kV y_Model_sets M_Model_sets 2 8 := ⟨⟨ja_m1 10 rfl rfl, ja_m6 85 rfl rfl, by decide +kernel, by decide +kernel, by decide +kernel⟩, ja_m6 84 rfl rfl, ja_m0 54 rfl rfl, _, rfl, rfl⟩
theorem kv_Model_settable : ja_kV y_Model_settable M_Model_settable 0 8 := ⟨⟨ja_m1 10 rfl rfl, ja_m6 117 rfl rfl, by decide +kernel, by decide +kernel, by decide +kernel⟩, ja_m6 116 rfl rfl, ja_m0 58 rfl rfl, _, rfl, rfl⟩
theorem kv_Model_settingOf : ja_kV y_Model_settingOf M_Model_settingOf 1 8 := ⟨⟨ja_m1 10 rfl rfl, ja_m6 81 rfl rfl, by decide +kernel, by decide +kernel, by decide +kernel⟩, ja_m6 80 rfl rfl, ja_m0 53 rfl rfl, _, rfl, rfl⟩
theorem kv_Model_spreads : ja_kV y_Model_spreads M_Model_spreads 0 8 := ⟨⟨ja_m1 10 rfl rfl, ja_m6 57 rfl rfl, by decide +kernel, by decide +kernel, by decide +kernel⟩, ja_m6 56 rfl rfl, ja_m0 51 rfl rfl, _, rfl, rfl⟩
theorem kv_Model_tellingLever : ja_kV y_Model_tellingLever M_Model_tellingLever 2 8 := ⟨⟨ja_m1 10 rfl rfl, ja_m6 152 rfl rfl, by decide +kernel, by decide +kernel, by decide +kernel⟩, ja_m6 151 rfl rfl, ja_m0 61 rfl rfl, _, rfl, rfl⟩
theorem kv_Model_unprotected : ja_kV y_Model_unprotected M_Model_unprotected 0 8 := ⟨⟨ja_m1 10 rfl rfl, ja_m6 105 rfl rfl, by decide +kernel, by decide +kernel, by decide +kernel⟩, ja_m6 104 rfl rfl, ja_m0 56 rfl rfl, _, rfl, rfl⟩
theorem kv_Model_usesSheet : ja_kV y_Model_usesSheet M_Model_usesSheet 0 8 := ⟨⟨ja_m1 10 rfl rfl, ja_m4 188 rfl rfl, by decide +kernel, by decide +kernel, by decide +kernel⟩, ja_m4 187 rfl rfl, ja_m0 21 rfl rfl, _, rfl, rfl⟩
theorem kv_Model_wordHere : ja_kV y_Model_wordHere M_Model_wordHere 0 8 := ⟨⟨ja_m1 10 rfl rfl, ja_m5 98 rfl rfl, by decide +kernel, by decide +kernel, by decide +kernel⟩, ja_m5 97 rfl rfl, ja_m0 24 rfl rfl, _, rfl, rfl⟩
theorem ks_Rule_bites : ja_kS y_Rule_bites M_Rule_bites 2 := ⟨⟨ja_m1 16 rfl rfl, ja_m3 53 rfl rfl, by decide +kernel, by decide +kernel, by decide +kernel⟩, ja_m3 52 rfl rfl⟩
theorem ks_Rule_blocks : ja_kS y_Rule_blocks M_Rule_blocks 3 := ⟨⟨ja_m1 16 rfl rfl, ja_m3 48 rfl rfl, by decide +kernel, by decide +kernel, by decide +kernel⟩, ja_m3 47 rfl rfl⟩
theorem ks_Rule_condition : ja_kS y_Rule_condition M_Rule_condition 1 := ⟨⟨ja_m1 16 rfl rfl, ja_m3 13 rfl rfl, by decide +kernel, by decide +kernel, by decide +kernel⟩, ja_m3 12 rfl rfl⟩
theorem ks_Rule_forbids : ja_kS y_Rule_forbids M_Rule_forbids 2 := ⟨⟨ja_m1 16 rfl rfl, ja_m3 78 rfl rfl, by decide +kernel, by decide +kernel, by decide +kernel⟩, ja_m3 77 rfl rfl⟩
theorem ks_Rule_kind : ja_kS y_Rule_kind M_Rule_kind 1 := ⟨⟨ja_m1 16 rfl rfl, ja_m2 233 rfl rfl, by decide +kernel, by decide +kernel, by decide +kernel⟩, ja_m2 232 rfl rfl⟩
theorem ks_Rule_leverA : ja_kS y_Rule_leverA M_Rule_leverA 1 := ⟨⟨ja_m1 16 rfl rfl, ja_m3 0 rfl rfl, by decide +kernel, by decide +kernel, by decide +kernel⟩, ja_m2 239 rfl rfl⟩
theorem ks_Rule_leverB : ja_kS y_Rule_leverB M_Rule_leverB 1 := ⟨⟨ja_m1 16 rfl rfl, ja_m3 3 rfl rfl, by decide +kernel, by decide +kernel, by decide +kernel⟩, ja_m3 2 rfl rfl⟩
theorem ks_Rule_normalLevers : ja_kS y_Rule_normalLevers M_Rule_normalLevers 1 := ⟨⟨ja_m1 16 rfl rfl, ja_m3 61 rfl rfl, by decide +kernel, by decide +kernel, by decide +kernel⟩, ja_m3 60 rfl rfl⟩
theorem ks_Rule_pack : ja_kS y_Rule_pack M_Rule_pack 4 := ⟨⟨ja_m1 16 rfl rfl, ja_m2 156 rfl rfl, by decide +kernel, by decide +kernel, by decide +kernel⟩, ja_m2 155 rfl rfl⟩
theorem ks_Rule_reversedLevers : ja_kS y_Rule_reversedLevers M_Rule_reversedLevers 1 := ⟨⟨ja_m1 16 rfl rfl, ja_m3 56 rfl rfl, by decide +kernel, by decide +kernel, by decide +kernel⟩, ja_m3 55 rfl rfl⟩
theorem ks_Rule_withLeverReplaced : ja_kS y_Rule_withLeverReplaced M_Rule_withLeverReplaced 3 := ⟨⟨ja_m1 16 rfl rfl, ja_m4 150 rfl rfl, by decide +kernel, by decide +kernel, by decide +kernel⟩, ja_m4 149 rfl rfl⟩
theorem kv_Search_countSetting : ja_kV y_Search_countSetting M_Search_countSetting 1 4 := ⟨⟨ja_m1 5 rfl rfl, ja_m3 238 rfl rfl, by decide +kernel, by decide +kernel, by decide +kernel⟩, ja_m3 236 rfl rfl, ja_m3 237 rfl rfl, _, rfl, rfl⟩
theorem kv_Search_enter : ja_kV y_Search_enter M_Search_enter 2 4 := ⟨⟨ja_m1 5 rfl rfl, ja_m3 174 rfl rfl, by decide +kernel, by decide +kernel, by decide +kernel⟩, ja_m3 173 rfl rfl, ja_m0 17 rfl rfl, _, rfl, rfl⟩
theorem kv_Search_explore : ja_kV y_Search_explore M_Search_explore 2 4 := ⟨⟨ja_m1 5 rfl rfl, ja_m3 166 rfl rfl, by decide +kernel, by decide +kernel, by decide +kernel⟩, ja_m3 164 rfl rfl, ja_m3 165 rfl rfl, _, rfl, rfl⟩
theorem kv_Search_farthest : ja_kV y_Search_farthest M_Search_farthest 0 4 := ⟨⟨ja_m1 5 rfl rfl, ja_m4 90 rfl rfl, by decide +kernel, by decide +kernel, by decide +kernel⟩, ja_m4 88 rfl rfl, ja_m4 89 rfl rfl, _, rfl, rfl⟩
theorem kv_Search_firstPlaceFreed : ja_kV y_Search_firstPlaceFreed M_Search_firstPlaceFreed 1 4 := ⟨⟨ja_m1 5 rfl rfl, ja_m4 102 rfl rfl, by decide +kernel, by decide +kernel, by decide +kernel⟩, ja_m4 100 rfl rfl, ja_m4 101 rfl rfl, _, rfl, rfl⟩
theorem kv_Search_forget : ja_kV y_Search_forget M_Search_forget 0 4 := ⟨⟨ja_m1 5 rfl rfl, ja_m3 170 rfl rfl, by decide +kernel, by decide +kernel, by decide +kernel⟩, ja_m3 169 rfl rfl, ja_m0 16 rfl rfl, _, rfl, rfl⟩
theorem kv_Search_leverFreed : ja_kV y_Search_leverFreed M_Search_leverFreed 2 4 := ⟨⟨ja_m1 5 rfl rfl, ja_m4 106 rfl rfl, by decide +kernel, by decide +kernel, by decide +kernel⟩, ja_m4 104 rfl rfl, ja_m4 105 rfl rfl, _, rfl, rfl⟩
theorem kv_Search_leverOnWay : ja_kV y_Search_leverOnWay M_Search_leverOnWay 2 4 := ⟨⟨ja_m1 5 rfl rfl, ja_m3 209 rfl rfl, by decide +kernel, by decide +kernel, by decide +kernel⟩, ja_m3 207 rfl rfl, ja_m3 208 rfl rfl, _, rfl, rfl⟩
theorem kv_Search_leversSeenWith : ja_kV y_Search_leversSeenWith M_Search_leversSeenWith 1 4 := ⟨⟨ja_m1 5 rfl rfl, ja_m3 217 rfl rfl, by decide +kernel, by decide +kernel, by decide +kernel⟩, ja_m3 215 rfl rfl, ja_m3 216 rfl rfl, _, rfl, rfl⟩
theorem kv_Search_movesTo : ja_kV y_Search_movesTo M_Search_movesTo 1 4 := ⟨⟨ja_m1 5 rfl rfl, ja_m3 186 rfl rfl, by decide +kernel, by decide +kernel, by decide +kernel⟩, ja_m3 184 rfl rfl, ja_m3 185 rfl rfl, _, rfl, rfl⟩
theorem kv_Search_nearestSetting : ja_kV y_Search_nearestSetting M_Search_nearestSetting 1 4 := ⟨⟨ja_m1 5 rfl rfl, ja_m3 226 rfl rfl, by decide +kernel, by decide +kernel, by decide +kernel⟩, ja_m3 224 rfl rfl, ja_m3 225 rfl rfl, _, rfl, rfl⟩
theorem kv_Search_reached : ja_kV y_Search_reached M_Search_reached 1 4 := ⟨⟨ja_m1 5 rfl rfl, ja_m3 178 rfl rfl, by decide +kernel, by decide +kernel, by decide +kernel⟩, ja_m3 176 rfl rfl, ja_m3 177 rfl rfl, _, rfl, rfl⟩
theorem kv_Search_someStateSets : ja_kV y_Search_someStateSets M_Search_someStateSets 1 4 := ⟨⟨ja_m1 5 rfl rfl, ja_m4 15 rfl rfl, by decide +kernel, by decide +kernel, by decide +kernel⟩, ja_m4 13 rfl rfl, ja_m4 14 rfl rfl, _, rfl, rfl⟩
theorem kv_Search_stateAt : ja_kV y_Search_stateAt M_Search_stateAt 1 4 := ⟨⟨ja_m1 5 rfl rfl, ja_m4 72 rfl rfl, by decide +kernel, by decide +kernel, by decide +kernel⟩, ja_m4 70 rfl rfl, ja_m4 71 rfl rfl, _, rfl, rfl⟩
theorem kv_SheetParser_append : ja_kV y_SheetParser_append M_SheetParser_append 1 6 := ⟨⟨ja_m1 2 rfl rfl, ja_m2 32 rfl rfl, by decide +kernel, by decide +kernel, by decide +kernel⟩, ja_m2 30 rfl rfl, ja_m2 31 rfl rfl, _, rfl, rfl⟩
theorem kv_SheetParser_atText : ja_kV y_SheetParser_atText M_SheetParser_atText 1 6 := ⟨⟨ja_m1 2 rfl rfl, ja_m2 66 rfl rfl, by decide +kernel, by decide +kernel, by decide +kernel⟩, ja_m2 65 rfl rfl, ja_m0 3 rfl rfl, _, rfl, rfl⟩
theorem kv_SheetParser_byteAt : ja_kV y_SheetParser_byteAt M_SheetParser_byteAt 1 6 := ⟨⟨ja_m1 2 rfl rfl, ja_m2 51 rfl rfl, by decide +kernel, by decide +kernel, by decide +kernel⟩, ja_m2 50 rfl rfl, ja_m0 1 rfl rfl, _, rfl, rfl⟩
theorem kv_SheetParser_fail : ja_kV y_SheetParser_fail M_SheetParser_fail 1 6 := ⟨⟨ja_m1 2 rfl rfl, ja_m2 118 rfl rfl, by decide +kernel, by decide +kernel, by decide +kernel⟩, ja_m2 117 rfl rfl, ja_m0 4 rfl rfl, _, rfl, rfl⟩
theorem ks_SheetParser_isDigit : ja_kS y_SheetParser_isDigit M_SheetParser_isDigit 1 := ⟨⟨ja_m1 2 rfl rfl, ja_m2 57 rfl rfl, by decide +kernel, by decide +kernel, by decide +kernel⟩, ja_m2 56 rfl rfl⟩
theorem ks_SheetParser_isLetter : ja_kS y_SheetParser_isLetter M_SheetParser_isLetter 1 := ⟨⟨ja_m1 2 rfl rfl, ja_m2 54 rfl rfl, by decide +kernel, by decide +kernel, by decide +kernel⟩, ja_m2 53 rfl rfl⟩
theorem kv_SheetParser_numberHere : ja_kV y_SheetParser_numberHere M_SheetParser_numberHere 2 6 := ⟨⟨ja_m1 2 rfl rfl, ja_m2 122 rfl rfl, by decide +kernel, by decide +kernel, by decide +kernel⟩, ja_m2 121 rfl rfl, ja_m0 5 rfl rfl, _, rfl, rfl⟩
theorem kv_SheetParser_read : ja_kV y_SheetParser_read M_SheetParser_read 2 6 := ⟨⟨ja_m1 2 rfl rfl, ja_m2 40 rfl rfl, by decide +kernel, by decide +kernel, by decide +kernel⟩, ja_m2 38 rfl rfl, ja_m2 39 rfl rfl, _, rfl, rfl⟩
theorem kv_SheetParser_readCondition : ja_kV y_SheetParser_readCondition M_SheetParser_readCondition 3 6 := ⟨⟨ja_m1 2 rfl rfl, ja_m2 151 rfl rfl, by decide +kernel, by decide +kernel, by decide +kernel⟩, ja_m2 150 rfl rfl, ja_m0 10 rfl rfl, _, rfl, rfl⟩
theorem kv_SheetParser_readConflict : ja_kV y_SheetParser_readConflict M_SheetParser_readConflict 1 6 := ⟨⟨ja_m1 2 rfl rfl, ja_m2 177 rfl rfl, by decide +kernel, by decide +kernel, by decide +kernel⟩, ja_m2 176 rfl rfl, ja_m0 12 rfl rfl, _, rfl, rfl⟩
theorem kv_SheetParser_readHead : ja_kV y_SheetParser_readHead M_SheetParser_readHead 1 6 := ⟨⟨ja_m1 2 rfl rfl, ja_m2 61 rfl rfl, by decide +kernel, by decide +kernel, by decide +kernel⟩, ja_m2 60 rfl rfl, ja_m0 2 rfl rfl, _, rfl, rfl⟩
theorem kv_SheetParser_readRoute : ja_kV y_SheetParser_readRoute M_SheetParser_readRoute 1 6 := ⟨⟨ja_m1 2 rfl rfl, ja_m2 168 rfl rfl, by decide +kernel, by decide +kernel, by decide +kernel⟩, ja_m2 167 rfl rfl, ja_m0 11 rfl rfl, _, rfl, rfl⟩
theorem kv_SheetParser_readRule : ja_kV y_SheetParser_readRule M_SheetParser_readRule 1 6 := ⟨⟨ja_m1 2 rfl rfl, ja_m2 139 rfl rfl, by decide +kernel, by decide +kernel, by decide +kernel⟩, ja_m2 138 rfl rfl, ja_m0 8 rfl rfl, _, rfl, rfl⟩
theorem kv_SheetParser_readSemicolon : ja_kV y_SheetParser_readSemicolon M_SheetParser_readSemicolon 0 6 := ⟨⟨ja_m1 2 rfl rfl, ja_m2 130 rfl rfl, by decide +kernel, by decide +kernel, by decide +kernel⟩, ja_m2 129 rfl rfl, ja_m0 6 rfl rfl, _, rfl, rfl⟩
theorem kv_SheetParser_readStatement : ja_kV y_SheetParser_readStatement M_SheetParser_readStatement 1 6 := ⟨⟨ja_m1 2 rfl rfl, ja_m2 135 rfl rfl, by decide +kernel, by decide +kernel, by decide +kernel⟩, ja_m2 134 rfl rfl, ja_m0 7 rfl rfl, _, rfl, rfl⟩
theorem kv_SheetParser_step : ja_kV y_SheetParser_step M_SheetParser_step 0 6 := ⟨⟨ja_m1 2 rfl rfl, ja_m2 47 rfl rfl, by decide +kernel, by decide +kernel, by decide +kernel⟩, ja_m2 46 rfl rfl, ja_m0 0 rfl rfl, _, rfl, rfl⟩
theorem kv_SheetParser_verbHere : ja_kV y_SheetParser_verbHere M_SheetParser_verbHere 0 6 := ⟨⟨ja_m1 2 rfl rfl, ja_m2 143 rfl rfl, by decide +kernel, by decide +kernel, by decide +kernel⟩, ja_m2 142 rfl rfl, ja_m0 9 rfl rfl, _, rfl, rfl⟩
theorem kv_Sheet_allLevers : ja_kV y_Sheet_allLevers M_Sheet_allLevers 0 5 := ⟨⟨ja_m1 3 rfl rfl, ja_m3 108 rfl rfl, by decide +kernel, by decide +kernel, by decide +kernel⟩, ja_m3 106 rfl rfl, ja_m3 107 rfl rfl, _, rfl, rfl⟩
theorem kv_Sheet_allRules : ja_kV y_Sheet_allRules M_Sheet_allRules 0 5 := ⟨⟨ja_m1 3 rfl rfl, ja_m3 133 rfl rfl, by decide +kernel, by decide +kernel, by decide +kernel⟩, ja_m3 131 rfl rfl, ja_m3 132 rfl rfl, _, rfl, rfl⟩
theorem kv_Sheet_canMove : ja_kV y_Sheet_canMove M_Sheet_canMove 1 5 := ⟨⟨ja_m1 3 rfl rfl, ja_m4 175 rfl rfl, by decide +kernel, by decide +kernel, by decide +kernel⟩, ja_m4 173 rfl rfl, ja_m4 174 rfl rfl, _, rfl, rfl⟩
theorem kv_Sheet_copyFrom : ja_kV y_Sheet_copyFrom M_Sheet_copyFrom 1 5 := ⟨⟨ja_m1 3 rfl rfl, ja_m2 189 rfl rfl, by decide +kernel, by decide +kernel, by decide +kernel⟩, ja_m2 187 rfl rfl, ja_m2 188 rfl rfl, _, rfl, rfl⟩
theorem kv_Sheet_declaresConflict : ja_kV y_Sheet_declaresConflict M_Sheet_declaresConflict 2 5 := ⟨⟨ja_m1 3 rfl rfl, ja_m2 181 rfl rfl, by decide +kernel, by decide +kernel, by decide +kernel⟩, ja_m2 179 rfl rfl, ja_m2 180 rfl rfl, _, rfl, rfl⟩
theorem kv_Sheet_dropRule : ja_kV y_Sheet_dropRule M_Sheet_dropRule 1 5 := ⟨⟨ja_m1 3 rfl rfl, ja_m3 87 rfl rfl, by decide +kernel, by decide +kernel, by decide +kernel⟩, ja_m3 85 rfl rfl, ja_m3 86 rfl rfl, _, rfl, rfl⟩
theorem kv_Sheet_firstBlocker : ja_kV y_Sheet_firstBlocker M_Sheet_firstBlocker 2 5 := ⟨⟨ja_m1 3 rfl rfl, ja_m3 45 rfl rfl, by decide +kernel, by decide +kernel, by decide +kernel⟩, ja_m3 43 rfl rfl, ja_m3 44 rfl rfl, _, rfl, rfl⟩
theorem kv_Sheet_hasConflict : ja_kV y_Sheet_hasConflict M_Sheet_hasConflict 1 5 := ⟨⟨ja_m1 3 rfl rfl, ja_m4 23 rfl rfl, by decide +kernel, by decide +kernel, by decide +kernel⟩, ja_m4 21 rfl rfl, ja_m4 22 rfl rfl, _, rfl, rfl⟩
theorem kv_Sheet_hasLever : ja_kV y_Sheet_hasLever M_Sheet_hasLever 1 5 := ⟨⟨ja_m1 3 rfl rfl, ja_m3 41 rfl rfl, by decide +kernel, by decide +kernel, by decide +kernel⟩, ja_m3 39 rfl rfl, ja_m3 40 rfl rfl, _, rfl, rfl⟩
theorem kv_Sheet_hasRoute : ja_kV y_Sheet_hasRoute M_Sheet_hasRoute 1 5 := ⟨⟨ja_m1 3 rfl rfl, ja_m3 25 rfl rfl, by decide +kernel, by decide +kernel, by decide +kernel⟩, ja_m3 23 rfl rfl, ja_m3 24 rfl rfl, _, rfl, rfl⟩
theorem kv_Sheet_hasRule : ja_kV y_Sheet_hasRule M_Sheet_hasRule 1 5 := ⟨⟨ja_m1 3 rfl rfl, ja_m2 230 rfl rfl, by decide +kernel, by decide +kernel, by decide +kernel⟩, ja_m2 228 rfl rfl, ja_m2 229 rfl rfl, _, rfl, rfl⟩
theorem kv_Sheet_hasState : ja_kV y_Sheet_hasState M_Sheet_hasState 1 5 := ⟨⟨ja_m1 3 rfl rfl, ja_m3 104 rfl rfl, by decide +kernel, by decide +kernel, by decide +kernel⟩, ja_m3 102 rfl rfl, ja_m3 103 rfl rfl, _, rfl, rfl⟩
theorem kv_Sheet_insertConflict : ja_kV y_Sheet_insertConflict M_Sheet_insertConflict 2 5 := ⟨⟨ja_m1 3 rfl rfl, ja_m2 185 rfl rfl, by decide +kernel, by decide +kernel, by decide +kernel⟩, ja_m2 183 rfl rfl, ja_m2 184 rfl rfl, _, rfl, rfl⟩
theorem kv_Sheet_insertRoute : ja_kV y_Sheet_insertRoute M_Sheet_insertRoute 1 5 := ⟨⟨ja_m1 3 rfl rfl, ja_m2 172 rfl rfl, by decide +kernel, by decide +kernel, by decide +kernel⟩, ja_m2 170 rfl rfl, ja_m2 171 rfl rfl, _, rfl, rfl⟩
theorem kv_Sheet_insertRule : ja_kV y_Sheet_insertRule M_Sheet_insertRule 2 5 := ⟨⟨ja_m1 3 rfl rfl, ja_m2 160 rfl rfl, by decide +kernel, by decide +kernel, by decide +kernel⟩, ja_m2 158 rfl rfl, ja_m2 159 rfl rfl, _, rfl, rfl⟩
theorem kv_Sheet_largestJointSet : ja_kV y_Sheet_largestJointSet M_Sheet_largestJointSet 1 5 := ⟨⟨ja_m1 3 rfl rfl, ja_m4 68 rfl rfl, by decide +kernel, by decide +kernel, by decide +kernel⟩, ja_m4 66 rfl rfl, ja_m4 67 rfl rfl, _, rfl, rfl⟩
theorem kv_Sheet_leversOfRoute : ja_kV y_Sheet_leversOfRoute M_Sheet_leversOfRoute 1 5 := ⟨⟨ja_m1 3 rfl rfl, ja_m4 10 rfl rfl, by decide +kernel, by decide +kernel, by decide +kernel⟩, ja_m4 8 rfl rfl, ja_m4 9 rfl rfl, _, rfl, rfl⟩
theorem kv_Sheet_mergeLever : ja_kV y_Sheet_mergeLever M_Sheet_mergeLever 2 5 := ⟨⟨ja_m1 3 rfl rfl, ja_m4 147 rfl rfl, by decide +kernel, by decide +kernel, by decide +kernel⟩, ja_m4 145 rfl rfl, ja_m4 146 rfl rfl, _, rfl, rfl⟩
theorem kv_Sheet_movableLevers : ja_kV y_Sheet_movableLevers M_Sheet_movableLevers 0 5 := ⟨⟨ja_m1 3 rfl rfl, ja_m3 162 rfl rfl, by decide +kernel, by decide +kernel, by decide +kernel⟩, ja_m3 160 rfl rfl, ja_m3 161 rfl rfl, _, rfl, rfl⟩
theorem kv_Sheet_openConflicts : ja_kV y_Sheet_openConflicts M_Sheet_openConflicts 1 5 := ⟨⟨ja_m1 3 rfl rfl, ja_m4 6 rfl rfl, by decide +kernel, by decide +kernel, by decide +kernel⟩, ja_m4 4 rfl rfl, ja_m4 5 rfl rfl, _, rfl, rfl⟩
theorem kv_Sheet_permits : ja_kV y_Sheet_permits M_Sheet_permits 1 5 := ⟨⟨ja_m1 3 rfl rfl, ja_m3 112 rfl rfl, by decide +kernel, by decide +kernel, by decide +kernel⟩, ja_m3 110 rfl rfl, ja_m3 111 rfl rfl, _, rfl, rfl⟩
theorem kv_Sheet_routesSetIn : ja_kV y_Sheet_routesSetIn M_Sheet_routesSetIn 1 5 := ⟨⟨ja_m1 3 rfl rfl, ja_m4 76 rfl rfl, by decide +kernel, by decide +kernel, by decide +kernel⟩, ja_m4 74 rfl rfl, ja_m4 75 rfl rfl, _, rfl, rfl⟩
theorem kv_Sheet_settableRoutes : ja_kV y_Sheet_settableRoutes M_Sheet_settableRoutes 1 5 := ⟨⟨ja_m1 3 rfl rfl, ja_m4 27 rfl rfl, by decide +kernel, by decide +kernel, by decide +kernel⟩, ja_m4 25 rfl rfl, ja_m4 26 rfl rfl, _, rfl, rfl⟩
theorem kv_Sheet_wipe : ja_kV y_Sheet_wipe M_Sheet_wipe 1 5 := ⟨⟨ja_m1 3 rfl rfl, ja_m2 126 rfl rfl, by decide +kernel, by decide +kernel, by decide +kernel⟩, ja_m2 124 rfl rfl, ja_m2 125 rfl rfl, _, rfl, rfl⟩
theorem ci_Integer_265 : Cond.constant "java/lang/Intege\x72" 265 1431655765 ∈ ja_tb := ja_m4 80 rfl rfl
theorem ci_Integer_266 : Cond.constant "java/lang/Intege\x72" 266 858993459 ∈ ja_tb := ja_m4 81 rfl rfl
theorem ci_Integer_267 : Cond.constant "java/lang/Intege\x72" 267 252645135 ∈ ja_tb := ja_m4 82 rfl rfl
theorem cl_Locking_70 : Cond.constantLong "InterlockingFrame$Locking" 70 (-1) ∈ ja_tb := ja_m3 154 rfl rfl
theorem cl_Model_122 : Cond.constantLong "InterlockingFrameModel" 122 48 ∈ ja_tb := ja_m5 124 rfl rfl
theorem cl_Model_124 : Cond.constantLong "InterlockingFrameModel" 124 57 ∈ ja_tb := ja_m5 125 rfl rfl
theorem cl_Model_239 : Cond.constantLong "InterlockingFrameModel" 239 2 ∈ ja_tb := ja_m6 9 rfl rfl
theorem cl_Model_89 : Cond.constantLong "InterlockingFrameModel" 89 97 ∈ ja_tb := ja_m5 103 rfl rfl
theorem cl_Model_91 : Cond.constantLong "InterlockingFrameModel" 91 122 ∈ ja_tb := ja_m5 104 rfl rfl
theorem kc_History_37 : ja_kC "InterlockingFrame$History" 37 := ⟨ja_m3 70 rfl rfl, ja_m2 163 rfl rfl, ja_m2 162 rfl rfl, ja_m1 17 rfl rfl⟩
theorem kc_Locking_18 : ja_kC "InterlockingFrame$Locking" 18 := ⟨ja_m3 200 rfl rfl, ja_m2 163 rfl rfl, ja_m2 162 rfl rfl, ja_m1 17 rfl rfl⟩
theorem kc_Sheet_40 : ja_kC "InterlockingFrame$Sheet" 40 := ⟨ja_m2 161 rfl rfl, ja_m2 163 rfl rfl, ja_m2 162 rfl rfl, ja_m1 17 rfl rfl⟩
theorem fd_History_15 : ja_fd "InterlockingFrame$History" 15 0 1 false false .int := ⟨R_History, F_History, 7, t_History, rfl, i_History, by decide, ja_m1 117 rfl rfl, rfl, rfl, t_History_ok, n_History, rfl, rfl⟩
theorem fd_History_18 : ja_fd "InterlockingFrame$History" 18 0 2 false false .int := ⟨R_History, F_History, 7, t_History, rfl, i_History, by decide, ja_m1 119 rfl rfl, rfl, rfl, t_History_ok, n_History, rfl, rfl⟩
theorem fd_History_21 : ja_fd "InterlockingFrame$History" 21 0 3 false false .int := ⟨R_History, F_History, 7, t_History, rfl, i_History, by decide, ja_m1 121 rfl rfl, rfl, rfl, t_History_ok, n_History, rfl, rfl⟩
theorem fd_History_24 : ja_fd "InterlockingFrame$History" 24 0 4 true true (.array .int) := ⟨R_History, F_History, 7, t_History, rfl, i_History, by decide, ja_m1 123 rfl rfl, rfl, rfl, t_History_ok, n_History, rfl, rfl⟩
theorem fd_History_28 : ja_fd "InterlockingFrame$History" 28 0 5 true true (.array .int) := ⟨R_History, F_History, 7, t_History, rfl, i_History, by decide, ja_m1 124 rfl rfl, rfl, rfl, t_History_ok, n_History, rfl, rfl⟩
theorem fd_History_31 : ja_fd "InterlockingFrame$History" 31 0 6 true true (.array .int) := ⟨R_History, F_History, 7, t_History, rfl, i_History, by decide, ja_m1 125 rfl rfl, rfl, rfl, t_History_ok, n_History, rfl, rfl⟩
theorem fd_History_9 : ja_fd "InterlockingFrame$History" 9 0 0 false false .int := ⟨R_History, F_History, 7, t_History, rfl, i_History, by decide, ja_m1 115 rfl rfl, rfl, rfl, t_History_ok, n_History, rfl, rfl⟩
theorem fd_LockPlanner_12 : ja_fd "InterlockingFrame$LockPlanne\x72" 12 1 1 true true (.object "InterlockingFrame$Locking") := ⟨R_LockPlanner, F_LockPlanner, 4, t_LockPlanner, rfl, i_LockPlanner, by decide, ja_m1 193 rfl rfl, rfl, rfl, t_LockPlanner_ok, n_LockPlanner, rfl, rfl⟩
theorem fd_LockPlanner_18 : ja_fd "InterlockingFrame$LockPlanne\x72" 18 1 2 true true (.array .int) := ⟨R_LockPlanner, F_LockPlanner, 4, t_LockPlanner, rfl, i_LockPlanner, by decide, ja_m1 194 rfl rfl, rfl, rfl, t_LockPlanner_ok, n_LockPlanner, rfl, rfl⟩
theorem fd_LockPlanner_22 : ja_fd "InterlockingFrame$LockPlanne\x72" 22 1 0 false false .boolean := ⟨R_LockPlanner, F_LockPlanner, 4, t_LockPlanner, rfl, i_LockPlanner, by decide, ja_m1 196 rfl rfl, rfl, rfl, t_LockPlanner_ok, n_LockPlanner, rfl, rfl⟩
theorem fd_LockPlanner_26 : ja_fd "InterlockingFrame$LockPlanne\x72" 26 1 3 false false .int := ⟨R_LockPlanner, F_LockPlanner, 4, t_LockPlanner, rfl, i_LockPlanner, by decide, ja_m1 197 rfl rfl, rfl, rfl, t_LockPlanner_ok, n_LockPlanner, rfl, rfl⟩
theorem fd_LockPlanner_36 : ja_fd "InterlockingFrame$LockPlanne\x72" 36 5 6 true true (.array .int) := ⟨R_Sheet, F_Sheet, 9, t_Sheet, rfl, i_Sheet, by decide, ja_m1 83 rfl rfl, rfl, rfl, t_Sheet_ok, n_Sheet, rfl, rfl⟩
theorem fd_LockPlanner_43 : ja_fd "InterlockingFrame$LockPlanne\x72" 43 5 7 true true (.array .int) := ⟨R_Sheet, F_Sheet, 9, t_Sheet, rfl, i_Sheet, by decide, ja_m1 85 rfl rfl, rfl, rfl, t_Sheet_ok, n_Sheet, rfl, rfl⟩
theorem fd_LockPlanner_57 : ja_fd "InterlockingFrame$LockPlanne\x72" 57 4 0 true true (.object "InterlockingFrame$Locking") := ⟨R_Search, F_Search, 5, t_Search, rfl, i_Search, by decide, ja_m1 166 rfl rfl, rfl, rfl, t_Search_ok, n_Search, rfl, rfl⟩
theorem fd_LockPlanner_82 : ja_fd "InterlockingFrame$LockPlanne\x72" 82 5 8 false false .int := ⟨R_Sheet, F_Sheet, 9, t_Sheet, rfl, i_Sheet, by decide, ja_m1 88 rfl rfl, rfl, rfl, t_Sheet_ok, n_Sheet, rfl, rfl⟩
theorem fd_Locking_11 : ja_fd "InterlockingFrame$Locking" 11 2 0 true true (.array .long) := ⟨R_Locking, F_Locking, 2, t_Locking, rfl, i_Locking, by decide, ja_m1 153 rfl rfl, rfl, rfl, t_Locking_ok, n_Locking, rfl, rfl⟩
theorem fd_Locking_15 : ja_fd "InterlockingFrame$Locking" 15 2 1 true true (.array .long) := ⟨R_Locking, F_Locking, 2, t_Locking, rfl, i_Locking, by decide, ja_m1 154 rfl rfl, rfl, rfl, t_Locking_ok, n_Locking, rfl, rfl⟩
theorem fd_Locking_30 : ja_fd "InterlockingFrame$Locking" 30 5 3 false false .int := ⟨R_Sheet, F_Sheet, 9, t_Sheet, rfl, i_Sheet, by decide, ja_m1 74 rfl rfl, rfl, rfl, t_Sheet_ok, n_Sheet, rfl, rfl⟩
theorem fd_Locking_36 : ja_fd "InterlockingFrame$Locking" 36 5 2 true true (.array .int) := ⟨R_Sheet, F_Sheet, 9, t_Sheet, rfl, i_Sheet, by decide, ja_m1 71 rfl rfl, rfl, rfl, t_Sheet_ok, n_Sheet, rfl, rfl⟩
theorem fd_Merger_12 : ja_fd "InterlockingFrame$Merge\x72" 12 3 1 true true (.object "InterlockingFrame$Sheet") := ⟨R_Merger, F_Merger, 4, t_Merger, rfl, i_Merger, by decide, ja_m1 215 rfl rfl, rfl, rfl, t_Merger_ok, n_Merger, rfl, rfl⟩
theorem fd_Merger_18 : ja_fd "InterlockingFrame$Merge\x72" 18 3 2 true true (.object "InterlockingFrame$Sheet") := ⟨R_Merger, F_Merger, 4, t_Merger, rfl, i_Merger, by decide, ja_m1 216 rfl rfl, rfl, rfl, t_Merger_ok, n_Merger, rfl, rfl⟩
theorem fd_Merger_21 : ja_fd "InterlockingFrame$Merge\x72" 21 3 3 false false .int := ⟨R_Merger, F_Merger, 4, t_Merger, rfl, i_Merger, by decide, ja_m1 217 rfl rfl, rfl, rfl, t_Merger_ok, n_Merger, rfl, rfl⟩
theorem fd_Merger_25 : ja_fd "InterlockingFrame$Merge\x72" 25 3 0 false false .int := ⟨R_Merger, F_Merger, 4, t_Merger, rfl, i_Merger, by decide, ja_m1 218 rfl rfl, rfl, rfl, t_Merger_ok, n_Merger, rfl, rfl⟩
theorem fd_Merger_43 : ja_fd "InterlockingFrame$Merge\x72" 43 4 0 true true (.object "InterlockingFrame$Locking") := ⟨R_Search, F_Search, 5, t_Search, rfl, i_Search, by decide, ja_m1 165 rfl rfl, rfl, rfl, t_Search_ok, n_Search, rfl, rfl⟩
theorem fd_Merger_65 : ja_fd "InterlockingFrame$Merge\x72" 65 5 0 false false .int := ⟨R_Sheet, F_Sheet, 9, t_Sheet, rfl, i_Sheet, by decide, ja_m1 66 rfl rfl, rfl, rfl, t_Sheet_ok, n_Sheet, rfl, rfl⟩
theorem fd_Search_12 : ja_fd "InterlockingFrame$Search" 12 4 0 true true (.object "InterlockingFrame$Locking") := ⟨R_Search, F_Search, 5, t_Search, rfl, i_Search, by decide, ja_m1 164 rfl rfl, rfl, rfl, t_Search_ok, n_Search, rfl, rfl⟩
theorem fd_Search_18 : ja_fd "InterlockingFrame$Search" 18 4 1 false false .int := ⟨R_Search, F_Search, 5, t_Search, rfl, i_Search, by decide, ja_m1 168 rfl rfl, rfl, rfl, t_Search_ok, n_Search, rfl, rfl⟩
theorem fd_Search_22 : ja_fd "InterlockingFrame$Search" 22 4 2 false false .int := ⟨R_Search, F_Search, 5, t_Search, rfl, i_Search, by decide, ja_m1 171 rfl rfl, rfl, rfl, t_Search_ok, n_Search, rfl, rfl⟩
theorem fd_Search_25 : ja_fd "InterlockingFrame$Search" 25 4 3 true true (.array .int) := ⟨R_Search, F_Search, 5, t_Search, rfl, i_Search, by decide, ja_m1 172 rfl rfl, rfl, rfl, t_Search_ok, n_Search, rfl, rfl⟩
theorem fd_Search_29 : ja_fd "InterlockingFrame$Search" 29 4 4 true true (.array .int) := ⟨R_Search, F_Search, 5, t_Search, rfl, i_Search, by decide, ja_m1 173 rfl rfl, rfl, rfl, t_Search_ok, n_Search, rfl, rfl⟩
theorem fd_Sheet_15 : ja_fd "InterlockingFrame$Sheet" 15 5 1 false false .int := ⟨R_Sheet, F_Sheet, 9, t_Sheet, rfl, i_Sheet, by decide, ja_m1 69 rfl rfl, rfl, rfl, t_Sheet_ok, n_Sheet, rfl, rfl⟩
theorem fd_Sheet_18 : ja_fd "InterlockingFrame$Sheet" 18 5 2 true true (.array .int) := ⟨R_Sheet, F_Sheet, 9, t_Sheet, rfl, i_Sheet, by decide, ja_m1 70 rfl rfl, rfl, rfl, t_Sheet_ok, n_Sheet, rfl, rfl⟩
theorem fd_Sheet_22 : ja_fd "InterlockingFrame$Sheet" 22 5 3 false false .int := ⟨R_Sheet, F_Sheet, 9, t_Sheet, rfl, i_Sheet, by decide, ja_m1 73 rfl rfl, rfl, rfl, t_Sheet_ok, n_Sheet, rfl, rfl⟩
theorem fd_Sheet_25 : ja_fd "InterlockingFrame$Sheet" 25 5 4 true true (.array .int) := ⟨R_Sheet, F_Sheet, 9, t_Sheet, rfl, i_Sheet, by decide, ja_m1 77 rfl rfl, rfl, rfl, t_Sheet_ok, n_Sheet, rfl, rfl⟩
theorem fd_Sheet_28 : ja_fd "InterlockingFrame$Sheet" 28 5 5 false false .int := ⟨R_Sheet, F_Sheet, 9, t_Sheet, rfl, i_Sheet, by decide, ja_m1 79 rfl rfl, rfl, rfl, t_Sheet_ok, n_Sheet, rfl, rfl⟩
theorem fd_Sheet_31 : ja_fd "InterlockingFrame$Sheet" 31 5 6 true true (.array .int) := ⟨R_Sheet, F_Sheet, 9, t_Sheet, rfl, i_Sheet, by decide, ja_m1 82 rfl rfl, rfl, rfl, t_Sheet_ok, n_Sheet, rfl, rfl⟩
theorem fd_Sheet_34 : ja_fd "InterlockingFrame$Sheet" 34 5 7 true true (.array .int) := ⟨R_Sheet, F_Sheet, 9, t_Sheet, rfl, i_Sheet, by decide, ja_m1 84 rfl rfl, rfl, rfl, t_Sheet_ok, n_Sheet, rfl, rfl⟩
theorem fd_Sheet_37 : ja_fd "InterlockingFrame$Sheet" 37 5 8 false false .int := ⟨R_Sheet, F_Sheet, 9, t_Sheet, rfl, i_Sheet, by decide, ja_m1 86 rfl rfl, rfl, rfl, t_Sheet_ok, n_Sheet, rfl, rfl⟩
theorem fd_Sheet_79 : ja_fd "InterlockingFrame$Sheet" 79 4 1 false false .int := ⟨R_Search, F_Search, 5, t_Search, rfl, i_Search, by decide, ja_m1 170 rfl rfl, rfl, rfl, t_Search_ok, n_Search, rfl, rfl⟩
theorem fd_Sheet_9 : ja_fd "InterlockingFrame$Sheet" 9 5 0 false false .int := ⟨R_Sheet, F_Sheet, 9, t_Sheet, rfl, i_Sheet, by decide, ja_m1 65 rfl rfl, rfl, rfl, t_Sheet_ok, n_Sheet, rfl, rfl⟩
theorem fd_SheetParser_101 : ja_fd "InterlockingFrame$SheetParse\x72" 101 5 0 false false .int := ⟨R_Sheet, F_Sheet, 9, t_Sheet, rfl, i_Sheet, by decide, ja_m1 67 rfl rfl, rfl, rfl, t_Sheet_ok, n_Sheet, rfl, rfl⟩
theorem fd_SheetParser_103 : ja_fd "InterlockingFrame$SheetParse\x72" 103 5 3 false false .int := ⟨R_Sheet, F_Sheet, 9, t_Sheet, rfl, i_Sheet, by decide, ja_m1 76 rfl rfl, rfl, rfl, t_Sheet_ok, n_Sheet, rfl, rfl⟩
theorem fd_SheetParser_15 : ja_fd "InterlockingFrame$SheetParse\x72" 15 6 0 false false .int := ⟨R_SheetParser, F_SheetParser, 7, t_SheetParser, rfl, i_SheetParser, by decide, ja_m1 35 rfl rfl, rfl, rfl, t_SheetParser_ok, n_SheetParser, rfl, rfl⟩
theorem fd_SheetParser_18 : ja_fd "InterlockingFrame$SheetParse\x72" 18 6 1 false false .int := ⟨R_SheetParser, F_SheetParser, 7, t_SheetParser, rfl, i_SheetParser, by decide, ja_m1 37 rfl rfl, rfl, rfl, t_SheetParser_ok, n_SheetParser, rfl, rfl⟩
theorem fd_SheetParser_21 : ja_fd "InterlockingFrame$SheetParse\x72" 21 6 2 true true (.array .int) := ⟨R_SheetParser, F_SheetParser, 7, t_SheetParser, rfl, i_SheetParser, by decide, ja_m1 39 rfl rfl, rfl, rfl, t_SheetParser_ok, n_SheetParser, rfl, rfl⟩
theorem fd_SheetParser_25 : ja_fd "InterlockingFrame$SheetParse\x72" 25 6 3 false false .int := ⟨R_SheetParser, F_SheetParser, 7, t_SheetParser, rfl, i_SheetParser, by decide, ja_m1 40 rfl rfl, rfl, rfl, t_SheetParser_ok, n_SheetParser, rfl, rfl⟩
theorem fd_SheetParser_28 : ja_fd "InterlockingFrame$SheetParse\x72" 28 6 4 false false .int := ⟨R_SheetParser, F_SheetParser, 7, t_SheetParser, rfl, i_SheetParser, by decide, ja_m1 41 rfl rfl, rfl, rfl, t_SheetParser_ok, n_SheetParser, rfl, rfl⟩
theorem fd_SheetParser_31 : ja_fd "InterlockingFrame$SheetParse\x72" 31 6 5 false false .int := ⟨R_SheetParser, F_SheetParser, 7, t_SheetParser, rfl, i_SheetParser, by decide, ja_m1 42 rfl rfl, rfl, rfl, t_SheetParser_ok, n_SheetParser, rfl, rfl⟩
theorem fd_SheetParser_87 : ja_fd "InterlockingFrame$SheetParse\x72" 87 5 5 false false .int := ⟨R_Sheet, F_Sheet, 9, t_Sheet, rfl, i_Sheet, by decide, ja_m1 81 rfl rfl, rfl, rfl, t_Sheet_ok, n_Sheet, rfl, rfl⟩
theorem fd_SheetParser_9 : ja_fd "InterlockingFrame$SheetParse\x72" 9 6 6 false false .int := ⟨R_SheetParser, F_SheetParser, 7, t_SheetParser, rfl, i_SheetParser, by decide, ja_m1 33 rfl rfl, rfl, rfl, t_SheetParser_ok, n_SheetParser, rfl, rfl⟩
theorem fd_SheetParser_95 : ja_fd "InterlockingFrame$SheetParse\x72" 95 5 8 false false .int := ⟨R_Sheet, F_Sheet, 9, t_Sheet, rfl, i_Sheet, by decide, ja_m1 89 rfl rfl, rfl, rfl, t_Sheet_ok, n_Sheet, rfl, rfl⟩
theorem fd_Frame_10 : ja_fd "InterlockingFrame" 10 7 2 true true (.object "InterlockingFrame$SheetParse\x72") := ⟨R_Frame, F_Frame, 12, t_Frame, rfl, i_Frame, by decide, ja_m1 228 rfl rfl, rfl, rfl, t_Frame_ok, n_Frame, rfl, rfl⟩
theorem fd_Frame_101 : ja_fd "InterlockingFrame" 101 5 8 false false .int := ⟨R_Sheet, F_Sheet, 9, t_Sheet, rfl, i_Sheet, by decide, ja_m1 87 rfl rfl, rfl, rfl, t_Sheet_ok, n_Sheet, rfl, rfl⟩
theorem fd_Frame_104 : ja_fd "InterlockingFrame" 104 6 1 false false .int := ⟨R_SheetParser, F_SheetParser, 7, t_SheetParser, rfl, i_SheetParser, by decide, ja_m1 38 rfl rfl, rfl, rfl, t_SheetParser_ok, n_SheetParser, rfl, rfl⟩
theorem fd_Frame_107 : ja_fd "InterlockingFrame" 107 5 0 false false .int := ⟨R_Sheet, F_Sheet, 9, t_Sheet, rfl, i_Sheet, by decide, ja_m1 68 rfl rfl, rfl, rfl, t_Sheet_ok, n_Sheet, rfl, rfl⟩
theorem fd_Frame_114 : ja_fd "InterlockingFrame" 114 5 2 true true (.array .int) := ⟨R_Sheet, F_Sheet, 9, t_Sheet, rfl, i_Sheet, by decide, ja_m1 72 rfl rfl, rfl, rfl, t_Sheet_ok, n_Sheet, rfl, rfl⟩
theorem fd_Frame_140 : ja_fd "InterlockingFrame" 140 5 4 true true (.array .int) := ⟨R_Sheet, F_Sheet, 9, t_Sheet, rfl, i_Sheet, by decide, ja_m1 78 rfl rfl, rfl, rfl, t_Sheet_ok, n_Sheet, rfl, rfl⟩
theorem fd_Frame_172 : ja_fd "InterlockingFrame" 172 0 1 false false .int := ⟨R_History, F_History, 7, t_History, rfl, i_History, by decide, ja_m1 118 rfl rfl, rfl, rfl, t_History_ok, n_History, rfl, rfl⟩
theorem fd_Frame_175 : ja_fd "InterlockingFrame" 175 0 2 false false .int := ⟨R_History, F_History, 7, t_History, rfl, i_History, by decide, ja_m1 120 rfl rfl, rfl, rfl, t_History_ok, n_History, rfl, rfl⟩
theorem fd_Frame_178 : ja_fd "InterlockingFrame" 178 0 0 false false .int := ⟨R_History, F_History, 7, t_History, rfl, i_History, by decide, ja_m1 116 rfl rfl, rfl, rfl, t_History_ok, n_History, rfl, rfl⟩
theorem fd_Frame_181 : ja_fd "InterlockingFrame" 181 0 3 false false .int := ⟨R_History, F_History, 7, t_History, rfl, i_History, by decide, ja_m1 122 rfl rfl, rfl, rfl, t_History_ok, n_History, rfl, rfl⟩
theorem fd_Frame_19 : ja_fd "InterlockingFrame" 19 7 3 true true (.object "InterlockingFrame$Sheet") := ⟨R_Frame, F_Frame, 12, t_Frame, rfl, i_Frame, by decide, ja_m1 229 rfl rfl, rfl, rfl, t_Frame_ok, n_Frame, rfl, rfl⟩
theorem fd_Frame_194 : ja_fd "InterlockingFrame" 194 4 1 false false .int := ⟨R_Search, F_Search, 5, t_Search, rfl, i_Search, by decide, ja_m1 169 rfl rfl, rfl, rfl, t_Search_ok, n_Search, rfl, rfl⟩
theorem fd_Frame_227 : ja_fd "InterlockingFrame" 227 4 0 true true (.object "InterlockingFrame$Locking") := ⟨R_Search, F_Search, 5, t_Search, rfl, i_Search, by decide, ja_m1 167 rfl rfl, rfl, rfl, t_Search_ok, n_Search, rfl, rfl⟩
theorem fd_Frame_23 : ja_fd "InterlockingFrame" 23 7 4 true true (.object "InterlockingFrame$Sheet") := ⟨R_Frame, F_Frame, 12, t_Frame, rfl, i_Frame, by decide, ja_m1 230 rfl rfl, rfl, rfl, t_Frame_ok, n_Frame, rfl, rfl⟩
theorem fd_Frame_239 : ja_fd "InterlockingFrame" 239 1 2 true true (.array .int) := ⟨R_LockPlanner, F_LockPlanner, 4, t_LockPlanner, rfl, i_LockPlanner, by decide, ja_m1 195 rfl rfl, rfl, rfl, t_LockPlanner_ok, n_LockPlanner, rfl, rfl⟩
theorem fd_Frame_29 : ja_fd "InterlockingFrame" 29 7 5 true true (.object "InterlockingFrame$History") := ⟨R_Frame, F_Frame, 12, t_Frame, rfl, i_Frame, by decide, ja_m1 231 rfl rfl, rfl, rfl, t_Frame_ok, n_Frame, rfl, rfl⟩
theorem fd_Frame_33 : ja_fd "InterlockingFrame" 33 7 6 false false .int := ⟨R_Frame, F_Frame, 12, t_Frame, rfl, i_Frame, by decide, ja_m1 232 rfl rfl, rfl, rfl, t_Frame_ok, n_Frame, rfl, rfl⟩
theorem fd_Frame_40 : ja_fd "InterlockingFrame" 40 7 7 true true (.object "InterlockingFrame$Search") := ⟨R_Frame, F_Frame, 12, t_Frame, rfl, i_Frame, by decide, ja_m1 233 rfl rfl, rfl, rfl, t_Frame_ok, n_Frame, rfl, rfl⟩
theorem fd_Frame_44 : ja_fd "InterlockingFrame" 44 7 8 false false .boolean := ⟨R_Frame, F_Frame, 12, t_Frame, rfl, i_Frame, by decide, ja_m1 234 rfl rfl, rfl, rfl, t_Frame_ok, n_Frame, rfl, rfl⟩
theorem fd_Frame_48 : ja_fd "InterlockingFrame" 48 7 9 true true (.object "InterlockingFrame$Search") := ⟨R_Frame, F_Frame, 12, t_Frame, rfl, i_Frame, by decide, ja_m1 235 rfl rfl, rfl, rfl, t_Frame_ok, n_Frame, rfl, rfl⟩
theorem fd_Frame_54 : ja_fd "InterlockingFrame" 54 7 10 true true (.object "InterlockingFrame$LockPlanne\x72") := ⟨R_Frame, F_Frame, 12, t_Frame, rfl, i_Frame, by decide, ja_m1 236 rfl rfl, rfl, rfl, t_Frame_ok, n_Frame, rfl, rfl⟩
theorem fd_Frame_61 : ja_fd "InterlockingFrame" 61 7 0 true true (.object "InterlockingFrame$Merge\x72") := ⟨R_Frame, F_Frame, 12, t_Frame, rfl, i_Frame, by decide, ja_m1 237 rfl rfl, rfl, rfl, t_Frame_ok, n_Frame, rfl, rfl⟩
theorem fd_Frame_65 : ja_fd "InterlockingFrame" 65 7 11 false false .boolean := ⟨R_Frame, F_Frame, 12, t_Frame, rfl, i_Frame, by decide, ja_m1 238 rfl rfl, rfl, rfl, t_Frame_ok, n_Frame, rfl, rfl⟩
theorem fd_Frame_68 : ja_fd "InterlockingFrame" 68 7 1 false false .int := ⟨R_Frame, F_Frame, 12, t_Frame, rfl, i_Frame, by decide, ja_m1 239 rfl rfl, rfl, rfl, t_Frame_ok, n_Frame, rfl, rfl⟩
theorem fd_Frame_71 : ja_fd "InterlockingFrame" 71 6 6 false false .int := ⟨R_SheetParser, F_SheetParser, 7, t_SheetParser, rfl, i_SheetParser, by decide, ja_m1 34 rfl rfl, rfl, rfl, t_SheetParser_ok, n_SheetParser, rfl, rfl⟩
theorem fd_Frame_82 : ja_fd "InterlockingFrame" 82 6 0 false false .int := ⟨R_SheetParser, F_SheetParser, 7, t_SheetParser, rfl, i_SheetParser, by decide, ja_m1 36 rfl rfl, rfl, rfl, t_SheetParser_ok, n_SheetParser, rfl, rfl⟩
theorem fd_Frame_95 : ja_fd "InterlockingFrame" 95 5 3 false false .int := ⟨R_Sheet, F_Sheet, 9, t_Sheet, rfl, i_Sheet, by decide, ja_m1 75 rfl rfl, rfl, rfl, t_Sheet_ok, n_Sheet, rfl, rfl⟩
theorem fd_Frame_98 : ja_fd "InterlockingFrame" 98 5 5 false false .int := ⟨R_Sheet, F_Sheet, 9, t_Sheet, rfl, i_Sheet, by decide, ja_m1 80 rfl rfl, rfl, rfl, t_Sheet_ok, n_Sheet, rfl, rfl⟩
theorem fd_Model_1 : ja_fd "InterlockingFrameModel" 1 8 9 false false .int := ⟨R_Model, F_Model, 42, t_Model, rfl, i_Model, by decide, ja_m4 198 rfl rfl, rfl, rfl, t_Model_ok, n_Model, rfl, rfl⟩
theorem fd_Model_13 : ja_fd "InterlockingFrameModel" 13 8 0 false false .int := ⟨R_Model, F_Model, 42, t_Model, rfl, i_Model, by decide, ja_m4 189 rfl rfl, rfl, rfl, t_Model_ok, n_Model, rfl, rfl⟩
theorem fd_Model_130 : ja_fd "InterlockingFrameModel" 130 8 16 false false .int := ⟨R_Model, F_Model, 42, t_Model, rfl, i_Model, by decide, ja_m4 205 rfl rfl, rfl, rfl, t_Model_ok, n_Model, rfl, rfl⟩
theorem fd_Model_133 : ja_fd "InterlockingFrameModel" 133 8 17 false false .int := ⟨R_Model, F_Model, 42, t_Model, rfl, i_Model, by decide, ja_m4 206 rfl rfl, rfl, rfl, t_Model_ok, n_Model, rfl, rfl⟩
theorem fd_Model_143 : ja_fd "InterlockingFrameModel" 143 8 18 false false .int := ⟨R_Model, F_Model, 42, t_Model, rfl, i_Model, by decide, ja_m4 207 rfl rfl, rfl, rfl, t_Model_ok, n_Model, rfl, rfl⟩
theorem fd_Model_149 : ja_fd "InterlockingFrameModel" 149 8 19 false false .int := ⟨R_Model, F_Model, 42, t_Model, rfl, i_Model, by decide, ja_m4 208 rfl rfl, rfl, rfl, t_Model_ok, n_Model, rfl, rfl⟩
theorem fd_Model_156 : ja_fd "InterlockingFrameModel" 156 8 20 false false .int := ⟨R_Model, F_Model, 42, t_Model, rfl, i_Model, by decide, ja_m4 209 rfl rfl, rfl, rfl, t_Model_ok, n_Model, rfl, rfl⟩
theorem fd_Model_16 : ja_fd "InterlockingFrameModel" 16 8 3 true true (.array .int) := ⟨R_Model, F_Model, 42, t_Model, rfl, i_Model, by decide, ja_m4 192 rfl rfl, rfl, rfl, t_Model_ok, n_Model, rfl, rfl⟩
theorem fd_Model_180 : ja_fd "InterlockingFrameModel" 180 8 1 false false .int := ⟨R_Model, F_Model, 42, t_Model, rfl, i_Model, by decide, ja_m4 190 rfl rfl, rfl, rfl, t_Model_ok, n_Model, rfl, rfl⟩
theorem fd_Model_183 : ja_fd "InterlockingFrameModel" 183 8 2 false false .int := ⟨R_Model, F_Model, 42, t_Model, rfl, i_Model, by decide, ja_m4 191 rfl rfl, rfl, rfl, t_Model_ok, n_Model, rfl, rfl⟩
theorem fd_Model_186 : ja_fd "InterlockingFrameModel" 186 8 8 false false .int := ⟨R_Model, F_Model, 42, t_Model, rfl, i_Model, by decide, ja_m4 197 rfl rfl, rfl, rfl, t_Model_ok, n_Model, rfl, rfl⟩
theorem fd_Model_196 : ja_fd "InterlockingFrameModel" 196 8 27 false false .int := ⟨R_Model, F_Model, 42, t_Model, rfl, i_Model, by decide, ja_m4 216 rfl rfl, rfl, rfl, t_Model_ok, n_Model, rfl, rfl⟩
theorem fd_Model_199 : ja_fd "InterlockingFrameModel" 199 8 28 false false .int := ⟨R_Model, F_Model, 42, t_Model, rfl, i_Model, by decide, ja_m4 217 rfl rfl, rfl, rfl, t_Model_ok, n_Model, rfl, rfl⟩
theorem fd_Model_20 : ja_fd "InterlockingFrameModel" 20 8 4 true true (.array .int) := ⟨R_Model, F_Model, 42, t_Model, rfl, i_Model, by decide, ja_m4 193 rfl rfl, rfl, rfl, t_Model_ok, n_Model, rfl, rfl⟩
theorem fd_Model_202 : ja_fd "InterlockingFrameModel" 202 8 29 false false .int := ⟨R_Model, F_Model, 42, t_Model, rfl, i_Model, by decide, ja_m4 218 rfl rfl, rfl, rfl, t_Model_ok, n_Model, rfl, rfl⟩
theorem fd_Model_218 : ja_fd "InterlockingFrameModel" 218 8 32 false false .int := ⟨R_Model, F_Model, 42, t_Model, rfl, i_Model, by decide, ja_m4 221 rfl rfl, rfl, rfl, t_Model_ok, n_Model, rfl, rfl⟩
theorem fd_Model_23 : ja_fd "InterlockingFrameModel" 23 8 5 true true (.array .int) := ⟨R_Model, F_Model, 42, t_Model, rfl, i_Model, by decide, ja_m4 194 rfl rfl, rfl, rfl, t_Model_ok, n_Model, rfl, rfl⟩
theorem fd_Model_26 : ja_fd "InterlockingFrameModel" 26 8 6 true true (.array .int) := ⟨R_Model, F_Model, 42, t_Model, rfl, i_Model, by decide, ja_m4 195 rfl rfl, rfl, rfl, t_Model_ok, n_Model, rfl, rfl⟩
theorem fd_Model_274 : ja_fd "InterlockingFrameModel" 274 8 34 false false .int := ⟨R_Model, F_Model, 42, t_Model, rfl, i_Model, by decide, ja_m4 223 rfl rfl, rfl, rfl, t_Model_ok, n_Model, rfl, rfl⟩
theorem fd_Model_29 : ja_fd "InterlockingFrameModel" 29 8 7 true true (.array .int) := ⟨R_Model, F_Model, 42, t_Model, rfl, i_Model, by decide, ja_m4 196 rfl rfl, rfl, rfl, t_Model_ok, n_Model, rfl, rfl⟩
theorem fd_Model_292 : ja_fd "InterlockingFrameModel" 292 8 36 false false .int := ⟨R_Model, F_Model, 42, t_Model, rfl, i_Model, by decide, ja_m4 225 rfl rfl, rfl, rfl, t_Model_ok, n_Model, rfl, rfl⟩
theorem fd_Model_305 : ja_fd "InterlockingFrameModel" 305 8 37 false false .int := ⟨R_Model, F_Model, 42, t_Model, rfl, i_Model, by decide, ja_m4 226 rfl rfl, rfl, rfl, t_Model_ok, n_Model, rfl, rfl⟩
theorem fd_Model_308 : ja_fd "InterlockingFrameModel" 308 8 38 false false .int := ⟨R_Model, F_Model, 42, t_Model, rfl, i_Model, by decide, ja_m4 227 rfl rfl, rfl, rfl, t_Model_ok, n_Model, rfl, rfl⟩
theorem fd_Model_32 : ja_fd "InterlockingFrameModel" 32 8 10 true true (.array .int) := ⟨R_Model, F_Model, 42, t_Model, rfl, i_Model, by decide, ja_m4 199 rfl rfl, rfl, rfl, t_Model_ok, n_Model, rfl, rfl⟩
theorem fd_Model_326 : ja_fd "InterlockingFrameModel" 326 8 41 false false .int := ⟨R_Model, F_Model, 42, t_Model, rfl, i_Model, by decide, ja_m4 230 rfl rfl, rfl, rfl, t_Model_ok, n_Model, rfl, rfl⟩
theorem fd_Model_35 : ja_fd "InterlockingFrameModel" 35 8 15 false false .int := ⟨R_Model, F_Model, 42, t_Model, rfl, i_Model, by decide, ja_m4 204 rfl rfl, rfl, rfl, t_Model_ok, n_Model, rfl, rfl⟩
theorem fd_Model_38 : ja_fd "InterlockingFrameModel" 38 8 21 true true (.array .int) := ⟨R_Model, F_Model, 42, t_Model, rfl, i_Model, by decide, ja_m4 210 rfl rfl, rfl, rfl, t_Model_ok, n_Model, rfl, rfl⟩
theorem fd_Model_41 : ja_fd "InterlockingFrameModel" 41 8 22 true true (.array .int) := ⟨R_Model, F_Model, 42, t_Model, rfl, i_Model, by decide, ja_m4 211 rfl rfl, rfl, rfl, t_Model_ok, n_Model, rfl, rfl⟩
theorem fd_Model_44 : ja_fd "InterlockingFrameModel" 44 8 23 true true (.array .int) := ⟨R_Model, F_Model, 42, t_Model, rfl, i_Model, by decide, ja_m4 212 rfl rfl, rfl, rfl, t_Model_ok, n_Model, rfl, rfl⟩
theorem fd_Model_47 : ja_fd "InterlockingFrameModel" 47 8 24 true true (.array .int) := ⟨R_Model, F_Model, 42, t_Model, rfl, i_Model, by decide, ja_m4 213 rfl rfl, rfl, rfl, t_Model_ok, n_Model, rfl, rfl⟩
theorem fd_Model_50 : ja_fd "InterlockingFrameModel" 50 8 25 true true (.array .int) := ⟨R_Model, F_Model, 42, t_Model, rfl, i_Model, by decide, ja_m4 214 rfl rfl, rfl, rfl, t_Model_ok, n_Model, rfl, rfl⟩
theorem fd_Model_53 : ja_fd "InterlockingFrameModel" 53 8 26 true true (.array .int) := ⟨R_Model, F_Model, 42, t_Model, rfl, i_Model, by decide, ja_m4 215 rfl rfl, rfl, rfl, t_Model_ok, n_Model, rfl, rfl⟩
theorem fd_Model_56 : ja_fd "InterlockingFrameModel" 56 8 30 true true (.array .int) := ⟨R_Model, F_Model, 42, t_Model, rfl, i_Model, by decide, ja_m4 219 rfl rfl, rfl, rfl, t_Model_ok, n_Model, rfl, rfl⟩
theorem fd_Model_59 : ja_fd "InterlockingFrameModel" 59 8 31 true true (.array .int) := ⟨R_Model, F_Model, 42, t_Model, rfl, i_Model, by decide, ja_m4 220 rfl rfl, rfl, rfl, t_Model_ok, n_Model, rfl, rfl⟩
theorem fd_Model_62 : ja_fd "InterlockingFrameModel" 62 8 33 true true (.array .int) := ⟨R_Model, F_Model, 42, t_Model, rfl, i_Model, by decide, ja_m4 222 rfl rfl, rfl, rfl, t_Model_ok, n_Model, rfl, rfl⟩
theorem fd_Model_65 : ja_fd "InterlockingFrameModel" 65 8 35 true true (.array .int) := ⟨R_Model, F_Model, 42, t_Model, rfl, i_Model, by decide, ja_m4 224 rfl rfl, rfl, rfl, t_Model_ok, n_Model, rfl, rfl⟩
theorem fd_Model_68 : ja_fd "InterlockingFrameModel" 68 8 39 true true (.array .int) := ⟨R_Model, F_Model, 42, t_Model, rfl, i_Model, by decide, ja_m4 228 rfl rfl, rfl, rfl, t_Model_ok, n_Model, rfl, rfl⟩
theorem fd_Model_71 : ja_fd "InterlockingFrameModel" 71 8 40 true true (.array .int) := ⟨R_Model, F_Model, 42, t_Model, rfl, i_Model, by decide, ja_m4 229 rfl rfl, rfl, rfl, t_Model_ok, n_Model, rfl, rfl⟩
theorem fd_Model_77 : ja_fd "InterlockingFrameModel" 77 8 11 false false .int := ⟨R_Model, F_Model, 42, t_Model, rfl, i_Model, by decide, ja_m4 200 rfl rfl, rfl, rfl, t_Model_ok, n_Model, rfl, rfl⟩
theorem fd_Model_80 : ja_fd "InterlockingFrameModel" 80 8 13 false false .int := ⟨R_Model, F_Model, 42, t_Model, rfl, i_Model, by decide, ja_m4 202 rfl rfl, rfl, rfl, t_Model_ok, n_Model, rfl, rfl⟩
theorem fd_Model_83 : ja_fd "InterlockingFrameModel" 83 8 12 false false .int := ⟨R_Model, F_Model, 42, t_Model, rfl, i_Model, by decide, ja_m4 201 rfl rfl, rfl, rfl, t_Model_ok, n_Model, rfl, rfl⟩
theorem fd_Model_86 : ja_fd "InterlockingFrameModel" 86 8 14 false false .int := ⟨R_Model, F_Model, 42, t_Model, rfl, i_Model, by decide, ja_m4 203 rfl rfl, rfl, rfl, t_Model_ok, n_Model, rfl, rfl⟩
theorem lk_History_34 : Cond.methodLink "InterlockingFrame$History" 34 y_History_forgetOldest ∈ ja_tb := ja_m3 66 rfl rfl
theorem lk_LockPlanner_30 : Cond.methodLink "InterlockingFrame$LockPlanne\x72" 30 y_Sheet_hasConflict ∈ ja_tb := ja_m4 32 rfl rfl
theorem lk_LockPlanner_39 : Cond.methodLink "InterlockingFrame$LockPlanne\x72" 39 y_Sheet_leversOfRoute ∈ ja_tb := ja_m4 33 rfl rfl
theorem lk_LockPlanner_46 : Cond.methodLink "InterlockingFrame$LockPlanne\x72" 46 y_LockPlanner_lockOf ∈ ja_tb := ja_m4 34 rfl rfl
theorem lk_LockPlanner_50 : Cond.methodLink "InterlockingFrame$LockPlanne\x72" 50 y_LockPlanner_keepsRoutes ∈ ja_tb := ja_m4 38 rfl rfl
theorem lk_LockPlanner_62 : Cond.methodLink "InterlockingFrame$LockPlanne\x72" 62 y_Locking_copyFrom ∈ ja_tb := ja_m4 41 rfl rfl
theorem lk_LockPlanner_66 : Cond.methodLink "InterlockingFrame$LockPlanne\x72" 66 y_Locking_enforce ∈ ja_tb := ja_m4 42 rfl rfl
theorem lk_LockPlanner_70 : Cond.methodLink "InterlockingFrame$LockPlanne\x72" 70 y_Sheet_movableLevers ∈ ja_tb := ja_m4 43 rfl rfl
theorem lk_LockPlanner_74 : Cond.methodLink "InterlockingFrame$LockPlanne\x72" 74 y_Search_explore ∈ ja_tb := ja_m4 44 rfl rfl
theorem lk_LockPlanner_78 : Cond.methodLink "InterlockingFrame$LockPlanne\x72" 78 y_Sheet_settableRoutes ∈ ja_tb := ja_m4 45 rfl rfl
theorem lk_LockPlanner_85 : Cond.methodLink "InterlockingFrame$LockPlanne\x72" 85 y_Sheet_openConflicts ∈ ja_tb := ja_m4 55 rfl rfl
theorem lk_LockPlanner_88 : Cond.methodLink "InterlockingFrame$LockPlanne\x72" 88 y_LockPlanner_propose ∈ ja_tb := ja_m4 56 rfl rfl
theorem lk_LockPlanner_92 : Cond.methodLink "InterlockingFrame$LockPlanne\x72" 92 y_Rule_pack ∈ ja_tb := ja_m4 37 rfl rfl
theorem lk_Locking_24 : Cond.methodLink "InterlockingFrame$Locking" 24 y_Arrays_fillJ ∈ ja_tb := ja_m3 138 rfl rfl
theorem lk_Locking_40 : Cond.methodLink "InterlockingFrame$Locking" 40 y_Locking_enforce ∈ ja_tb := ja_m3 141 rfl rfl
theorem lk_Locking_44 : Cond.methodLink "InterlockingFrame$Locking" 44 y_Rule_reversedLevers ∈ ja_tb := ja_m3 145 rfl rfl
theorem lk_Locking_50 : Cond.methodLink "InterlockingFrame$Locking" 50 y_Rule_normalLevers ∈ ja_tb := ja_m3 146 rfl rfl
theorem lk_Locking_53 : Cond.methodLink "InterlockingFrame$Locking" 53 y_Rule_kind ∈ ja_tb := ja_m3 147 rfl rfl
theorem lk_Locking_56 : Cond.methodLink "InterlockingFrame$Locking" 56 y_Locking_addStates ∈ ja_tb := ja_m3 148 rfl rfl
theorem lk_Locking_60 : Cond.methodLink "InterlockingFrame$Locking" 60 y_Rule_leverA ∈ ja_tb := ja_m3 157 rfl rfl
theorem lk_Locking_63 : Cond.methodLink "InterlockingFrame$Locking" 63 y_Rule_leverB ∈ ja_tb := ja_m3 158 rfl rfl
theorem lk_Locking_66 : Cond.methodLink "InterlockingFrame$Locking" 66 y_Locking_statesInWord ∈ ja_tb := ja_m3 151 rfl rfl
theorem lk_Merger_28 : Cond.methodLink "InterlockingFrame$Merge\x72" 28 y_Sheet_copyFrom ∈ ja_tb := ja_m4 133 rfl rfl
theorem lk_Merger_32 : Cond.methodLink "InterlockingFrame$Merge\x72" 32 y_Sheet_settableRoutes ∈ ja_tb := ja_m4 134 rfl rfl
theorem lk_Merger_36 : Cond.methodLink "InterlockingFrame$Merge\x72" 36 y_Sheet_openConflicts ∈ ja_tb := ja_m4 135 rfl rfl
theorem lk_Merger_39 : Cond.methodLink "InterlockingFrame$Merge\x72" 39 y_Sheet_mergeLever ∈ ja_tb := ja_m4 144 rfl rfl
theorem lk_Merger_49 : Cond.methodLink "InterlockingFrame$Merge\x72" 49 y_Sheet_allRules ∈ ja_tb := ja_m4 152 rfl rfl
theorem lk_Merger_53 : Cond.methodLink "InterlockingFrame$Merge\x72" 53 y_Locking_enforceAll ∈ ja_tb := ja_m4 153 rfl rfl
theorem lk_Merger_59 : Cond.methodLink "InterlockingFrame$Merge\x72" 59 y_Sheet_movableLevers ∈ ja_tb := ja_m4 154 rfl rfl
theorem lk_Merger_62 : Cond.methodLink "InterlockingFrame$Merge\x72" 62 y_Search_explore ∈ ja_tb := ja_m4 155 rfl rfl
theorem lk_Merger_68 : Cond.methodLink "InterlockingFrame$Merge\x72" 68 y_Sheet_canMove ∈ ja_tb := ja_m4 172 rfl rfl
theorem lk_Merger_72 : Cond.methodLink "InterlockingFrame$Merge\x72" 72 y_Merger_attempt ∈ ja_tb := ja_m4 177 rfl rfl
theorem lk_Merger_76 : Cond.methodLink "InterlockingFrame$Merge\x72" 76 y_Merger_keepsRoutesAndConflicts ∈ ja_tb := ja_m4 178 rfl rfl
theorem lk_Rule_15 : Cond.methodLink "InterlockingFrame$Rule" 15 y_Rule_leverA ∈ ja_tb := ja_m3 57 rfl rfl
theorem lk_Rule_18 : Cond.methodLink "InterlockingFrame$Rule" 18 y_Rule_leverB ∈ ja_tb := ja_m3 50 rfl rfl
theorem lk_Rule_21 : Cond.methodLink "InterlockingFrame$Rule" 21 y_Rule_condition ∈ ja_tb := ja_m3 58 rfl rfl
theorem lk_Rule_24 : Cond.methodLink "InterlockingFrame$Rule" 24 y_Rule_reversedLevers ∈ ja_tb := ja_m3 54 rfl rfl
theorem lk_Rule_27 : Cond.methodLink "InterlockingFrame$Rule" 27 y_Rule_normalLevers ∈ ja_tb := ja_m3 59 rfl rfl
theorem lk_Rule_30 : Cond.methodLink "InterlockingFrame$Rule" 30 y_Rule_bites ∈ ja_tb := ja_m3 51 rfl rfl
theorem lk_Rule_34 : Cond.methodLink "InterlockingFrame$Rule" 34 y_Rule_pack ∈ ja_tb := ja_m4 151 rfl rfl
theorem lk_Rule_9 : Cond.methodLink "InterlockingFrame$Rule" 9 y_Rule_kind ∈ ja_tb := ja_m3 49 rfl rfl
theorem lk_Search_38 : Cond.methodLink "InterlockingFrame$Search" 38 y_Search_forget ∈ ja_tb := ja_m3 167 rfl rfl
theorem lk_Search_41 : Cond.methodLink "InterlockingFrame$Search" 41 y_Search_enter ∈ ja_tb := ja_m3 171 rfl rfl
theorem lk_Search_45 : Cond.methodLink "InterlockingFrame$Search" 45 y_Search_reached ∈ ja_tb := ja_m3 175 rfl rfl
theorem lk_Search_49 : Cond.methodLink "InterlockingFrame$Search" 49 y_Locking_allows ∈ ja_tb := ja_m3 179 rfl rfl
theorem lk_Search_53 : Cond.methodLink "InterlockingFrame$Search" 53 y_Search_movesTo ∈ ja_tb := ja_m3 183 rfl rfl
theorem lk_Search_57 : Cond.methodLink "InterlockingFrame$Search" 57 y_Search_leverFreed ∈ ja_tb := ja_m4 103 rfl rfl
theorem lk_Sheet_46 : Cond.methodLink "InterlockingFrame$Sheet" 46 y_Sheet_allLevers ∈ ja_tb := ja_m3 105 rfl rfl
theorem lk_Sheet_50 : Cond.methodLink "InterlockingFrame$Sheet" 50 y_Sheet_movableLevers ∈ ja_tb := ja_m4 176 rfl rfl
theorem lk_Sheet_53 : Cond.methodLink "InterlockingFrame$Sheet" 53 y_Sheet_hasRule ∈ ja_tb := ja_m3 88 rfl rfl
theorem lk_Sheet_57 : Cond.methodLink "InterlockingFrame$Sheet" 57 y_Sheet_hasRoute ∈ ja_tb := ja_m4 11 rfl rfl
theorem lk_Sheet_60 : Cond.methodLink "InterlockingFrame$Sheet" 60 y_Rule_forbids ∈ ja_tb := ja_m3 113 rfl rfl
theorem lk_Sheet_66 : Cond.methodLink "InterlockingFrame$Sheet" 66 y_Rule_blocks ∈ ja_tb := ja_m3 46 rfl rfl
theorem lk_Sheet_70 : Cond.methodLink "InterlockingFrame$Sheet" 70 y_Search_someStateSets ∈ ja_tb := ja_m4 12 rfl rfl
theorem lk_Sheet_75 : Cond.methodLink "InterlockingFrame$Sheet" 75 y_Sheet_leversOfRoute ∈ ja_tb := ja_m4 7 rfl rfl
theorem lk_Sheet_82 : Cond.methodLink "InterlockingFrame$Sheet" 82 y_Search_stateAt ∈ ja_tb := ja_m4 69 rfl rfl
theorem lk_Sheet_85 : Cond.methodLink "InterlockingFrame$Sheet" 85 y_Sheet_routesSetIn ∈ ja_tb := ja_m4 73 rfl rfl
theorem lk_Sheet_88 : Cond.methodLink "InterlockingFrame$Sheet" 88 y_Integer_bitCount ∈ ja_tb := ja_m4 77 rfl rfl
theorem lk_Sheet_93 : Cond.methodLink "InterlockingFrame$Sheet" 93 y_Rule_withLeverReplaced ∈ ja_tb := ja_m4 148 rfl rfl
theorem lk_SheetParser_106 : Cond.methodLink "InterlockingFrame$SheetParse\x72" 106 y_SheetParser_verbHere ∈ ja_tb := ja_m2 140 rfl rfl
theorem lk_SheetParser_112 : Cond.methodLink "InterlockingFrame$SheetParse\x72" 112 y_SheetParser_readCondition ∈ ja_tb := ja_m2 148 rfl rfl
theorem lk_SheetParser_116 : Cond.methodLink "InterlockingFrame$SheetParse\x72" 116 y_Rule_pack ∈ ja_tb := ja_m2 154 rfl rfl
theorem lk_SheetParser_122 : Cond.methodLink "InterlockingFrame$SheetParse\x72" 122 y_Sheet_insertRule ∈ ja_tb := ja_m2 157 rfl rfl
theorem lk_SheetParser_136 : Cond.methodLink "InterlockingFrame$SheetParse\x72" 136 y_Sheet_insertRoute ∈ ja_tb := ja_m2 169 rfl rfl
theorem lk_SheetParser_139 : Cond.methodLink "InterlockingFrame$SheetParse\x72" 139 y_Sheet_declaresConflict ∈ ja_tb := ja_m2 178 rfl rfl
theorem lk_SheetParser_143 : Cond.methodLink "InterlockingFrame$SheetParse\x72" 143 y_Sheet_insertConflict ∈ ja_tb := ja_m2 182 rfl rfl
theorem lk_SheetParser_146 : Cond.methodLink "InterlockingFrame$SheetParse\x72" 146 y_String_length ∈ ja_tb := ja_m2 67 rfl rfl
theorem lk_SheetParser_150 : Cond.methodLink "InterlockingFrame$SheetParse\x72" 150 y_String_charAt ∈ ja_tb := ja_m2 77 rfl rfl
theorem lk_SheetParser_154 : Cond.methodLink "InterlockingFrame$SheetParse\x72" 154 y_SheetParser_isLetter ∈ ja_tb := ja_m2 52 rfl rfl
theorem lk_SheetParser_40 : Cond.methodLink "InterlockingFrame$SheetParse\x72" 40 y_SheetParser_step ∈ ja_tb := ja_m2 44 rfl rfl
theorem lk_SheetParser_43 : Cond.methodLink "InterlockingFrame$SheetParse\x72" 43 y_SheetParser_readHead ∈ ja_tb := ja_m2 58 rfl rfl
theorem lk_SheetParser_47 : Cond.methodLink "InterlockingFrame$SheetParse\x72" 47 y_SheetParser_readStatement ∈ ja_tb := ja_m2 132 rfl rfl
theorem lk_SheetParser_50 : Cond.methodLink "InterlockingFrame$SheetParse\x72" 50 y_SheetParser_readSemicolon ∈ ja_tb := ja_m2 127 rfl rfl
theorem lk_SheetParser_56 : Cond.methodLink "InterlockingFrame$SheetParse\x72" 56 y_SheetParser_atText ∈ ja_tb := ja_m2 63 rfl rfl
theorem lk_SheetParser_60 : Cond.methodLink "InterlockingFrame$SheetParse\x72" 60 y_SheetParser_fail ∈ ja_tb := ja_m2 115 rfl rfl
theorem lk_SheetParser_64 : Cond.methodLink "InterlockingFrame$SheetParse\x72" 64 y_SheetParser_numberHere ∈ ja_tb := ja_m2 119 rfl rfl
theorem lk_SheetParser_67 : Cond.methodLink "InterlockingFrame$SheetParse\x72" 67 y_Sheet_wipe ∈ ja_tb := ja_m2 123 rfl rfl
theorem lk_SheetParser_75 : Cond.methodLink "InterlockingFrame$SheetParse\x72" 75 y_SheetParser_byteAt ∈ ja_tb := ja_m2 48 rfl rfl
theorem lk_SheetParser_79 : Cond.methodLink "InterlockingFrame$SheetParse\x72" 79 y_SheetParser_isDigit ∈ ja_tb := ja_m2 55 rfl rfl
theorem lk_SheetParser_82 : Cond.methodLink "InterlockingFrame$SheetParse\x72" 82 y_SheetParser_readRule ∈ ja_tb := ja_m2 136 rfl rfl
theorem lk_SheetParser_90 : Cond.methodLink "InterlockingFrame$SheetParse\x72" 90 y_SheetParser_readRoute ∈ ja_tb := ja_m2 165 rfl rfl
theorem lk_SheetParser_98 : Cond.methodLink "InterlockingFrame$SheetParse\x72" 98 y_SheetParser_readConflict ∈ ja_tb := ja_m2 174 rfl rfl
theorem lk_Frame_110 : Cond.methodLink "InterlockingFrame" 110 y_Sheet_hasRule ∈ ja_tb := ja_m2 227 rfl rfl
theorem lk_Frame_118 : Cond.methodLink "InterlockingFrame" 118 y_Rule_kind ∈ ja_tb := ja_m2 231 rfl rfl
theorem lk_Frame_124 : Cond.methodLink "InterlockingFrame" 124 y_Rule_leverA ∈ ja_tb := ja_m2 238 rfl rfl
theorem lk_Frame_127 : Cond.methodLink "InterlockingFrame" 127 y_Rule_leverB ∈ ja_tb := ja_m3 1 rfl rfl
theorem lk_Frame_130 : Cond.methodLink "InterlockingFrame" 130 y_Frame_leverPair ∈ ja_tb := ja_m3 4 rfl rfl
theorem lk_Frame_134 : Cond.methodLink "InterlockingFrame" 134 y_Rule_condition ∈ ja_tb := ja_m3 11 rfl rfl
theorem lk_Frame_137 : Cond.methodLink "InterlockingFrame" 137 y_Sheet_hasRoute ∈ ja_tb := ja_m3 22 rfl rfl
theorem lk_Frame_143 : Cond.methodLink "InterlockingFrame" 143 y_Sheet_hasLever ∈ ja_tb := ja_m3 38 rfl rfl
theorem lk_Frame_146 : Cond.methodLink "InterlockingFrame" 146 y_Sheet_firstBlocker ∈ ja_tb := ja_m3 42 rfl rfl
theorem lk_Frame_149 : Cond.methodLink "InterlockingFrame" 149 y_History_note ∈ ja_tb := ja_m3 62 rfl rfl
theorem lk_Frame_153 : Cond.methodLink "InterlockingFrame" 153 y_Rule_pack ∈ ja_tb := ja_m3 75 rfl rfl
theorem lk_Frame_157 : Cond.methodLink "InterlockingFrame" 157 y_Rule_forbids ∈ ja_tb := ja_m3 76 rfl rfl
theorem lk_Frame_161 : Cond.methodLink "InterlockingFrame" 161 y_Sheet_insertRule ∈ ja_tb := ja_m3 79 rfl rfl
theorem lk_Frame_165 : Cond.methodLink "InterlockingFrame" 165 y_Sheet_dropRule ∈ ja_tb := ja_m3 84 rfl rfl
theorem lk_Frame_168 : Cond.methodLink "InterlockingFrame" 168 y_History_takeLatest ∈ ja_tb := ja_m3 93 rfl rfl
theorem lk_Frame_184 : Cond.methodLink "InterlockingFrame" 184 y_Sheet_hasState ∈ ja_tb := ja_m3 101 rfl rfl
theorem lk_Frame_187 : Cond.methodLink "InterlockingFrame" 187 y_Sheet_permits ∈ ja_tb := ja_m3 109 rfl rfl
theorem lk_Frame_190 : Cond.methodLink "InterlockingFrame" 190 y_Frame_searchedHome ∈ ja_tb := ja_m3 126 rfl rfl
theorem lk_Frame_195 : Cond.methodLink "InterlockingFrame" 195 y_Frame_searchBetween ∈ ja_tb := ja_m3 191 rfl rfl
theorem lk_Frame_198 : Cond.methodLink "InterlockingFrame" 198 y_Search_movesTo ∈ ja_tb := ja_m3 201 rfl rfl
theorem lk_Frame_201 : Cond.methodLink "InterlockingFrame" 201 y_Search_leverOnWay ∈ ja_tb := ja_m3 206 rfl rfl
theorem lk_Frame_204 : Cond.methodLink "InterlockingFrame" 204 y_Search_leversSeenWith ∈ ja_tb := ja_m3 214 rfl rfl
theorem lk_Frame_207 : Cond.methodLink "InterlockingFrame" 207 y_Sheet_allLevers ∈ ja_tb := ja_m3 218 rfl rfl
theorem lk_Frame_211 : Cond.methodLink "InterlockingFrame" 211 y_Search_nearestSetting ∈ ja_tb := ja_m3 223 rfl rfl
theorem lk_Frame_214 : Cond.methodLink "InterlockingFrame" 214 y_Search_countSetting ∈ ja_tb := ja_m3 235 rfl rfl
theorem lk_Frame_217 : Cond.methodLink "InterlockingFrame" 217 y_Sheet_openConflicts ∈ ja_tb := ja_m4 3 rfl rfl
theorem lk_Frame_221 : Cond.methodLink "InterlockingFrame" 221 y_Sheet_hasConflict ∈ ja_tb := ja_m4 20 rfl rfl
theorem lk_Frame_224 : Cond.methodLink "InterlockingFrame" 224 y_Sheet_settableRoutes ∈ ja_tb := ja_m4 24 rfl rfl
theorem lk_Frame_231 : Cond.methodLink "InterlockingFrame" 231 y_LockPlanner_propose ∈ ja_tb := ja_m4 28 rfl rfl
theorem lk_Frame_235 : Cond.methodLink "InterlockingFrame" 235 y_LockPlanner_complete ∈ ja_tb := ja_m4 51 rfl rfl
theorem lk_Frame_242 : Cond.methodLink "InterlockingFrame" 242 y_Sheet_largestJointSet ∈ ja_tb := ja_m4 65 rfl rfl
theorem lk_Frame_245 : Cond.methodLink "InterlockingFrame" 245 y_Search_farthest ∈ ja_tb := ja_m4 87 rfl rfl
theorem lk_Frame_248 : Cond.methodLink "InterlockingFrame" 248 y_Frame_placeFreedWithout ∈ ja_tb := ja_m4 95 rfl rfl
theorem lk_Frame_251 : Cond.methodLink "InterlockingFrame" 251 y_Sheet_allRules ∈ ja_tb := ja_m3 130 rfl rfl
theorem lk_Frame_254 : Cond.methodLink "InterlockingFrame" 254 y_Locking_enforceAll ∈ ja_tb := ja_m3 134 rfl rfl
theorem lk_Frame_260 : Cond.methodLink "InterlockingFrame" 260 y_Search_firstPlaceFreed ∈ ja_tb := ja_m4 99 rfl rfl
theorem lk_Frame_264 : Cond.methodLink "InterlockingFrame" 264 y_Search_stateAt ∈ ja_tb := ja_m4 115 rfl rfl
theorem lk_Frame_267 : Cond.methodLink "InterlockingFrame" 267 y_Search_leverFreed ∈ ja_tb := ja_m4 120 rfl rfl
theorem lk_Frame_271 : Cond.methodLink "InterlockingFrame" 271 y_Frame_countMerged ∈ ja_tb := ja_m4 125 rfl rfl
theorem lk_Frame_274 : Cond.methodLink "InterlockingFrame" 274 y_Merger_keepsRoutesAndConflicts ∈ ja_tb := ja_m4 156 rfl rfl
theorem lk_Frame_278 : Cond.methodLink "InterlockingFrame" 278 y_Merger_begin ∈ ja_tb := ja_m4 129 rfl rfl
theorem lk_Frame_282 : Cond.methodLink "InterlockingFrame" 282 y_Merger_mergeFirstPair ∈ ja_tb := ja_m4 168 rfl rfl
theorem lk_Frame_285 : Cond.methodLink "InterlockingFrame" 285 y_LockPlanner_forget ∈ ja_tb := ja_m2 198 rfl rfl
theorem lk_Frame_288 : Cond.methodLink "InterlockingFrame" 288 y_Sheet_movableLevers ∈ ja_tb := ja_m3 159 rfl rfl
theorem lk_Frame_291 : Cond.methodLink "InterlockingFrame" 291 y_Search_explore ∈ ja_tb := ja_m3 163 rfl rfl
theorem lk_Frame_294 : Cond.methodLink "InterlockingFrame" 294 y_Search_reached ∈ ja_tb := ja_m3 195 rfl rfl
theorem lk_Frame_297 : Cond.methodLink "InterlockingFrame" 297 y_Locking_copyFrom ∈ ja_tb := ja_m3 196 rfl rfl
theorem lk_Frame_308 : Cond.methodLink "InterlockingFrame" 308 y_Merger_attempt ∈ ja_tb := ja_m4 140 rfl rfl
theorem lk_Frame_74 : Cond.methodLink "InterlockingFrame" 74 y_SheetParser_append ∈ ja_tb := ja_m2 29 rfl rfl
theorem lk_Frame_78 : Cond.methodLink "InterlockingFrame" 78 y_SheetParser_read ∈ ja_tb := ja_m2 37 rfl rfl
theorem lk_Frame_85 : Cond.methodLink "InterlockingFrame" 85 y_Sheet_copyFrom ∈ ja_tb := ja_m2 186 rfl rfl
theorem lk_Frame_89 : Cond.methodLink "InterlockingFrame" 89 y_History_clear ∈ ja_tb := ja_m2 190 rfl rfl
theorem lk_Frame_92 : Cond.methodLink "InterlockingFrame" 92 y_Frame_forgetFindings ∈ ja_tb := ja_m2 194 rfl rfl
theorem lk_Model_101 : Cond.methodLink "InterlockingFrameModel" 101 y_Model_lettersHere ∈ ja_tb := ja_m5 105 rfl rfl
theorem lk_Model_106 : Cond.methodLink "InterlockingFrameModel" 106 y_String_length ∈ ja_tb := ja_m5 110 rfl rfl
theorem lk_Model_111 : Cond.methodLink "InterlockingFrameModel" 111 y_String_charAt ∈ ja_tb := ja_m5 111 rfl rfl
theorem lk_Model_115 : Cond.methodLink "InterlockingFrameModel" 115 y_Model_wordHere ∈ ja_tb := ja_m5 95 rfl rfl
theorem lk_Model_118 : Cond.methodLink "InterlockingFrameModel" 118 y_Model_fails ∈ ja_tb := ja_m5 112 rfl rfl
theorem lk_Model_126 : Cond.methodLink "InterlockingFrameModel" 126 y_Model_isDigitHere ∈ ja_tb := ja_m5 120 rfl rfl
theorem lk_Model_136 : Cond.methodLink "InterlockingFrameModel" 136 y_Model_number ∈ ja_tb := ja_m5 116 rfl rfl
theorem lk_Model_140 : Cond.methodLink "InterlockingFrameModel" 140 y_Model_lever ∈ ja_tb := ja_m5 138 rfl rfl
theorem lk_Model_146 : Cond.methodLink "InterlockingFrameModel" 146 y_Model_passes ∈ ja_tb := ja_m5 91 rfl rfl
theorem lk_Model_152 : Cond.methodLink "InterlockingFrameModel" 152 y_Model_has ∈ ja_tb := ja_m5 146 rfl rfl
theorem lk_Model_159 : Cond.methodLink "InterlockingFrameModel" 159 y_Model_isDeclared ∈ ja_tb := ja_m5 153 rfl rfl
theorem lk_Model_162 : Cond.methodLink "InterlockingFrameModel" 162 y_Model_ruleLine ∈ ja_tb := ja_m5 134 rfl rfl
theorem lk_Model_165 : Cond.methodLink "InterlockingFrameModel" 165 y_Model_routeLine ∈ ja_tb := ja_m5 142 rfl rfl
theorem lk_Model_168 : Cond.methodLink "InterlockingFrameModel" 168 y_Model_conflictLine ∈ ja_tb := ja_m5 149 rfl rfl
theorem lk_Model_171 : Cond.methodLink "InterlockingFrameModel" 171 y_Model_semicolon ∈ ja_tb := ja_m5 126 rfl rfl
theorem lk_Model_174 : Cond.methodLink "InterlockingFrameModel" 174 y_Model_line ∈ ja_tb := ja_m5 130 rfl rfl
theorem lk_Model_177 : Cond.methodLink "InterlockingFrameModel" 177 y_Model_parses ∈ ja_tb := ja_m5 87 rfl rfl
theorem lk_Model_189 : Cond.methodLink "InterlockingFrameModel" 189 y_Model_isRule ∈ ja_tb := ja_m5 181 rfl rfl
theorem lk_Model_193 : Cond.methodLink "InterlockingFrameModel" 193 y_Model_isRoute ∈ ja_tb := ja_m5 201 rfl rfl
theorem lk_Model_205 : Cond.methodLink "InterlockingFrameModel" 205 y_Model_isActive ∈ ja_tb := ja_m5 237 rfl rfl
theorem lk_Model_208 : Cond.methodLink "InterlockingFrameModel" 208 y_Model_forbids ∈ ja_tb := ja_m5 233 rfl rfl
theorem lk_Model_211 : Cond.methodLink "InterlockingFrameModel" 211 y_Model_blocks ∈ ja_tb := ja_m5 229 rfl rfl
theorem lk_Model_215 : Cond.methodLink "InterlockingFrameModel" 215 y_Model_blockOf ∈ ja_tb := ja_m5 225 rfl rfl
theorem lk_Model_221 : Cond.methodLink "InterlockingFrameModel" 221 y_Model_isFree ∈ ja_tb := ja_m5 221 rfl rfl
theorem lk_Model_224 : Cond.methodLink "InterlockingFrameModel" 224 y_Model_reaches ∈ ja_tb := ja_m6 50 rfl rfl
theorem lk_Model_227 : Cond.methodLink "InterlockingFrameModel" 227 y_Model_clears ∈ ja_tb := ja_m6 46 rfl rfl
theorem lk_Model_230 : Cond.methodLink "InterlockingFrameModel" 230 y_Model_spreads ∈ ja_tb := ja_m6 54 rfl rfl
theorem lk_Model_233 : Cond.methodLink "InterlockingFrameModel" 233 y_Model_isLever ∈ ja_tb := ja_m5 217 rfl rfl
theorem lk_Model_236 : Cond.methodLink "InterlockingFrameModel" 236 y_Model_remembers ∈ ja_tb := ja_m6 1 rfl rfl
theorem lk_Model_241 : Cond.methodLink "InterlockingFrameModel" 241 y_Model_puts ∈ ja_tb := ja_m6 10 rfl rfl
theorem lk_Model_245 : Cond.methodLink "InterlockingFrameModel" 245 y_Model_isState ∈ ja_tb := ja_m6 26 rfl rfl
theorem lk_Model_248 : Cond.methodLink "InterlockingFrameModel" 248 y_Model_laysFrom ∈ ja_tb := ja_m6 42 rfl rfl
theorem lk_Model_252 : Cond.methodLink "InterlockingFrameModel" 252 y_Model_areReachable ∈ ja_tb := ja_m6 62 rfl rfl
theorem lk_Model_255 : Cond.methodLink "InterlockingFrameModel" 255 y_Model_sets ∈ ja_tb := ja_m6 82 rfl rfl
theorem lk_Model_258 : Cond.methodLink "InterlockingFrameModel" 258 y_Model_settingOf ∈ ja_tb := ja_m6 78 rfl rfl
theorem lk_Model_262 : Cond.methodLink "InterlockingFrameModel" 262 y_Model_joint ∈ ja_tb := ja_m6 94 rfl rfl
theorem lk_Model_265 : Cond.methodLink "InterlockingFrameModel" 265 y_Model_unprotected ∈ ja_tb := ja_m6 102 rfl rfl
theorem lk_Model_268 : Cond.methodLink "InterlockingFrameModel" 268 y_Model_lockFor ∈ ja_tb := ja_m6 110 rfl rfl
theorem lk_Model_271 : Cond.methodLink "InterlockingFrameModel" 271 y_Model_settable ∈ ja_tb := ja_m6 114 rfl rfl
theorem lk_Model_277 : Cond.methodLink "InterlockingFrameModel" 277 y_Model_completes ∈ ja_tb := ja_m6 122 rfl rfl
theorem lk_Model_280 : Cond.methodLink "InterlockingFrameModel" 280 y_Model_bits ∈ ja_tb := ja_m6 134 rfl rfl
theorem lk_Model_283 : Cond.methodLink "InterlockingFrameModel" 283 y_Model_isTold ∈ ja_tb := ja_m6 153 rfl rfl
theorem lk_Model_286 : Cond.methodLink "InterlockingFrameModel" 286 y_Model_tellingLever ∈ ja_tb := ja_m6 149 rfl rfl
theorem lk_Model_289 : Cond.methodLink "InterlockingFrameModel" 289 y_Model_isImpliedBy ∈ ja_tb := ja_m6 145 rfl rfl
theorem lk_Model_295 : Cond.methodLink "InterlockingFrameModel" 295 y_Model_laysTest ∈ ja_tb := ja_m6 165 rfl rfl
theorem lk_Model_298 : Cond.methodLink "InterlockingFrameModel" 298 y_Model_nearer ∈ ja_tb := ja_m6 173 rfl rfl
theorem lk_Model_301 : Cond.methodLink "InterlockingFrameModel" 301 y_Model_mergedLever ∈ ja_tb := ja_m6 197 rfl rfl
theorem lk_Model_311 : Cond.methodLink "InterlockingFrameModel" 311 y_Model_laysDue ∈ ja_tb := ja_m6 181 rfl rfl
theorem lk_Model_314 : Cond.methodLink "InterlockingFrameModel" 314 y_Model_lower ∈ ja_tb := ja_m6 185 rfl rfl
theorem lk_Model_317 : Cond.methodLink "InterlockingFrameModel" 317 y_Model_higher ∈ ja_tb := ja_m6 189 rfl rfl
theorem lk_Model_320 : Cond.methodLink "InterlockingFrameModel" 320 y_Model_merges ∈ ja_tb := ja_m6 193 rfl rfl
theorem lk_Model_323 : Cond.methodLink "InterlockingFrameModel" 323 y_Model_isDue ∈ ja_tb := ja_m6 200 rfl rfl
theorem lk_Model_329 : Cond.methodLink "InterlockingFrameModel" 329 y_Model_copies ∈ ja_tb := ja_m6 216 rfl rfl
theorem lk_Model_333 : Cond.methodLink "InterlockingFrameModel" 333 y_Model_mergesOne ∈ ja_tb := ja_m6 212 rfl rfl
theorem lk_Model_74 : Cond.methodLink "InterlockingFrameModel" 74 y_Model_usesSheet ∈ ja_tb := ja_m4 185 rfl rfl
theorem lk_Model_93 : Cond.methodLink "InterlockingFrameModel" 93 y_Model_isIn ∈ ja_tb := ja_m5 84 rfl rfl
theorem lk_Model_97 : Cond.methodLink "InterlockingFrameModel" 97 y_Model_peek ∈ ja_tb := ja_m5 99 rfl rfl
theorem km_SheetParser_34 : Cond.methodLink "InterlockingFrame$SheetParse\x72" 34 Lib.Math.min.name ∈ ja_tb ∧ Cond.static Lib.Math.min.name ∈ ja_tb ∧ Cond.initialized "java/lang/Math" ∈ ja_tb ∧ Cond.code Lib.Math.min.name Lib.Math.min.code 2 (some .int) ∈ ja_tb := ⟨ja_m2 41 rfl rfl, ja_m2 42 rfl rfl, ja_m1 11 rfl rfl, ja_m2 43 rfl rfl⟩
theorem km_Frame_300 : Cond.methodLink "InterlockingFrame" 300 Lib.Math.min.name ∈ ja_tb ∧ Cond.static Lib.Math.min.name ∈ ja_tb ∧ Cond.initialized "java/lang/Math" ∈ ja_tb ∧ Cond.code Lib.Math.min.name Lib.Math.min.code 2 (some .int) ∈ ja_tb := ⟨ja_m4 136 rfl rfl, ja_m2 42 rfl rfl, ja_m1 11 rfl rfl, ja_m2 43 rfl rfl⟩
theorem km_Frame_305 : Cond.methodLink "InterlockingFrame" 305 Lib.Math.max.name ∈ ja_tb ∧ Cond.static Lib.Math.max.name ∈ ja_tb ∧ Cond.initialized "java/lang/Math" ∈ ja_tb ∧ Cond.code Lib.Math.max.name Lib.Math.max.code 2 (some .int) ∈ ja_tb := ⟨ja_m4 137 rfl rfl, ja_m4 138 rfl rfl, ja_m1 11 rfl rfl, ja_m4 139 rfl rfl⟩
theorem sl_Locking_72 : Cond.fieldLink "InterlockingFrame$Locking" 72 "InterlockingFrame$Locking" "REVERSED_IN_WORD" "[J" ∈ ja_tb := ja_m3 155 rfl rfl
