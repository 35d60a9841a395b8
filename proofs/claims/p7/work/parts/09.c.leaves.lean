/-! the Statement's parts of the start, by number -/
def lfc (k : Nat) : Cond := match k with | 0 => narrow_1_1 | 1 => narrow_1_2 | 2 => narrow_1_3 | 3 => narrow_1_4 | _ => narrow_1_5
def lf (i : Nat) : Option Cond := (flatC (lfc (i / 400)))[i % 400]?
theorem flat_and (a b : Cond) : flatC (.and a b) = flatC a ++ flatC b := rfl
theorem lf_in_1 {w : Cond} (h : w ∈ flatC narrow_1_1) : w ∈ flatC (Cond.and given_1 narrow_1) := by
  rw [flat_and]
  refine List.mem_append_right _ ?_
  unfold narrow_1
  simp only [flat_and]
  exact List.mem_append_left _ (List.mem_append_left _ (h))
theorem lf_in_2 {w : Cond} (h : w ∈ flatC narrow_1_2) : w ∈ flatC (Cond.and given_1 narrow_1) := by
  rw [flat_and]
  refine List.mem_append_right _ ?_
  unfold narrow_1
  simp only [flat_and]
  exact List.mem_append_left _ (List.mem_append_right _ (h))
theorem lf_in_3 {w : Cond} (h : w ∈ flatC narrow_1_3) : w ∈ flatC (Cond.and given_1 narrow_1) := by
  rw [flat_and]
  refine List.mem_append_right _ ?_
  unfold narrow_1
  simp only [flat_and]
  exact List.mem_append_right _ (List.mem_append_left _ (h))
theorem lf_in_4 {w : Cond} (h : w ∈ flatC narrow_1_4) : w ∈ flatC (Cond.and given_1 narrow_1) := by
  rw [flat_and]
  refine List.mem_append_right _ ?_
  unfold narrow_1
  simp only [flat_and]
  exact List.mem_append_right _ (List.mem_append_right _ (List.mem_append_left _ (h)))
theorem lf_in_5 {w : Cond} (h : w ∈ flatC narrow_1_5) : w ∈ flatC (Cond.and given_1 narrow_1) := by
  rw [flat_and]
  refine List.mem_append_right _ ?_
  unfold narrow_1
  simp only [flat_and]
  exact List.mem_append_right _ (List.mem_append_right _ (List.mem_append_right _ (h)))
theorem lf_ok {args : Array Value} {s : State} (h : (Jvm.Cond.and given_1 narrow_1).before args s = true) {i : Nat} {w : Cond} (hw : lf i = some w) : w.before args s = true := by
  refine flat_of_before _ h w ?_
  have h1 := List.mem_of_getElem? hw
  unfold lfc at h1
  split at h1
  · exact lf_in_1 h1
  · exact lf_in_2 h1
  · exact lf_in_3 h1
  · exact lf_in_4 h1
  · exact lf_in_5 h1
def tOM (i : Nat) : String := (["KernelTextModel", "KernelTextModel", "KernelTextModel"] : List String).getD i ""
def tKM (i : Nat) : Nat := ([72, 84, 86] : List Nat).getD i 0
def tPM (i : Nat) : Nat := ([1268, 1157, 729] : List Nat).getD i 0
def tmM (i : Nat) : Term := .string (tOM i) (tKM i)
set_option maxRecDepth 1000000 in
theorem sfM_1 : ∀ i : Nat, i < 3 → lf (tPM i) = some (.exactly (tmM i) "java/lang/String") ∧ lf (tPM i + 1) = some (.eq (.field (tmM i) "java/lang/String" "coder" "B") (.int 0)) ∧ lf (tPM i + 2) = some (.arrayOf (.field (tmM i) "java/lang/String" "value" "[B") .byte) ∧ lf (tPM i + 3) = some (.eq (.length (.field (tmM i) "java/lang/String" "value" "[B")) (.int (Int32.ofNat (lenM.getD i 0)))) := by decide +kernel
set_option maxRecDepth 1000000 in
theorem sfM_2 : ∀ i : Nat, i < 3 → ∀ j : Nat, j < lenM.getD i 0 → lf (tPM i + 4 + j) = some (.eq (.elem (.field (tmM i) "java/lang/String" "value" "[B") (.int (Int32.ofNat j))) (.int ((bytM.getD i []).getD j 0))) := by decide +kernel
def tOX (i : Nat) : String := (["KernelText$Op", "KernelText$Op", "KernelText$Op", "KernelText$Op", "KernelText$Op", "KernelText$Op", "KernelText$Op", "KernelText$Op", "KernelText$Op", "KernelText$Op", "KernelText$Op", "KernelText$Op", "KernelText$Op", "KernelText$Op", "KernelText$Op", "KernelText$Op", "KernelText$Op", "KernelText$Op", "KernelText$Op", "KernelText$Op", "KernelText$Op", "KernelText$Op", "KernelText$Op", "KernelText$Op", "KernelText$Op", "KernelText$Op", "KernelText$Op", "KernelText$Op", "KernelText$Op", "KernelText$Op", "KernelText$Op", "KernelText$Op", "KernelText$Op", "KernelText$Op", "KernelText$Op", "KernelText$Op", "KernelText$Op", "KernelText$Op", "KernelText$Op", "KernelText$Op", "KernelText$Op", "KernelText$Op", "KernelText$Op", "KernelText$Op", "KernelText$Op", "KernelText$Op", "KernelText$Op", "KernelText$Op", "KernelText$Op", "KernelText$Op", "KernelText$Op", "KernelText$Op", "KernelText$Op", "KernelText$Op", "KernelText$Op", "KernelText$Op", "KernelText$Op", "KernelText$Op", "KernelText$Op", "KernelText$Op", "KernelText$Op", "KernelText$Op", "KernelText$Op", "KernelText$Op", "KernelText$Op", "KernelText$Op", "KernelText$Op", "KernelText$Op", "KernelText$Op", "KernelText$Op", "KernelText$Op", "KernelText$Tokens", "KernelText", "KernelText", "KernelText"] : List String).getD i ""
def tKX (i : Nat) : Nat := ([276, 278, 284, 286, 289, 292, 294, 297, 299, 302, 305, 308, 311, 314, 317, 320, 322, 325, 328, 331, 334, 337, 340, 343, 346, 349, 352, 355, 358, 361, 364, 366, 369, 372, 375, 377, 380, 382, 385, 388, 390, 393, 396, 398, 401, 404, 406, 409, 411, 414, 416, 419, 421, 424, 426, 429, 431, 434, 437, 440, 442, 445, 448, 451, 454, 457, 460, 463, 466, 468, 471, 56, 69, 108, 124] : List Nat).getD i 0
def tPX (i : Nat) : Nat := ([1410, 1418, 1422, 1430, 1448, 1456, 1463, 1470, 1477, 1482, 1489, 1497, 1505, 1513, 1521, 1529, 1536, 1545, 1552, 1559, 1566, 1573, 1580, 1586, 1593, 1600, 1607, 1614, 1621, 1628, 1636, 1644, 1653, 1661, 1669, 1677, 1688, 1696, 1705, 1713, 1722, 1731, 1740, 1748, 1757, 1767, 1774, 1384, 1390, 1395, 1403, 1435, 1443, 1781, 1789, 1800, 1809, 1820, 1829, 1839, 1371, 1848, 1857, 1362, 1867, 1875, 1884, 1891, 1898, 1907, 1914, 659, 673, 697, 713] : List Nat).getD i 0
def tmX (i : Nat) : Term := .string (tOX i) (tKX i)
set_option maxRecDepth 1000000 in
theorem sfX_1 : ∀ i : Nat, i < nX → lf (tPX i) = some (.exactly (tmX i) "java/lang/String") ∧ lf (tPX i + 1) = some (.eq (.field (tmX i) "java/lang/String" "coder" "B") (.int 0)) ∧ lf (tPX i + 2) = some (.arrayOf (.field (tmX i) "java/lang/String" "value" "[B") .byte) ∧ lf (tPX i + 3) = some (.eq (.length (.field (tmX i) "java/lang/String" "value" "[B")) (.int (Int32.ofNat (lenX.getD i 0)))) := by decide +kernel
set_option maxRecDepth 1000000 in
theorem sfX_2 : ∀ i : Nat, i < nX → ∀ j : Nat, j < lenX.getD i 0 → lf (tPX i + 4 + j) = some (.eq (.elem (.field (tmX i) "java/lang/String" "value" "[B") (.int (Int32.ofNat j))) (.int ((bytX.getD i []).getD j 0))) := by decide +kernel
def tN (e : Nat) : String := (["EXIT", "WORD", "SYNC", "SET", "TID", "BID", "SIZE", "GRID", "LANE", "WARP", "WIDE", "ADD", "SUB", "MUL", "DIV", "REM", "AND", "OR", "XOR", "SHL", "SHR", "SAR", "MIN", "MAX", "HIGH", "ADDN", "MULN", "ANDN", "PICK", "LESS", "SAME", "LESSN", "SAMEN", "BOTH", "EITHER", "NOT", "GO", "CALL", "BACK", "LOAD", "STORE", "LOADS", "STORES", "ATADD", "ATMAX", "ATSWAP", "ATCAS", "SADD", "SSWAP", "ANY", "ALL", "COUNT", "SWAP"] : List String).getD e ""
def tQ (e : Nat) : Nat := ([291, 297, 309, 315, 321, 327, 333, 339, 345, 351, 357, 363, 369, 375, 381, 387, 393, 399, 405, 411, 417, 423, 429, 435, 441, 447, 453, 459, 465, 471, 477, 483, 489, 495, 501, 507, 279, 285, 303, 513, 519, 525, 531, 537, 543, 549, 65, 555, 561, 567, 573, 579, 585] : List Nat).getD e 0
def tmE (e : Nat) : Term := .static "KernelText$Op" (tN e) "LKernelText$Op;"
def tmO : Term := .static "KernelText" "OPS" "[LKernelText$Op;"
set_option maxRecDepth 1000000 in
theorem ef_1 : ∀ e : Nat, e < 53 → lf (tQ e) = some (.exactly (tmE e) "KernelText$Op") ∧ lf (tQ e + 1) = some (.eq (.field (tmE e) "java/lang/Enum" "ordinal" "I") (.int (Int32.ofNat e))) ∧ lf (tQ e + 2) = some (.eq (.field (tmE e) "KernelText$Op" "text" "Ljava/lang/String;") (tmX (txI e))) ∧ lf (tQ e + 3) = some (.eq (.field (tmE e) "KernelText$Op" "parts" "Ljava/lang/String;") (tmX (pxI e))) ∧ lf (tQ e + 4) = some (.eq (.field (tmE e) "KernelText$Op" "base" "J") (.long (opB e))) ∧ lf (tQ e + 5) = some (.eq (.field (tmE e) "KernelText$Op" "key" "J") (.long (opK e))) := by decide +kernel
theorem ef_2 : ∀ e : Nat, e < 53 → txI e < nX ∧ pxI e < nX := by decide +kernel
set_option maxRecDepth 1000000 in
theorem ef_3 : lf 5 = some (.arrayOf tmO (.object "KernelText$Op")) ∧ lf 6 = some (.eq (.length tmO) (.int (Int32.ofNat 53))) ∧ ∀ j : Nat, j < 53 → lf (8 + j) = some (.eq (.elem tmO (.int (Int32.ofNat j))) (tmE j)) := by decide +kernel
set_option maxRecDepth 1000000 in
theorem ef_4 : lf 2 = some (.eq (.static "java/lang/String" "COMPACT_STRINGS" "Z") (.int 1)) ∧ lf 61 = some (.isRef (.static "jdk/internal/util/Preconditions" "SIOOBE_FORMATTER" "Ljava/util/function/BiFunction;")) ∧ lf 71 = some (.isRef (.static Bundle.tN "UNASSIGNED_STACK" Bundle.steD)) ∧ lf 72 = some (.isRef (.static Bundle.tN "SUPPRESSED_SENTINEL" Bundle.listD)) := by decide +kernel
def tmDO : Term := .static "java/lang/Integer" "DigitOnes" "[B"
set_option maxRecDepth 1000000 in
theorem df_O : lf 74 = some (.arrayOf tmDO .byte) ∧ lf 75 = some (.eq (.length tmDO) (.int (Int32.ofNat 100))) ∧ ∀ j : Nat, j < 100 → lf (76 + j) = some (.eq (.elem tmDO (.int (Int32.ofNat j))) (.int (Int32.ofNat (48 + j % 10)))) := by decide +kernel
def tmDT : Term := .static "java/lang/Integer" "DigitTens" "[B"
set_option maxRecDepth 1000000 in
theorem df_T : lf 177 = some (.arrayOf tmDT .byte) ∧ lf 178 = some (.eq (.length tmDT) (.int (Int32.ofNat 100))) ∧ ∀ j : Nat, j < 100 → lf (179 + j) = some (.eq (.elem tmDT (.int (Int32.ofNat j))) (.int (Int32.ofNat (48 + j / 10)))) := by decide +kernel
