/-! the class's constants: 53 of its enum, 75 texts -/
def ngI : List Cond := (vx_atS RX8 71 "java/lang/IllegalArgumentException" ["java/lang/RuntimeException", "java/lang/Exception"]).filter (fun w => !goodWord w)
def ngN : List Cond := ((nseAtoms RX8 110).filter vx_no).filter (fun w => !goodWord w)
theorem okTI : ∀ w ∈ (vx_atS RX8 71 "java/lang/IllegalArgumentException" ["java/lang/RuntimeException", "java/lang/Exception"]).filter goodWord, w ∈ TB := by decide +kernel
theorem okTN : ∀ w ∈ ((nseAtoms RX8 110).filter vx_no).filter goodWord, w ∈ TB := by decide +kernel
theorem ng_ot : ∀ w ∈ ngI ++ ngN, w.onTables = true := by decide +kernel
theorem atI {args : Array Value} {s : State} {a : Cond} (hts : ∀ w ∈ a :: TB, w.before args s = true) (hn : ∀ w ∈ ngI, va_Nw w s) : ∀ w ∈ (vx_atS RX8 71 "java/lang/IllegalArgumentException" ["java/lang/RuntimeException", "java/lang/Exception"]), w.before args s = true := vx_hat (B := ngI) (fun w h => hts w (List.mem_cons_of_mem _ (okTI w h))) (fun w h => h) (fun w h => va_Nw.use (ng_ot w (List.mem_append_left _ h)) (hn w h))
theorem atN_110 {args : Array Value} {s : State} {a : Cond} (hts : ∀ w ∈ a :: TB, w.before args s = true) (hn : ∀ w ∈ ngN, va_Nw w s) : ∀ w ∈ ((nseAtoms RX8 110).filter vx_no), w.before args s = true := vx_hat (B := ngN) (fun w h => hts w (List.mem_cons_of_mem _ (okTN w h))) (fun w h => h) (fun w h => va_Nw.use (ng_ot w (List.mem_append_right _ h)) (hn w h))
theorem gdI_67 : ∀ w ∈ Cond.classLink RX8 67 "java/lang/IllegalArgumentException" :: Cond.initialized "java/lang/IllegalArgumentException" :: (vx_atS RX8 71 "java/lang/IllegalArgumentException" ["java/lang/RuntimeException", "java/lang/Exception"]), vx_ot w = true := by decide +kernel
theorem gdN_106 : ∀ w ∈ Cond.classLink RX8 106 nseN :: Cond.initialized nseN :: ((nseAtoms RX8 110).filter vx_no), vx_ot w = true := by decide +kernel
def nX : Nat := 75
def lenX : List Nat := [4, 0, 4, 1, 4, 3, 3, 3, 1, 3, 4, 4, 4, 4, 4, 3, 5, 3, 3, 3, 3, 3, 2, 3, 3, 3, 3, 3, 3, 4, 4, 5, 4, 4, 4, 7, 4, 5, 4, 5, 5, 5, 4, 5, 6, 3, 3, 2, 1, 4, 3, 4, 1, 4, 7, 5, 7, 5, 6, 5, 9, 5, 6, 5, 4, 5, 3, 3, 5, 3, 4, 10, 20, 12, 12]
def bytX : List (List Int32) := [[101, 120, 105, 116], [], [119, 111, 114, 100], [110], [115, 121, 110, 99], [115, 101, 116], [100, 44, 110], [116, 105, 100], [100], [98, 105, 100], [115, 105, 122, 101], [103, 114, 105, 100], [108, 97, 110, 101], [119, 97, 114, 112], [119, 105, 100, 101], [97, 100, 100], [100, 44, 97, 44, 98], [115, 117, 98], [109, 117, 108], [100, 105, 118], [114, 101, 109], [97, 110, 100], [111, 114], [120, 111, 114], [115, 104, 108], [115, 104, 114], [115, 97, 114], [109, 105, 110], [109, 97, 120], [104, 105, 103, 104], [97, 100, 100, 110], [100, 44, 97, 44, 110], [109, 117, 108, 110], [97, 110, 100, 110], [112, 105, 99, 107], [100, 44, 97, 44, 98, 44, 113], [108, 101, 115, 115], [68, 44, 97, 44, 98], [115, 97, 109, 101], [108, 101, 115, 115, 110], [68, 44, 97, 44, 110], [115, 97, 109, 101, 110], [98, 111, 116, 104], [68, 44, 65, 44, 66], [101, 105, 116, 104, 101, 114], [110, 111, 116], [68, 44, 65], [103, 111], [116], [99, 97, 108, 108], [100, 44, 116], [98, 97, 99, 107], [97], [108, 111, 97, 100], [100, 44, 40, 97, 43, 110, 41], [115, 116, 111, 114, 101], [40, 97, 43, 110, 41, 44, 98], [108, 111, 97, 100, 115], [115, 116, 111, 114, 101, 115], [97, 116, 97, 100, 100], [100, 44, 40, 97, 43, 110, 41, 44, 98], [97, 116, 109, 97, 120], [97, 116, 115, 119, 97, 112], [97, 116, 99, 97, 115], [115, 97, 100, 100], [115, 115, 119, 97, 112], [97, 110, 121], [97, 108, 108], [99, 111, 117, 110, 116], [100, 44, 65], [115, 119, 97, 112], [59, 58, 44, 64, 33, 61, 45, 40, 41, 43], [116, 104, 101, 32, 116, 101, 120, 116, 32, 104, 97, 115, 32, 97, 32, 102, 97, 117, 108, 116], [110, 111, 32, 115, 117, 99, 104, 32, 119, 111, 114, 100], [110, 111, 32, 115, 117, 99, 104, 32, 110, 97, 109, 101]]
def txI (e : Nat) : Nat := ([0, 2, 4, 5, 7, 9, 10, 11, 12, 13, 14, 15, 17, 18, 19, 20, 21, 22, 23, 24, 25, 26, 27, 28, 29, 30, 32, 33, 34, 36, 38, 39, 41, 42, 44, 45, 47, 49, 51, 53, 55, 57, 58, 59, 61, 62, 63, 64, 65, 66, 67, 68, 70] : List Nat).getD e 0
def pxI (e : Nat) : Nat := ([1, 3, 1, 6, 8, 8, 8, 8, 8, 8, 8, 16, 16, 16, 16, 16, 16, 16, 16, 16, 16, 16, 16, 16, 16, 31, 31, 31, 35, 37, 37, 40, 40, 43, 43, 46, 48, 50, 52, 54, 56, 54, 56, 60, 60, 60, 60, 60, 60, 46, 46, 69, 31] : List Nat).getD e 0
def opB (e : Nat) : Int64 := ([0, 0, 1, 2, 3, 4294967299, 8589934595, 12884901891, 17179869187, 21474836483, 25769803779, 4, 5, 6, 7, 8, 9, 10, 11, 12, 13, 14, 15, 16, 17, 18, 19, 20, 21, 30, 31, 32, 33, 34, 35, 36, 40, 41, 42, 50, 51, 52, 53, 54, 55, 56, 57, 58, 59, 70, 71, 72, 73] : List Int64).getD e 0
def opK (e : Nat) : Int64 := ([1702390132, 2003792484, 1937337955, 7562612, 7629156, 6449508, 1936292453, 1735551332, 1818324581, 2002874992, 2003395685, 6382692, 7566690, 7173484, 6580598, 7497069, 6385252, 28530, 7892850, 7563372, 7563378, 7561586, 7170414, 7168376, 1751738216, 1633969262, 1836412014, 1634624622, 1885954923, 1818588019, 1935764837, 465558532974, 495555798382, 1651471464, 111503598970226, 7237492, 26479, 1667329132, 1650549611, 1819238756, 495874699877, 465725121651, 126943923168627, 418564367460, 418565153144, 107152781304176, 418564497779, 1935762532, 495858442608, 6385273, 6384748, 427071729268, 1937203568] : List Int64).getD e 0
def eX (aK aV aE : Nat → Nat) (aO : Nat) (A : Nat → Prop) (U : State) (H : Heap) : Prop :=
  sF nX lenX bytX aK aV A U H ∧
  (∀ e : Nat, e < 53 → va_O "KernelText$Op" (aE e) A U H ∧ va_OF "KernelText$Op" "text" "Ljava/lang/String;" (.ref (aK (txI e))) (aE e) A U H ∧ va_OF "KernelText$Op" "parts" "Ljava/lang/String;" (.ref (aK (pxI e))) (aE e) A U H ∧ va_OF "KernelText$Op" "base" "J" (.long (opB e)) (aE e) A U H ∧ va_OF "KernelText$Op" "key" "J" (.long (opK e)) (aE e) A U H) ∧
  (∀ i j : Nat, i < 53 → j < 53 → aE i = aE j → i = j) ∧
  va_Z "KernelText" "OPS" "[LKernelText$Op;" (.ref aO) A U H ∧
  va_T (.object "KernelText$Op") aO 53 (fun j => .ref (aE j)) A U H ∧
  va_Nw (.fieldLinkNest "KernelText$Op" 212 "KernelText" "OPS" "[LKernelText$Op;" "KernelText") U ∧
  vk_R "KernelText$Tokens" 56 ";:,@!=-()+" (aK 71) U ∧
  vk_R "KernelText$Op" 278 "" (aK 1) U ∧
  va_AO "KernelText$Op" U ∧
  va_Nw (.methodLinkNest "KernelText" 9 ⟨"KernelText$Tape", "<init>", "()V"⟩ "KernelText") U ∧
  va_Nw (.methodLinkNest "KernelText$Parser" 23 ⟨"KernelText$Names", "<init>", "()V"⟩ "KernelText") U ∧
  va_Nw (.methodLinkNest "KernelText" 27 ⟨"KernelText$Names", "<init>", "()V"⟩ "KernelText") U ∧
  va_Nw (.methodLinkNest "KernelText" 34 ⟨"KernelText$Kernel", "<init>", "()V"⟩ "KernelText") U ∧
  va_Nw (.methodLinkNest "KernelText" 50 ⟨"KernelText$Speller", "<init>", "()V"⟩ "KernelText") U ∧
  vx_Zq Bundle.tN "UNASSIGNED_STACK" Bundle.steD A U H ∧
  vx_Zq Bundle.tN "SUPPRESSED_SENTINEL" Bundle.listD A U H ∧
  (∀ w ∈ ngI, va_Nw w U) ∧
  (∀ w ∈ ngN, va_Nw w U) ∧
  vk_R "KernelText" 69 "the text has a fault" (aK 72) U ∧
  vk_R "KernelText" 108 "no such word" (aK 73) U ∧
  vk_R "KernelText" 124 "no such name" (aK 74) U ∧
  va_Z "KernelText$Op" "ATCAS" "LKernelText$Op;" (.ref (aE 46)) A U H ∧
  va_Z "KernelText$Op" "BACK" "LKernelText$Op;" (.ref (aE 38)) A U H ∧
  va_Z "KernelText$Op" "CALL" "LKernelText$Op;" (.ref (aE 37)) A U H ∧
  va_Z "KernelText$Op" "EXIT" "LKernelText$Op;" (.ref (aE 0)) A U H ∧
  va_Z "KernelText$Op" "GO" "LKernelText$Op;" (.ref (aE 36)) A U H ∧
  va_Z "KernelText$Op" "WORD" "LKernelText$Op;" (.ref (aE 1)) A U H
def eXs (aK aV aE : Nat → Nat) (aO : Nat) (E : EnvT) : Prop := ∀ A U H, E A U H → eX aK aV aE aO A U H
theorem eX.str {aK aV aE : Nat → Nat} {aO : Nat} {A : Nat → Prop} {U : State} {H : Heap} (h : eX aK aV aE aO A U H) : sF nX lenX bytX aK aV A U H := h.1
theorem eX.opx {aK aV aE : Nat → Nat} {aO : Nat} {A : Nat → Prop} {U : State} {H : Heap} (h : eX aK aV aE aO A U H) : (∀ e : Nat, e < 53 → va_O "KernelText$Op" (aE e) A U H ∧ va_OF "KernelText$Op" "text" "Ljava/lang/String;" (.ref (aK (txI e))) (aE e) A U H ∧ va_OF "KernelText$Op" "parts" "Ljava/lang/String;" (.ref (aK (pxI e))) (aE e) A U H ∧ va_OF "KernelText$Op" "base" "J" (.long (opB e)) (aE e) A U H ∧ va_OF "KernelText$Op" "key" "J" (.long (opK e)) (aE e) A U H) := h.2.1
theorem eX.inj {aK aV aE : Nat → Nat} {aO : Nat} {A : Nat → Prop} {U : State} {H : Heap} (h : eX aK aV aE aO A U H) : (∀ i j : Nat, i < 53 → j < 53 → aE i = aE j → i = j) := h.2.2.1
theorem eX.ops {aK aV aE : Nat → Nat} {aO : Nat} {A : Nat → Prop} {U : State} {H : Heap} (h : eX aK aV aE aO A U H) : va_Z "KernelText" "OPS" "[LKernelText$Op;" (.ref aO) A U H := h.2.2.2.1
theorem eX.opsT {aK aV aE : Nat → Nat} {aO : Nat} {A : Nat → Prop} {U : State} {H : Heap} (h : eX aK aV aE aO A U H) : va_T (.object "KernelText$Op") aO 53 (fun j => .ref (aE j)) A U H := h.2.2.2.2.1
theorem eX.nest {aK aV aE : Nat → Nat} {aO : Nat} {A : Nat → Prop} {U : State} {H : Heap} (h : eX aK aV aE aO A U H) : va_Nw (.fieldLinkNest "KernelText$Op" 212 "KernelText" "OPS" "[LKernelText$Op;" "KernelText") U := h.2.2.2.2.2.1
theorem eX.sg_6_56 {aK aV aE : Nat → Nat} {aO : Nat} {A : Nat → Prop} {U : State} {H : Heap} (h : eX aK aV aE aO A U H) : vk_R "KernelText$Tokens" 56 ";:,@!=-()+" (aK 71) U := h.2.2.2.2.2.2.1
theorem eX.sg_2_278 {aK aV aE : Nat → Nat} {aO : Nat} {A : Nat → Prop} {U : State} {H : Heap} (h : eX aK aV aE aO A U H) : vk_R "KernelText$Op" 278 "" (aK 1) U := h.2.2.2.2.2.2.2.1
theorem eX.ao {aK aV aE : Nat → Nat} {aO : Nat} {A : Nat → Prop} {U : State} {H : Heap} (h : eX aK aV aE aO A U H) : va_AO "KernelText$Op" U := h.2.2.2.2.2.2.2.2.1
theorem eX.nm_RX8_9 {aK aV aE : Nat → Nat} {aO : Nat} {A : Nat → Prop} {U : State} {H : Heap} (h : eX aK aV aE aO A U H) : va_Nw (.methodLinkNest "KernelText" 9 ⟨"KernelText$Tape", "<init>", "()V"⟩ "KernelText") U := h.2.2.2.2.2.2.2.2.2.1
theorem eX.nm_RX3_23 {aK aV aE : Nat → Nat} {aO : Nat} {A : Nat → Prop} {U : State} {H : Heap} (h : eX aK aV aE aO A U H) : va_Nw (.methodLinkNest "KernelText$Parser" 23 ⟨"KernelText$Names", "<init>", "()V"⟩ "KernelText") U := h.2.2.2.2.2.2.2.2.2.2.1
theorem eX.nm_RX8_27 {aK aV aE : Nat → Nat} {aO : Nat} {A : Nat → Prop} {U : State} {H : Heap} (h : eX aK aV aE aO A U H) : va_Nw (.methodLinkNest "KernelText" 27 ⟨"KernelText$Names", "<init>", "()V"⟩ "KernelText") U := h.2.2.2.2.2.2.2.2.2.2.2.1
theorem eX.nm_RX8_34 {aK aV aE : Nat → Nat} {aO : Nat} {A : Nat → Prop} {U : State} {H : Heap} (h : eX aK aV aE aO A U H) : va_Nw (.methodLinkNest "KernelText" 34 ⟨"KernelText$Kernel", "<init>", "()V"⟩ "KernelText") U := h.2.2.2.2.2.2.2.2.2.2.2.2.1
theorem eX.nm_RX8_50 {aK aV aE : Nat → Nat} {aO : Nat} {A : Nat → Prop} {U : State} {H : Heap} (h : eX aK aV aE aO A U H) : va_Nw (.methodLinkNest "KernelText" 50 ⟨"KernelText$Speller", "<init>", "()V"⟩ "KernelText") U := h.2.2.2.2.2.2.2.2.2.2.2.2.2.1
theorem eX.st1 {aK aV aE : Nat → Nat} {aO : Nat} {A : Nat → Prop} {U : State} {H : Heap} (h : eX aK aV aE aO A U H) : vx_Zq Bundle.tN "UNASSIGNED_STACK" Bundle.steD A U H := h.2.2.2.2.2.2.2.2.2.2.2.2.2.2.1
theorem eX.st2 {aK aV aE : Nat → Nat} {aO : Nat} {A : Nat → Prop} {U : State} {H : Heap} (h : eX aK aV aE aO A U H) : vx_Zq Bundle.tN "SUPPRESSED_SENTINEL" Bundle.listD A U H := h.2.2.2.2.2.2.2.2.2.2.2.2.2.2.2.1
theorem eX.ngI {aK aV aE : Nat → Nat} {aO : Nat} {A : Nat → Prop} {U : State} {H : Heap} (h : eX aK aV aE aO A U H) : (∀ w ∈ ngI, va_Nw w U) := h.2.2.2.2.2.2.2.2.2.2.2.2.2.2.2.2.1
theorem eX.ngN {aK aV aE : Nat → Nat} {aO : Nat} {A : Nat → Prop} {U : State} {H : Heap} (h : eX aK aV aE aO A U H) : (∀ w ∈ ngN, va_Nw w U) := h.2.2.2.2.2.2.2.2.2.2.2.2.2.2.2.2.2.1
theorem eX.ms_69 {aK aV aE : Nat → Nat} {aO : Nat} {A : Nat → Prop} {U : State} {H : Heap} (h : eX aK aV aE aO A U H) : vk_R "KernelText" 69 "the text has a fault" (aK 72) U := h.2.2.2.2.2.2.2.2.2.2.2.2.2.2.2.2.2.2.1
theorem eX.ms_108 {aK aV aE : Nat → Nat} {aO : Nat} {A : Nat → Prop} {U : State} {H : Heap} (h : eX aK aV aE aO A U H) : vk_R "KernelText" 108 "no such word" (aK 73) U := h.2.2.2.2.2.2.2.2.2.2.2.2.2.2.2.2.2.2.2.1
theorem eX.ms_124 {aK aV aE : Nat → Nat} {aO : Nat} {A : Nat → Prop} {U : State} {H : Heap} (h : eX aK aV aE aO A U H) : vk_R "KernelText" 124 "no such name" (aK 74) U := h.2.2.2.2.2.2.2.2.2.2.2.2.2.2.2.2.2.2.2.2.1
theorem eX.c_ATCAS {aK aV aE : Nat → Nat} {aO : Nat} {A : Nat → Prop} {U : State} {H : Heap} (h : eX aK aV aE aO A U H) : va_Z "KernelText$Op" "ATCAS" "LKernelText$Op;" (.ref (aE 46)) A U H := h.2.2.2.2.2.2.2.2.2.2.2.2.2.2.2.2.2.2.2.2.2.1
theorem eX.c_BACK {aK aV aE : Nat → Nat} {aO : Nat} {A : Nat → Prop} {U : State} {H : Heap} (h : eX aK aV aE aO A U H) : va_Z "KernelText$Op" "BACK" "LKernelText$Op;" (.ref (aE 38)) A U H := h.2.2.2.2.2.2.2.2.2.2.2.2.2.2.2.2.2.2.2.2.2.2.1
theorem eX.c_CALL {aK aV aE : Nat → Nat} {aO : Nat} {A : Nat → Prop} {U : State} {H : Heap} (h : eX aK aV aE aO A U H) : va_Z "KernelText$Op" "CALL" "LKernelText$Op;" (.ref (aE 37)) A U H := h.2.2.2.2.2.2.2.2.2.2.2.2.2.2.2.2.2.2.2.2.2.2.2.1
theorem eX.c_EXIT {aK aV aE : Nat → Nat} {aO : Nat} {A : Nat → Prop} {U : State} {H : Heap} (h : eX aK aV aE aO A U H) : va_Z "KernelText$Op" "EXIT" "LKernelText$Op;" (.ref (aE 0)) A U H := h.2.2.2.2.2.2.2.2.2.2.2.2.2.2.2.2.2.2.2.2.2.2.2.2.1
theorem eX.c_GO {aK aV aE : Nat → Nat} {aO : Nat} {A : Nat → Prop} {U : State} {H : Heap} (h : eX aK aV aE aO A U H) : va_Z "KernelText$Op" "GO" "LKernelText$Op;" (.ref (aE 36)) A U H := h.2.2.2.2.2.2.2.2.2.2.2.2.2.2.2.2.2.2.2.2.2.2.2.2.2.1
theorem eX.c_WORD {aK aV aE : Nat → Nat} {aO : Nat} {A : Nat → Prop} {U : State} {H : Heap} (h : eX aK aV aE aO A U H) : va_Z "KernelText$Op" "WORD" "LKernelText$Op;" (.ref (aE 1)) A U H := h.2.2.2.2.2.2.2.2.2.2.2.2.2.2.2.2.2.2.2.2.2.2.2.2.2.2
theorem eX.o_obj {aK aV aE : Nat → Nat} {aO : Nat} {A : Nat → Prop} {U : State} {H : Heap} (h : eX aK aV aE aO A U H) {e : Nat} (he : e < 53) : va_O "KernelText$Op" (aE e) A U H := (eX.opx h e he).1
theorem eX.o_text {aK aV aE : Nat → Nat} {aO : Nat} {A : Nat → Prop} {U : State} {H : Heap} (h : eX aK aV aE aO A U H) {e : Nat} (he : e < 53) : va_OF "KernelText$Op" "text" "Ljava/lang/String;" (.ref (aK (txI e))) (aE e) A U H := (eX.opx h e he).2.1
theorem eX.o_parts {aK aV aE : Nat → Nat} {aO : Nat} {A : Nat → Prop} {U : State} {H : Heap} (h : eX aK aV aE aO A U H) {e : Nat} (he : e < 53) : va_OF "KernelText$Op" "parts" "Ljava/lang/String;" (.ref (aK (pxI e))) (aE e) A U H := (eX.opx h e he).2.2.1
theorem eX.o_base {aK aV aE : Nat → Nat} {aO : Nat} {A : Nat → Prop} {U : State} {H : Heap} (h : eX aK aV aE aO A U H) {e : Nat} (he : e < 53) : va_OF "KernelText$Op" "base" "J" (.long (opB e)) (aE e) A U H := (eX.opx h e he).2.2.2.1
theorem eX.o_key {aK aV aE : Nat → Nat} {aO : Nat} {A : Nat → Prop} {U : State} {H : Heap} (h : eX aK aV aE aO A U H) {e : Nat} (he : e < 53) : va_OF "KernelText$Op" "key" "J" (.long (opK e)) (aE e) A U H := (eX.opx h e he).2.2.2.2
theorem eX.s_obj {aK aV aE : Nat → Nat} {aO : Nat} {A : Nat → Prop} {U : State} {H : Heap} (h : eX aK aV aE aO A U H) {i : Nat} (hi : i < nX) : va_O "java/lang/String" (aK i) A U H := ((eX.str h).1 i hi).1
theorem eX.s_coder {aK aV aE : Nat → Nat} {aO : Nat} {A : Nat → Prop} {U : State} {H : Heap} (h : eX aK aV aE aO A U H) {i : Nat} (hi : i < nX) : va_OF "java/lang/String" "coder" "B" (.int 0) (aK i) A U H := ((eX.str h).1 i hi).2.1
theorem eX.s_value {aK aV aE : Nat → Nat} {aO : Nat} {A : Nat → Prop} {U : State} {H : Heap} (h : eX aK aV aE aO A U H) {i : Nat} (hi : i < nX) : va_OF "java/lang/String" "value" "[B" (.ref (aV i)) (aK i) A U H := ((eX.str h).1 i hi).2.2.1
theorem eX.s_row {aK aV aE : Nat → Nat} {aO : Nat} {A : Nat → Prop} {U : State} {H : Heap} (h : eX aK aV aE aO A U H) {i : Nat} (hi : i < nX) : va_T .byte (aV i) (lenX.getD i 0) (fun j => .int ((bytX.getD i []).getD j 0)) A U H := ((eX.str h).1 i hi).2.2.2
theorem eX.compact {aK aV aE : Nat → Nat} {aO : Nat} {A : Nat → Prop} {U : State} {H : Heap} (h : eX aK aV aE aO A U H) : va_Z "java/lang/String" "COMPACT_STRINGS" "Z" (.int 1) A U H := (eX.str h).2.1
theorem op_in {aK aV aE : Nat → Nat} {aO : Nat} {E : EnvT} (vM : eXs aK aV aE aO E) {A : Nat → Prop} {U : State} {H : Heap} (hE : E A U H) {i j : Nat} (hi : i < 53) (hj : j < 53) (h : some (aE i) = some (aE j)) : i = j := eX.inj (vM _ _ _ hE) i j hi hj (Option.some.inj h)
theorem op_eq {aE : Nat → Nat} {i j : Nat} (h : i = j) : some (aE i) = some (aE j) := by rw [h]
theorem qu_none {g : Nat → Option Nat} {a : Nat → Nat} {i : Nat} : va_up (fun j => (g j).map a) i none = fun j => (va_up g i none j).map a := by
  funext j
  unfold va_up
  split <;> rfl
theorem qu_some {g : Nat → Option Nat} {a : Nat → Nat} {i e : Nat} : va_up (fun j => (g j).map a) i (some (a e)) = fun j => (va_up g i (some e) j).map a := by
  funext j
  unfold va_up
  split <;> rfl
theorem lenX_lt (i : Nat) : lenX.getD i 0 < 2 ^ 31 := by
  by_cases h : i < nX
  · exact co_dec (N := nX) (P := fun i => lenX.getD i 0 < 2 ^ 31) (by decide +kernel) h
  · rw [List.getD_eq_getElem?_getD, List.getElem?_eq_none (by have : lenX.length = nX := rfl; omega)]; decide
theorem sS_e {p : Program} {l : Launch} {e : Env} {R : Room} {s : State} {m : MethodId} {args : Array Value} {below : List Frame} {meth : Method} {c : Code} {H : Heap} {locs : List Loc} {cells slots : Nat} {Q : State → Prop} {E : EnvT} {own : String} {A : Nat → Prop} {y : MethodName} {bytes : ByteArray} {maxL nL n index pc : Nat} {ret : Option FieldType} {ws : List Cond} {rm : Room} {Ts : List Cond} {cc : ByteArray} {rt : Option FieldType} {As rest st0 : List Value} {ls : Array Slot} {aE : Nat → Nat} {post : Option Nat → Prop} (Cx : sCx p s m args meth c cc nL rt Ts own E A)
    (hM : Met l y ws rm (va_Pc As (sPre E H.size)) (va_Qe aE (S := Unit) (fun r _ => post r) (fun _ _ => True) (va_A [] H.size)) 0 0 (va_A [] H.size))
    (cw : CallB R s args own index y bytes maxL ret ws rm 0 0 n ∧ (Cond.static y).before args s = true) (hS : va_S A s.heap H locs) (hn : As.length = n) (hsize : ls.size = nL) (hst : st0 = As.reverse ++ rest) (hR : (rest.map fun v => v.category).sum ≤ 8) (hdg : decode cc pc = .ok (.invokestatic index, 3)) (hf : cells ≤ R.cells ∧ slots ≤ R.slots)
    (kk : ∀ (r : Option Nat) (H1 : Heap) (locs1 : List Loc), post r → va_S A s.heap H1 locs1 → W p l e R s m args below meth c H1 locs1 cells slots Q (F0 m (pc + 3) ls (va_re aE r :: rest))) :
    W p l e R s m args below meth c H locs cells slots Q (F0 m pc ls st0) := by
  obtain ⟨hx, hb, hml, hr, hown, hts, hA, hlk, hE, vE⟩ := Cx
  have hFc : ∀ q, va_A [] H.size q → A q := fun q z => z.elim (fun ⟨_, _, z⟩ => by simp at z) (fun z => hA q (Nat.le_trans hS.1 z))
  refine va_calle (va_runS (As := As) (rest := rest) ⟨hx, hb, hml, hown, hts⟩ hM cw ⟨sPre.blind vE, fun U hU hW => ⟨rfl, by rw [hU], vE.at hE hS hU hW hFc⟩⟩ rfl hn hsize hst (lv_room hR) hdg hf) hS (fun q _ h => hFc q h) hFc (fun r u t H1 locs ht hvm hw hB hz1 hk1 hS => ?_)
  exact kk r H1 locs hw hS
