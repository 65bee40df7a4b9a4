def z_W : List Cond := lw_tbl.filter goodWord
theorem z_mem {w : Cond} (i : Nat) (h : lw_tbl[i]? = some w) (hg : goodWord w = true) : w ∈ z_W := List.mem_filter.mpr ⟨List.mem_of_getElem? h, hg⟩
theorem z_sub {ws : List Cond} (ps : List Nat) (hp : ws = ps.filterMap (fun i => lw_tbl[i]?)) (h : ws.all goodWord = true) : ∀ w ∈ ws, w ∈ z_W := by
  intro w hw
  have h1 := List.all_eq_true.mp h w hw
  rw [hp] at hw
  obtain ⟨i, -, hi⟩ := List.mem_filterMap.mp hw
  exact List.mem_filter.mpr ⟨List.mem_of_getElem? hi, h1⟩
theorem z_good {w : Cond} (h : w ∈ z_W) : w ∈ z_W ∧ ((w.onTables && w.keeps) = true ∨ ∃ ty, w = .arrayClass ty) := ⟨h, good_of_word (List.mem_filter.mp h).2⟩
theorem z_gC {c : Cond} (h : c ∈ z_W) : GoodIn z_W (c :: z_W) := fun w hw => (List.mem_cons.mp hw).elim (fun e => e ▸ z_good h) z_good
theorem z_gV {own C : String} {idx : Nat} {y : MethodName} {c : Cond} (h1 : .methodLink own idx y ∈ z_W) (h2 : .instanceMethod y ∈ z_W) (h3 : .selects C y y ∈ z_W) (h4 : .initialized C ∈ z_W) (h5 : c ∈ z_W) : GoodIn z_W (wsV own idx C y (c :: z_W)) := by
  intro w hw
  rcases List.mem_append.mp hw with q | q
  · simp only [List.mem_cons, List.not_mem_nil, or_false] at q
    rcases q with rfl | rfl | rfl | rfl
    · exact z_good h1
    · exact z_good h2
    · exact z_good h3
    · exact z_good h4
  · exact z_gC h5 w q
theorem z_gS {own : String} {idx : Nat} {y : MethodName} {c : Cond} (h1 : .methodLink own idx y ∈ z_W) (h2 : .static y ∈ z_W) (h4 : .initialized y.cls ∈ z_W) (h5 : c ∈ z_W) : GoodIn z_W (va_wsS own idx y (c :: z_W)) := by
  intro w hw
  rcases List.mem_append.mp hw with q | q
  · simp only [List.mem_cons, List.not_mem_nil, or_false] at q
    rcases q with rfl | rfl | rfl
    · exact z_good h1
    · exact z_good h2
    · exact z_good h4
  · exact z_gC h5 w q
def zT_S : u_T := fun k => match k with
  | 0 => ("RuleNetwork$Script", "characters", "[C", true)
  | 1 => ("RuleNetwork$Script", "length", "I", false)
  | 2 => ("RuleNetwork$Script", "at", "I", false)
  | 3 => ("RuleNetwork$Script", "names", "[C", true)
  | 4 => ("RuleNetwork$Script", "count", "I", false)
  | 5 => ("RuleNetwork$Script", "code", "[C", true)
  | 6 => ("RuleNetwork$Script", "codeLength", "I", false)
  | 7 => ("RuleNetwork$Script", "ends", "[I", true)
  | _ => ("RuleNetwork$Script", "firstUses", "[I", true)
def zty_S : Nat → FieldType := fun k => match k with
  | 0 => .array .char
  | 1 => .int
  | 2 => .int
  | 3 => .array .char
  | 4 => .int
  | 5 => .array .char
  | 6 => .int
  | 7 => .array .int
  | _ => .array .int
theorem znm_S : ∀ a, a < 9 → ∀ b, b < 9 → a ≠ b → (zT_S a).2.1 ≠ (zT_S b).2.1 := by decide +kernel
theorem zty_S_ok : ∀ k, k < 9 → parseFieldDescriptor (zT_S k).2.2.1 = some (zty_S k) := by decide +kernel
theorem zin_S : ∀ w ∈ u_ws "RuleNetwork$Script" zT_S 9, w ∈ z_W := z_sub [91, 93, 95, 97, 99, 101, 103, 105, 107] (by decide +kernel) (by decide +kernel)
def zT_R : u_T := fun k => match k with
  | 0 => ("RuleNetwork$Rules", "count", "I", false)
  | 1 => ("RuleNetwork$Rules", "names", "[C", true)
  | 2 => ("RuleNetwork$Rules", "fixed", "[I", true)
  | 3 => ("RuleNetwork$Rules", "low", "[J", true)
  | 4 => ("RuleNetwork$Rules", "high", "[J", true)
  | _ => ("RuleNetwork$Rules", "stack", "[J", true)
def zty_R : Nat → FieldType := fun k => match k with
  | 0 => .int
  | 1 => .array .char
  | 2 => .array .int
  | 3 => .array .long
  | 4 => .array .long
  | _ => .array .long
theorem znm_R : ∀ a, a < 6 → ∀ b, b < 6 → a ≠ b → (zT_R a).2.1 ≠ (zT_R b).2.1 := by decide +kernel
theorem zty_R_ok : ∀ k, k < 6 → parseFieldDescriptor (zT_R k).2.2.1 = some (zty_R k) := by decide +kernel
theorem zin_R : ∀ w ∈ u_ws "RuleNetwork$Rules" zT_R 6, w ∈ z_W := z_sub [129, 131, 133, 135, 137, 139] (by decide +kernel) (by decide +kernel)
def zT_A : u_T := fun k => match k with
  | 0 => ("RuleNetwork$Analysis", "genes", "I", false)
  | 1 => ("RuleNetwork$Analysis", "count", "I", false)
  | 2 => ("RuleNetwork$Analysis", "low", "[J", true)
  | 3 => ("RuleNetwork$Analysis", "high", "[J", true)
  | 4 => ("RuleNetwork$Analysis", "homes", "[I", true)
  | 5 => ("RuleNetwork$Analysis", "leasts", "[I", true)
  | 6 => ("RuleNetwork$Analysis", "states", "I", false)
  | 7 => ("RuleNetwork$Analysis", "lowLeasts", "J", false)
  | _ => ("RuleNetwork$Analysis", "highLeasts", "J", false)
def zty_A : Nat → FieldType := fun k => match k with
  | 0 => .int
  | 1 => .int
  | 2 => .array .long
  | 3 => .array .long
  | 4 => .array .int
  | 5 => .array .int
  | 6 => .int
  | 7 => .long
  | _ => .long
theorem znm_A : ∀ a, a < 9 → ∀ b, b < 9 → a ≠ b → (zT_A a).2.1 ≠ (zT_A b).2.1 := by decide +kernel
theorem zty_A_ok : ∀ k, k < 9 → parseFieldDescriptor (zT_A k).2.2.1 = some (zty_A k) := by decide +kernel
theorem zin_A : ∀ w ∈ u_ws "RuleNetwork$Analysis" zT_A 9, w ∈ z_W := z_sub [164, 166, 168, 170, 172, 174, 176, 178, 180] (by decide +kernel) (by decide +kernel)
def zT_C : u_T := fun k => match k with
  | 0 => ("RuleNetwork$NodeCounter", "numbers", "[I", true)
  | 1 => ("RuleNetwork$NodeCounter", "zeros", "[I", true)
  | 2 => ("RuleNetwork$NodeCounter", "ones", "[I", true)
  | _ => ("RuleNetwork$NodeCounter", "nodes", "I", false)
def zty_C : Nat → FieldType := fun k => match k with
  | 0 => .array .int
  | 1 => .array .int
  | 2 => .array .int
  | _ => .int
theorem znm_C : ∀ a, a < 4 → ∀ b, b < 4 → a ≠ b → (zT_C a).2.1 ≠ (zT_C b).2.1 := by decide +kernel
theorem zty_C_ok : ∀ k, k < 4 → parseFieldDescriptor (zT_C k).2.2.1 = some (zty_C k) := by decide +kernel
theorem zin_C : ∀ w ∈ u_ws "RuleNetwork$NodeCounter" zT_C 4, w ∈ z_W := z_sub [193, 195, 197, 199] (by decide +kernel) (by decide +kernel)
def zT_M : u_T := fun k => match k with
  | 0 => ("RuleNetwork$CubeMaker", "made", "[I", true)
  | 1 => ("RuleNetwork$CubeMaker", "count", "I", false)
  | 2 => ("RuleNetwork$CubeMaker", "genes", "I", false)
  | 3 => ("RuleNetwork$CubeMaker", "low", "J", false)
  | _ => ("RuleNetwork$CubeMaker", "high", "J", false)
def zty_M : Nat → FieldType := fun k => match k with
  | 0 => .array .int
  | 1 => .int
  | 2 => .int
  | 3 => .long
  | _ => .long
theorem znm_M : ∀ a, a < 5 → ∀ b, b < 5 → a ≠ b → (zT_M a).2.1 ≠ (zT_M b).2.1 := by decide +kernel
theorem zty_M_ok : ∀ k, k < 5 → parseFieldDescriptor (zT_M k).2.2.1 = some (zty_M k) := by decide +kernel
theorem zin_M : ∀ w ∈ u_ws "RuleNetwork$CubeMaker" zT_M 5, w ∈ z_W := z_sub [215, 217, 219, 221, 223] (by decide +kernel) (by decide +kernel)
def zT_N : u_T := fun k => match k with
  | 0 => ("RuleNetwork", "script", "LRuleNetwork$Script;", true)
  | 1 => ("RuleNetwork", "rules", "LRuleNetwork$Rules;", true)
  | 2 => ("RuleNetwork", "analysis", "LRuleNetwork$Analysis;", true)
  | 3 => ("RuleNetwork", "counter", "LRuleNetwork$NodeCounter;", true)
  | _ => ("RuleNetwork", "maker", "LRuleNetwork$CubeMaker;", true)
def zty_N : Nat → FieldType := fun k => match k with
  | 0 => .object "RuleNetwork$Script"
  | 1 => .object "RuleNetwork$Rules"
  | 2 => .object "RuleNetwork$Analysis"
  | 3 => .object "RuleNetwork$NodeCounter"
  | _ => .object "RuleNetwork$CubeMaker"
theorem znm_N : ∀ a, a < 5 → ∀ b, b < 5 → a ≠ b → (zT_N a).2.1 ≠ (zT_N b).2.1 := by decide +kernel
theorem zty_N_ok : ∀ k, k < 5 → parseFieldDescriptor (zT_N k).2.2.1 = some (zty_N k) := by decide +kernel
theorem zin_N : ∀ w ∈ u_ws "RuleNetwork" zT_N 5, w ∈ z_W := z_sub [231, 233, 235, 237, 239] (by decide +kernel) (by decide +kernel)
def zT_Q : u_T := fun k => match k with
  | 0 => ("RuleNetworkModel", "size", "I", false)
  | 1 => ("RuleNetworkModel", "text", "[I", true)
  | 2 => ("RuleNetworkModel", "genes", "I", false)
  | 3 => ("RuleNetworkModel", "names", "[I", true)
  | 4 => ("RuleNetworkModel", "low", "[J", true)
  | 5 => ("RuleNetworkModel", "high", "[J", true)
  | 6 => ("RuleNetworkModel", "fixed", "[I", true)
  | 7 => ("RuleNetworkModel", "found", "I", false)
  | 8 => ("RuleNetworkModel", "newNames", "[I", true)
  | 9 => ("RuleNetworkModel", "nested", "I", false)
  | 10 => ("RuleNetworkModel", "marks", "I", false)
  | 11 => ("RuleNetworkModel", "mark", "[I", true)
  | 12 => ("RuleNetworkModel", "values", "I", false)
  | 13 => ("RuleNetworkModel", "valueLow", "[J", true)
  | 14 => ("RuleNetworkModel", "valueHigh", "[J", true)
  | 15 => ("RuleNetworkModel", "rules", "I", false)
  | 16 => ("RuleNetworkModel", "analysed", "Z", false)
  | 17 => ("RuleNetworkModel", "one", "Z", false)
  | 18 => ("RuleNetworkModel", "reachLow", "[J", true)
  | 19 => ("RuleNetworkModel", "reachHigh", "[J", true)
  | 20 => ("RuleNetworkModel", "attractors", "I", false)
  | 21 => ("RuleNetworkModel", "leastOf", "[I", true)
  | 22 => ("RuleNetworkModel", "open", "I", false)
  | 23 => ("RuleNetworkModel", "givenTo", "[I", true)
  | _ => ("RuleNetworkModel", "given", "[I", true)
def zty_Q : Nat → FieldType := fun k => match k with
  | 0 => .int
  | 1 => .array .int
  | 2 => .int
  | 3 => .array .int
  | 4 => .array .long
  | 5 => .array .long
  | 6 => .array .int
  | 7 => .int
  | 8 => .array .int
  | 9 => .int
  | 10 => .int
  | 11 => .array .int
  | 12 => .int
  | 13 => .array .long
  | 14 => .array .long
  | 15 => .int
  | 16 => .boolean
  | 17 => .boolean
  | 18 => .array .long
  | 19 => .array .long
  | 20 => .int
  | 21 => .array .int
  | 22 => .int
  | 23 => .array .int
  | _ => .array .int
theorem znm_Q : ∀ a, a < 25 → ∀ b, b < 25 → a ≠ b → (zT_Q a).2.1 ≠ (zT_Q b).2.1 := by decide +kernel
theorem zty_Q_ok : ∀ k, k < 25 → parseFieldDescriptor (zT_Q k).2.2.1 = some (zty_Q k) := by decide +kernel
theorem zin_Q : ∀ w ∈ u_ws "RuleNetworkModel" zT_Q 25, w ∈ z_W := z_sub [559, 561, 563, 565, 567, 569, 571, 573, 575, 577, 579, 581, 583, 585, 587, 589, 591, 593, 595, 597, 599, 601, 603, 605, 607] (by decide +kernel) (by decide +kernel)
abbrev vwCl : List vw_C := [("RuleNetwork$Script", zT_S, 9), ("RuleNetwork$Rules", zT_R, 6), ("RuleNetwork$Analysis", zT_A, 9), ("RuleNetwork$NodeCounter", zT_C, 4), ("RuleNetwork$CubeMaker", zT_M, 5), ("RuleNetwork", zT_N, 5), ("RuleNetworkModel", zT_Q, 25)]
abbrev zb_JA_fill : ByteArray := prog_10_method_103_code
abbrev zy_JA_fill : MethodName := ({ cls := "java/util/Arrays", name := "fill", desc := "([II)V" } : Jvm.MethodName)
abbrev zs_JA_fill : List Cond := .code zy_JA_fill zb_JA_fill 4 none :: z_W
theorem zh_JA_fill : (zy_JA_fill).cls ≠ "java/lang/invoke/MethodHandle" ∧ (zy_JA_fill).cls ≠ "java/lang/invoke/VarHandle" ∧ (parseMethodDescriptor (zy_JA_fill).desc).map (fun d => d.parameters.length) = some 2 := by decide +kernel
abbrev zb_JL_bitCount : ByteArray := prog_9_method_50_code
abbrev zy_JL_bitCount : MethodName := ({ cls := "java/lang/Long", name := "bitCount", desc := "(J)I" } : Jvm.MethodName)
abbrev zs_JL_bitCount : List Cond := .code zy_JL_bitCount zb_JL_bitCount 2 (some .int) :: z_W
theorem zh_JL_bitCount : (zy_JL_bitCount).cls ≠ "java/lang/invoke/MethodHandle" ∧ (zy_JL_bitCount).cls ≠ "java/lang/invoke/VarHandle" ∧ (parseMethodDescriptor (zy_JL_bitCount).desc).map (fun d => d.parameters.length) = some 1 := by decide +kernel
abbrev zb_N_write : ByteArray := prog_1_method_2_code
abbrev zy_N_write : MethodName := ({ cls := "RuleNetwork", name := "write", desc := "(J)Z" } : Jvm.MethodName)
abbrev zs_N_write : List Cond := .code zy_N_write zb_N_write 3 (some .boolean) :: z_W
theorem zh_N_write : (zy_N_write).cls ≠ "java/lang/invoke/MethodHandle" ∧ (zy_N_write).cls ≠ "java/lang/invoke/VarHandle" ∧ (parseMethodDescriptor (zy_N_write).desc).map (fun d => d.parameters.length) = some 1 := by decide +kernel
abbrev zb_N_wipe : ByteArray := prog_1_method_3_code
abbrev zy_N_wipe : MethodName := ({ cls := "RuleNetwork", name := "wipe", desc := "()V" } : Jvm.MethodName)
abbrev zs_N_wipe : List Cond := .code zy_N_wipe zb_N_wipe 1 none :: z_W
theorem zh_N_wipe : (zy_N_wipe).cls ≠ "java/lang/invoke/MethodHandle" ∧ (zy_N_wipe).cls ≠ "java/lang/invoke/VarHandle" ∧ (parseMethodDescriptor (zy_N_wipe).desc).map (fun d => d.parameters.length) = some 0 := by decide +kernel
abbrev zb_N_load : ByteArray := prog_1_method_4_code
abbrev zy_N_load : MethodName := ({ cls := "RuleNetwork", name := "load", desc := "()I" } : Jvm.MethodName)
abbrev zs_N_load : List Cond := .code zy_N_load zb_N_load 2 (some .int) :: z_W
theorem zh_N_load : (zy_N_load).cls ≠ "java/lang/invoke/MethodHandle" ∧ (zy_N_load).cls ≠ "java/lang/invoke/VarHandle" ∧ (parseMethodDescriptor (zy_N_load).desc).map (fun d => d.parameters.length) = some 0 := by decide +kernel
abbrev zb_N_genes : ByteArray := prog_1_method_5_code
abbrev zy_N_genes : MethodName := ({ cls := "RuleNetwork", name := "genes", desc := "()I" } : Jvm.MethodName)
abbrev zs_N_genes : List Cond := .code zy_N_genes zb_N_genes 1 (some .int) :: z_W
theorem zh_N_genes : (zy_N_genes).cls ≠ "java/lang/invoke/MethodHandle" ∧ (zy_N_genes).cls ≠ "java/lang/invoke/VarHandle" ∧ (parseMethodDescriptor (zy_N_genes).desc).map (fun d => d.parameters.length) = some 0 := by decide +kernel
abbrev zb_N_gene : ByteArray := prog_1_method_6_code
abbrev zy_N_gene : MethodName := ({ cls := "RuleNetwork", name := "gene", desc := "(C)I" } : Jvm.MethodName)
abbrev zs_N_gene : List Cond := .code zy_N_gene zb_N_gene 2 (some .int) :: z_W
theorem zh_N_gene : (zy_N_gene).cls ≠ "java/lang/invoke/MethodHandle" ∧ (zy_N_gene).cls ≠ "java/lang/invoke/VarHandle" ∧ (parseMethodDescriptor (zy_N_gene).desc).map (fun d => d.parameters.length) = some 1 := by decide +kernel
abbrev zb_N_fix : ByteArray := prog_1_method_7_code
abbrev zy_N_fix : MethodName := ({ cls := "RuleNetwork", name := "fix", desc := "(II)Z" } : Jvm.MethodName)
abbrev zs_N_fix : List Cond := .code zy_N_fix zb_N_fix 3 (some .boolean) :: z_W
theorem zh_N_fix : (zy_N_fix).cls ≠ "java/lang/invoke/MethodHandle" ∧ (zy_N_fix).cls ≠ "java/lang/invoke/VarHandle" ∧ (parseMethodDescriptor (zy_N_fix).desc).map (fun d => d.parameters.length) = some 2 := by decide +kernel
abbrev zb_N_value : ByteArray := prog_1_method_8_code
abbrev zy_N_value : MethodName := ({ cls := "RuleNetwork", name := "value", desc := "(II)I" } : Jvm.MethodName)
abbrev zs_N_value : List Cond := .code zy_N_value zb_N_value 3 (some .int) :: z_W
theorem zh_N_value : (zy_N_value).cls ≠ "java/lang/invoke/MethodHandle" ∧ (zy_N_value).cls ≠ "java/lang/invoke/VarHandle" ∧ (parseMethodDescriptor (zy_N_value).desc).map (fun d => d.parameters.length) = some 2 := by decide +kernel
abbrev zb_N_next : ByteArray := prog_1_method_9_code
abbrev zy_N_next : MethodName := ({ cls := "RuleNetwork", name := "next", desc := "(I)I" } : Jvm.MethodName)
abbrev zs_N_next : List Cond := .code zy_N_next zb_N_next 2 (some .int) :: z_W
theorem zh_N_next : (zy_N_next).cls ≠ "java/lang/invoke/MethodHandle" ∧ (zy_N_next).cls ≠ "java/lang/invoke/VarHandle" ∧ (parseMethodDescriptor (zy_N_next).desc).map (fun d => d.parameters.length) = some 1 := by decide +kernel
abbrev zb_N_spread : ByteArray := prog_1_method_10_code
abbrev zy_N_spread : MethodName := ({ cls := "RuleNetwork", name := "spread", desc := "(I)I" } : Jvm.MethodName)
abbrev zs_N_spread : List Cond := .code zy_N_spread zb_N_spread 2 (some .int) :: z_W
theorem zh_N_spread : (zy_N_spread).cls ≠ "java/lang/invoke/MethodHandle" ∧ (zy_N_spread).cls ≠ "java/lang/invoke/VarHandle" ∧ (parseMethodDescriptor (zy_N_spread).desc).map (fun d => d.parameters.length) = some 1 := by decide +kernel
abbrev zb_N_analyse : ByteArray := prog_1_method_11_code
abbrev zy_N_analyse : MethodName := ({ cls := "RuleNetwork", name := "analyse", desc := "(Z)I" } : Jvm.MethodName)
abbrev zs_N_analyse : List Cond := .code zy_N_analyse zb_N_analyse 2 (some .int) :: z_W
theorem zh_N_analyse : (zy_N_analyse).cls ≠ "java/lang/invoke/MethodHandle" ∧ (zy_N_analyse).cls ≠ "java/lang/invoke/VarHandle" ∧ (parseMethodDescriptor (zy_N_analyse).desc).map (fun d => d.parameters.length) = some 1 := by decide +kernel
abbrev zb_N_size : ByteArray := prog_1_method_12_code
abbrev zy_N_size : MethodName := ({ cls := "RuleNetwork", name := "size", desc := "(I)I" } : Jvm.MethodName)
abbrev zs_N_size : List Cond := .code zy_N_size zb_N_size 2 (some .int) :: z_W
theorem zh_N_size : (zy_N_size).cls ≠ "java/lang/invoke/MethodHandle" ∧ (zy_N_size).cls ≠ "java/lang/invoke/VarHandle" ∧ (parseMethodDescriptor (zy_N_size).desc).map (fun d => d.parameters.length) = some 1 := by decide +kernel
abbrev zb_N_least : ByteArray := prog_1_method_13_code
abbrev zy_N_least : MethodName := ({ cls := "RuleNetwork", name := "least", desc := "(I)I" } : Jvm.MethodName)
abbrev zs_N_least : List Cond := .code zy_N_least zb_N_least 2 (some .int) :: z_W
theorem zh_N_least : (zy_N_least).cls ≠ "java/lang/invoke/MethodHandle" ∧ (zy_N_least).cls ≠ "java/lang/invoke/VarHandle" ∧ (parseMethodDescriptor (zy_N_least).desc).map (fun d => d.parameters.length) = some 1 := by decide +kernel
abbrev zb_N_attractor : ByteArray := prog_1_method_14_code
abbrev zy_N_attractor : MethodName := ({ cls := "RuleNetwork", name := "attractor", desc := "(I)I" } : Jvm.MethodName)
abbrev zs_N_attractor : List Cond := .code zy_N_attractor zb_N_attractor 2 (some .int) :: z_W
theorem zh_N_attractor : (zy_N_attractor).cls ≠ "java/lang/invoke/MethodHandle" ∧ (zy_N_attractor).cls ≠ "java/lang/invoke/VarHandle" ∧ (parseMethodDescriptor (zy_N_attractor).desc).map (fun d => d.parameters.length) = some 1 := by decide +kernel
abbrev zb_N_basin : ByteArray := prog_1_method_15_code
abbrev zy_N_basin : MethodName := ({ cls := "RuleNetwork", name := "basin", desc := "(I)I" } : Jvm.MethodName)
abbrev zs_N_basin : List Cond := .code zy_N_basin zb_N_basin 2 (some .int) :: z_W
theorem zh_N_basin : (zy_N_basin).cls ≠ "java/lang/invoke/MethodHandle" ∧ (zy_N_basin).cls ≠ "java/lang/invoke/VarHandle" ∧ (parseMethodDescriptor (zy_N_basin).desc).map (fun d => d.parameters.length) = some 1 := by decide +kernel
abbrev zb_N_only : ByteArray := prog_1_method_16_code
abbrev zy_N_only : MethodName := ({ cls := "RuleNetwork", name := "only", desc := "(I)I" } : Jvm.MethodName)
abbrev zs_N_only : List Cond := .code zy_N_only zb_N_only 2 (some .int) :: z_W
theorem zh_N_only : (zy_N_only).cls ≠ "java/lang/invoke/MethodHandle" ∧ (zy_N_only).cls ≠ "java/lang/invoke/VarHandle" ∧ (parseMethodDescriptor (zy_N_only).desc).map (fun d => d.parameters.length) = some 1 := by decide +kernel
abbrev zb_N_cubes : ByteArray := prog_1_method_17_code
abbrev zy_N_cubes : MethodName := ({ cls := "RuleNetwork", name := "cubes", desc := "(I)I" } : Jvm.MethodName)
abbrev zs_N_cubes : List Cond := .code zy_N_cubes zb_N_cubes 2 (some .int) :: z_W
theorem zh_N_cubes : (zy_N_cubes).cls ≠ "java/lang/invoke/MethodHandle" ∧ (zy_N_cubes).cls ≠ "java/lang/invoke/VarHandle" ∧ (parseMethodDescriptor (zy_N_cubes).desc).map (fun d => d.parameters.length) = some 1 := by decide +kernel
abbrev zb_N_cube : ByteArray := prog_1_method_18_code
abbrev zy_N_cube : MethodName := ({ cls := "RuleNetwork", name := "cube", desc := "(II)I" } : Jvm.MethodName)
abbrev zs_N_cube : List Cond := .code zy_N_cube zb_N_cube 3 (some .int) :: z_W
theorem zh_N_cube : (zy_N_cube).cls ≠ "java/lang/invoke/MethodHandle" ∧ (zy_N_cube).cls ≠ "java/lang/invoke/VarHandle" ∧ (parseMethodDescriptor (zy_N_cube).desc).map (fun d => d.parameters.length) = some 2 := by decide +kernel
abbrev zb_N_makeCubes : ByteArray := prog_1_method_19_code
abbrev zy_N_makeCubes : MethodName := ({ cls := "RuleNetwork", name := "makeCubes", desc := "(I)V" } : Jvm.MethodName)
abbrev zs_N_makeCubes : List Cond := .code zy_N_makeCubes zb_N_makeCubes 3 none :: z_W
theorem zh_N_makeCubes : (zy_N_makeCubes).cls ≠ "java/lang/invoke/MethodHandle" ∧ (zy_N_makeCubes).cls ≠ "java/lang/invoke/VarHandle" ∧ (parseMethodDescriptor (zy_N_makeCubes).desc).map (fun d => d.parameters.length) = some 1 := by decide +kernel
abbrev zb_N_indexOf : ByteArray := prog_1_method_20_code
abbrev zy_N_indexOf : MethodName := ({ cls := "RuleNetwork", name := "indexOf", desc := "(C[CI)I" } : Jvm.MethodName)
abbrev zs_N_indexOf : List Cond := .code zy_N_indexOf zb_N_indexOf 4 (some .int) :: z_W
theorem zh_N_indexOf : (zy_N_indexOf).cls ≠ "java/lang/invoke/MethodHandle" ∧ (zy_N_indexOf).cls ≠ "java/lang/invoke/VarHandle" ∧ (parseMethodDescriptor (zy_N_indexOf).desc).map (fun d => d.parameters.length) = some 3 := by decide +kernel
abbrev zb_N_bitOf : ByteArray := prog_1_method_21_code
abbrev zy_N_bitOf : MethodName := ({ cls := "RuleNetwork", name := "bitOf", desc := "(JJI)I" } : Jvm.MethodName)
abbrev zs_N_bitOf : List Cond := .code zy_N_bitOf zb_N_bitOf 5 (some .int) :: z_W
theorem zh_N_bitOf : (zy_N_bitOf).cls ≠ "java/lang/invoke/MethodHandle" ∧ (zy_N_bitOf).cls ≠ "java/lang/invoke/VarHandle" ∧ (parseMethodDescriptor (zy_N_bitOf).desc).map (fun d => d.parameters.length) = some 3 := by decide +kernel
abbrev zb_S_clear : ByteArray := prog_6_method_2_code
abbrev zy_S_clear : MethodName := ({ cls := "RuleNetwork$Script", name := "clear", desc := "()V" } : Jvm.MethodName)
abbrev zs_S_clear : List Cond := .code zy_S_clear zb_S_clear 1 none :: z_W
theorem zh_S_clear : (zy_S_clear).cls ≠ "java/lang/invoke/MethodHandle" ∧ (zy_S_clear).cls ≠ "java/lang/invoke/VarHandle" ∧ (parseMethodDescriptor (zy_S_clear).desc).map (fun d => d.parameters.length) = some 0 := by decide +kernel
abbrev zb_S_append : ByteArray := prog_6_method_3_code
abbrev zy_S_append : MethodName := ({ cls := "RuleNetwork$Script", name := "append", desc := "(J)Z" } : Jvm.MethodName)
abbrev zs_S_append : List Cond := .code zy_S_append zb_S_append 6 (some .boolean) :: z_W
theorem zh_S_append : (zy_S_append).cls ≠ "java/lang/invoke/MethodHandle" ∧ (zy_S_append).cls ≠ "java/lang/invoke/VarHandle" ∧ (parseMethodDescriptor (zy_S_append).desc).map (fun d => d.parameters.length) = some 1 := by decide +kernel
abbrev zb_S_countCharacters : ByteArray := prog_6_method_4_code
abbrev zy_S_countCharacters : MethodName := ({ cls := "RuleNetwork$Script", name := "countCharacters", desc := "(J)I" } : Jvm.MethodName)
abbrev zs_S_countCharacters : List Cond := .code zy_S_countCharacters zb_S_countCharacters 5 (some .int) :: z_W
theorem zh_S_countCharacters : (zy_S_countCharacters).cls ≠ "java/lang/invoke/MethodHandle" ∧ (zy_S_countCharacters).cls ≠ "java/lang/invoke/VarHandle" ∧ (parseMethodDescriptor (zy_S_countCharacters).desc).map (fun d => d.parameters.length) = some 1 := by decide +kernel
abbrev zb_S_byteAt : ByteArray := prog_6_method_5_code
abbrev zy_S_byteAt : MethodName := ({ cls := "RuleNetwork$Script", name := "byteAt", desc := "(JI)C" } : Jvm.MethodName)
abbrev zs_S_byteAt : List Cond := .code zy_S_byteAt zb_S_byteAt 3 (some .char) :: z_W
theorem zh_S_byteAt : (zy_S_byteAt).cls ≠ "java/lang/invoke/MethodHandle" ∧ (zy_S_byteAt).cls ≠ "java/lang/invoke/VarHandle" ∧ (parseMethodDescriptor (zy_S_byteAt).desc).map (fun d => d.parameters.length) = some 2 := by decide +kernel
abbrev zb_S_findFault : ByteArray := prog_6_method_6_code
abbrev zy_S_findFault : MethodName := ({ cls := "RuleNetwork$Script", name := "findFault", desc := "()I" } : Jvm.MethodName)
abbrev zs_S_findFault : List Cond := .code zy_S_findFault zb_S_findFault 1 (some .int) :: z_W
theorem zh_S_findFault : (zy_S_findFault).cls ≠ "java/lang/invoke/MethodHandle" ∧ (zy_S_findFault).cls ≠ "java/lang/invoke/VarHandle" ∧ (parseMethodDescriptor (zy_S_findFault).desc).map (fun d => d.parameters.length) = some 0 := by decide +kernel
abbrev zb_S_findStranger : ByteArray := prog_6_method_7_code
abbrev zy_S_findStranger : MethodName := ({ cls := "RuleNetwork$Script", name := "findStranger", desc := "()I" } : Jvm.MethodName)
abbrev zs_S_findStranger : List Cond := .code zy_S_findStranger zb_S_findStranger 5 (some .int) :: z_W
theorem zh_S_findStranger : (zy_S_findStranger).cls ≠ "java/lang/invoke/MethodHandle" ∧ (zy_S_findStranger).cls ≠ "java/lang/invoke/VarHandle" ∧ (parseMethodDescriptor (zy_S_findStranger).desc).map (fun d => d.parameters.length) = some 0 := by decide +kernel
abbrev zb_S_readRules : ByteArray := prog_6_method_8_code
abbrev zy_S_readRules : MethodName := ({ cls := "RuleNetwork$Script", name := "readRules", desc := "()Z" } : Jvm.MethodName)
abbrev zs_S_readRules : List Cond := .code zy_S_readRules zb_S_readRules 2 (some .boolean) :: z_W
theorem zh_S_readRules : (zy_S_readRules).cls ≠ "java/lang/invoke/MethodHandle" ∧ (zy_S_readRules).cls ≠ "java/lang/invoke/VarHandle" ∧ (parseMethodDescriptor (zy_S_readRules).desc).map (fun d => d.parameters.length) = some 0 := by decide +kernel
abbrev zb_S_readRule : ByteArray := prog_6_method_9_code
abbrev zy_S_readRule : MethodName := ({ cls := "RuleNetwork$Script", name := "readRule", desc := "()Z" } : Jvm.MethodName)
abbrev zs_S_readRule : List Cond := .code zy_S_readRule zb_S_readRule 2 (some .boolean) :: z_W
theorem zh_S_readRule : (zy_S_readRule).cls ≠ "java/lang/invoke/MethodHandle" ∧ (zy_S_readRule).cls ≠ "java/lang/invoke/VarHandle" ∧ (parseMethodDescriptor (zy_S_readRule).desc).map (fun d => d.parameters.length) = some 0 := by decide +kernel
abbrev zb_S_readSum : ByteArray := prog_6_method_10_code
abbrev zy_S_readSum : MethodName := ({ cls := "RuleNetwork$Script", name := "readSum", desc := "(I)Z" } : Jvm.MethodName)
abbrev zs_S_readSum : List Cond := .code zy_S_readSum zb_S_readSum 3 (some .boolean) :: z_W
theorem zh_S_readSum : (zy_S_readSum).cls ≠ "java/lang/invoke/MethodHandle" ∧ (zy_S_readSum).cls ≠ "java/lang/invoke/VarHandle" ∧ (parseMethodDescriptor (zy_S_readSum).desc).map (fun d => d.parameters.length) = some 1 := by decide +kernel
abbrev zb_S_readProduct : ByteArray := prog_6_method_11_code
abbrev zy_S_readProduct : MethodName := ({ cls := "RuleNetwork$Script", name := "readProduct", desc := "(I)Z" } : Jvm.MethodName)
abbrev zs_S_readProduct : List Cond := .code zy_S_readProduct zb_S_readProduct 3 (some .boolean) :: z_W
theorem zh_S_readProduct : (zy_S_readProduct).cls ≠ "java/lang/invoke/MethodHandle" ∧ (zy_S_readProduct).cls ≠ "java/lang/invoke/VarHandle" ∧ (parseMethodDescriptor (zy_S_readProduct).desc).map (fun d => d.parameters.length) = some 1 := by decide +kernel
abbrev zb_S_readFactor : ByteArray := prog_6_method_12_code
abbrev zy_S_readFactor : MethodName := ({ cls := "RuleNetwork$Script", name := "readFactor", desc := "(I)Z" } : Jvm.MethodName)
abbrev zs_S_readFactor : List Cond := .code zy_S_readFactor zb_S_readFactor 3 (some .boolean) :: z_W
theorem zh_S_readFactor : (zy_S_readFactor).cls ≠ "java/lang/invoke/MethodHandle" ∧ (zy_S_readFactor).cls ≠ "java/lang/invoke/VarHandle" ∧ (parseMethodDescriptor (zy_S_readFactor).desc).map (fun d => d.parameters.length) = some 1 := by decide +kernel
abbrev zb_S_readLeaf : ByteArray := prog_6_method_13_code
abbrev zy_S_readLeaf : MethodName := ({ cls := "RuleNetwork$Script", name := "readLeaf", desc := "(C)Z" } : Jvm.MethodName)
abbrev zs_S_readLeaf : List Cond := .code zy_S_readLeaf zb_S_readLeaf 2 (some .boolean) :: z_W
theorem zh_S_readLeaf : (zy_S_readLeaf).cls ≠ "java/lang/invoke/MethodHandle" ∧ (zy_S_readLeaf).cls ≠ "java/lang/invoke/VarHandle" ∧ (parseMethodDescriptor (zy_S_readLeaf).desc).map (fun d => d.parameters.length) = some 1 := by decide +kernel
abbrev zb_S_readMark : ByteArray := prog_6_method_14_code
abbrev zy_S_readMark : MethodName := ({ cls := "RuleNetwork$Script", name := "readMark", desc := "(C)Z" } : Jvm.MethodName)
abbrev zs_S_readMark : List Cond := .code zy_S_readMark zb_S_readMark 2 (some .boolean) :: z_W
theorem zh_S_readMark : (zy_S_readMark).cls ≠ "java/lang/invoke/MethodHandle" ∧ (zy_S_readMark).cls ≠ "java/lang/invoke/VarHandle" ∧ (parseMethodDescriptor (zy_S_readMark).desc).map (fun d => d.parameters.length) = some 1 := by decide +kernel
abbrev zb_S_ahead : ByteArray := prog_6_method_15_code
abbrev zy_S_ahead : MethodName := ({ cls := "RuleNetwork$Script", name := "ahead", desc := "()C" } : Jvm.MethodName)
abbrev zs_S_ahead : List Cond := .code zy_S_ahead zb_S_ahead 1 (some .char) :: z_W
theorem zh_S_ahead : (zy_S_ahead).cls ≠ "java/lang/invoke/MethodHandle" ∧ (zy_S_ahead).cls ≠ "java/lang/invoke/VarHandle" ∧ (parseMethodDescriptor (zy_S_ahead).desc).map (fun d => d.parameters.length) = some 0 := by decide +kernel
abbrev zb_S_emit : ByteArray := prog_6_method_16_code
abbrev zy_S_emit : MethodName := ({ cls := "RuleNetwork$Script", name := "emit", desc := "(C)V" } : Jvm.MethodName)
abbrev zs_S_emit : List Cond := .code zy_S_emit zb_S_emit 2 none :: z_W
theorem zh_S_emit : (zy_S_emit).cls ≠ "java/lang/invoke/MethodHandle" ∧ (zy_S_emit).cls ≠ "java/lang/invoke/VarHandle" ∧ (parseMethodDescriptor (zy_S_emit).desc).map (fun d => d.parameters.length) = some 1 := by decide +kernel
abbrev zb_S_isName : ByteArray := prog_6_method_17_code
abbrev zy_S_isName : MethodName := ({ cls := "RuleNetwork$Script", name := "isName", desc := "(C)Z" } : Jvm.MethodName)
abbrev zs_S_isName : List Cond := .code zy_S_isName zb_S_isName 1 (some .boolean) :: z_W
theorem zh_S_isName : (zy_S_isName).cls ≠ "java/lang/invoke/MethodHandle" ∧ (zy_S_isName).cls ≠ "java/lang/invoke/VarHandle" ∧ (parseMethodDescriptor (zy_S_isName).desc).map (fun d => d.parameters.length) = some 1 := by decide +kernel
abbrev zb_R_take : ByteArray := prog_5_method_2_code
abbrev zy_R_take : MethodName := ({ cls := "RuleNetwork$Rules", name := "take", desc := "(LRuleNetwork$Script;)V" } : Jvm.MethodName)
abbrev zs_R_take : List Cond := .code zy_R_take zb_R_take 4 none :: z_W
theorem zh_R_take : (zy_R_take).cls ≠ "java/lang/invoke/MethodHandle" ∧ (zy_R_take).cls ≠ "java/lang/invoke/VarHandle" ∧ (parseMethodDescriptor (zy_R_take).desc).map (fun d => d.parameters.length) = some 1 := by decide +kernel
abbrev zb_R_work : ByteArray := prog_5_method_3_code
abbrev zy_R_work : MethodName := ({ cls := "RuleNetwork$Rules", name := "work", desc := "(LRuleNetwork$Script;IIJ)J" } : Jvm.MethodName)
abbrev zs_R_work : List Cond := .code zy_R_work zb_R_work 9 (some .long) :: z_W
theorem zh_R_work : (zy_R_work).cls ≠ "java/lang/invoke/MethodHandle" ∧ (zy_R_work).cls ≠ "java/lang/invoke/VarHandle" ∧ (parseMethodDescriptor (zy_R_work).desc).map (fun d => d.parameters.length) = some 4 := by decide +kernel
abbrev zb_R_leafBits : ByteArray := prog_5_method_4_code
abbrev zy_R_leafBits : MethodName := ({ cls := "RuleNetwork$Rules", name := "leafBits", desc := "(LRuleNetwork$Script;CJ)J" } : Jvm.MethodName)
abbrev zs_R_leafBits : List Cond := .code zy_R_leafBits zb_R_leafBits 5 (some .long) :: z_W
theorem zh_R_leafBits : (zy_R_leafBits).cls ≠ "java/lang/invoke/MethodHandle" ∧ (zy_R_leafBits).cls ≠ "java/lang/invoke/VarHandle" ∧ (parseMethodDescriptor (zy_R_leafBits).desc).map (fun d => d.parameters.length) = some 3 := by decide +kernel
abbrev zb_R_hasGene : ByteArray := prog_5_method_5_code
abbrev zy_R_hasGene : MethodName := ({ cls := "RuleNetwork$Rules", name := "hasGene", desc := "(I)Z" } : Jvm.MethodName)
abbrev zs_R_hasGene : List Cond := .code zy_R_hasGene zb_R_hasGene 2 (some .boolean) :: z_W
theorem zh_R_hasGene : (zy_R_hasGene).cls ≠ "java/lang/invoke/MethodHandle" ∧ (zy_R_hasGene).cls ≠ "java/lang/invoke/VarHandle" ∧ (parseMethodDescriptor (zy_R_hasGene).desc).map (fun d => d.parameters.length) = some 1 := by decide +kernel
abbrev zb_R_hasState : ByteArray := prog_5_method_6_code
abbrev zy_R_hasState : MethodName := ({ cls := "RuleNetwork$Rules", name := "hasState", desc := "(I)Z" } : Jvm.MethodName)
abbrev zs_R_hasState : List Cond := .code zy_R_hasState zb_R_hasState 2 (some .boolean) :: z_W
theorem zh_R_hasState : (zy_R_hasState).cls ≠ "java/lang/invoke/MethodHandle" ∧ (zy_R_hasState).cls ≠ "java/lang/invoke/VarHandle" ∧ (parseMethodDescriptor (zy_R_hasState).desc).map (fun d => d.parameters.length) = some 1 := by decide +kernel
abbrev zb_R_valueOf : ByteArray := prog_5_method_7_code
abbrev zy_R_valueOf : MethodName := ({ cls := "RuleNetwork$Rules", name := "valueOf", desc := "(II)I" } : Jvm.MethodName)
abbrev zs_R_valueOf : List Cond := .code zy_R_valueOf zb_R_valueOf 3 (some .int) :: z_W
theorem zh_R_valueOf : (zy_R_valueOf).cls ≠ "java/lang/invoke/MethodHandle" ∧ (zy_R_valueOf).cls ≠ "java/lang/invoke/VarHandle" ∧ (parseMethodDescriptor (zy_R_valueOf).desc).map (fun d => d.parameters.length) = some 2 := by decide +kernel
abbrev zb_R_stepTogether : ByteArray := prog_5_method_8_code
abbrev zy_R_stepTogether : MethodName := ({ cls := "RuleNetwork$Rules", name := "stepTogether", desc := "(I)I" } : Jvm.MethodName)
abbrev zs_R_stepTogether : List Cond := .code zy_R_stepTogether zb_R_stepTogether 4 (some .int) :: z_W
theorem zh_R_stepTogether : (zy_R_stepTogether).cls ≠ "java/lang/invoke/MethodHandle" ∧ (zy_R_stepTogether).cls ≠ "java/lang/invoke/VarHandle" ∧ (parseMethodDescriptor (zy_R_stepTogether).desc).map (fun d => d.parameters.length) = some 1 := by decide +kernel
abbrev zb_A_forget : ByteArray := prog_2_method_2_code
abbrev zy_A_forget : MethodName := ({ cls := "RuleNetwork$Analysis", name := "forget", desc := "()V" } : Jvm.MethodName)
abbrev zs_A_forget : List Cond := .code zy_A_forget zb_A_forget 1 none :: z_W
theorem zh_A_forget : (zy_A_forget).cls ≠ "java/lang/invoke/MethodHandle" ∧ (zy_A_forget).cls ≠ "java/lang/invoke/VarHandle" ∧ (parseMethodDescriptor (zy_A_forget).desc).map (fun d => d.parameters.length) = some 0 := by decide +kernel
abbrev zb_A_run : ByteArray := prog_2_method_3_code
abbrev zy_A_run : MethodName := ({ cls := "RuleNetwork$Analysis", name := "run", desc := "(LRuleNetwork$Rules;Z)V" } : Jvm.MethodName)
abbrev zs_A_run : List Cond := .code zy_A_run zb_A_run 4 none :: z_W
theorem zh_A_run : (zy_A_run).cls ≠ "java/lang/invoke/MethodHandle" ∧ (zy_A_run).cls ≠ "java/lang/invoke/VarHandle" ∧ (parseMethodDescriptor (zy_A_run).desc).map (fun d => d.parameters.length) = some 2 := by decide +kernel
abbrev zb_A_markSteps : ByteArray := prog_2_method_4_code
abbrev zy_A_markSteps : MethodName := ({ cls := "RuleNetwork$Analysis", name := "markSteps", desc := "(IIZ)V" } : Jvm.MethodName)
abbrev zs_A_markSteps : List Cond := .code zy_A_markSteps zb_A_markSteps 6 none :: z_W
theorem zh_A_markSteps : (zy_A_markSteps).cls ≠ "java/lang/invoke/MethodHandle" ∧ (zy_A_markSteps).cls ≠ "java/lang/invoke/VarHandle" ∧ (parseMethodDescriptor (zy_A_markSteps).desc).map (fun d => d.parameters.length) = some 3 := by decide +kernel
abbrev zb_A_markLeading : ByteArray := prog_2_method_5_code
abbrev zy_A_markLeading : MethodName := ({ cls := "RuleNetwork$Analysis", name := "markLeading", desc := "(II)V" } : Jvm.MethodName)
abbrev zs_A_markLeading : List Cond := .code zy_A_markLeading zb_A_markLeading 3 none :: z_W
theorem zh_A_markLeading : (zy_A_markLeading).cls ≠ "java/lang/invoke/MethodHandle" ∧ (zy_A_markLeading).cls ≠ "java/lang/invoke/VarHandle" ∧ (parseMethodDescriptor (zy_A_markLeading).desc).map (fun d => d.parameters.length) = some 2 := by decide +kernel
abbrev zb_A_joinSteps : ByteArray := prog_2_method_6_code
abbrev zy_A_joinSteps : MethodName := ({ cls := "RuleNetwork$Analysis", name := "joinSteps", desc := "()V" } : Jvm.MethodName)
abbrev zs_A_joinSteps : List Cond := .code zy_A_joinSteps zb_A_joinSteps 3 none :: z_W
theorem zh_A_joinSteps : (zy_A_joinSteps).cls ≠ "java/lang/invoke/MethodHandle" ∧ (zy_A_joinSteps).cls ≠ "java/lang/invoke/VarHandle" ∧ (parseMethodDescriptor (zy_A_joinSteps).desc).map (fun d => d.parameters.length) = some 0 := by decide +kernel
abbrev zb_A_findAttractors : ByteArray := prog_2_method_7_code
abbrev zy_A_findAttractors : MethodName := ({ cls := "RuleNetwork$Analysis", name := "findAttractors", desc := "()V" } : Jvm.MethodName)
abbrev zs_A_findAttractors : List Cond := .code zy_A_findAttractors zb_A_findAttractors 2 none :: z_W
theorem zh_A_findAttractors : (zy_A_findAttractors).cls ≠ "java/lang/invoke/MethodHandle" ∧ (zy_A_findAttractors).cls ≠ "java/lang/invoke/VarHandle" ∧ (parseMethodDescriptor (zy_A_findAttractors).desc).map (fun d => d.parameters.length) = some 0 := by decide +kernel
abbrev zb_A_isLedBackTo : ByteArray := prog_2_method_8_code
abbrev zy_A_isLedBackTo : MethodName := ({ cls := "RuleNetwork$Analysis", name := "isLedBackTo", desc := "(I)Z" } : Jvm.MethodName)
abbrev zs_A_isLedBackTo : List Cond := .code zy_A_isLedBackTo zb_A_isLedBackTo 3 (some .boolean) :: z_W
theorem zh_A_isLedBackTo : (zy_A_isLedBackTo).cls ≠ "java/lang/invoke/MethodHandle" ∧ (zy_A_isLedBackTo).cls ≠ "java/lang/invoke/VarHandle" ∧ (parseMethodDescriptor (zy_A_isLedBackTo).desc).map (fun d => d.parameters.length) = some 1 := by decide +kernel
abbrev zb_A_addAttractor : ByteArray := prog_2_method_9_code
abbrev zy_A_addAttractor : MethodName := ({ cls := "RuleNetwork$Analysis", name := "addAttractor", desc := "(I)V" } : Jvm.MethodName)
abbrev zs_A_addAttractor : List Cond := .code zy_A_addAttractor zb_A_addAttractor 3 none :: z_W
theorem zh_A_addAttractor : (zy_A_addAttractor).cls ≠ "java/lang/invoke/MethodHandle" ∧ (zy_A_addAttractor).cls ≠ "java/lang/invoke/VarHandle" ∧ (parseMethodDescriptor (zy_A_addAttractor).desc).map (fun d => d.parameters.length) = some 1 := by decide +kernel
abbrev zb_A_leads : ByteArray := prog_2_method_10_code
abbrev zy_A_leads : MethodName := ({ cls := "RuleNetwork$Analysis", name := "leads", desc := "(II)Z" } : Jvm.MethodName)
abbrev zs_A_leads : List Cond := .code zy_A_leads zb_A_leads 3 (some .boolean) :: z_W
theorem zh_A_leads : (zy_A_leads).cls ≠ "java/lang/invoke/MethodHandle" ∧ (zy_A_leads).cls ≠ "java/lang/invoke/VarHandle" ∧ (parseMethodDescriptor (zy_A_leads).desc).map (fun d => d.parameters.length) = some 2 := by decide +kernel
abbrev zb_A_hasAttractor : ByteArray := prog_2_method_11_code
abbrev zy_A_hasAttractor : MethodName := ({ cls := "RuleNetwork$Analysis", name := "hasAttractor", desc := "(I)Z" } : Jvm.MethodName)
abbrev zs_A_hasAttractor : List Cond := .code zy_A_hasAttractor zb_A_hasAttractor 2 (some .boolean) :: z_W
theorem zh_A_hasAttractor : (zy_A_hasAttractor).cls ≠ "java/lang/invoke/MethodHandle" ∧ (zy_A_hasAttractor).cls ≠ "java/lang/invoke/VarHandle" ∧ (parseMethodDescriptor (zy_A_hasAttractor).desc).map (fun d => d.parameters.length) = some 1 := by decide +kernel
abbrev zb_A_hasState : ByteArray := prog_2_method_12_code
abbrev zy_A_hasState : MethodName := ({ cls := "RuleNetwork$Analysis", name := "hasState", desc := "(I)Z" } : Jvm.MethodName)
abbrev zs_A_hasState : List Cond := .code zy_A_hasState zb_A_hasState 2 (some .boolean) :: z_W
theorem zh_A_hasState : (zy_A_hasState).cls ≠ "java/lang/invoke/MethodHandle" ∧ (zy_A_hasState).cls ≠ "java/lang/invoke/VarHandle" ∧ (parseMethodDescriptor (zy_A_hasState).desc).map (fun d => d.parameters.length) = some 1 := by decide +kernel
abbrev zb_A_countStates : ByteArray := prog_2_method_13_code
abbrev zy_A_countStates : MethodName := ({ cls := "RuleNetwork$Analysis", name := "countStates", desc := "(I)I" } : Jvm.MethodName)
abbrev zs_A_countStates : List Cond := .code zy_A_countStates zb_A_countStates 3 (some .int) :: z_W
theorem zh_A_countStates : (zy_A_countStates).cls ≠ "java/lang/invoke/MethodHandle" ∧ (zy_A_countStates).cls ≠ "java/lang/invoke/VarHandle" ∧ (parseMethodDescriptor (zy_A_countStates).desc).map (fun d => d.parameters.length) = some 1 := by decide +kernel
abbrev zb_A_countLeading : ByteArray := prog_2_method_14_code
abbrev zy_A_countLeading : MethodName := ({ cls := "RuleNetwork$Analysis", name := "countLeading", desc := "(I)I" } : Jvm.MethodName)
abbrev zs_A_countLeading : List Cond := .code zy_A_countLeading zb_A_countLeading 4 (some .int) :: z_W
theorem zh_A_countLeading : (zy_A_countLeading).cls ≠ "java/lang/invoke/MethodHandle" ∧ (zy_A_countLeading).cls ≠ "java/lang/invoke/VarHandle" ∧ (parseMethodDescriptor (zy_A_countLeading).desc).map (fun d => d.parameters.length) = some 1 := by decide +kernel
abbrev zb_A_countLeadingOnly : ByteArray := prog_2_method_15_code
abbrev zy_A_countLeadingOnly : MethodName := ({ cls := "RuleNetwork$Analysis", name := "countLeadingOnly", desc := "(I)I" } : Jvm.MethodName)
abbrev zs_A_countLeadingOnly : List Cond := .code zy_A_countLeadingOnly zb_A_countLeadingOnly 4 (some .int) :: z_W
theorem zh_A_countLeadingOnly : (zy_A_countLeadingOnly).cls ≠ "java/lang/invoke/MethodHandle" ∧ (zy_A_countLeadingOnly).cls ≠ "java/lang/invoke/VarHandle" ∧ (parseMethodDescriptor (zy_A_countLeadingOnly).desc).map (fun d => d.parameters.length) = some 1 := by decide +kernel
abbrev zb_A_countAttractorsFrom : ByteArray := prog_2_method_16_code
abbrev zy_A_countAttractorsFrom : MethodName := ({ cls := "RuleNetwork$Analysis", name := "countAttractorsFrom", desc := "(I)I" } : Jvm.MethodName)
abbrev zs_A_countAttractorsFrom : List Cond := .code zy_A_countAttractorsFrom zb_A_countAttractorsFrom 2 (some .int) :: z_W
theorem zh_A_countAttractorsFrom : (zy_A_countAttractorsFrom).cls ≠ "java/lang/invoke/MethodHandle" ∧ (zy_A_countAttractorsFrom).cls ≠ "java/lang/invoke/VarHandle" ∧ (parseMethodDescriptor (zy_A_countAttractorsFrom).desc).map (fun d => d.parameters.length) = some 1 := by decide +kernel
abbrev zb_C_countNodes : ByteArray := prog_4_method_2_code
abbrev zy_C_countNodes : MethodName := ({ cls := "RuleNetwork$NodeCounter", name := "countNodes", desc := "(LRuleNetwork$Rules;I)I" } : Jvm.MethodName)
abbrev zs_C_countNodes : List Cond := .code zy_C_countNodes zb_C_countNodes 4 (some .int) :: z_W
theorem zh_C_countNodes : (zy_C_countNodes).cls ≠ "java/lang/invoke/MethodHandle" ∧ (zy_C_countNodes).cls ≠ "java/lang/invoke/VarHandle" ∧ (parseMethodDescriptor (zy_C_countNodes).desc).map (fun d => d.parameters.length) = some 2 := by decide +kernel
abbrev zb_C_joinAt : ByteArray := prog_4_method_3_code
abbrev zy_C_joinAt : MethodName := ({ cls := "RuleNetwork$NodeCounter", name := "joinAt", desc := "(I)V" } : Jvm.MethodName)
abbrev zs_C_joinAt : List Cond := .code zy_C_joinAt zb_C_joinAt 5 none :: z_W
theorem zh_C_joinAt : (zy_C_joinAt).cls ≠ "java/lang/invoke/MethodHandle" ∧ (zy_C_joinAt).cls ≠ "java/lang/invoke/VarHandle" ∧ (parseMethodDescriptor (zy_C_joinAt).desc).map (fun d => d.parameters.length) = some 1 := by decide +kernel
abbrev zb_C_numberOf : ByteArray := prog_4_method_4_code
abbrev zy_C_numberOf : MethodName := ({ cls := "RuleNetwork$NodeCounter", name := "numberOf", desc := "(III)I" } : Jvm.MethodName)
abbrev zs_C_numberOf : List Cond := .code zy_C_numberOf zb_C_numberOf 5 (some .int) :: z_W
theorem zh_C_numberOf : (zy_C_numberOf).cls ≠ "java/lang/invoke/MethodHandle" ∧ (zy_C_numberOf).cls ≠ "java/lang/invoke/VarHandle" ∧ (parseMethodDescriptor (zy_C_numberOf).desc).map (fun d => d.parameters.length) = some 3 := by decide +kernel
abbrev zb_M_clear : ByteArray := prog_3_method_2_code
abbrev zy_M_clear : MethodName := ({ cls := "RuleNetwork$CubeMaker", name := "clear", desc := "()V" } : Jvm.MethodName)
abbrev zs_M_clear : List Cond := .code zy_M_clear zb_M_clear 1 none :: z_W
theorem zh_M_clear : (zy_M_clear).cls ≠ "java/lang/invoke/MethodHandle" ∧ (zy_M_clear).cls ≠ "java/lang/invoke/VarHandle" ∧ (parseMethodDescriptor (zy_M_clear).desc).map (fun d => d.parameters.length) = some 0 := by decide +kernel
abbrev zb_M_make : ByteArray := prog_3_method_3_code
abbrev zy_M_make : MethodName := ({ cls := "RuleNetwork$CubeMaker", name := "make", desc := "(IJJ)V" } : Jvm.MethodName)
abbrev zs_M_make : List Cond := .code zy_M_make zb_M_make 6 none :: z_W
theorem zh_M_make : (zy_M_make).cls ≠ "java/lang/invoke/MethodHandle" ∧ (zy_M_make).cls ≠ "java/lang/invoke/VarHandle" ∧ (parseMethodDescriptor (zy_M_make).desc).map (fun d => d.parameters.length) = some 3 := by decide +kernel
abbrev zb_M_split : ByteArray := prog_3_method_4_code
abbrev zy_M_split : MethodName := ({ cls := "RuleNetwork$CubeMaker", name := "split", desc := "(III)V" } : Jvm.MethodName)
abbrev zs_M_split : List Cond := .code zy_M_split zb_M_split 5 none :: z_W
theorem zh_M_split : (zy_M_split).cls ≠ "java/lang/invoke/MethodHandle" ∧ (zy_M_split).cls ≠ "java/lang/invoke/VarHandle" ∧ (parseMethodDescriptor (zy_M_split).desc).map (fun d => d.parameters.length) = some 3 := by decide +kernel
abbrev zb_M_countInside : ByteArray := prog_3_method_5_code
abbrev zy_M_countInside : MethodName := ({ cls := "RuleNetwork$CubeMaker", name := "countInside", desc := "(II)I" } : Jvm.MethodName)
abbrev zs_M_countInside : List Cond := .code zy_M_countInside zb_M_countInside 5 (some .int) :: z_W
theorem zh_M_countInside : (zy_M_countInside).cls ≠ "java/lang/invoke/MethodHandle" ∧ (zy_M_countInside).cls ≠ "java/lang/invoke/VarHandle" ∧ (parseMethodDescriptor (zy_M_countInside).desc).map (fun d => d.parameters.length) = some 2 := by decide +kernel
abbrev zb_M_makesDifference : ByteArray := prog_3_method_6_code
abbrev zy_M_makesDifference : MethodName := ({ cls := "RuleNetwork$CubeMaker", name := "makesDifference", desc := "(II)Z" } : Jvm.MethodName)
abbrev zs_M_makesDifference : List Cond := .code zy_M_makesDifference zb_M_makesDifference 5 (some .boolean) :: z_W
theorem zh_M_makesDifference : (zy_M_makesDifference).cls ≠ "java/lang/invoke/MethodHandle" ∧ (zy_M_makesDifference).cls ≠ "java/lang/invoke/VarHandle" ∧ (parseMethodDescriptor (zy_M_makesDifference).desc).map (fun d => d.parameters.length) = some 2 := by decide +kernel
abbrev zb_M_anyFrom : ByteArray := prog_3_method_7_code
abbrev zy_M_anyFrom : MethodName := ({ cls := "RuleNetwork$CubeMaker", name := "anyFrom", desc := "(I)I" } : Jvm.MethodName)
abbrev zs_M_anyFrom : List Cond := .code zy_M_anyFrom zb_M_anyFrom 4 (some .int) :: z_W
theorem zh_M_anyFrom : (zy_M_anyFrom).cls ≠ "java/lang/invoke/MethodHandle" ∧ (zy_M_anyFrom).cls ≠ "java/lang/invoke/VarHandle" ∧ (parseMethodDescriptor (zy_M_anyFrom).desc).map (fun d => d.parameters.length) = some 1 := by decide +kernel
abbrev zb_M_given : ByteArray := prog_3_method_8_code
abbrev zy_M_given : MethodName := ({ cls := "RuleNetwork$CubeMaker", name := "given", desc := "(II)I" } : Jvm.MethodName)
abbrev zs_M_given : List Cond := .code zy_M_given zb_M_given 2 (some .int) :: z_W
theorem zh_M_given : (zy_M_given).cls ≠ "java/lang/invoke/MethodHandle" ∧ (zy_M_given).cls ≠ "java/lang/invoke/VarHandle" ∧ (parseMethodDescriptor (zy_M_given).desc).map (fun d => d.parameters.length) = some 2 := by decide +kernel
abbrev zb_Q_byteOf : ByteArray := prog_8_method_2_code
abbrev zy_Q_byteOf : MethodName := ({ cls := "RuleNetworkModel", name := "byteOf", desc := "(JI)I" } : Jvm.MethodName)
abbrev zs_Q_byteOf : List Cond := .code zy_Q_byteOf zb_Q_byteOf 3 (some .int) :: z_W
theorem zh_Q_byteOf : (zy_Q_byteOf).cls ≠ "java/lang/invoke/MethodHandle" ∧ (zy_Q_byteOf).cls ≠ "java/lang/invoke/VarHandle" ∧ (parseMethodDescriptor (zy_Q_byteOf).desc).map (fun d => d.parameters.length) = some 2 := by decide +kernel
abbrev zb_Q_write : ByteArray := prog_8_method_3_code
abbrev zy_Q_write : MethodName := ({ cls := "RuleNetworkModel", name := "write", desc := "(J)Z" } : Jvm.MethodName)
abbrev zs_Q_write : List Cond := .code zy_Q_write zb_Q_write 6 (some .boolean) :: z_W
theorem zh_Q_write : (zy_Q_write).cls ≠ "java/lang/invoke/MethodHandle" ∧ (zy_Q_write).cls ≠ "java/lang/invoke/VarHandle" ∧ (parseMethodDescriptor (zy_Q_write).desc).map (fun d => d.parameters.length) = some 1 := by decide +kernel
abbrev zb_Q_wipe : ByteArray := prog_8_method_4_code
abbrev zy_Q_wipe : MethodName := ({ cls := "RuleNetworkModel", name := "wipe", desc := "()V" } : Jvm.MethodName)
abbrev zs_Q_wipe : List Cond := .code zy_Q_wipe zb_Q_wipe 1 none :: z_W
theorem zh_Q_wipe : (zy_Q_wipe).cls ≠ "java/lang/invoke/MethodHandle" ∧ (zy_Q_wipe).cls ≠ "java/lang/invoke/VarHandle" ∧ (parseMethodDescriptor (zy_Q_wipe).desc).map (fun d => d.parameters.length) = some 0 := by decide +kernel
abbrev zb_Q_isName : ByteArray := prog_8_method_5_code
abbrev zy_Q_isName : MethodName := ({ cls := "RuleNetworkModel", name := "isName", desc := "(I)Z" } : Jvm.MethodName)
abbrev zs_Q_isName : List Cond := .code zy_Q_isName zb_Q_isName 1 (some .boolean) :: z_W
theorem zh_Q_isName : (zy_Q_isName).cls ≠ "java/lang/invoke/MethodHandle" ∧ (zy_Q_isName).cls ≠ "java/lang/invoke/VarHandle" ∧ (parseMethodDescriptor (zy_Q_isName).desc).map (fun d => d.parameters.length) = some 1 := by decide +kernel
abbrev zb_Q_newGene : ByteArray := prog_8_method_6_code
abbrev zy_Q_newGene : MethodName := ({ cls := "RuleNetworkModel", name := "newGene", desc := "(I)I" } : Jvm.MethodName)
abbrev zs_Q_newGene : List Cond := .code zy_Q_newGene zb_Q_newGene 3 (some .int) :: z_W
theorem zh_Q_newGene : (zy_Q_newGene).cls ≠ "java/lang/invoke/MethodHandle" ∧ (zy_Q_newGene).cls ≠ "java/lang/invoke/VarHandle" ∧ (parseMethodDescriptor (zy_Q_newGene).desc).map (fun d => d.parameters.length) = some 1 := by decide +kernel
abbrev zb_Q_pushValue : ByteArray := prog_8_method_7_code
abbrev zy_Q_pushValue : MethodName := ({ cls := "RuleNetworkModel", name := "pushValue", desc := "(JJ)V" } : Jvm.MethodName)
abbrev zs_Q_pushValue : List Cond := .code zy_Q_pushValue zb_Q_pushValue 5 none :: z_W
theorem zh_Q_pushValue : (zy_Q_pushValue).cls ≠ "java/lang/invoke/MethodHandle" ∧ (zy_Q_pushValue).cls ≠ "java/lang/invoke/VarHandle" ∧ (parseMethodDescriptor (zy_Q_pushValue).desc).map (fun d => d.parameters.length) = some 2 := by decide +kernel
abbrev zb_Q_apply : ByteArray := prog_8_method_8_code
abbrev zy_Q_apply : MethodName := ({ cls := "RuleNetworkModel", name := "apply", desc := "()V" } : Jvm.MethodName)
abbrev zs_Q_apply : List Cond := .code zy_Q_apply zb_Q_apply 6 none :: z_W
theorem zh_Q_apply : (zy_Q_apply).cls ≠ "java/lang/invoke/MethodHandle" ∧ (zy_Q_apply).cls ≠ "java/lang/invoke/VarHandle" ∧ (parseMethodDescriptor (zy_Q_apply).desc).map (fun d => d.parameters.length) = some 0 := by decide +kernel
abbrev zb_Q_waits : ByteArray := prog_8_method_9_code
abbrev zy_Q_waits : MethodName := ({ cls := "RuleNetworkModel", name := "waits", desc := "(I)Z" } : Jvm.MethodName)
abbrev zs_Q_waits : List Cond := .code zy_Q_waits zb_Q_waits 2 (some .boolean) :: z_W
theorem zh_Q_waits : (zy_Q_waits).cls ≠ "java/lang/invoke/MethodHandle" ∧ (zy_Q_waits).cls ≠ "java/lang/invoke/VarHandle" ∧ (parseMethodDescriptor (zy_Q_waits).desc).map (fun d => d.parameters.length) = some 1 := by decide +kernel
abbrev zb_Q_operand : ByteArray := prog_8_method_10_code
abbrev zy_Q_operand : MethodName := ({ cls := "RuleNetworkModel", name := "operand", desc := "(I)V" } : Jvm.MethodName)
abbrev zs_Q_operand : List Cond := .code zy_Q_operand zb_Q_operand 8 none :: z_W
theorem zh_Q_operand : (zy_Q_operand).cls ≠ "java/lang/invoke/MethodHandle" ∧ (zy_Q_operand).cls ≠ "java/lang/invoke/VarHandle" ∧ (parseMethodDescriptor (zy_Q_operand).desc).map (fun d => d.parameters.length) = some 1 := by decide +kernel
abbrev zb_Q_finish : ByteArray := prog_8_method_11_code
abbrev zy_Q_finish : MethodName := ({ cls := "RuleNetworkModel", name := "finish", desc := "()V" } : Jvm.MethodName)
abbrev zs_Q_finish : List Cond := .code zy_Q_finish zb_Q_finish 1 none :: z_W
theorem zh_Q_finish : (zy_Q_finish).cls ≠ "java/lang/invoke/MethodHandle" ∧ (zy_Q_finish).cls ≠ "java/lang/invoke/VarHandle" ∧ (parseMethodDescriptor (zy_Q_finish).desc).map (fun d => d.parameters.length) = some 0 := by decide +kernel
abbrev zb_Q_begins : ByteArray := prog_8_method_12_code
abbrev zy_Q_begins : MethodName := ({ cls := "RuleNetworkModel", name := "begins", desc := "(I)Z" } : Jvm.MethodName)
abbrev zs_Q_begins : List Cond := .code zy_Q_begins zb_Q_begins 2 (some .boolean) :: z_W
theorem zh_Q_begins : (zy_Q_begins).cls ≠ "java/lang/invoke/MethodHandle" ∧ (zy_Q_begins).cls ≠ "java/lang/invoke/VarHandle" ∧ (parseMethodDescriptor (zy_Q_begins).desc).map (fun d => d.parameters.length) = some 1 := by decide +kernel
abbrev zb_Q_goesOn : ByteArray := prog_8_method_13_code
abbrev zy_Q_goesOn : MethodName := ({ cls := "RuleNetworkModel", name := "goesOn", desc := "(I)Z" } : Jvm.MethodName)
abbrev zs_Q_goesOn : List Cond := .code zy_Q_goesOn zb_Q_goesOn 2 (some .boolean) :: z_W
theorem zh_Q_goesOn : (zy_Q_goesOn).cls ≠ "java/lang/invoke/MethodHandle" ∧ (zy_Q_goesOn).cls ≠ "java/lang/invoke/VarHandle" ∧ (parseMethodDescriptor (zy_Q_goesOn).desc).map (fun d => d.parameters.length) = some 1 := by decide +kernel
abbrev zb_Q_ends : ByteArray := prog_8_method_14_code
abbrev zy_Q_ends : MethodName := ({ cls := "RuleNetworkModel", name := "ends", desc := "(Z)Z" } : Jvm.MethodName)
abbrev zs_Q_ends : List Cond := .code zy_Q_ends zb_Q_ends 2 (some .boolean) :: z_W
theorem zh_Q_ends : (zy_Q_ends).cls ≠ "java/lang/invoke/MethodHandle" ∧ (zy_Q_ends).cls ≠ "java/lang/invoke/VarHandle" ∧ (parseMethodDescriptor (zy_Q_ends).desc).map (fun d => d.parameters.length) = some 1 := by decide +kernel
abbrev zb_Q_scan : ByteArray := prog_8_method_15_code
abbrev zy_Q_scan : MethodName := ({ cls := "RuleNetworkModel", name := "scan", desc := "(Z)I" } : Jvm.MethodName)
abbrev zs_Q_scan : List Cond := .code zy_Q_scan zb_Q_scan 6 (some .int) :: z_W
theorem zh_Q_scan : (zy_Q_scan).cls ≠ "java/lang/invoke/MethodHandle" ∧ (zy_Q_scan).cls ≠ "java/lang/invoke/VarHandle" ∧ (parseMethodDescriptor (zy_Q_scan).desc).map (fun d => d.parameters.length) = some 1 := by decide +kernel
abbrev zb_Q_isNew : ByteArray := prog_8_method_16_code
abbrev zy_Q_isNew : MethodName := ({ cls := "RuleNetworkModel", name := "isNew", desc := "(I)Z" } : Jvm.MethodName)
abbrev zs_Q_isNew : List Cond := .code zy_Q_isNew zb_Q_isNew 2 (some .boolean) :: z_W
theorem zh_Q_isNew : (zy_Q_isNew).cls ≠ "java/lang/invoke/MethodHandle" ∧ (zy_Q_isNew).cls ≠ "java/lang/invoke/VarHandle" ∧ (parseMethodDescriptor (zy_Q_isNew).desc).map (fun d => d.parameters.length) = some 1 := by decide +kernel
abbrev zb_Q_load : ByteArray := prog_8_method_17_code
abbrev zy_Q_load : MethodName := ({ cls := "RuleNetworkModel", name := "load", desc := "()I" } : Jvm.MethodName)
abbrev zs_Q_load : List Cond := .code zy_Q_load zb_Q_load 3 (some .int) :: z_W
theorem zh_Q_load : (zy_Q_load).cls ≠ "java/lang/invoke/MethodHandle" ∧ (zy_Q_load).cls ≠ "java/lang/invoke/VarHandle" ∧ (parseMethodDescriptor (zy_Q_load).desc).map (fun d => d.parameters.length) = some 0 := by decide +kernel
abbrev zb_Q_unknown : ByteArray := prog_8_method_18_code
abbrev zy_Q_unknown : MethodName := ({ cls := "RuleNetworkModel", name := "unknown", desc := "()I" } : Jvm.MethodName)
abbrev zs_Q_unknown : List Cond := .code zy_Q_unknown zb_Q_unknown 3 (some .int) :: z_W
theorem zh_Q_unknown : (zy_Q_unknown).cls ≠ "java/lang/invoke/MethodHandle" ∧ (zy_Q_unknown).cls ≠ "java/lang/invoke/VarHandle" ∧ (parseMethodDescriptor (zy_Q_unknown).desc).map (fun d => d.parameters.length) = some 0 := by decide +kernel
abbrev zb_Q_genes : ByteArray := prog_8_method_19_code
abbrev zy_Q_genes : MethodName := ({ cls := "RuleNetworkModel", name := "genes", desc := "()I" } : Jvm.MethodName)
abbrev zs_Q_genes : List Cond := .code zy_Q_genes zb_Q_genes 1 (some .int) :: z_W
theorem zh_Q_genes : (zy_Q_genes).cls ≠ "java/lang/invoke/MethodHandle" ∧ (zy_Q_genes).cls ≠ "java/lang/invoke/VarHandle" ∧ (parseMethodDescriptor (zy_Q_genes).desc).map (fun d => d.parameters.length) = some 0 := by decide +kernel
abbrev zb_Q_gene : ByteArray := prog_8_method_20_code
abbrev zy_Q_gene : MethodName := ({ cls := "RuleNetworkModel", name := "gene", desc := "(C)I" } : Jvm.MethodName)
abbrev zs_Q_gene : List Cond := .code zy_Q_gene zb_Q_gene 3 (some .int) :: z_W
theorem zh_Q_gene : (zy_Q_gene).cls ≠ "java/lang/invoke/MethodHandle" ∧ (zy_Q_gene).cls ≠ "java/lang/invoke/VarHandle" ∧ (parseMethodDescriptor (zy_Q_gene).desc).map (fun d => d.parameters.length) = some 1 := by decide +kernel
abbrev zb_Q_isGene : ByteArray := prog_8_method_21_code
abbrev zy_Q_isGene : MethodName := ({ cls := "RuleNetworkModel", name := "isGene", desc := "(I)Z" } : Jvm.MethodName)
abbrev zs_Q_isGene : List Cond := .code zy_Q_isGene zb_Q_isGene 2 (some .boolean) :: z_W
theorem zh_Q_isGene : (zy_Q_isGene).cls ≠ "java/lang/invoke/MethodHandle" ∧ (zy_Q_isGene).cls ≠ "java/lang/invoke/VarHandle" ∧ (parseMethodDescriptor (zy_Q_isGene).desc).map (fun d => d.parameters.length) = some 1 := by decide +kernel
abbrev zb_Q_isState : ByteArray := prog_8_method_22_code
abbrev zy_Q_isState : MethodName := ({ cls := "RuleNetworkModel", name := "isState", desc := "(I)Z" } : Jvm.MethodName)
abbrev zs_Q_isState : List Cond := .code zy_Q_isState zb_Q_isState 2 (some .boolean) :: z_W
theorem zh_Q_isState : (zy_Q_isState).cls ≠ "java/lang/invoke/MethodHandle" ∧ (zy_Q_isState).cls ≠ "java/lang/invoke/VarHandle" ∧ (parseMethodDescriptor (zy_Q_isState).desc).map (fun d => d.parameters.length) = some 1 := by decide +kernel
abbrev zb_Q_fix : ByteArray := prog_8_method_23_code
abbrev zy_Q_fix : MethodName := ({ cls := "RuleNetworkModel", name := "fix", desc := "(II)Z" } : Jvm.MethodName)
abbrev zs_Q_fix : List Cond := .code zy_Q_fix zb_Q_fix 3 (some .boolean) :: z_W
theorem zh_Q_fix : (zy_Q_fix).cls ≠ "java/lang/invoke/MethodHandle" ∧ (zy_Q_fix).cls ≠ "java/lang/invoke/VarHandle" ∧ (parseMethodDescriptor (zy_Q_fix).desc).map (fun d => d.parameters.length) = some 2 := by decide +kernel
abbrev zb_Q_valueAt : ByteArray := prog_8_method_24_code
abbrev zy_Q_valueAt : MethodName := ({ cls := "RuleNetworkModel", name := "valueAt", desc := "(II)I" } : Jvm.MethodName)
abbrev zs_Q_valueAt : List Cond := .code zy_Q_valueAt zb_Q_valueAt 5 (some .int) :: z_W
theorem zh_Q_valueAt : (zy_Q_valueAt).cls ≠ "java/lang/invoke/MethodHandle" ∧ (zy_Q_valueAt).cls ≠ "java/lang/invoke/VarHandle" ∧ (parseMethodDescriptor (zy_Q_valueAt).desc).map (fun d => d.parameters.length) = some 2 := by decide +kernel
abbrev zb_Q_value : ByteArray := prog_8_method_25_code
abbrev zy_Q_value : MethodName := ({ cls := "RuleNetworkModel", name := "value", desc := "(II)I" } : Jvm.MethodName)
abbrev zs_Q_value : List Cond := .code zy_Q_value zb_Q_value 3 (some .int) :: z_W
theorem zh_Q_value : (zy_Q_value).cls ≠ "java/lang/invoke/MethodHandle" ∧ (zy_Q_value).cls ≠ "java/lang/invoke/VarHandle" ∧ (parseMethodDescriptor (zy_Q_value).desc).map (fun d => d.parameters.length) = some 2 := by decide +kernel
abbrev zb_Q_next : ByteArray := prog_8_method_26_code
abbrev zy_Q_next : MethodName := ({ cls := "RuleNetworkModel", name := "next", desc := "(I)I" } : Jvm.MethodName)
abbrev zs_Q_next : List Cond := .code zy_Q_next zb_Q_next 4 (some .int) :: z_W
theorem zh_Q_next : (zy_Q_next).cls ≠ "java/lang/invoke/MethodHandle" ∧ (zy_Q_next).cls ≠ "java/lang/invoke/VarHandle" ∧ (parseMethodDescriptor (zy_Q_next).desc).map (fun d => d.parameters.length) = some 1 := by decide +kernel
abbrev zb_Q_sameLeft : ByteArray := prog_8_method_27_code
abbrev zy_Q_sameLeft : MethodName := ({ cls := "RuleNetworkModel", name := "sameLeft", desc := "(IIII)Z" } : Jvm.MethodName)
abbrev zs_Q_sameLeft : List Cond := .code zy_Q_sameLeft zb_Q_sameLeft 7 (some .boolean) :: z_W
theorem zh_Q_sameLeft : (zy_Q_sameLeft).cls ≠ "java/lang/invoke/MethodHandle" ∧ (zy_Q_sameLeft).cls ≠ "java/lang/invoke/VarHandle" ∧ (parseMethodDescriptor (zy_Q_sameLeft).desc).map (fun d => d.parameters.length) = some 4 := by decide +kernel
abbrev zb_Q_differs : ByteArray := prog_8_method_28_code
abbrev zy_Q_differs : MethodName := ({ cls := "RuleNetworkModel", name := "differs", desc := "(III)Z" } : Jvm.MethodName)
abbrev zs_Q_differs : List Cond := .code zy_Q_differs zb_Q_differs 7 (some .boolean) :: z_W
theorem zh_Q_differs : (zy_Q_differs).cls ≠ "java/lang/invoke/MethodHandle" ∧ (zy_Q_differs).cls ≠ "java/lang/invoke/VarHandle" ∧ (parseMethodDescriptor (zy_Q_differs).desc).map (fun d => d.parameters.length) = some 3 := by decide +kernel
abbrev zb_Q_spread : ByteArray := prog_8_method_29_code
abbrev zy_Q_spread : MethodName := ({ cls := "RuleNetworkModel", name := "spread", desc := "(I)I" } : Jvm.MethodName)
abbrev zs_Q_spread : List Cond := .code zy_Q_spread zb_Q_spread 7 (some .int) :: z_W
theorem zh_Q_spread : (zy_Q_spread).cls ≠ "java/lang/invoke/MethodHandle" ∧ (zy_Q_spread).cls ≠ "java/lang/invoke/VarHandle" ∧ (parseMethodDescriptor (zy_Q_spread).desc).map (fun d => d.parameters.length) = some 1 := by decide +kernel
abbrev zb_Q_leads : ByteArray := prog_8_method_30_code
abbrev zy_Q_leads : MethodName := ({ cls := "RuleNetworkModel", name := "leads", desc := "(II)Z" } : Jvm.MethodName)
abbrev zs_Q_leads : List Cond := .code zy_Q_leads zb_Q_leads 3 (some .boolean) :: z_W
theorem zh_Q_leads : (zy_Q_leads).cls ≠ "java/lang/invoke/MethodHandle" ∧ (zy_Q_leads).cls ≠ "java/lang/invoke/VarHandle" ∧ (parseMethodDescriptor (zy_Q_leads).desc).map (fun d => d.parameters.length) = some 2 := by decide +kernel
abbrev zb_Q_join : ByteArray := prog_8_method_31_code
abbrev zy_Q_join : MethodName := ({ cls := "RuleNetworkModel", name := "join", desc := "(II)Z" } : Jvm.MethodName)
abbrev zs_Q_join : List Cond := .code zy_Q_join zb_Q_join 8 (some .boolean) :: z_W
theorem zh_Q_join : (zy_Q_join).cls ≠ "java/lang/invoke/MethodHandle" ∧ (zy_Q_join).cls ≠ "java/lang/invoke/VarHandle" ∧ (parseMethodDescriptor (zy_Q_join).desc).map (fun d => d.parameters.length) = some 2 := by decide +kernel
abbrev zb_Q_step : ByteArray := prog_8_method_32_code
abbrev zy_Q_step : MethodName := ({ cls := "RuleNetworkModel", name := "step", desc := "(II)I" } : Jvm.MethodName)
abbrev zs_Q_step : List Cond := .code zy_Q_step zb_Q_step 4 (some .int) :: z_W
theorem zh_Q_step : (zy_Q_step).cls ≠ "java/lang/invoke/MethodHandle" ∧ (zy_Q_step).cls ≠ "java/lang/invoke/VarHandle" ∧ (parseMethodDescriptor (zy_Q_step).desc).map (fun d => d.parameters.length) = some 2 := by decide +kernel
abbrev zb_Q_spreadOut : ByteArray := prog_8_method_33_code
abbrev zy_Q_spreadOut : MethodName := ({ cls := "RuleNetworkModel", name := "spreadOut", desc := "()V" } : Jvm.MethodName)
abbrev zs_Q_spreadOut : List Cond := .code zy_Q_spreadOut zb_Q_spreadOut 7 none :: z_W
theorem zh_Q_spreadOut : (zy_Q_spreadOut).cls ≠ "java/lang/invoke/MethodHandle" ∧ (zy_Q_spreadOut).cls ≠ "java/lang/invoke/VarHandle" ∧ (parseMethodDescriptor (zy_Q_spreadOut).desc).map (fun d => d.parameters.length) = some 0 := by decide +kernel
abbrev zb_Q_settled : ByteArray := prog_8_method_34_code
abbrev zy_Q_settled : MethodName := ({ cls := "RuleNetworkModel", name := "settled", desc := "(I)Z" } : Jvm.MethodName)
abbrev zs_Q_settled : List Cond := .code zy_Q_settled zb_Q_settled 4 (some .boolean) :: z_W
theorem zh_Q_settled : (zy_Q_settled).cls ≠ "java/lang/invoke/MethodHandle" ∧ (zy_Q_settled).cls ≠ "java/lang/invoke/VarHandle" ∧ (parseMethodDescriptor (zy_Q_settled).desc).map (fun d => d.parameters.length) = some 1 := by decide +kernel
abbrev zb_Q_isLeast : ByteArray := prog_8_method_35_code
abbrev zy_Q_isLeast : MethodName := ({ cls := "RuleNetworkModel", name := "isLeast", desc := "(I)Z" } : Jvm.MethodName)
abbrev zs_Q_isLeast : List Cond := .code zy_Q_isLeast zb_Q_isLeast 4 (some .boolean) :: z_W
theorem zh_Q_isLeast : (zy_Q_isLeast).cls ≠ "java/lang/invoke/MethodHandle" ∧ (zy_Q_isLeast).cls ≠ "java/lang/invoke/VarHandle" ∧ (parseMethodDescriptor (zy_Q_isLeast).desc).map (fun d => d.parameters.length) = some 1 := by decide +kernel
abbrev zb_Q_analyse : ByteArray := prog_8_method_36_code
abbrev zy_Q_analyse : MethodName := ({ cls := "RuleNetworkModel", name := "analyse", desc := "(Z)I" } : Jvm.MethodName)
abbrev zs_Q_analyse : List Cond := .code zy_Q_analyse zb_Q_analyse 3 (some .int) :: z_W
theorem zh_Q_analyse : (zy_Q_analyse).cls ≠ "java/lang/invoke/MethodHandle" ∧ (zy_Q_analyse).cls ≠ "java/lang/invoke/VarHandle" ∧ (parseMethodDescriptor (zy_Q_analyse).desc).map (fun d => d.parameters.length) = some 1 := by decide +kernel
abbrev zb_Q_isAttractor : ByteArray := prog_8_method_37_code
abbrev zy_Q_isAttractor : MethodName := ({ cls := "RuleNetworkModel", name := "isAttractor", desc := "(I)Z" } : Jvm.MethodName)
abbrev zs_Q_isAttractor : List Cond := .code zy_Q_isAttractor zb_Q_isAttractor 2 (some .boolean) :: z_W
theorem zh_Q_isAttractor : (zy_Q_isAttractor).cls ≠ "java/lang/invoke/MethodHandle" ∧ (zy_Q_isAttractor).cls ≠ "java/lang/invoke/VarHandle" ∧ (parseMethodDescriptor (zy_Q_isAttractor).desc).map (fun d => d.parameters.length) = some 1 := by decide +kernel
abbrev zb_Q_in : ByteArray := prog_8_method_38_code
abbrev zy_Q_in : MethodName := ({ cls := "RuleNetworkModel", name := "in", desc := "(II)Z" } : Jvm.MethodName)
abbrev zs_Q_in : List Cond := .code zy_Q_in zb_Q_in 3 (some .boolean) :: z_W
theorem zh_Q_in : (zy_Q_in).cls ≠ "java/lang/invoke/MethodHandle" ∧ (zy_Q_in).cls ≠ "java/lang/invoke/VarHandle" ∧ (parseMethodDescriptor (zy_Q_in).desc).map (fun d => d.parameters.length) = some 2 := by decide +kernel
abbrev zb_Q_size : ByteArray := prog_8_method_39_code
abbrev zy_Q_size : MethodName := ({ cls := "RuleNetworkModel", name := "size", desc := "(I)I" } : Jvm.MethodName)
abbrev zs_Q_size : List Cond := .code zy_Q_size zb_Q_size 4 (some .int) :: z_W
theorem zh_Q_size : (zy_Q_size).cls ≠ "java/lang/invoke/MethodHandle" ∧ (zy_Q_size).cls ≠ "java/lang/invoke/VarHandle" ∧ (parseMethodDescriptor (zy_Q_size).desc).map (fun d => d.parameters.length) = some 1 := by decide +kernel
abbrev zb_Q_least : ByteArray := prog_8_method_40_code
abbrev zy_Q_least : MethodName := ({ cls := "RuleNetworkModel", name := "least", desc := "(I)I" } : Jvm.MethodName)
abbrev zs_Q_least : List Cond := .code zy_Q_least zb_Q_least 2 (some .int) :: z_W
theorem zh_Q_least : (zy_Q_least).cls ≠ "java/lang/invoke/MethodHandle" ∧ (zy_Q_least).cls ≠ "java/lang/invoke/VarHandle" ∧ (parseMethodDescriptor (zy_Q_least).desc).map (fun d => d.parameters.length) = some 1 := by decide +kernel
abbrev zb_Q_attractor : ByteArray := prog_8_method_41_code
abbrev zy_Q_attractor : MethodName := ({ cls := "RuleNetworkModel", name := "attractor", desc := "(I)I" } : Jvm.MethodName)
abbrev zs_Q_attractor : List Cond := .code zy_Q_attractor zb_Q_attractor 3 (some .int) :: z_W
theorem zh_Q_attractor : (zy_Q_attractor).cls ≠ "java/lang/invoke/MethodHandle" ∧ (zy_Q_attractor).cls ≠ "java/lang/invoke/VarHandle" ∧ (parseMethodDescriptor (zy_Q_attractor).desc).map (fun d => d.parameters.length) = some 1 := by decide +kernel
abbrev zb_Q_basin : ByteArray := prog_8_method_42_code
abbrev zy_Q_basin : MethodName := ({ cls := "RuleNetworkModel", name := "basin", desc := "(I)I" } : Jvm.MethodName)
abbrev zs_Q_basin : List Cond := .code zy_Q_basin zb_Q_basin 4 (some .int) :: z_W
theorem zh_Q_basin : (zy_Q_basin).cls ≠ "java/lang/invoke/MethodHandle" ∧ (zy_Q_basin).cls ≠ "java/lang/invoke/VarHandle" ∧ (parseMethodDescriptor (zy_Q_basin).desc).map (fun d => d.parameters.length) = some 1 := by decide +kernel
abbrev zb_Q_only : ByteArray := prog_8_method_43_code
abbrev zy_Q_only : MethodName := ({ cls := "RuleNetworkModel", name := "only", desc := "(I)I" } : Jvm.MethodName)
abbrev zs_Q_only : List Cond := .code zy_Q_only zb_Q_only 6 (some .int) :: z_W
theorem zh_Q_only : (zy_Q_only).cls ≠ "java/lang/invoke/MethodHandle" ∧ (zy_Q_only).cls ≠ "java/lang/invoke/VarHandle" ∧ (parseMethodDescriptor (zy_Q_only).desc).map (fun d => d.parameters.length) = some 1 := by decide +kernel
abbrev zb_Q_fits : ByteArray := prog_8_method_44_code
abbrev zy_Q_fits : MethodName := ({ cls := "RuleNetworkModel", name := "fits", desc := "(III)Z" } : Jvm.MethodName)
abbrev zs_Q_fits : List Cond := .code zy_Q_fits zb_Q_fits 6 (some .boolean) :: z_W
theorem zh_Q_fits : (zy_Q_fits).cls ≠ "java/lang/invoke/MethodHandle" ∧ (zy_Q_fits).cls ≠ "java/lang/invoke/VarHandle" ∧ (parseMethodDescriptor (zy_Q_fits).desc).map (fun d => d.parameters.length) = some 3 := by decide +kernel
abbrev zb_Q_share : ByteArray := prog_8_method_45_code
abbrev zy_Q_share : MethodName := ({ cls := "RuleNetworkModel", name := "share", desc := "(III)I" } : Jvm.MethodName)
abbrev zs_Q_share : List Cond := .code zy_Q_share zb_Q_share 8 (some .int) :: z_W
theorem zh_Q_share : (zy_Q_share).cls ≠ "java/lang/invoke/MethodHandle" ∧ (zy_Q_share).cls ≠ "java/lang/invoke/VarHandle" ∧ (parseMethodDescriptor (zy_Q_share).desc).map (fun d => d.parameters.length) = some 3 := by decide +kernel
abbrev zb_Q_later : ByteArray := prog_8_method_46_code
abbrev zy_Q_later : MethodName := ({ cls := "RuleNetworkModel", name := "later", desc := "(II)V" } : Jvm.MethodName)
abbrev zs_Q_later : List Cond := .code zy_Q_later zb_Q_later 3 none :: z_W
theorem zh_Q_later : (zy_Q_later).cls ≠ "java/lang/invoke/MethodHandle" ∧ (zy_Q_later).cls ≠ "java/lang/invoke/VarHandle" ∧ (parseMethodDescriptor (zy_Q_later).desc).map (fun d => d.parameters.length) = some 2 := by decide +kernel
abbrev zb_Q_look : ByteArray := prog_8_method_47_code
abbrev zy_Q_look : MethodName := ({ cls := "RuleNetworkModel", name := "look", desc := "(II)I" } : Jvm.MethodName)
abbrev zs_Q_look : List Cond := .code zy_Q_look zb_Q_look 8 (some .int) :: z_W
theorem zh_Q_look : (zy_Q_look).cls ≠ "java/lang/invoke/MethodHandle" ∧ (zy_Q_look).cls ≠ "java/lang/invoke/VarHandle" ∧ (parseMethodDescriptor (zy_Q_look).desc).map (fun d => d.parameters.length) = some 2 := by decide +kernel
abbrev zb_Q_cubes : ByteArray := prog_8_method_48_code
abbrev zy_Q_cubes : MethodName := ({ cls := "RuleNetworkModel", name := "cubes", desc := "(I)I" } : Jvm.MethodName)
abbrev zs_Q_cubes : List Cond := .code zy_Q_cubes zb_Q_cubes 2 (some .int) :: z_W
theorem zh_Q_cubes : (zy_Q_cubes).cls ≠ "java/lang/invoke/MethodHandle" ∧ (zy_Q_cubes).cls ≠ "java/lang/invoke/VarHandle" ∧ (parseMethodDescriptor (zy_Q_cubes).desc).map (fun d => d.parameters.length) = some 1 := by decide +kernel
abbrev zb_Q_cube : ByteArray := prog_8_method_49_code
abbrev zy_Q_cube : MethodName := ({ cls := "RuleNetworkModel", name := "cube", desc := "(II)I" } : Jvm.MethodName)
abbrev zs_Q_cube : List Cond := .code zy_Q_cube zb_Q_cube 3 (some .int) :: z_W
theorem zh_Q_cube : (zy_Q_cube).cls ≠ "java/lang/invoke/MethodHandle" ∧ (zy_Q_cube).cls ≠ "java/lang/invoke/VarHandle" ∧ (parseMethodDescriptor (zy_Q_cube).desc).map (fun d => d.parameters.length) = some 2 := by decide +kernel
abbrev zb_S_init : ByteArray := prog_6_method_1_code
abbrev zy_S_init : MethodName := ({ cls := "RuleNetwork$Script", name := "<init>", desc := "()V" } : Jvm.MethodName)
abbrev zs_S_init : List Cond := .code zy_S_init zb_S_init 1 none :: z_W
theorem zh_S_init : (zy_S_init).cls ≠ "java/lang/invoke/MethodHandle" ∧ (zy_S_init).cls ≠ "java/lang/invoke/VarHandle" ∧ (parseMethodDescriptor (zy_S_init).desc).map (fun d => d.parameters.length) = some 0 := by decide +kernel
abbrev zb_R_init : ByteArray := prog_5_method_1_code
abbrev zy_R_init : MethodName := ({ cls := "RuleNetwork$Rules", name := "<init>", desc := "()V" } : Jvm.MethodName)
abbrev zs_R_init : List Cond := .code zy_R_init zb_R_init 1 none :: z_W
theorem zh_R_init : (zy_R_init).cls ≠ "java/lang/invoke/MethodHandle" ∧ (zy_R_init).cls ≠ "java/lang/invoke/VarHandle" ∧ (parseMethodDescriptor (zy_R_init).desc).map (fun d => d.parameters.length) = some 0 := by decide +kernel
abbrev zb_A_init : ByteArray := prog_2_method_1_code
abbrev zy_A_init : MethodName := ({ cls := "RuleNetwork$Analysis", name := "<init>", desc := "()V" } : Jvm.MethodName)
abbrev zs_A_init : List Cond := .code zy_A_init zb_A_init 1 none :: z_W
theorem zh_A_init : (zy_A_init).cls ≠ "java/lang/invoke/MethodHandle" ∧ (zy_A_init).cls ≠ "java/lang/invoke/VarHandle" ∧ (parseMethodDescriptor (zy_A_init).desc).map (fun d => d.parameters.length) = some 0 := by decide +kernel
abbrev zb_C_init : ByteArray := prog_4_method_1_code
abbrev zy_C_init : MethodName := ({ cls := "RuleNetwork$NodeCounter", name := "<init>", desc := "()V" } : Jvm.MethodName)
abbrev zs_C_init : List Cond := .code zy_C_init zb_C_init 1 none :: z_W
theorem zh_C_init : (zy_C_init).cls ≠ "java/lang/invoke/MethodHandle" ∧ (zy_C_init).cls ≠ "java/lang/invoke/VarHandle" ∧ (parseMethodDescriptor (zy_C_init).desc).map (fun d => d.parameters.length) = some 0 := by decide +kernel
abbrev zb_M_init : ByteArray := prog_3_method_1_code
abbrev zy_M_init : MethodName := ({ cls := "RuleNetwork$CubeMaker", name := "<init>", desc := "()V" } : Jvm.MethodName)
abbrev zs_M_init : List Cond := .code zy_M_init zb_M_init 1 none :: z_W
theorem zh_M_init : (zy_M_init).cls ≠ "java/lang/invoke/MethodHandle" ∧ (zy_M_init).cls ≠ "java/lang/invoke/VarHandle" ∧ (parseMethodDescriptor (zy_M_init).desc).map (fun d => d.parameters.length) = some 0 := by decide +kernel
abbrev zb_N_init : ByteArray := prog_1_method_1_code
abbrev zy_N_init : MethodName := ({ cls := "RuleNetwork", name := "<init>", desc := "()V" } : Jvm.MethodName)
abbrev zs_N_init : List Cond := .code zy_N_init zb_N_init 1 none :: z_W
theorem zh_N_init : (zy_N_init).cls ≠ "java/lang/invoke/MethodHandle" ∧ (zy_N_init).cls ≠ "java/lang/invoke/VarHandle" ∧ (parseMethodDescriptor (zy_N_init).desc).map (fun d => d.parameters.length) = some 0 := by decide +kernel
abbrev zb_Q_init : ByteArray := prog_8_method_1_code
abbrev zy_Q_init : MethodName := ({ cls := "RuleNetworkModel", name := "<init>", desc := "()V" } : Jvm.MethodName)
abbrev zs_Q_init : List Cond := .code zy_Q_init zb_Q_init 1 none :: z_W
theorem zh_Q_init : (zy_Q_init).cls ≠ "java/lang/invoke/MethodHandle" ∧ (zy_Q_init).cls ≠ "java/lang/invoke/VarHandle" ∧ (parseMethodDescriptor (zy_Q_init).desc).map (fun d => d.parameters.length) = some 0 := by decide +kernel
theorem zw_0 : (Jvm.Cond.selects "RuleNetwork$Script" ({ cls := "RuleNetwork$Script", name := "readRules", desc := "()Z" } : Jvm.MethodName) ({ cls := "RuleNetwork$Script", name := "readRules", desc := "()Z" } : Jvm.MethodName)) ∈ z_W := z_mem 0 (by decide +kernel) rfl
theorem zw_1 : (Jvm.Cond.selects "RuleNetwork$Script" ({ cls := "RuleNetwork$Script", name := "readRule", desc := "()Z" } : Jvm.MethodName) ({ cls := "RuleNetwork$Script", name := "readRule", desc := "()Z" } : Jvm.MethodName)) ∈ z_W := z_mem 1 (by decide +kernel) rfl
theorem zw_2 : (Jvm.Cond.selects "RuleNetwork$Script" ({ cls := "RuleNetwork$Script", name := "ahead", desc := "()C" } : Jvm.MethodName) ({ cls := "RuleNetwork$Script", name := "ahead", desc := "()C" } : Jvm.MethodName)) ∈ z_W := z_mem 2 (by decide +kernel) rfl
theorem zw_3 : (Jvm.Cond.selects "RuleNetwork$Script" ({ cls := "RuleNetwork$Script", name := "readMark", desc := "(C)Z" } : Jvm.MethodName) ({ cls := "RuleNetwork$Script", name := "readMark", desc := "(C)Z" } : Jvm.MethodName)) ∈ z_W := z_mem 3 (by decide +kernel) rfl
theorem zw_4 : (Jvm.Cond.selects "RuleNetwork$Script" ({ cls := "RuleNetwork$Script", name := "readSum", desc := "(I)Z" } : Jvm.MethodName) ({ cls := "RuleNetwork$Script", name := "readSum", desc := "(I)Z" } : Jvm.MethodName)) ∈ z_W := z_mem 4 (by decide +kernel) rfl
theorem zw_5 : (Jvm.Cond.selects "RuleNetwork$Script" ({ cls := "RuleNetwork$Script", name := "readProduct", desc := "(I)Z" } : Jvm.MethodName) ({ cls := "RuleNetwork$Script", name := "readProduct", desc := "(I)Z" } : Jvm.MethodName)) ∈ z_W := z_mem 5 (by decide +kernel) rfl
theorem zw_6 : (Jvm.Cond.selects "RuleNetwork$Script" ({ cls := "RuleNetwork$Script", name := "readFactor", desc := "(I)Z" } : Jvm.MethodName) ({ cls := "RuleNetwork$Script", name := "readFactor", desc := "(I)Z" } : Jvm.MethodName)) ∈ z_W := z_mem 6 (by decide +kernel) rfl
theorem zw_7 : (Jvm.Cond.selects "RuleNetwork$Script" ({ cls := "RuleNetwork$Script", name := "readLeaf", desc := "(C)Z" } : Jvm.MethodName) ({ cls := "RuleNetwork$Script", name := "readLeaf", desc := "(C)Z" } : Jvm.MethodName)) ∈ z_W := z_mem 7 (by decide +kernel) rfl
theorem zw_8 : (Jvm.Cond.selects "RuleNetwork$Script" ({ cls := "RuleNetwork$Script", name := "emit", desc := "(C)V" } : Jvm.MethodName) ({ cls := "RuleNetwork$Script", name := "emit", desc := "(C)V" } : Jvm.MethodName)) ∈ z_W := z_mem 8 (by decide +kernel) rfl
theorem zw_9 : (Jvm.Cond.selects "RuleNetwork$Script" ({ cls := "RuleNetwork$Script", name := "findStranger", desc := "()I" } : Jvm.MethodName) ({ cls := "RuleNetwork$Script", name := "findStranger", desc := "()I" } : Jvm.MethodName)) ∈ z_W := z_mem 9 (by decide +kernel) rfl
theorem zw_10 : (Jvm.Cond.selects "RuleNetwork$Rules" ({ cls := "RuleNetwork$Rules", name := "work", desc := "(LRuleNetwork$Script;IIJ)J" } : Jvm.MethodName) ({ cls := "RuleNetwork$Rules", name := "work", desc := "(LRuleNetwork$Script;IIJ)J" } : Jvm.MethodName)) ∈ z_W := z_mem 10 (by decide +kernel) rfl
theorem zw_11 : (Jvm.Cond.selects "RuleNetwork$NodeCounter" ({ cls := "RuleNetwork$NodeCounter", name := "joinAt", desc := "(I)V" } : Jvm.MethodName) ({ cls := "RuleNetwork$NodeCounter", name := "joinAt", desc := "(I)V" } : Jvm.MethodName)) ∈ z_W := z_mem 11 (by decide +kernel) rfl
theorem zw_12 : (Jvm.Cond.selects "RuleNetwork$NodeCounter" ({ cls := "RuleNetwork$NodeCounter", name := "numberOf", desc := "(III)I" } : Jvm.MethodName) ({ cls := "RuleNetwork$NodeCounter", name := "numberOf", desc := "(III)I" } : Jvm.MethodName)) ∈ z_W := z_mem 12 (by decide +kernel) rfl
theorem zw_13 : (Jvm.Cond.selects "RuleNetwork$Analysis" ({ cls := "RuleNetwork$Analysis", name := "markSteps", desc := "(IIZ)V" } : Jvm.MethodName) ({ cls := "RuleNetwork$Analysis", name := "markSteps", desc := "(IIZ)V" } : Jvm.MethodName)) ∈ z_W := z_mem 13 (by decide +kernel) rfl
theorem zw_14 : (Jvm.Cond.selects "RuleNetwork$Analysis" ({ cls := "RuleNetwork$Analysis", name := "markLeading", desc := "(II)V" } : Jvm.MethodName) ({ cls := "RuleNetwork$Analysis", name := "markLeading", desc := "(II)V" } : Jvm.MethodName)) ∈ z_W := z_mem 14 (by decide +kernel) rfl
theorem zw_15 : (Jvm.Cond.selects "RuleNetwork$Analysis" ({ cls := "RuleNetwork$Analysis", name := "joinSteps", desc := "()V" } : Jvm.MethodName) ({ cls := "RuleNetwork$Analysis", name := "joinSteps", desc := "()V" } : Jvm.MethodName)) ∈ z_W := z_mem 15 (by decide +kernel) rfl
theorem zw_16 : (Jvm.Cond.selects "RuleNetwork$Analysis" ({ cls := "RuleNetwork$Analysis", name := "leads", desc := "(II)Z" } : Jvm.MethodName) ({ cls := "RuleNetwork$Analysis", name := "leads", desc := "(II)Z" } : Jvm.MethodName)) ∈ z_W := z_mem 16 (by decide +kernel) rfl
theorem zw_17 : (Jvm.Cond.selects "RuleNetwork$Analysis" ({ cls := "RuleNetwork$Analysis", name := "findAttractors", desc := "()V" } : Jvm.MethodName) ({ cls := "RuleNetwork$Analysis", name := "findAttractors", desc := "()V" } : Jvm.MethodName)) ∈ z_W := z_mem 17 (by decide +kernel) rfl
theorem zw_18 : (Jvm.Cond.selects "RuleNetwork$Analysis" ({ cls := "RuleNetwork$Analysis", name := "isLedBackTo", desc := "(I)Z" } : Jvm.MethodName) ({ cls := "RuleNetwork$Analysis", name := "isLedBackTo", desc := "(I)Z" } : Jvm.MethodName)) ∈ z_W := z_mem 18 (by decide +kernel) rfl
theorem zw_19 : (Jvm.Cond.selects "RuleNetwork$Analysis" ({ cls := "RuleNetwork$Analysis", name := "addAttractor", desc := "(I)V" } : Jvm.MethodName) ({ cls := "RuleNetwork$Analysis", name := "addAttractor", desc := "(I)V" } : Jvm.MethodName)) ∈ z_W := z_mem 19 (by decide +kernel) rfl
theorem zw_20 : (Jvm.Cond.selects "RuleNetwork$Analysis" ({ cls := "RuleNetwork$Analysis", name := "countAttractorsFrom", desc := "(I)I" } : Jvm.MethodName) ({ cls := "RuleNetwork$Analysis", name := "countAttractorsFrom", desc := "(I)I" } : Jvm.MethodName)) ∈ z_W := z_mem 20 (by decide +kernel) rfl
theorem zw_21 : (Jvm.Cond.selects "RuleNetwork" ({ cls := "RuleNetwork", name := "makeCubes", desc := "(I)V" } : Jvm.MethodName) ({ cls := "RuleNetwork", name := "makeCubes", desc := "(I)V" } : Jvm.MethodName)) ∈ z_W := z_mem 21 (by decide +kernel) rfl
theorem zw_22 : (Jvm.Cond.selects "RuleNetwork$CubeMaker" ({ cls := "RuleNetwork$CubeMaker", name := "split", desc := "(III)V" } : Jvm.MethodName) ({ cls := "RuleNetwork$CubeMaker", name := "split", desc := "(III)V" } : Jvm.MethodName)) ∈ z_W := z_mem 22 (by decide +kernel) rfl
theorem zw_23 : (Jvm.Cond.selects "RuleNetwork$CubeMaker" ({ cls := "RuleNetwork$CubeMaker", name := "countInside", desc := "(II)I" } : Jvm.MethodName) ({ cls := "RuleNetwork$CubeMaker", name := "countInside", desc := "(II)I" } : Jvm.MethodName)) ∈ z_W := z_mem 23 (by decide +kernel) rfl
theorem zw_24 : (Jvm.Cond.selects "RuleNetwork$CubeMaker" ({ cls := "RuleNetwork$CubeMaker", name := "anyFrom", desc := "(I)I" } : Jvm.MethodName) ({ cls := "RuleNetwork$CubeMaker", name := "anyFrom", desc := "(I)I" } : Jvm.MethodName)) ∈ z_W := z_mem 24 (by decide +kernel) rfl
theorem zw_25 : (Jvm.Cond.selects "RuleNetwork$CubeMaker" ({ cls := "RuleNetwork$CubeMaker", name := "makesDifference", desc := "(II)Z" } : Jvm.MethodName) ({ cls := "RuleNetwork$CubeMaker", name := "makesDifference", desc := "(II)Z" } : Jvm.MethodName)) ∈ z_W := z_mem 25 (by decide +kernel) rfl
theorem zw_26 : (Jvm.Cond.selects "RuleNetworkModel" ({ cls := "RuleNetworkModel", name := "scan", desc := "(Z)I" } : Jvm.MethodName) ({ cls := "RuleNetworkModel", name := "scan", desc := "(Z)I" } : Jvm.MethodName)) ∈ z_W := z_mem 26 (by decide +kernel) rfl
theorem zw_27 : (Jvm.Cond.selects "RuleNetworkModel" ({ cls := "RuleNetworkModel", name := "isNew", desc := "(I)Z" } : Jvm.MethodName) ({ cls := "RuleNetworkModel", name := "isNew", desc := "(I)Z" } : Jvm.MethodName)) ∈ z_W := z_mem 27 (by decide +kernel) rfl
theorem zw_28 : (Jvm.Cond.selects "RuleNetworkModel" ({ cls := "RuleNetworkModel", name := "newGene", desc := "(I)I" } : Jvm.MethodName) ({ cls := "RuleNetworkModel", name := "newGene", desc := "(I)I" } : Jvm.MethodName)) ∈ z_W := z_mem 28 (by decide +kernel) rfl
theorem zw_29 : (Jvm.Cond.selects "RuleNetworkModel" ({ cls := "RuleNetworkModel", name := "begins", desc := "(I)Z" } : Jvm.MethodName) ({ cls := "RuleNetworkModel", name := "begins", desc := "(I)Z" } : Jvm.MethodName)) ∈ z_W := z_mem 29 (by decide +kernel) rfl
theorem zw_30 : (Jvm.Cond.selects "RuleNetworkModel" ({ cls := "RuleNetworkModel", name := "operand", desc := "(I)V" } : Jvm.MethodName) ({ cls := "RuleNetworkModel", name := "operand", desc := "(I)V" } : Jvm.MethodName)) ∈ z_W := z_mem 30 (by decide +kernel) rfl
theorem zw_31 : (Jvm.Cond.selects "RuleNetworkModel" ({ cls := "RuleNetworkModel", name := "pushValue", desc := "(JJ)V" } : Jvm.MethodName) ({ cls := "RuleNetworkModel", name := "pushValue", desc := "(JJ)V" } : Jvm.MethodName)) ∈ z_W := z_mem 31 (by decide +kernel) rfl
theorem zw_32 : (Jvm.Cond.selects "RuleNetworkModel" ({ cls := "RuleNetworkModel", name := "finish", desc := "()V" } : Jvm.MethodName) ({ cls := "RuleNetworkModel", name := "finish", desc := "()V" } : Jvm.MethodName)) ∈ z_W := z_mem 32 (by decide +kernel) rfl
theorem zw_33 : (Jvm.Cond.selects "RuleNetworkModel" ({ cls := "RuleNetworkModel", name := "waits", desc := "(I)Z" } : Jvm.MethodName) ({ cls := "RuleNetworkModel", name := "waits", desc := "(I)Z" } : Jvm.MethodName)) ∈ z_W := z_mem 33 (by decide +kernel) rfl
theorem zw_34 : (Jvm.Cond.selects "RuleNetworkModel" ({ cls := "RuleNetworkModel", name := "apply", desc := "()V" } : Jvm.MethodName) ({ cls := "RuleNetworkModel", name := "apply", desc := "()V" } : Jvm.MethodName)) ∈ z_W := z_mem 34 (by decide +kernel) rfl
theorem zw_35 : (Jvm.Cond.selects "RuleNetworkModel" ({ cls := "RuleNetworkModel", name := "ends", desc := "(Z)Z" } : Jvm.MethodName) ({ cls := "RuleNetworkModel", name := "ends", desc := "(Z)Z" } : Jvm.MethodName)) ∈ z_W := z_mem 35 (by decide +kernel) rfl
theorem zw_36 : (Jvm.Cond.selects "RuleNetworkModel" ({ cls := "RuleNetworkModel", name := "goesOn", desc := "(I)Z" } : Jvm.MethodName) ({ cls := "RuleNetworkModel", name := "goesOn", desc := "(I)Z" } : Jvm.MethodName)) ∈ z_W := z_mem 36 (by decide +kernel) rfl
theorem zw_37 : (Jvm.Cond.selects "RuleNetworkModel" ({ cls := "RuleNetworkModel", name := "unknown", desc := "()I" } : Jvm.MethodName) ({ cls := "RuleNetworkModel", name := "unknown", desc := "()I" } : Jvm.MethodName)) ∈ z_W := z_mem 37 (by decide +kernel) rfl
theorem zw_38 : (Jvm.Cond.selects "RuleNetworkModel" ({ cls := "RuleNetworkModel", name := "isGene", desc := "(I)Z" } : Jvm.MethodName) ({ cls := "RuleNetworkModel", name := "isGene", desc := "(I)Z" } : Jvm.MethodName)) ∈ z_W := z_mem 38 (by decide +kernel) rfl
theorem zw_39 : (Jvm.Cond.selects "RuleNetworkModel" ({ cls := "RuleNetworkModel", name := "isState", desc := "(I)Z" } : Jvm.MethodName) ({ cls := "RuleNetworkModel", name := "isState", desc := "(I)Z" } : Jvm.MethodName)) ∈ z_W := z_mem 39 (by decide +kernel) rfl
theorem zw_40 : (Jvm.Cond.selects "RuleNetworkModel" ({ cls := "RuleNetworkModel", name := "valueAt", desc := "(II)I" } : Jvm.MethodName) ({ cls := "RuleNetworkModel", name := "valueAt", desc := "(II)I" } : Jvm.MethodName)) ∈ z_W := z_mem 40 (by decide +kernel) rfl
theorem zw_41 : (Jvm.Cond.selects "RuleNetworkModel" ({ cls := "RuleNetworkModel", name := "differs", desc := "(III)Z" } : Jvm.MethodName) ({ cls := "RuleNetworkModel", name := "differs", desc := "(III)Z" } : Jvm.MethodName)) ∈ z_W := z_mem 41 (by decide +kernel) rfl
theorem zw_42 : (Jvm.Cond.selects "RuleNetworkModel" ({ cls := "RuleNetworkModel", name := "sameLeft", desc := "(IIII)Z" } : Jvm.MethodName) ({ cls := "RuleNetworkModel", name := "sameLeft", desc := "(IIII)Z" } : Jvm.MethodName)) ∈ z_W := z_mem 42 (by decide +kernel) rfl
theorem zw_43 : (Jvm.Cond.selects "RuleNetworkModel" ({ cls := "RuleNetworkModel", name := "spreadOut", desc := "()V" } : Jvm.MethodName) ({ cls := "RuleNetworkModel", name := "spreadOut", desc := "()V" } : Jvm.MethodName)) ∈ z_W := z_mem 43 (by decide +kernel) rfl
theorem zw_44 : (Jvm.Cond.selects "RuleNetworkModel" ({ cls := "RuleNetworkModel", name := "step", desc := "(II)I" } : Jvm.MethodName) ({ cls := "RuleNetworkModel", name := "step", desc := "(II)I" } : Jvm.MethodName)) ∈ z_W := z_mem 44 (by decide +kernel) rfl
theorem zw_45 : (Jvm.Cond.selects "RuleNetworkModel" ({ cls := "RuleNetworkModel", name := "join", desc := "(II)Z" } : Jvm.MethodName) ({ cls := "RuleNetworkModel", name := "join", desc := "(II)Z" } : Jvm.MethodName)) ∈ z_W := z_mem 45 (by decide +kernel) rfl
theorem zw_46 : (Jvm.Cond.selects "RuleNetworkModel" ({ cls := "RuleNetworkModel", name := "settled", desc := "(I)Z" } : Jvm.MethodName) ({ cls := "RuleNetworkModel", name := "settled", desc := "(I)Z" } : Jvm.MethodName)) ∈ z_W := z_mem 46 (by decide +kernel) rfl
theorem zw_47 : (Jvm.Cond.selects "RuleNetworkModel" ({ cls := "RuleNetworkModel", name := "leads", desc := "(II)Z" } : Jvm.MethodName) ({ cls := "RuleNetworkModel", name := "leads", desc := "(II)Z" } : Jvm.MethodName)) ∈ z_W := z_mem 47 (by decide +kernel) rfl
theorem zw_48 : (Jvm.Cond.selects "RuleNetworkModel" ({ cls := "RuleNetworkModel", name := "isLeast", desc := "(I)Z" } : Jvm.MethodName) ({ cls := "RuleNetworkModel", name := "isLeast", desc := "(I)Z" } : Jvm.MethodName)) ∈ z_W := z_mem 48 (by decide +kernel) rfl
theorem zw_49 : (Jvm.Cond.selects "RuleNetworkModel" ({ cls := "RuleNetworkModel", name := "isAttractor", desc := "(I)Z" } : Jvm.MethodName) ({ cls := "RuleNetworkModel", name := "isAttractor", desc := "(I)Z" } : Jvm.MethodName)) ∈ z_W := z_mem 49 (by decide +kernel) rfl
theorem zw_50 : (Jvm.Cond.selects "RuleNetworkModel" ({ cls := "RuleNetworkModel", name := "in", desc := "(II)Z" } : Jvm.MethodName) ({ cls := "RuleNetworkModel", name := "in", desc := "(II)Z" } : Jvm.MethodName)) ∈ z_W := z_mem 50 (by decide +kernel) rfl
theorem zw_51 : (Jvm.Cond.selects "RuleNetworkModel" ({ cls := "RuleNetworkModel", name := "look", desc := "(II)I" } : Jvm.MethodName) ({ cls := "RuleNetworkModel", name := "look", desc := "(II)I" } : Jvm.MethodName)) ∈ z_W := z_mem 51 (by decide +kernel) rfl
theorem zw_52 : (Jvm.Cond.selects "RuleNetworkModel" ({ cls := "RuleNetworkModel", name := "later", desc := "(II)V" } : Jvm.MethodName) ({ cls := "RuleNetworkModel", name := "later", desc := "(II)V" } : Jvm.MethodName)) ∈ z_W := z_mem 52 (by decide +kernel) rfl
theorem zw_53 : (Jvm.Cond.selects "RuleNetworkModel" ({ cls := "RuleNetworkModel", name := "share", desc := "(III)I" } : Jvm.MethodName) ({ cls := "RuleNetworkModel", name := "share", desc := "(III)I" } : Jvm.MethodName)) ∈ z_W := z_mem 53 (by decide +kernel) rfl
theorem zw_55 : (Jvm.Cond.initialized "RuleNetwork") ∈ z_W := z_mem 55 (by decide +kernel) rfl
theorem zw_56 : (Jvm.Cond.initialized "RuleNetwork$Script") ∈ z_W := z_mem 56 (by decide +kernel) rfl
theorem zw_57 : (Jvm.Cond.initialized "RuleNetwork$Rules") ∈ z_W := z_mem 57 (by decide +kernel) rfl
theorem zw_58 : (Jvm.Cond.initialized "RuleNetwork$Analysis") ∈ z_W := z_mem 58 (by decide +kernel) rfl
theorem zw_59 : (Jvm.Cond.initialized "RuleNetwork$NodeCounter") ∈ z_W := z_mem 59 (by decide +kernel) rfl
theorem zw_60 : (Jvm.Cond.initialized "RuleNetwork$CubeMaker") ∈ z_W := z_mem 60 (by decide +kernel) rfl
theorem zw_61 : (Jvm.Cond.initialized "RuleNetworkModel") ∈ z_W := z_mem 61 (by decide +kernel) rfl
theorem zw_62 : (Jvm.Cond.initialized "java/util/Arrays") ∈ z_W := z_mem 62 (by decide +kernel) rfl
theorem zw_63 : (Jvm.Cond.initialized "java/lang/Long") ∈ z_W := z_mem 63 (by decide +kernel) rfl
theorem zw_64 : (Jvm.Cond.classLink "RuleNetworkLaw" (7 : Nat) "RuleNetwork") ∈ z_W := z_mem 64 (by decide +kernel) rfl
theorem zw_65 : (Jvm.Cond.instantiable "RuleNetwork" (5 : Nat)) ∈ z_W := z_mem 65 (by decide +kernel) rfl
theorem zw_66 : (Jvm.Cond.methodLink "RuleNetworkLaw" (9 : Nat) ({ cls := "RuleNetwork", name := "<init>", desc := "()V" } : Jvm.MethodName)) ∈ z_W := z_mem 66 (by decide +kernel) rfl
theorem zw_67 : (Jvm.Cond.instanceMethod ({ cls := "RuleNetwork", name := "<init>", desc := "()V" } : Jvm.MethodName)) ∈ z_W := z_mem 67 (by decide +kernel) rfl
theorem zw_68 : (Jvm.Cond.code ({ cls := "RuleNetwork", name := "<init>", desc := "()V" } : Jvm.MethodName) prog_1_method_1_code (1 : Nat) (Option.none : Option Jvm.ClassFile.FieldType)) ∈ z_W := z_mem 68 (by decide +kernel) rfl
theorem zw_69 : (Jvm.Cond.methodLink "RuleNetwork" (1 : Nat) ({ cls := "java/lang/Object", name := "<init>", desc := "()V" } : Jvm.MethodName)) ∈ z_W := z_mem 69 (by decide +kernel) rfl
theorem zw_70 : (Jvm.Cond.instanceMethod ({ cls := "java/lang/Object", name := "<init>", desc := "()V" } : Jvm.MethodName)) ∈ z_W := z_mem 70 (by decide +kernel) rfl
theorem zw_71 : (Jvm.Cond.code ({ cls := "java/lang/Object", name := "<init>", desc := "()V" } : Jvm.MethodName) object_method_1_code (1 : Nat) (Option.none : Option Jvm.ClassFile.FieldType)) ∈ z_W := z_mem 71 (by decide +kernel) rfl
theorem zw_72 : (Jvm.Cond.classLink "RuleNetwork" (7 : Nat) "RuleNetwork$Script") ∈ z_W := z_mem 72 (by decide +kernel) rfl
theorem zw_73 : (Jvm.Cond.instantiable "RuleNetwork$Script" (9 : Nat)) ∈ z_W := z_mem 73 (by decide +kernel) rfl
theorem zw_75 : (Jvm.Cond.instanceMethod ({ cls := "RuleNetwork$Script", name := "<init>", desc := "()V" } : Jvm.MethodName)) ∈ z_W := z_mem 75 (by decide +kernel) rfl
theorem zw_76 : (Jvm.Cond.code ({ cls := "RuleNetwork$Script", name := "<init>", desc := "()V" } : Jvm.MethodName) prog_6_method_1_code (1 : Nat) (Option.none : Option Jvm.ClassFile.FieldType)) ∈ z_W := z_mem 76 (by decide +kernel) rfl
theorem zw_77 : (Jvm.Cond.methodLink "RuleNetwork$Script" (3 : Nat) ({ cls := "java/lang/Object", name := "<init>", desc := "()V" } : Jvm.MethodName)) ∈ z_W := z_mem 77 (by decide +kernel) rfl
theorem zw_78 : (Jvm.Cond.fieldLink "RuleNetwork$Script" (9 : Nat) "RuleNetwork$Script" "characters" "[C") ∈ z_W := z_mem 78 (by decide +kernel) rfl
theorem zw_79 : (Jvm.Cond.fieldLink "RuleNetwork$Script" (28 : Nat) "RuleNetwork$Script" "length" "I") ∈ z_W := z_mem 79 (by decide +kernel) rfl
theorem zw_80 : (Jvm.Cond.fieldLink "RuleNetwork$Script" (42 : Nat) "RuleNetwork$Script" "at" "I") ∈ z_W := z_mem 80 (by decide +kernel) rfl
theorem zw_81 : (Jvm.Cond.fieldLink "RuleNetwork$Script" (15 : Nat) "RuleNetwork$Script" "names" "[C") ∈ z_W := z_mem 81 (by decide +kernel) rfl
theorem zw_82 : (Jvm.Cond.fieldLink "RuleNetwork$Rules" (36 : Nat) "RuleNetwork$Script" "names" "[C") ∈ z_W := z_mem 82 (by decide +kernel) rfl
theorem zw_83 : (Jvm.Cond.fieldLink "RuleNetwork$Rules" (29 : Nat) "RuleNetwork$Script" "count" "I") ∈ z_W := z_mem 83 (by decide +kernel) rfl
theorem zw_84 : (Jvm.Cond.fieldLink "RuleNetwork$Script" (45 : Nat) "RuleNetwork$Script" "count" "I") ∈ z_W := z_mem 84 (by decide +kernel) rfl
theorem zw_85 : (Jvm.Cond.fieldLink "RuleNetwork$Script" (18 : Nat) "RuleNetwork$Script" "code" "[C") ∈ z_W := z_mem 85 (by decide +kernel) rfl
theorem zw_86 : (Jvm.Cond.fieldLink "RuleNetwork$Rules" (46 : Nat) "RuleNetwork$Script" "code" "[C") ∈ z_W := z_mem 86 (by decide +kernel) rfl
theorem zw_87 : (Jvm.Cond.fieldLink "RuleNetwork$Script" (48 : Nat) "RuleNetwork$Script" "codeLength" "I") ∈ z_W := z_mem 87 (by decide +kernel) rfl
theorem zw_88 : (Jvm.Cond.fieldLink "RuleNetwork$Script" (21 : Nat) "RuleNetwork$Script" "ends" "[I") ∈ z_W := z_mem 88 (by decide +kernel) rfl
theorem zw_89 : (Jvm.Cond.fieldLink "RuleNetwork$Rules" (37 : Nat) "RuleNetwork$Script" "ends" "[I") ∈ z_W := z_mem 89 (by decide +kernel) rfl
theorem zw_90 : (Jvm.Cond.fieldLink "RuleNetwork$Script" (25 : Nat) "RuleNetwork$Script" "firstUses" "[I") ∈ z_W := z_mem 90 (by decide +kernel) rfl
theorem zw_110 : (Jvm.Cond.arrayClass Jvm.ClassFile.FieldType.char) ∈ z_W := z_mem 110 (by decide +kernel) rfl
theorem zw_111 : (Jvm.Cond.arrayClass Jvm.ClassFile.FieldType.int) ∈ z_W := z_mem 111 (by decide +kernel) rfl
theorem zw_112 : (Jvm.Cond.classLink "RuleNetwork" (16 : Nat) "RuleNetwork$Rules") ∈ z_W := z_mem 112 (by decide +kernel) rfl
theorem zw_113 : (Jvm.Cond.instantiable "RuleNetwork$Rules" (6 : Nat)) ∈ z_W := z_mem 113 (by decide +kernel) rfl
theorem zw_115 : (Jvm.Cond.instanceMethod ({ cls := "RuleNetwork$Rules", name := "<init>", desc := "()V" } : Jvm.MethodName)) ∈ z_W := z_mem 115 (by decide +kernel) rfl
theorem zw_116 : (Jvm.Cond.code ({ cls := "RuleNetwork$Rules", name := "<init>", desc := "()V" } : Jvm.MethodName) prog_5_method_1_code (1 : Nat) (Option.none : Option Jvm.ClassFile.FieldType)) ∈ z_W := z_mem 116 (by decide +kernel) rfl
theorem zw_117 : (Jvm.Cond.methodLink "RuleNetwork$Rules" (3 : Nat) ({ cls := "java/lang/Object", name := "<init>", desc := "()V" } : Jvm.MethodName)) ∈ z_W := z_mem 117 (by decide +kernel) rfl
theorem zw_118 : (Jvm.Cond.fieldLink "RuleNetwork$Rules" (35 : Nat) "RuleNetwork$Rules" "count" "I") ∈ z_W := z_mem 118 (by decide +kernel) rfl
theorem zw_119 : (Jvm.Cond.fieldLink "RuleNetwork$NodeCounter" (25 : Nat) "RuleNetwork$Rules" "count" "I") ∈ z_W := z_mem 119 (by decide +kernel) rfl
theorem zw_120 : (Jvm.Cond.fieldLink "RuleNetwork$Analysis" (32 : Nat) "RuleNetwork$Rules" "count" "I") ∈ z_W := z_mem 120 (by decide +kernel) rfl
theorem zw_121 : (Jvm.Cond.fieldLink "RuleNetwork" (62 : Nat) "RuleNetwork$Rules" "count" "I") ∈ z_W := z_mem 121 (by decide +kernel) rfl
theorem zw_122 : (Jvm.Cond.fieldLink "RuleNetwork$Rules" (9 : Nat) "RuleNetwork$Rules" "names" "[C") ∈ z_W := z_mem 122 (by decide +kernel) rfl
theorem zw_123 : (Jvm.Cond.fieldLink "RuleNetwork" (66 : Nat) "RuleNetwork$Rules" "names" "[C") ∈ z_W := z_mem 123 (by decide +kernel) rfl
theorem zw_124 : (Jvm.Cond.fieldLink "RuleNetwork$Rules" (15 : Nat) "RuleNetwork$Rules" "fixed" "[I") ∈ z_W := z_mem 124 (by decide +kernel) rfl
theorem zw_125 : (Jvm.Cond.fieldLink "RuleNetwork" (78 : Nat) "RuleNetwork$Rules" "fixed" "[I") ∈ z_W := z_mem 125 (by decide +kernel) rfl
theorem zw_126 : (Jvm.Cond.fieldLink "RuleNetwork$Rules" (19 : Nat) "RuleNetwork$Rules" "low" "[J") ∈ z_W := z_mem 126 (by decide +kernel) rfl
theorem zw_127 : (Jvm.Cond.fieldLink "RuleNetwork$Rules" (23 : Nat) "RuleNetwork$Rules" "high" "[J") ∈ z_W := z_mem 127 (by decide +kernel) rfl
theorem zw_128 : (Jvm.Cond.fieldLink "RuleNetwork$Rules" (26 : Nat) "RuleNetwork$Rules" "stack" "[J") ∈ z_W := z_mem 128 (by decide +kernel) rfl
theorem zw_142 : (Jvm.Cond.arrayClass Jvm.ClassFile.FieldType.long) ∈ z_W := z_mem 142 (by decide +kernel) rfl
theorem zw_143 : (Jvm.Cond.classLink "RuleNetwork" (23 : Nat) "RuleNetwork$Analysis") ∈ z_W := z_mem 143 (by decide +kernel) rfl
theorem zw_144 : (Jvm.Cond.instantiable "RuleNetwork$Analysis" (9 : Nat)) ∈ z_W := z_mem 144 (by decide +kernel) rfl
theorem zw_146 : (Jvm.Cond.instanceMethod ({ cls := "RuleNetwork$Analysis", name := "<init>", desc := "()V" } : Jvm.MethodName)) ∈ z_W := z_mem 146 (by decide +kernel) rfl
theorem zw_147 : (Jvm.Cond.code ({ cls := "RuleNetwork$Analysis", name := "<init>", desc := "()V" } : Jvm.MethodName) prog_2_method_1_code (1 : Nat) (Option.none : Option Jvm.ClassFile.FieldType)) ∈ z_W := z_mem 147 (by decide +kernel) rfl
theorem zw_148 : (Jvm.Cond.methodLink "RuleNetwork$Analysis" (3 : Nat) ({ cls := "java/lang/Object", name := "<init>", desc := "()V" } : Jvm.MethodName)) ∈ z_W := z_mem 148 (by decide +kernel) rfl
theorem zw_149 : (Jvm.Cond.fieldLink "RuleNetwork$Analysis" (35 : Nat) "RuleNetwork$Analysis" "genes" "I") ∈ z_W := z_mem 149 (by decide +kernel) rfl
theorem zw_150 : (Jvm.Cond.fieldLink "RuleNetwork" (129 : Nat) "RuleNetwork$Analysis" "genes" "I") ∈ z_W := z_mem 150 (by decide +kernel) rfl
theorem zw_151 : (Jvm.Cond.fieldLink "RuleNetwork$Analysis" (29 : Nat) "RuleNetwork$Analysis" "count" "I") ∈ z_W := z_mem 151 (by decide +kernel) rfl
theorem zw_152 : (Jvm.Cond.fieldLink "RuleNetwork" (101 : Nat) "RuleNetwork$Analysis" "count" "I") ∈ z_W := z_mem 152 (by decide +kernel) rfl
theorem zw_153 : (Jvm.Cond.fieldLink "RuleNetwork$Analysis" (9 : Nat) "RuleNetwork$Analysis" "low" "[J") ∈ z_W := z_mem 153 (by decide +kernel) rfl
theorem zw_154 : (Jvm.Cond.fieldLink "RuleNetwork" (132 : Nat) "RuleNetwork$Analysis" "low" "[J") ∈ z_W := z_mem 154 (by decide +kernel) rfl
theorem zw_155 : (Jvm.Cond.fieldLink "RuleNetwork$Analysis" (15 : Nat) "RuleNetwork$Analysis" "high" "[J") ∈ z_W := z_mem 155 (by decide +kernel) rfl
theorem zw_156 : (Jvm.Cond.fieldLink "RuleNetwork" (136 : Nat) "RuleNetwork$Analysis" "high" "[J") ∈ z_W := z_mem 156 (by decide +kernel) rfl
theorem zw_157 : (Jvm.Cond.fieldLink "RuleNetwork$Analysis" (18 : Nat) "RuleNetwork$Analysis" "homes" "[I") ∈ z_W := z_mem 157 (by decide +kernel) rfl
theorem zw_158 : (Jvm.Cond.fieldLink "RuleNetwork" (112 : Nat) "RuleNetwork$Analysis" "homes" "[I") ∈ z_W := z_mem 158 (by decide +kernel) rfl
theorem zw_159 : (Jvm.Cond.fieldLink "RuleNetwork$Analysis" (22 : Nat) "RuleNetwork$Analysis" "leasts" "[I") ∈ z_W := z_mem 159 (by decide +kernel) rfl
theorem zw_160 : (Jvm.Cond.fieldLink "RuleNetwork" (108 : Nat) "RuleNetwork$Analysis" "leasts" "[I") ∈ z_W := z_mem 160 (by decide +kernel) rfl
theorem zw_161 : (Jvm.Cond.fieldLink "RuleNetwork$Analysis" (25 : Nat) "RuleNetwork$Analysis" "states" "I") ∈ z_W := z_mem 161 (by decide +kernel) rfl
theorem zw_162 : (Jvm.Cond.fieldLink "RuleNetwork$Analysis" (60 : Nat) "RuleNetwork$Analysis" "lowLeasts" "J") ∈ z_W := z_mem 162 (by decide +kernel) rfl
theorem zw_163 : (Jvm.Cond.fieldLink "RuleNetwork$Analysis" (64 : Nat) "RuleNetwork$Analysis" "highLeasts" "J") ∈ z_W := z_mem 163 (by decide +kernel) rfl
theorem zw_183 : (Jvm.Cond.classLink "RuleNetwork" (30 : Nat) "RuleNetwork$NodeCounter") ∈ z_W := z_mem 183 (by decide +kernel) rfl
theorem zw_184 : (Jvm.Cond.instantiable "RuleNetwork$NodeCounter" (4 : Nat)) ∈ z_W := z_mem 184 (by decide +kernel) rfl
theorem zw_186 : (Jvm.Cond.instanceMethod ({ cls := "RuleNetwork$NodeCounter", name := "<init>", desc := "()V" } : Jvm.MethodName)) ∈ z_W := z_mem 186 (by decide +kernel) rfl
theorem zw_187 : (Jvm.Cond.code ({ cls := "RuleNetwork$NodeCounter", name := "<init>", desc := "()V" } : Jvm.MethodName) prog_4_method_1_code (1 : Nat) (Option.none : Option Jvm.ClassFile.FieldType)) ∈ z_W := z_mem 187 (by decide +kernel) rfl
theorem zw_188 : (Jvm.Cond.methodLink "RuleNetwork$NodeCounter" (3 : Nat) ({ cls := "java/lang/Object", name := "<init>", desc := "()V" } : Jvm.MethodName)) ∈ z_W := z_mem 188 (by decide +kernel) rfl
theorem zw_189 : (Jvm.Cond.fieldLink "RuleNetwork$NodeCounter" (9 : Nat) "RuleNetwork$NodeCounter" "numbers" "[I") ∈ z_W := z_mem 189 (by decide +kernel) rfl
theorem zw_190 : (Jvm.Cond.fieldLink "RuleNetwork$NodeCounter" (15 : Nat) "RuleNetwork$NodeCounter" "zeros" "[I") ∈ z_W := z_mem 190 (by decide +kernel) rfl
theorem zw_191 : (Jvm.Cond.fieldLink "RuleNetwork$NodeCounter" (18 : Nat) "RuleNetwork$NodeCounter" "ones" "[I") ∈ z_W := z_mem 191 (by decide +kernel) rfl
theorem zw_192 : (Jvm.Cond.fieldLink "RuleNetwork$NodeCounter" (21 : Nat) "RuleNetwork$NodeCounter" "nodes" "I") ∈ z_W := z_mem 192 (by decide +kernel) rfl
theorem zw_202 : (Jvm.Cond.classLink "RuleNetwork" (37 : Nat) "RuleNetwork$CubeMaker") ∈ z_W := z_mem 202 (by decide +kernel) rfl
theorem zw_203 : (Jvm.Cond.instantiable "RuleNetwork$CubeMaker" (5 : Nat)) ∈ z_W := z_mem 203 (by decide +kernel) rfl
theorem zw_205 : (Jvm.Cond.instanceMethod ({ cls := "RuleNetwork$CubeMaker", name := "<init>", desc := "()V" } : Jvm.MethodName)) ∈ z_W := z_mem 205 (by decide +kernel) rfl
theorem zw_206 : (Jvm.Cond.code ({ cls := "RuleNetwork$CubeMaker", name := "<init>", desc := "()V" } : Jvm.MethodName) prog_3_method_1_code (1 : Nat) (Option.none : Option Jvm.ClassFile.FieldType)) ∈ z_W := z_mem 206 (by decide +kernel) rfl
theorem zw_207 : (Jvm.Cond.methodLink "RuleNetwork$CubeMaker" (3 : Nat) ({ cls := "java/lang/Object", name := "<init>", desc := "()V" } : Jvm.MethodName)) ∈ z_W := z_mem 207 (by decide +kernel) rfl
theorem zw_208 : (Jvm.Cond.fieldLink "RuleNetwork$CubeMaker" (9 : Nat) "RuleNetwork$CubeMaker" "made" "[I") ∈ z_W := z_mem 208 (by decide +kernel) rfl
theorem zw_209 : (Jvm.Cond.fieldLink "RuleNetwork" (126 : Nat) "RuleNetwork$CubeMaker" "made" "[I") ∈ z_W := z_mem 209 (by decide +kernel) rfl
theorem zw_210 : (Jvm.Cond.fieldLink "RuleNetwork$CubeMaker" (15 : Nat) "RuleNetwork$CubeMaker" "count" "I") ∈ z_W := z_mem 210 (by decide +kernel) rfl
theorem zw_211 : (Jvm.Cond.fieldLink "RuleNetwork" (125 : Nat) "RuleNetwork$CubeMaker" "count" "I") ∈ z_W := z_mem 211 (by decide +kernel) rfl
theorem zw_212 : (Jvm.Cond.fieldLink "RuleNetwork$CubeMaker" (19 : Nat) "RuleNetwork$CubeMaker" "genes" "I") ∈ z_W := z_mem 212 (by decide +kernel) rfl
theorem zw_213 : (Jvm.Cond.fieldLink "RuleNetwork$CubeMaker" (22 : Nat) "RuleNetwork$CubeMaker" "low" "J") ∈ z_W := z_mem 213 (by decide +kernel) rfl
theorem zw_214 : (Jvm.Cond.fieldLink "RuleNetwork$CubeMaker" (26 : Nat) "RuleNetwork$CubeMaker" "high" "J") ∈ z_W := z_mem 214 (by decide +kernel) rfl
theorem zw_226 : (Jvm.Cond.fieldLink "RuleNetwork" (10 : Nat) "RuleNetwork" "script" "LRuleNetwork$Script;") ∈ z_W := z_mem 226 (by decide +kernel) rfl
theorem zw_227 : (Jvm.Cond.fieldLink "RuleNetwork" (19 : Nat) "RuleNetwork" "rules" "LRuleNetwork$Rules;") ∈ z_W := z_mem 227 (by decide +kernel) rfl
theorem zw_228 : (Jvm.Cond.fieldLink "RuleNetwork" (26 : Nat) "RuleNetwork" "analysis" "LRuleNetwork$Analysis;") ∈ z_W := z_mem 228 (by decide +kernel) rfl
theorem zw_229 : (Jvm.Cond.fieldLink "RuleNetwork" (33 : Nat) "RuleNetwork" "counter" "LRuleNetwork$NodeCounter;") ∈ z_W := z_mem 229 (by decide +kernel) rfl
theorem zw_230 : (Jvm.Cond.fieldLink "RuleNetwork" (40 : Nat) "RuleNetwork" "maker" "LRuleNetwork$CubeMaker;") ∈ z_W := z_mem 230 (by decide +kernel) rfl
theorem zw_242 : (Jvm.Cond.methodLink "RuleNetworkLaw" (15 : Nat) ({ cls := "RuleNetwork", name := "write", desc := "(J)Z" } : Jvm.MethodName)) ∈ z_W := z_mem 242 (by decide +kernel) rfl
theorem zw_243 : (Jvm.Cond.instanceMethod ({ cls := "RuleNetwork", name := "write", desc := "(J)Z" } : Jvm.MethodName)) ∈ z_W := z_mem 243 (by decide +kernel) rfl
theorem zw_244 : (Jvm.Cond.selects "RuleNetwork" ({ cls := "RuleNetwork", name := "write", desc := "(J)Z" } : Jvm.MethodName) ({ cls := "RuleNetwork", name := "write", desc := "(J)Z" } : Jvm.MethodName)) ∈ z_W := z_mem 244 (by decide +kernel) rfl
theorem zw_245 : (Jvm.Cond.code ({ cls := "RuleNetwork", name := "write", desc := "(J)Z" } : Jvm.MethodName) prog_1_method_2_code (3 : Nat) (Option.some Jvm.ClassFile.FieldType.boolean)) ∈ z_W := z_mem 245 (by decide +kernel) rfl
theorem zw_246 : (Jvm.Cond.methodLink "RuleNetwork" (44 : Nat) ({ cls := "RuleNetwork$Script", name := "append", desc := "(J)Z" } : Jvm.MethodName)) ∈ z_W := z_mem 246 (by decide +kernel) rfl
theorem zw_247 : (Jvm.Cond.instanceMethod ({ cls := "RuleNetwork$Script", name := "append", desc := "(J)Z" } : Jvm.MethodName)) ∈ z_W := z_mem 247 (by decide +kernel) rfl
theorem zw_248 : (Jvm.Cond.selects "RuleNetwork$Script" ({ cls := "RuleNetwork$Script", name := "append", desc := "(J)Z" } : Jvm.MethodName) ({ cls := "RuleNetwork$Script", name := "append", desc := "(J)Z" } : Jvm.MethodName)) ∈ z_W := z_mem 248 (by decide +kernel) rfl
theorem zw_249 : (Jvm.Cond.code ({ cls := "RuleNetwork$Script", name := "append", desc := "(J)Z" } : Jvm.MethodName) prog_6_method_3_code (6 : Nat) (Option.some Jvm.ClassFile.FieldType.boolean)) ∈ z_W := z_mem 249 (by decide +kernel) rfl
theorem zw_250 : (Jvm.Cond.methodLink "RuleNetwork$Script" (32 : Nat) ({ cls := "RuleNetwork$Script", name := "countCharacters", desc := "(J)I" } : Jvm.MethodName)) ∈ z_W := z_mem 250 (by decide +kernel) rfl
theorem zw_251 : (Jvm.Cond.static ({ cls := "RuleNetwork$Script", name := "countCharacters", desc := "(J)I" } : Jvm.MethodName)) ∈ z_W := z_mem 251 (by decide +kernel) rfl
theorem zw_252 : (Jvm.Cond.code ({ cls := "RuleNetwork$Script", name := "countCharacters", desc := "(J)I" } : Jvm.MethodName) prog_6_method_4_code (5 : Nat) (Option.some Jvm.ClassFile.FieldType.int)) ∈ z_W := z_mem 252 (by decide +kernel) rfl
theorem zw_253 : (Jvm.Cond.methodLink "RuleNetwork$Script" (36 : Nat) ({ cls := "RuleNetwork$Script", name := "byteAt", desc := "(JI)C" } : Jvm.MethodName)) ∈ z_W := z_mem 253 (by decide +kernel) rfl
theorem zw_254 : (Jvm.Cond.static ({ cls := "RuleNetwork$Script", name := "byteAt", desc := "(JI)C" } : Jvm.MethodName)) ∈ z_W := z_mem 254 (by decide +kernel) rfl
theorem zw_255 : (Jvm.Cond.code ({ cls := "RuleNetwork$Script", name := "byteAt", desc := "(JI)C" } : Jvm.MethodName) prog_6_method_5_code (3 : Nat) (Option.some Jvm.ClassFile.FieldType.char)) ∈ z_W := z_mem 255 (by decide +kernel) rfl
theorem zw_256 : (Jvm.Cond.constantLong "RuleNetwork$Script" (40 : Nat) (255 : Int64)) ∈ z_W := z_mem 256 (by decide +kernel) rfl
theorem zw_257 : (Jvm.Cond.methodLink "RuleNetworkLaw" (20 : Nat) ({ cls := "RuleNetwork", name := "wipe", desc := "()V" } : Jvm.MethodName)) ∈ z_W := z_mem 257 (by decide +kernel) rfl
theorem zw_258 : (Jvm.Cond.instanceMethod ({ cls := "RuleNetwork", name := "wipe", desc := "()V" } : Jvm.MethodName)) ∈ z_W := z_mem 258 (by decide +kernel) rfl
theorem zw_259 : (Jvm.Cond.selects "RuleNetwork" ({ cls := "RuleNetwork", name := "wipe", desc := "()V" } : Jvm.MethodName) ({ cls := "RuleNetwork", name := "wipe", desc := "()V" } : Jvm.MethodName)) ∈ z_W := z_mem 259 (by decide +kernel) rfl
theorem zw_260 : (Jvm.Cond.code ({ cls := "RuleNetwork", name := "wipe", desc := "()V" } : Jvm.MethodName) prog_1_method_3_code (1 : Nat) (Option.none : Option Jvm.ClassFile.FieldType)) ∈ z_W := z_mem 260 (by decide +kernel) rfl
theorem zw_261 : (Jvm.Cond.methodLink "RuleNetwork" (48 : Nat) ({ cls := "RuleNetwork$Script", name := "clear", desc := "()V" } : Jvm.MethodName)) ∈ z_W := z_mem 261 (by decide +kernel) rfl
theorem zw_262 : (Jvm.Cond.instanceMethod ({ cls := "RuleNetwork$Script", name := "clear", desc := "()V" } : Jvm.MethodName)) ∈ z_W := z_mem 262 (by decide +kernel) rfl
theorem zw_263 : (Jvm.Cond.selects "RuleNetwork$Script" ({ cls := "RuleNetwork$Script", name := "clear", desc := "()V" } : Jvm.MethodName) ({ cls := "RuleNetwork$Script", name := "clear", desc := "()V" } : Jvm.MethodName)) ∈ z_W := z_mem 263 (by decide +kernel) rfl
theorem zw_264 : (Jvm.Cond.code ({ cls := "RuleNetwork$Script", name := "clear", desc := "()V" } : Jvm.MethodName) prog_6_method_2_code (1 : Nat) (Option.none : Option Jvm.ClassFile.FieldType)) ∈ z_W := z_mem 264 (by decide +kernel) rfl
theorem zw_265 : (Jvm.Cond.methodLink "RuleNetworkLaw" (24 : Nat) ({ cls := "RuleNetwork", name := "load", desc := "()I" } : Jvm.MethodName)) ∈ z_W := z_mem 265 (by decide +kernel) rfl
theorem zw_266 : (Jvm.Cond.instanceMethod ({ cls := "RuleNetwork", name := "load", desc := "()I" } : Jvm.MethodName)) ∈ z_W := z_mem 266 (by decide +kernel) rfl
theorem zw_267 : (Jvm.Cond.selects "RuleNetwork" ({ cls := "RuleNetwork", name := "load", desc := "()I" } : Jvm.MethodName) ({ cls := "RuleNetwork", name := "load", desc := "()I" } : Jvm.MethodName)) ∈ z_W := z_mem 267 (by decide +kernel) rfl
theorem zw_268 : (Jvm.Cond.code ({ cls := "RuleNetwork", name := "load", desc := "()I" } : Jvm.MethodName) prog_1_method_4_code (2 : Nat) (Option.some Jvm.ClassFile.FieldType.int)) ∈ z_W := z_mem 268 (by decide +kernel) rfl
theorem zw_269 : (Jvm.Cond.methodLink "RuleNetwork" (51 : Nat) ({ cls := "RuleNetwork$Script", name := "findFault", desc := "()I" } : Jvm.MethodName)) ∈ z_W := z_mem 269 (by decide +kernel) rfl
theorem zw_270 : (Jvm.Cond.instanceMethod ({ cls := "RuleNetwork$Script", name := "findFault", desc := "()I" } : Jvm.MethodName)) ∈ z_W := z_mem 270 (by decide +kernel) rfl
theorem zw_271 : (Jvm.Cond.selects "RuleNetwork$Script" ({ cls := "RuleNetwork$Script", name := "findFault", desc := "()I" } : Jvm.MethodName) ({ cls := "RuleNetwork$Script", name := "findFault", desc := "()I" } : Jvm.MethodName)) ∈ z_W := z_mem 271 (by decide +kernel) rfl
theorem zw_272 : (Jvm.Cond.code ({ cls := "RuleNetwork$Script", name := "findFault", desc := "()I" } : Jvm.MethodName) prog_6_method_6_code (1 : Nat) (Option.some Jvm.ClassFile.FieldType.int)) ∈ z_W := z_mem 272 (by decide +kernel) rfl
theorem zw_273 : (Jvm.Cond.methodLink "RuleNetwork$Script" (51 : Nat) ({ cls := "java/util/Arrays", name := "fill", desc := "([II)V" } : Jvm.MethodName)) ∈ z_W := z_mem 273 (by decide +kernel) rfl
theorem zw_274 : (Jvm.Cond.static ({ cls := "java/util/Arrays", name := "fill", desc := "([II)V" } : Jvm.MethodName)) ∈ z_W := z_mem 274 (by decide +kernel) rfl
theorem zw_275 : (Jvm.Cond.code ({ cls := "java/util/Arrays", name := "fill", desc := "([II)V" } : Jvm.MethodName) prog_10_method_103_code (4 : Nat) (Option.none : Option Jvm.ClassFile.FieldType)) ∈ z_W := z_mem 275 (by decide +kernel) rfl
theorem zw_276 : (Jvm.Cond.methodLink "RuleNetwork$Script" (57 : Nat) ({ cls := "RuleNetwork$Script", name := "readRules", desc := "()Z" } : Jvm.MethodName)) ∈ z_W := z_mem 276 (by decide +kernel) rfl
theorem zw_278 : (Jvm.Cond.instanceMethod ({ cls := "RuleNetwork$Script", name := "readRules", desc := "()Z" } : Jvm.MethodName)) ∈ z_W := z_mem 278 (by decide +kernel) rfl
theorem zw_279 : (Jvm.Cond.code ({ cls := "RuleNetwork$Script", name := "readRules", desc := "()Z" } : Jvm.MethodName) prog_6_method_8_code (2 : Nat) (Option.some Jvm.ClassFile.FieldType.boolean)) ∈ z_W := z_mem 279 (by decide +kernel) rfl
theorem zw_280 : (Jvm.Cond.methodLink "RuleNetwork$Script" (69 : Nat) ({ cls := "RuleNetwork$Script", name := "readRule", desc := "()Z" } : Jvm.MethodName)) ∈ z_W := z_mem 280 (by decide +kernel) rfl
theorem zw_282 : (Jvm.Cond.instanceMethod ({ cls := "RuleNetwork$Script", name := "readRule", desc := "()Z" } : Jvm.MethodName)) ∈ z_W := z_mem 282 (by decide +kernel) rfl
theorem zw_283 : (Jvm.Cond.code ({ cls := "RuleNetwork$Script", name := "readRule", desc := "()Z" } : Jvm.MethodName) prog_6_method_9_code (2 : Nat) (Option.some Jvm.ClassFile.FieldType.boolean)) ∈ z_W := z_mem 283 (by decide +kernel) rfl
theorem zw_284 : (Jvm.Cond.methodLink "RuleNetwork$Script" (72 : Nat) ({ cls := "RuleNetwork$Script", name := "ahead", desc := "()C" } : Jvm.MethodName)) ∈ z_W := z_mem 284 (by decide +kernel) rfl
theorem zw_286 : (Jvm.Cond.instanceMethod ({ cls := "RuleNetwork$Script", name := "ahead", desc := "()C" } : Jvm.MethodName)) ∈ z_W := z_mem 286 (by decide +kernel) rfl
theorem zw_287 : (Jvm.Cond.code ({ cls := "RuleNetwork$Script", name := "ahead", desc := "()C" } : Jvm.MethodName) prog_6_method_15_code (1 : Nat) (Option.some Jvm.ClassFile.FieldType.char)) ∈ z_W := z_mem 287 (by decide +kernel) rfl
theorem zw_288 : (Jvm.Cond.methodLink "RuleNetwork$Script" (76 : Nat) ({ cls := "RuleNetwork$Script", name := "isName", desc := "(C)Z" } : Jvm.MethodName)) ∈ z_W := z_mem 288 (by decide +kernel) rfl
theorem zw_289 : (Jvm.Cond.static ({ cls := "RuleNetwork$Script", name := "isName", desc := "(C)Z" } : Jvm.MethodName)) ∈ z_W := z_mem 289 (by decide +kernel) rfl
theorem zw_290 : (Jvm.Cond.code ({ cls := "RuleNetwork$Script", name := "isName", desc := "(C)Z" } : Jvm.MethodName) prog_6_method_17_code (1 : Nat) (Option.some Jvm.ClassFile.FieldType.boolean)) ∈ z_W := z_mem 290 (by decide +kernel) rfl
theorem zw_292 : (Jvm.Cond.static ({ cls := "RuleNetwork", name := "indexOf", desc := "(C[CI)I" } : Jvm.MethodName)) ∈ z_W := z_mem 292 (by decide +kernel) rfl
theorem zw_293 : (Jvm.Cond.code ({ cls := "RuleNetwork", name := "indexOf", desc := "(C[CI)I" } : Jvm.MethodName) prog_1_method_20_code (4 : Nat) (Option.some Jvm.ClassFile.FieldType.int)) ∈ z_W := z_mem 293 (by decide +kernel) rfl
theorem zw_294 : (Jvm.Cond.methodLink "RuleNetwork$Script" (80 : Nat) ({ cls := "RuleNetwork$Script", name := "readMark", desc := "(C)Z" } : Jvm.MethodName)) ∈ z_W := z_mem 294 (by decide +kernel) rfl
theorem zw_296 : (Jvm.Cond.instanceMethod ({ cls := "RuleNetwork$Script", name := "readMark", desc := "(C)Z" } : Jvm.MethodName)) ∈ z_W := z_mem 296 (by decide +kernel) rfl
theorem zw_297 : (Jvm.Cond.code ({ cls := "RuleNetwork$Script", name := "readMark", desc := "(C)Z" } : Jvm.MethodName) prog_6_method_14_code (2 : Nat) (Option.some Jvm.ClassFile.FieldType.boolean)) ∈ z_W := z_mem 297 (by decide +kernel) rfl
theorem zw_298 : (Jvm.Cond.methodLink "RuleNetwork$Script" (83 : Nat) ({ cls := "RuleNetwork$Script", name := "readSum", desc := "(I)Z" } : Jvm.MethodName)) ∈ z_W := z_mem 298 (by decide +kernel) rfl
theorem zw_300 : (Jvm.Cond.instanceMethod ({ cls := "RuleNetwork$Script", name := "readSum", desc := "(I)Z" } : Jvm.MethodName)) ∈ z_W := z_mem 300 (by decide +kernel) rfl
theorem zw_301 : (Jvm.Cond.code ({ cls := "RuleNetwork$Script", name := "readSum", desc := "(I)Z" } : Jvm.MethodName) prog_6_method_10_code (3 : Nat) (Option.some Jvm.ClassFile.FieldType.boolean)) ∈ z_W := z_mem 301 (by decide +kernel) rfl
theorem zw_302 : (Jvm.Cond.methodLink "RuleNetwork$Script" (87 : Nat) ({ cls := "RuleNetwork$Script", name := "readProduct", desc := "(I)Z" } : Jvm.MethodName)) ∈ z_W := z_mem 302 (by decide +kernel) rfl
theorem zw_304 : (Jvm.Cond.instanceMethod ({ cls := "RuleNetwork$Script", name := "readProduct", desc := "(I)Z" } : Jvm.MethodName)) ∈ z_W := z_mem 304 (by decide +kernel) rfl
theorem zw_305 : (Jvm.Cond.code ({ cls := "RuleNetwork$Script", name := "readProduct", desc := "(I)Z" } : Jvm.MethodName) prog_6_method_11_code (3 : Nat) (Option.some Jvm.ClassFile.FieldType.boolean)) ∈ z_W := z_mem 305 (by decide +kernel) rfl
theorem zw_306 : (Jvm.Cond.methodLink "RuleNetwork$Script" (94 : Nat) ({ cls := "RuleNetwork$Script", name := "readFactor", desc := "(I)Z" } : Jvm.MethodName)) ∈ z_W := z_mem 306 (by decide +kernel) rfl
theorem zw_308 : (Jvm.Cond.instanceMethod ({ cls := "RuleNetwork$Script", name := "readFactor", desc := "(I)Z" } : Jvm.MethodName)) ∈ z_W := z_mem 308 (by decide +kernel) rfl
theorem zw_309 : (Jvm.Cond.code ({ cls := "RuleNetwork$Script", name := "readFactor", desc := "(I)Z" } : Jvm.MethodName) prog_6_method_12_code (3 : Nat) (Option.some Jvm.ClassFile.FieldType.boolean)) ∈ z_W := z_mem 309 (by decide +kernel) rfl
theorem zw_310 : (Jvm.Cond.methodLink "RuleNetwork$Script" (97 : Nat) ({ cls := "RuleNetwork$Script", name := "readLeaf", desc := "(C)Z" } : Jvm.MethodName)) ∈ z_W := z_mem 310 (by decide +kernel) rfl
theorem zw_312 : (Jvm.Cond.instanceMethod ({ cls := "RuleNetwork$Script", name := "readLeaf", desc := "(C)Z" } : Jvm.MethodName)) ∈ z_W := z_mem 312 (by decide +kernel) rfl
theorem zw_313 : (Jvm.Cond.code ({ cls := "RuleNetwork$Script", name := "readLeaf", desc := "(C)Z" } : Jvm.MethodName) prog_6_method_13_code (2 : Nat) (Option.some Jvm.ClassFile.FieldType.boolean)) ∈ z_W := z_mem 313 (by decide +kernel) rfl
theorem zw_314 : (Jvm.Cond.methodLink "RuleNetwork$Script" (90 : Nat) ({ cls := "RuleNetwork$Script", name := "emit", desc := "(C)V" } : Jvm.MethodName)) ∈ z_W := z_mem 314 (by decide +kernel) rfl
theorem zw_316 : (Jvm.Cond.instanceMethod ({ cls := "RuleNetwork$Script", name := "emit", desc := "(C)V" } : Jvm.MethodName)) ∈ z_W := z_mem 316 (by decide +kernel) rfl
theorem zw_317 : (Jvm.Cond.code ({ cls := "RuleNetwork$Script", name := "emit", desc := "(C)V" } : Jvm.MethodName) prog_6_method_16_code (2 : Nat) (Option.none : Option Jvm.ClassFile.FieldType)) ∈ z_W := z_mem 317 (by decide +kernel) rfl
theorem zw_318 : (Jvm.Cond.methodLink "RuleNetwork$Script" (61 : Nat) ({ cls := "RuleNetwork$Script", name := "findStranger", desc := "()I" } : Jvm.MethodName)) ∈ z_W := z_mem 318 (by decide +kernel) rfl
theorem zw_320 : (Jvm.Cond.instanceMethod ({ cls := "RuleNetwork$Script", name := "findStranger", desc := "()I" } : Jvm.MethodName)) ∈ z_W := z_mem 320 (by decide +kernel) rfl
theorem zw_321 : (Jvm.Cond.code ({ cls := "RuleNetwork$Script", name := "findStranger", desc := "()I" } : Jvm.MethodName) prog_6_method_7_code (5 : Nat) (Option.some Jvm.ClassFile.FieldType.int)) ∈ z_W := z_mem 321 (by decide +kernel) rfl
theorem zw_322 : (Jvm.Cond.methodLink "RuleNetwork" (55 : Nat) ({ cls := "RuleNetwork$Rules", name := "take", desc := "(LRuleNetwork$Script;)V" } : Jvm.MethodName)) ∈ z_W := z_mem 322 (by decide +kernel) rfl
theorem zw_323 : (Jvm.Cond.instanceMethod ({ cls := "RuleNetwork$Rules", name := "take", desc := "(LRuleNetwork$Script;)V" } : Jvm.MethodName)) ∈ z_W := z_mem 323 (by decide +kernel) rfl
theorem zw_324 : (Jvm.Cond.selects "RuleNetwork$Rules" ({ cls := "RuleNetwork$Rules", name := "take", desc := "(LRuleNetwork$Script;)V" } : Jvm.MethodName) ({ cls := "RuleNetwork$Rules", name := "take", desc := "(LRuleNetwork$Script;)V" } : Jvm.MethodName)) ∈ z_W := z_mem 324 (by decide +kernel) rfl
theorem zw_325 : (Jvm.Cond.code ({ cls := "RuleNetwork$Rules", name := "take", desc := "(LRuleNetwork$Script;)V" } : Jvm.MethodName) prog_5_method_2_code (4 : Nat) (Option.none : Option Jvm.ClassFile.FieldType)) ∈ z_W := z_mem 325 (by decide +kernel) rfl
theorem zw_326 : (Jvm.Cond.methodLink "RuleNetwork$Rules" (40 : Nat) ({ cls := "RuleNetwork$Rules", name := "work", desc := "(LRuleNetwork$Script;IIJ)J" } : Jvm.MethodName)) ∈ z_W := z_mem 326 (by decide +kernel) rfl
theorem zw_328 : (Jvm.Cond.instanceMethod ({ cls := "RuleNetwork$Rules", name := "work", desc := "(LRuleNetwork$Script;IIJ)J" } : Jvm.MethodName)) ∈ z_W := z_mem 328 (by decide +kernel) rfl
theorem zw_329 : (Jvm.Cond.code ({ cls := "RuleNetwork$Rules", name := "work", desc := "(LRuleNetwork$Script;IIJ)J" } : Jvm.MethodName) prog_5_method_3_code (9 : Nat) (Option.some Jvm.ClassFile.FieldType.long)) ∈ z_W := z_mem 329 (by decide +kernel) rfl
theorem zw_330 : (Jvm.Cond.constantLong "RuleNetwork$Rules" (44 : Nat) (-1 : Int64)) ∈ z_W := z_mem 330 (by decide +kernel) rfl
theorem zw_331 : (Jvm.Cond.methodLink "RuleNetwork$Rules" (49 : Nat) ({ cls := "RuleNetwork$Rules", name := "leafBits", desc := "(LRuleNetwork$Script;CJ)J" } : Jvm.MethodName)) ∈ z_W := z_mem 331 (by decide +kernel) rfl
theorem zw_332 : (Jvm.Cond.static ({ cls := "RuleNetwork$Rules", name := "leafBits", desc := "(LRuleNetwork$Script;CJ)J" } : Jvm.MethodName)) ∈ z_W := z_mem 332 (by decide +kernel) rfl
theorem zw_333 : (Jvm.Cond.code ({ cls := "RuleNetwork$Rules", name := "leafBits", desc := "(LRuleNetwork$Script;CJ)J" } : Jvm.MethodName) prog_5_method_4_code (5 : Nat) (Option.some Jvm.ClassFile.FieldType.long)) ∈ z_W := z_mem 333 (by decide +kernel) rfl
theorem zw_335 : (Jvm.Cond.fieldLink "RuleNetwork$Rules" (57 : Nat) "RuleNetwork$Rules" "PATTERNS" "[J") ∈ z_W := z_mem 335 (by decide +kernel) rfl
theorem zw_337 : (Jvm.Cond.methodLink "RuleNetwork" (59 : Nat) ({ cls := "RuleNetwork$Analysis", name := "forget", desc := "()V" } : Jvm.MethodName)) ∈ z_W := z_mem 337 (by decide +kernel) rfl
theorem zw_338 : (Jvm.Cond.instanceMethod ({ cls := "RuleNetwork$Analysis", name := "forget", desc := "()V" } : Jvm.MethodName)) ∈ z_W := z_mem 338 (by decide +kernel) rfl
theorem zw_339 : (Jvm.Cond.selects "RuleNetwork$Analysis" ({ cls := "RuleNetwork$Analysis", name := "forget", desc := "()V" } : Jvm.MethodName) ({ cls := "RuleNetwork$Analysis", name := "forget", desc := "()V" } : Jvm.MethodName)) ∈ z_W := z_mem 339 (by decide +kernel) rfl
theorem zw_340 : (Jvm.Cond.code ({ cls := "RuleNetwork$Analysis", name := "forget", desc := "()V" } : Jvm.MethodName) prog_2_method_2_code (1 : Nat) (Option.none : Option Jvm.ClassFile.FieldType)) ∈ z_W := z_mem 340 (by decide +kernel) rfl
theorem zw_341 : (Jvm.Cond.methodLink "RuleNetworkLaw" (29 : Nat) ({ cls := "RuleNetwork", name := "genes", desc := "()I" } : Jvm.MethodName)) ∈ z_W := z_mem 341 (by decide +kernel) rfl
theorem zw_342 : (Jvm.Cond.instanceMethod ({ cls := "RuleNetwork", name := "genes", desc := "()I" } : Jvm.MethodName)) ∈ z_W := z_mem 342 (by decide +kernel) rfl
theorem zw_343 : (Jvm.Cond.selects "RuleNetwork" ({ cls := "RuleNetwork", name := "genes", desc := "()I" } : Jvm.MethodName) ({ cls := "RuleNetwork", name := "genes", desc := "()I" } : Jvm.MethodName)) ∈ z_W := z_mem 343 (by decide +kernel) rfl
theorem zw_344 : (Jvm.Cond.code ({ cls := "RuleNetwork", name := "genes", desc := "()I" } : Jvm.MethodName) prog_1_method_5_code (1 : Nat) (Option.some Jvm.ClassFile.FieldType.int)) ∈ z_W := z_mem 344 (by decide +kernel) rfl
theorem zw_345 : (Jvm.Cond.methodLink "RuleNetworkLaw" (33 : Nat) ({ cls := "RuleNetwork", name := "gene", desc := "(C)I" } : Jvm.MethodName)) ∈ z_W := z_mem 345 (by decide +kernel) rfl
theorem zw_346 : (Jvm.Cond.instanceMethod ({ cls := "RuleNetwork", name := "gene", desc := "(C)I" } : Jvm.MethodName)) ∈ z_W := z_mem 346 (by decide +kernel) rfl
theorem zw_347 : (Jvm.Cond.selects "RuleNetwork" ({ cls := "RuleNetwork", name := "gene", desc := "(C)I" } : Jvm.MethodName) ({ cls := "RuleNetwork", name := "gene", desc := "(C)I" } : Jvm.MethodName)) ∈ z_W := z_mem 347 (by decide +kernel) rfl
theorem zw_348 : (Jvm.Cond.code ({ cls := "RuleNetwork", name := "gene", desc := "(C)I" } : Jvm.MethodName) prog_1_method_6_code (2 : Nat) (Option.some Jvm.ClassFile.FieldType.int)) ∈ z_W := z_mem 348 (by decide +kernel) rfl
theorem zw_349 : (Jvm.Cond.methodLink "RuleNetwork" (70 : Nat) ({ cls := "RuleNetwork", name := "indexOf", desc := "(C[CI)I" } : Jvm.MethodName)) ∈ z_W := z_mem 349 (by decide +kernel) rfl
theorem zw_350 : (Jvm.Cond.methodLink "RuleNetworkLaw" (38 : Nat) ({ cls := "RuleNetwork", name := "fix", desc := "(II)Z" } : Jvm.MethodName)) ∈ z_W := z_mem 350 (by decide +kernel) rfl
theorem zw_351 : (Jvm.Cond.instanceMethod ({ cls := "RuleNetwork", name := "fix", desc := "(II)Z" } : Jvm.MethodName)) ∈ z_W := z_mem 351 (by decide +kernel) rfl
theorem zw_352 : (Jvm.Cond.selects "RuleNetwork" ({ cls := "RuleNetwork", name := "fix", desc := "(II)Z" } : Jvm.MethodName) ({ cls := "RuleNetwork", name := "fix", desc := "(II)Z" } : Jvm.MethodName)) ∈ z_W := z_mem 352 (by decide +kernel) rfl
theorem zw_353 : (Jvm.Cond.code ({ cls := "RuleNetwork", name := "fix", desc := "(II)Z" } : Jvm.MethodName) prog_1_method_7_code (3 : Nat) (Option.some Jvm.ClassFile.FieldType.boolean)) ∈ z_W := z_mem 353 (by decide +kernel) rfl
theorem zw_354 : (Jvm.Cond.methodLink "RuleNetwork" (74 : Nat) ({ cls := "RuleNetwork$Rules", name := "hasGene", desc := "(I)Z" } : Jvm.MethodName)) ∈ z_W := z_mem 354 (by decide +kernel) rfl
theorem zw_355 : (Jvm.Cond.instanceMethod ({ cls := "RuleNetwork$Rules", name := "hasGene", desc := "(I)Z" } : Jvm.MethodName)) ∈ z_W := z_mem 355 (by decide +kernel) rfl
theorem zw_356 : (Jvm.Cond.selects "RuleNetwork$Rules" ({ cls := "RuleNetwork$Rules", name := "hasGene", desc := "(I)Z" } : Jvm.MethodName) ({ cls := "RuleNetwork$Rules", name := "hasGene", desc := "(I)Z" } : Jvm.MethodName)) ∈ z_W := z_mem 356 (by decide +kernel) rfl
theorem zw_357 : (Jvm.Cond.code ({ cls := "RuleNetwork$Rules", name := "hasGene", desc := "(I)Z" } : Jvm.MethodName) prog_5_method_5_code (2 : Nat) (Option.some Jvm.ClassFile.FieldType.boolean)) ∈ z_W := z_mem 357 (by decide +kernel) rfl
theorem zw_358 : (Jvm.Cond.methodLink "RuleNetworkLaw" (43 : Nat) ({ cls := "RuleNetwork", name := "value", desc := "(II)I" } : Jvm.MethodName)) ∈ z_W := z_mem 358 (by decide +kernel) rfl
theorem zw_359 : (Jvm.Cond.instanceMethod ({ cls := "RuleNetwork", name := "value", desc := "(II)I" } : Jvm.MethodName)) ∈ z_W := z_mem 359 (by decide +kernel) rfl
theorem zw_360 : (Jvm.Cond.selects "RuleNetwork" ({ cls := "RuleNetwork", name := "value", desc := "(II)I" } : Jvm.MethodName) ({ cls := "RuleNetwork", name := "value", desc := "(II)I" } : Jvm.MethodName)) ∈ z_W := z_mem 360 (by decide +kernel) rfl
theorem zw_361 : (Jvm.Cond.code ({ cls := "RuleNetwork", name := "value", desc := "(II)I" } : Jvm.MethodName) prog_1_method_8_code (3 : Nat) (Option.some Jvm.ClassFile.FieldType.int)) ∈ z_W := z_mem 361 (by decide +kernel) rfl
theorem zw_362 : (Jvm.Cond.methodLink "RuleNetwork" (82 : Nat) ({ cls := "RuleNetwork$Rules", name := "hasState", desc := "(I)Z" } : Jvm.MethodName)) ∈ z_W := z_mem 362 (by decide +kernel) rfl
theorem zw_363 : (Jvm.Cond.instanceMethod ({ cls := "RuleNetwork$Rules", name := "hasState", desc := "(I)Z" } : Jvm.MethodName)) ∈ z_W := z_mem 363 (by decide +kernel) rfl
theorem zw_364 : (Jvm.Cond.selects "RuleNetwork$Rules" ({ cls := "RuleNetwork$Rules", name := "hasState", desc := "(I)Z" } : Jvm.MethodName) ({ cls := "RuleNetwork$Rules", name := "hasState", desc := "(I)Z" } : Jvm.MethodName)) ∈ z_W := z_mem 364 (by decide +kernel) rfl
theorem zw_365 : (Jvm.Cond.code ({ cls := "RuleNetwork$Rules", name := "hasState", desc := "(I)Z" } : Jvm.MethodName) prog_5_method_6_code (2 : Nat) (Option.some Jvm.ClassFile.FieldType.boolean)) ∈ z_W := z_mem 365 (by decide +kernel) rfl
theorem zw_366 : (Jvm.Cond.methodLink "RuleNetwork" (85 : Nat) ({ cls := "RuleNetwork$Rules", name := "valueOf", desc := "(II)I" } : Jvm.MethodName)) ∈ z_W := z_mem 366 (by decide +kernel) rfl
theorem zw_367 : (Jvm.Cond.instanceMethod ({ cls := "RuleNetwork$Rules", name := "valueOf", desc := "(II)I" } : Jvm.MethodName)) ∈ z_W := z_mem 367 (by decide +kernel) rfl
theorem zw_368 : (Jvm.Cond.selects "RuleNetwork$Rules" ({ cls := "RuleNetwork$Rules", name := "valueOf", desc := "(II)I" } : Jvm.MethodName) ({ cls := "RuleNetwork$Rules", name := "valueOf", desc := "(II)I" } : Jvm.MethodName)) ∈ z_W := z_mem 368 (by decide +kernel) rfl
theorem zw_369 : (Jvm.Cond.code ({ cls := "RuleNetwork$Rules", name := "valueOf", desc := "(II)I" } : Jvm.MethodName) prog_5_method_7_code (3 : Nat) (Option.some Jvm.ClassFile.FieldType.int)) ∈ z_W := z_mem 369 (by decide +kernel) rfl
theorem zw_371 : (Jvm.Cond.static ({ cls := "RuleNetwork", name := "bitOf", desc := "(JJI)I" } : Jvm.MethodName)) ∈ z_W := z_mem 371 (by decide +kernel) rfl
theorem zw_372 : (Jvm.Cond.code ({ cls := "RuleNetwork", name := "bitOf", desc := "(JJI)I" } : Jvm.MethodName) prog_1_method_21_code (5 : Nat) (Option.some Jvm.ClassFile.FieldType.int)) ∈ z_W := z_mem 372 (by decide +kernel) rfl
theorem zw_373 : (Jvm.Cond.methodLink "RuleNetworkLaw" (48 : Nat) ({ cls := "RuleNetwork", name := "next", desc := "(I)I" } : Jvm.MethodName)) ∈ z_W := z_mem 373 (by decide +kernel) rfl
theorem zw_374 : (Jvm.Cond.instanceMethod ({ cls := "RuleNetwork", name := "next", desc := "(I)I" } : Jvm.MethodName)) ∈ z_W := z_mem 374 (by decide +kernel) rfl
theorem zw_375 : (Jvm.Cond.selects "RuleNetwork" ({ cls := "RuleNetwork", name := "next", desc := "(I)I" } : Jvm.MethodName) ({ cls := "RuleNetwork", name := "next", desc := "(I)I" } : Jvm.MethodName)) ∈ z_W := z_mem 375 (by decide +kernel) rfl
theorem zw_376 : (Jvm.Cond.code ({ cls := "RuleNetwork", name := "next", desc := "(I)I" } : Jvm.MethodName) prog_1_method_9_code (2 : Nat) (Option.some Jvm.ClassFile.FieldType.int)) ∈ z_W := z_mem 376 (by decide +kernel) rfl
theorem zw_377 : (Jvm.Cond.methodLink "RuleNetwork" (89 : Nat) ({ cls := "RuleNetwork$Rules", name := "stepTogether", desc := "(I)I" } : Jvm.MethodName)) ∈ z_W := z_mem 377 (by decide +kernel) rfl
theorem zw_378 : (Jvm.Cond.instanceMethod ({ cls := "RuleNetwork$Rules", name := "stepTogether", desc := "(I)I" } : Jvm.MethodName)) ∈ z_W := z_mem 378 (by decide +kernel) rfl
theorem zw_379 : (Jvm.Cond.selects "RuleNetwork$Rules" ({ cls := "RuleNetwork$Rules", name := "stepTogether", desc := "(I)I" } : Jvm.MethodName) ({ cls := "RuleNetwork$Rules", name := "stepTogether", desc := "(I)I" } : Jvm.MethodName)) ∈ z_W := z_mem 379 (by decide +kernel) rfl
theorem zw_380 : (Jvm.Cond.code ({ cls := "RuleNetwork$Rules", name := "stepTogether", desc := "(I)I" } : Jvm.MethodName) prog_5_method_8_code (4 : Nat) (Option.some Jvm.ClassFile.FieldType.int)) ∈ z_W := z_mem 380 (by decide +kernel) rfl
theorem zw_381 : (Jvm.Cond.methodLink "RuleNetwork$Rules" (64 : Nat) ({ cls := "RuleNetwork$Rules", name := "valueOf", desc := "(II)I" } : Jvm.MethodName)) ∈ z_W := z_mem 381 (by decide +kernel) rfl
theorem zw_382 : (Jvm.Cond.methodLink "RuleNetworkLaw" (53 : Nat) ({ cls := "RuleNetwork", name := "spread", desc := "(I)I" } : Jvm.MethodName)) ∈ z_W := z_mem 382 (by decide +kernel) rfl
theorem zw_383 : (Jvm.Cond.instanceMethod ({ cls := "RuleNetwork", name := "spread", desc := "(I)I" } : Jvm.MethodName)) ∈ z_W := z_mem 383 (by decide +kernel) rfl
theorem zw_384 : (Jvm.Cond.selects "RuleNetwork" ({ cls := "RuleNetwork", name := "spread", desc := "(I)I" } : Jvm.MethodName) ({ cls := "RuleNetwork", name := "spread", desc := "(I)I" } : Jvm.MethodName)) ∈ z_W := z_mem 384 (by decide +kernel) rfl
theorem zw_385 : (Jvm.Cond.code ({ cls := "RuleNetwork", name := "spread", desc := "(I)I" } : Jvm.MethodName) prog_1_method_10_code (2 : Nat) (Option.some Jvm.ClassFile.FieldType.int)) ∈ z_W := z_mem 385 (by decide +kernel) rfl
theorem zw_386 : (Jvm.Cond.methodLink "RuleNetwork" (93 : Nat) ({ cls := "RuleNetwork$NodeCounter", name := "countNodes", desc := "(LRuleNetwork$Rules;I)I" } : Jvm.MethodName)) ∈ z_W := z_mem 386 (by decide +kernel) rfl
theorem zw_387 : (Jvm.Cond.instanceMethod ({ cls := "RuleNetwork$NodeCounter", name := "countNodes", desc := "(LRuleNetwork$Rules;I)I" } : Jvm.MethodName)) ∈ z_W := z_mem 387 (by decide +kernel) rfl
theorem zw_388 : (Jvm.Cond.selects "RuleNetwork$NodeCounter" ({ cls := "RuleNetwork$NodeCounter", name := "countNodes", desc := "(LRuleNetwork$Rules;I)I" } : Jvm.MethodName) ({ cls := "RuleNetwork$NodeCounter", name := "countNodes", desc := "(LRuleNetwork$Rules;I)I" } : Jvm.MethodName)) ∈ z_W := z_mem 388 (by decide +kernel) rfl
theorem zw_389 : (Jvm.Cond.code ({ cls := "RuleNetwork$NodeCounter", name := "countNodes", desc := "(LRuleNetwork$Rules;I)I" } : Jvm.MethodName) prog_4_method_2_code (4 : Nat) (Option.some Jvm.ClassFile.FieldType.int)) ∈ z_W := z_mem 389 (by decide +kernel) rfl
theorem zw_390 : (Jvm.Cond.methodLink "RuleNetwork$NodeCounter" (30 : Nat) ({ cls := "RuleNetwork$Rules", name := "valueOf", desc := "(II)I" } : Jvm.MethodName)) ∈ z_W := z_mem 390 (by decide +kernel) rfl
theorem zw_391 : (Jvm.Cond.methodLink "RuleNetwork$NodeCounter" (34 : Nat) ({ cls := "RuleNetwork$NodeCounter", name := "joinAt", desc := "(I)V" } : Jvm.MethodName)) ∈ z_W := z_mem 391 (by decide +kernel) rfl
theorem zw_393 : (Jvm.Cond.instanceMethod ({ cls := "RuleNetwork$NodeCounter", name := "joinAt", desc := "(I)V" } : Jvm.MethodName)) ∈ z_W := z_mem 393 (by decide +kernel) rfl
theorem zw_394 : (Jvm.Cond.code ({ cls := "RuleNetwork$NodeCounter", name := "joinAt", desc := "(I)V" } : Jvm.MethodName) prog_4_method_3_code (5 : Nat) (Option.none : Option Jvm.ClassFile.FieldType)) ∈ z_W := z_mem 394 (by decide +kernel) rfl
theorem zw_395 : (Jvm.Cond.methodLink "RuleNetwork$NodeCounter" (38 : Nat) ({ cls := "RuleNetwork$NodeCounter", name := "numberOf", desc := "(III)I" } : Jvm.MethodName)) ∈ z_W := z_mem 395 (by decide +kernel) rfl
theorem zw_397 : (Jvm.Cond.instanceMethod ({ cls := "RuleNetwork$NodeCounter", name := "numberOf", desc := "(III)I" } : Jvm.MethodName)) ∈ z_W := z_mem 397 (by decide +kernel) rfl
theorem zw_398 : (Jvm.Cond.code ({ cls := "RuleNetwork$NodeCounter", name := "numberOf", desc := "(III)I" } : Jvm.MethodName) prog_4_method_4_code (5 : Nat) (Option.some Jvm.ClassFile.FieldType.int)) ∈ z_W := z_mem 398 (by decide +kernel) rfl
theorem zw_399 : (Jvm.Cond.methodLink "RuleNetworkLaw" (57 : Nat) ({ cls := "RuleNetwork", name := "analyse", desc := "(Z)I" } : Jvm.MethodName)) ∈ z_W := z_mem 399 (by decide +kernel) rfl
theorem zw_400 : (Jvm.Cond.instanceMethod ({ cls := "RuleNetwork", name := "analyse", desc := "(Z)I" } : Jvm.MethodName)) ∈ z_W := z_mem 400 (by decide +kernel) rfl
theorem zw_401 : (Jvm.Cond.selects "RuleNetwork" ({ cls := "RuleNetwork", name := "analyse", desc := "(Z)I" } : Jvm.MethodName) ({ cls := "RuleNetwork", name := "analyse", desc := "(Z)I" } : Jvm.MethodName)) ∈ z_W := z_mem 401 (by decide +kernel) rfl
theorem zw_402 : (Jvm.Cond.code ({ cls := "RuleNetwork", name := "analyse", desc := "(Z)I" } : Jvm.MethodName) prog_1_method_11_code (2 : Nat) (Option.some Jvm.ClassFile.FieldType.int)) ∈ z_W := z_mem 402 (by decide +kernel) rfl
theorem zw_403 : (Jvm.Cond.methodLink "RuleNetwork" (97 : Nat) ({ cls := "RuleNetwork$Analysis", name := "run", desc := "(LRuleNetwork$Rules;Z)V" } : Jvm.MethodName)) ∈ z_W := z_mem 403 (by decide +kernel) rfl
theorem zw_404 : (Jvm.Cond.instanceMethod ({ cls := "RuleNetwork$Analysis", name := "run", desc := "(LRuleNetwork$Rules;Z)V" } : Jvm.MethodName)) ∈ z_W := z_mem 404 (by decide +kernel) rfl
theorem zw_405 : (Jvm.Cond.selects "RuleNetwork$Analysis" ({ cls := "RuleNetwork$Analysis", name := "run", desc := "(LRuleNetwork$Rules;Z)V" } : Jvm.MethodName) ({ cls := "RuleNetwork$Analysis", name := "run", desc := "(LRuleNetwork$Rules;Z)V" } : Jvm.MethodName)) ∈ z_W := z_mem 405 (by decide +kernel) rfl
theorem zw_406 : (Jvm.Cond.code ({ cls := "RuleNetwork$Analysis", name := "run", desc := "(LRuleNetwork$Rules;Z)V" } : Jvm.MethodName) prog_2_method_3_code (4 : Nat) (Option.none : Option Jvm.ClassFile.FieldType)) ∈ z_W := z_mem 406 (by decide +kernel) rfl
theorem zw_407 : (Jvm.Cond.methodLink "RuleNetwork$Analysis" (38 : Nat) ({ cls := "RuleNetwork$Rules", name := "stepTogether", desc := "(I)I" } : Jvm.MethodName)) ∈ z_W := z_mem 407 (by decide +kernel) rfl
theorem zw_408 : (Jvm.Cond.methodLink "RuleNetwork$Analysis" (42 : Nat) ({ cls := "RuleNetwork$Analysis", name := "markSteps", desc := "(IIZ)V" } : Jvm.MethodName)) ∈ z_W := z_mem 408 (by decide +kernel) rfl
theorem zw_410 : (Jvm.Cond.instanceMethod ({ cls := "RuleNetwork$Analysis", name := "markSteps", desc := "(IIZ)V" } : Jvm.MethodName)) ∈ z_W := z_mem 410 (by decide +kernel) rfl
theorem zw_411 : (Jvm.Cond.code ({ cls := "RuleNetwork$Analysis", name := "markSteps", desc := "(IIZ)V" } : Jvm.MethodName) prog_2_method_4_code (6 : Nat) (Option.none : Option Jvm.ClassFile.FieldType)) ∈ z_W := z_mem 411 (by decide +kernel) rfl
theorem zw_412 : (Jvm.Cond.methodLink "RuleNetwork$Analysis" (52 : Nat) ({ cls := "RuleNetwork$Analysis", name := "markLeading", desc := "(II)V" } : Jvm.MethodName)) ∈ z_W := z_mem 412 (by decide +kernel) rfl
theorem zw_414 : (Jvm.Cond.instanceMethod ({ cls := "RuleNetwork$Analysis", name := "markLeading", desc := "(II)V" } : Jvm.MethodName)) ∈ z_W := z_mem 414 (by decide +kernel) rfl
theorem zw_415 : (Jvm.Cond.code ({ cls := "RuleNetwork$Analysis", name := "markLeading", desc := "(II)V" } : Jvm.MethodName) prog_2_method_5_code (3 : Nat) (Option.none : Option Jvm.ClassFile.FieldType)) ∈ z_W := z_mem 415 (by decide +kernel) rfl
theorem zw_416 : (Jvm.Cond.methodLink "RuleNetwork$Analysis" (46 : Nat) ({ cls := "RuleNetwork$Analysis", name := "joinSteps", desc := "()V" } : Jvm.MethodName)) ∈ z_W := z_mem 416 (by decide +kernel) rfl
theorem zw_418 : (Jvm.Cond.instanceMethod ({ cls := "RuleNetwork$Analysis", name := "joinSteps", desc := "()V" } : Jvm.MethodName)) ∈ z_W := z_mem 418 (by decide +kernel) rfl
theorem zw_419 : (Jvm.Cond.code ({ cls := "RuleNetwork$Analysis", name := "joinSteps", desc := "()V" } : Jvm.MethodName) prog_2_method_6_code (3 : Nat) (Option.none : Option Jvm.ClassFile.FieldType)) ∈ z_W := z_mem 419 (by decide +kernel) rfl
theorem zw_420 : (Jvm.Cond.methodLink "RuleNetwork$Analysis" (56 : Nat) ({ cls := "RuleNetwork$Analysis", name := "leads", desc := "(II)Z" } : Jvm.MethodName)) ∈ z_W := z_mem 420 (by decide +kernel) rfl
theorem zw_422 : (Jvm.Cond.instanceMethod ({ cls := "RuleNetwork$Analysis", name := "leads", desc := "(II)Z" } : Jvm.MethodName)) ∈ z_W := z_mem 422 (by decide +kernel) rfl
theorem zw_423 : (Jvm.Cond.code ({ cls := "RuleNetwork$Analysis", name := "leads", desc := "(II)Z" } : Jvm.MethodName) prog_2_method_10_code (3 : Nat) (Option.some Jvm.ClassFile.FieldType.boolean)) ∈ z_W := z_mem 423 (by decide +kernel) rfl
theorem zw_425 : (Jvm.Cond.methodLink "RuleNetwork$Analysis" (49 : Nat) ({ cls := "RuleNetwork$Analysis", name := "findAttractors", desc := "()V" } : Jvm.MethodName)) ∈ z_W := z_mem 425 (by decide +kernel) rfl
theorem zw_427 : (Jvm.Cond.instanceMethod ({ cls := "RuleNetwork$Analysis", name := "findAttractors", desc := "()V" } : Jvm.MethodName)) ∈ z_W := z_mem 427 (by decide +kernel) rfl
theorem zw_428 : (Jvm.Cond.code ({ cls := "RuleNetwork$Analysis", name := "findAttractors", desc := "()V" } : Jvm.MethodName) prog_2_method_7_code (2 : Nat) (Option.none : Option Jvm.ClassFile.FieldType)) ∈ z_W := z_mem 428 (by decide +kernel) rfl
theorem zw_429 : (Jvm.Cond.methodLink "RuleNetwork$Analysis" (67 : Nat) ({ cls := "java/util/Arrays", name := "fill", desc := "([II)V" } : Jvm.MethodName)) ∈ z_W := z_mem 429 (by decide +kernel) rfl
theorem zw_430 : (Jvm.Cond.methodLink "RuleNetwork$Analysis" (73 : Nat) ({ cls := "RuleNetwork$Analysis", name := "isLedBackTo", desc := "(I)Z" } : Jvm.MethodName)) ∈ z_W := z_mem 430 (by decide +kernel) rfl
theorem zw_432 : (Jvm.Cond.instanceMethod ({ cls := "RuleNetwork$Analysis", name := "isLedBackTo", desc := "(I)Z" } : Jvm.MethodName)) ∈ z_W := z_mem 432 (by decide +kernel) rfl
theorem zw_433 : (Jvm.Cond.code ({ cls := "RuleNetwork$Analysis", name := "isLedBackTo", desc := "(I)Z" } : Jvm.MethodName) prog_2_method_8_code (3 : Nat) (Option.some Jvm.ClassFile.FieldType.boolean)) ∈ z_W := z_mem 433 (by decide +kernel) rfl
theorem zw_434 : (Jvm.Cond.methodLink "RuleNetwork$Analysis" (77 : Nat) ({ cls := "RuleNetwork$Analysis", name := "addAttractor", desc := "(I)V" } : Jvm.MethodName)) ∈ z_W := z_mem 434 (by decide +kernel) rfl
theorem zw_436 : (Jvm.Cond.instanceMethod ({ cls := "RuleNetwork$Analysis", name := "addAttractor", desc := "(I)V" } : Jvm.MethodName)) ∈ z_W := z_mem 436 (by decide +kernel) rfl
theorem zw_437 : (Jvm.Cond.code ({ cls := "RuleNetwork$Analysis", name := "addAttractor", desc := "(I)V" } : Jvm.MethodName) prog_2_method_9_code (3 : Nat) (Option.none : Option Jvm.ClassFile.FieldType)) ∈ z_W := z_mem 437 (by decide +kernel) rfl
theorem zw_438 : (Jvm.Cond.methodLink "RuleNetworkLaw" (62 : Nat) ({ cls := "RuleNetwork", name := "size", desc := "(I)I" } : Jvm.MethodName)) ∈ z_W := z_mem 438 (by decide +kernel) rfl
theorem zw_439 : (Jvm.Cond.instanceMethod ({ cls := "RuleNetwork", name := "size", desc := "(I)I" } : Jvm.MethodName)) ∈ z_W := z_mem 439 (by decide +kernel) rfl
theorem zw_440 : (Jvm.Cond.selects "RuleNetwork" ({ cls := "RuleNetwork", name := "size", desc := "(I)I" } : Jvm.MethodName) ({ cls := "RuleNetwork", name := "size", desc := "(I)I" } : Jvm.MethodName)) ∈ z_W := z_mem 440 (by decide +kernel) rfl
theorem zw_441 : (Jvm.Cond.code ({ cls := "RuleNetwork", name := "size", desc := "(I)I" } : Jvm.MethodName) prog_1_method_12_code (2 : Nat) (Option.some Jvm.ClassFile.FieldType.int)) ∈ z_W := z_mem 441 (by decide +kernel) rfl
theorem zw_442 : (Jvm.Cond.methodLink "RuleNetwork" (102 : Nat) ({ cls := "RuleNetwork$Analysis", name := "hasAttractor", desc := "(I)Z" } : Jvm.MethodName)) ∈ z_W := z_mem 442 (by decide +kernel) rfl
theorem zw_443 : (Jvm.Cond.instanceMethod ({ cls := "RuleNetwork$Analysis", name := "hasAttractor", desc := "(I)Z" } : Jvm.MethodName)) ∈ z_W := z_mem 443 (by decide +kernel) rfl
theorem zw_444 : (Jvm.Cond.selects "RuleNetwork$Analysis" ({ cls := "RuleNetwork$Analysis", name := "hasAttractor", desc := "(I)Z" } : Jvm.MethodName) ({ cls := "RuleNetwork$Analysis", name := "hasAttractor", desc := "(I)Z" } : Jvm.MethodName)) ∈ z_W := z_mem 444 (by decide +kernel) rfl
theorem zw_445 : (Jvm.Cond.code ({ cls := "RuleNetwork$Analysis", name := "hasAttractor", desc := "(I)Z" } : Jvm.MethodName) prog_2_method_11_code (2 : Nat) (Option.some Jvm.ClassFile.FieldType.boolean)) ∈ z_W := z_mem 445 (by decide +kernel) rfl
theorem zw_446 : (Jvm.Cond.methodLink "RuleNetwork" (105 : Nat) ({ cls := "RuleNetwork$Analysis", name := "countStates", desc := "(I)I" } : Jvm.MethodName)) ∈ z_W := z_mem 446 (by decide +kernel) rfl
theorem zw_447 : (Jvm.Cond.instanceMethod ({ cls := "RuleNetwork$Analysis", name := "countStates", desc := "(I)I" } : Jvm.MethodName)) ∈ z_W := z_mem 447 (by decide +kernel) rfl
theorem zw_448 : (Jvm.Cond.selects "RuleNetwork$Analysis" ({ cls := "RuleNetwork$Analysis", name := "countStates", desc := "(I)I" } : Jvm.MethodName) ({ cls := "RuleNetwork$Analysis", name := "countStates", desc := "(I)I" } : Jvm.MethodName)) ∈ z_W := z_mem 448 (by decide +kernel) rfl
theorem zw_449 : (Jvm.Cond.code ({ cls := "RuleNetwork$Analysis", name := "countStates", desc := "(I)I" } : Jvm.MethodName) prog_2_method_13_code (3 : Nat) (Option.some Jvm.ClassFile.FieldType.int)) ∈ z_W := z_mem 449 (by decide +kernel) rfl
theorem zw_450 : (Jvm.Cond.methodLink "RuleNetwork$Analysis" (85 : Nat) ({ cls := "java/lang/Long", name := "bitCount", desc := "(J)I" } : Jvm.MethodName)) ∈ z_W := z_mem 450 (by decide +kernel) rfl
theorem zw_451 : (Jvm.Cond.static ({ cls := "java/lang/Long", name := "bitCount", desc := "(J)I" } : Jvm.MethodName)) ∈ z_W := z_mem 451 (by decide +kernel) rfl
theorem zw_452 : (Jvm.Cond.code ({ cls := "java/lang/Long", name := "bitCount", desc := "(J)I" } : Jvm.MethodName) prog_9_method_50_code (2 : Nat) (Option.some Jvm.ClassFile.FieldType.int)) ∈ z_W := z_mem 452 (by decide +kernel) rfl
theorem zw_453 : (Jvm.Cond.constantLong "java/lang/Long" (314 : Nat) (6148914691236517205 : Int64)) ∈ z_W := z_mem 453 (by decide +kernel) rfl
theorem zw_454 : (Jvm.Cond.constantLong "java/lang/Long" (316 : Nat) (3689348814741910323 : Int64)) ∈ z_W := z_mem 454 (by decide +kernel) rfl
theorem zw_455 : (Jvm.Cond.constantLong "java/lang/Long" (318 : Nat) (1085102592571150095 : Int64)) ∈ z_W := z_mem 455 (by decide +kernel) rfl
theorem zw_456 : (Jvm.Cond.methodLink "RuleNetworkLaw" (66 : Nat) ({ cls := "RuleNetwork", name := "least", desc := "(I)I" } : Jvm.MethodName)) ∈ z_W := z_mem 456 (by decide +kernel) rfl
theorem zw_457 : (Jvm.Cond.instanceMethod ({ cls := "RuleNetwork", name := "least", desc := "(I)I" } : Jvm.MethodName)) ∈ z_W := z_mem 457 (by decide +kernel) rfl
theorem zw_458 : (Jvm.Cond.selects "RuleNetwork" ({ cls := "RuleNetwork", name := "least", desc := "(I)I" } : Jvm.MethodName) ({ cls := "RuleNetwork", name := "least", desc := "(I)I" } : Jvm.MethodName)) ∈ z_W := z_mem 458 (by decide +kernel) rfl
theorem zw_459 : (Jvm.Cond.code ({ cls := "RuleNetwork", name := "least", desc := "(I)I" } : Jvm.MethodName) prog_1_method_13_code (2 : Nat) (Option.some Jvm.ClassFile.FieldType.int)) ∈ z_W := z_mem 459 (by decide +kernel) rfl
theorem zw_460 : (Jvm.Cond.methodLink "RuleNetworkLaw" (70 : Nat) ({ cls := "RuleNetwork", name := "attractor", desc := "(I)I" } : Jvm.MethodName)) ∈ z_W := z_mem 460 (by decide +kernel) rfl
theorem zw_461 : (Jvm.Cond.instanceMethod ({ cls := "RuleNetwork", name := "attractor", desc := "(I)I" } : Jvm.MethodName)) ∈ z_W := z_mem 461 (by decide +kernel) rfl
theorem zw_462 : (Jvm.Cond.selects "RuleNetwork" ({ cls := "RuleNetwork", name := "attractor", desc := "(I)I" } : Jvm.MethodName) ({ cls := "RuleNetwork", name := "attractor", desc := "(I)I" } : Jvm.MethodName)) ∈ z_W := z_mem 462 (by decide +kernel) rfl
theorem zw_463 : (Jvm.Cond.code ({ cls := "RuleNetwork", name := "attractor", desc := "(I)I" } : Jvm.MethodName) prog_1_method_14_code (2 : Nat) (Option.some Jvm.ClassFile.FieldType.int)) ∈ z_W := z_mem 463 (by decide +kernel) rfl
theorem zw_464 : (Jvm.Cond.methodLink "RuleNetwork" (111 : Nat) ({ cls := "RuleNetwork$Analysis", name := "hasState", desc := "(I)Z" } : Jvm.MethodName)) ∈ z_W := z_mem 464 (by decide +kernel) rfl
theorem zw_465 : (Jvm.Cond.instanceMethod ({ cls := "RuleNetwork$Analysis", name := "hasState", desc := "(I)Z" } : Jvm.MethodName)) ∈ z_W := z_mem 465 (by decide +kernel) rfl
theorem zw_466 : (Jvm.Cond.selects "RuleNetwork$Analysis" ({ cls := "RuleNetwork$Analysis", name := "hasState", desc := "(I)Z" } : Jvm.MethodName) ({ cls := "RuleNetwork$Analysis", name := "hasState", desc := "(I)Z" } : Jvm.MethodName)) ∈ z_W := z_mem 466 (by decide +kernel) rfl
theorem zw_467 : (Jvm.Cond.code ({ cls := "RuleNetwork$Analysis", name := "hasState", desc := "(I)Z" } : Jvm.MethodName) prog_2_method_12_code (2 : Nat) (Option.some Jvm.ClassFile.FieldType.boolean)) ∈ z_W := z_mem 467 (by decide +kernel) rfl
theorem zw_468 : (Jvm.Cond.methodLink "RuleNetworkLaw" (74 : Nat) ({ cls := "RuleNetwork", name := "basin", desc := "(I)I" } : Jvm.MethodName)) ∈ z_W := z_mem 468 (by decide +kernel) rfl
theorem zw_469 : (Jvm.Cond.instanceMethod ({ cls := "RuleNetwork", name := "basin", desc := "(I)I" } : Jvm.MethodName)) ∈ z_W := z_mem 469 (by decide +kernel) rfl
theorem zw_470 : (Jvm.Cond.selects "RuleNetwork" ({ cls := "RuleNetwork", name := "basin", desc := "(I)I" } : Jvm.MethodName) ({ cls := "RuleNetwork", name := "basin", desc := "(I)I" } : Jvm.MethodName)) ∈ z_W := z_mem 470 (by decide +kernel) rfl
theorem zw_471 : (Jvm.Cond.code ({ cls := "RuleNetwork", name := "basin", desc := "(I)I" } : Jvm.MethodName) prog_1_method_15_code (2 : Nat) (Option.some Jvm.ClassFile.FieldType.int)) ∈ z_W := z_mem 471 (by decide +kernel) rfl
theorem zw_472 : (Jvm.Cond.methodLink "RuleNetwork" (115 : Nat) ({ cls := "RuleNetwork$Analysis", name := "countLeading", desc := "(I)I" } : Jvm.MethodName)) ∈ z_W := z_mem 472 (by decide +kernel) rfl
theorem zw_473 : (Jvm.Cond.instanceMethod ({ cls := "RuleNetwork$Analysis", name := "countLeading", desc := "(I)I" } : Jvm.MethodName)) ∈ z_W := z_mem 473 (by decide +kernel) rfl
theorem zw_474 : (Jvm.Cond.selects "RuleNetwork$Analysis" ({ cls := "RuleNetwork$Analysis", name := "countLeading", desc := "(I)I" } : Jvm.MethodName) ({ cls := "RuleNetwork$Analysis", name := "countLeading", desc := "(I)I" } : Jvm.MethodName)) ∈ z_W := z_mem 474 (by decide +kernel) rfl
theorem zw_475 : (Jvm.Cond.code ({ cls := "RuleNetwork$Analysis", name := "countLeading", desc := "(I)I" } : Jvm.MethodName) prog_2_method_14_code (4 : Nat) (Option.some Jvm.ClassFile.FieldType.int)) ∈ z_W := z_mem 475 (by decide +kernel) rfl
theorem zw_476 : (Jvm.Cond.methodLink "RuleNetworkLaw" (78 : Nat) ({ cls := "RuleNetwork", name := "only", desc := "(I)I" } : Jvm.MethodName)) ∈ z_W := z_mem 476 (by decide +kernel) rfl
theorem zw_477 : (Jvm.Cond.instanceMethod ({ cls := "RuleNetwork", name := "only", desc := "(I)I" } : Jvm.MethodName)) ∈ z_W := z_mem 477 (by decide +kernel) rfl
theorem zw_478 : (Jvm.Cond.selects "RuleNetwork" ({ cls := "RuleNetwork", name := "only", desc := "(I)I" } : Jvm.MethodName) ({ cls := "RuleNetwork", name := "only", desc := "(I)I" } : Jvm.MethodName)) ∈ z_W := z_mem 478 (by decide +kernel) rfl
theorem zw_479 : (Jvm.Cond.code ({ cls := "RuleNetwork", name := "only", desc := "(I)I" } : Jvm.MethodName) prog_1_method_16_code (2 : Nat) (Option.some Jvm.ClassFile.FieldType.int)) ∈ z_W := z_mem 479 (by decide +kernel) rfl
theorem zw_480 : (Jvm.Cond.methodLink "RuleNetwork" (118 : Nat) ({ cls := "RuleNetwork$Analysis", name := "countLeadingOnly", desc := "(I)I" } : Jvm.MethodName)) ∈ z_W := z_mem 480 (by decide +kernel) rfl
theorem zw_481 : (Jvm.Cond.instanceMethod ({ cls := "RuleNetwork$Analysis", name := "countLeadingOnly", desc := "(I)I" } : Jvm.MethodName)) ∈ z_W := z_mem 481 (by decide +kernel) rfl
theorem zw_482 : (Jvm.Cond.selects "RuleNetwork$Analysis" ({ cls := "RuleNetwork$Analysis", name := "countLeadingOnly", desc := "(I)I" } : Jvm.MethodName) ({ cls := "RuleNetwork$Analysis", name := "countLeadingOnly", desc := "(I)I" } : Jvm.MethodName)) ∈ z_W := z_mem 482 (by decide +kernel) rfl
theorem zw_483 : (Jvm.Cond.code ({ cls := "RuleNetwork$Analysis", name := "countLeadingOnly", desc := "(I)I" } : Jvm.MethodName) prog_2_method_15_code (4 : Nat) (Option.some Jvm.ClassFile.FieldType.int)) ∈ z_W := z_mem 483 (by decide +kernel) rfl
theorem zw_484 : (Jvm.Cond.methodLink "RuleNetwork$Analysis" (91 : Nat) ({ cls := "RuleNetwork$Analysis", name := "countAttractorsFrom", desc := "(I)I" } : Jvm.MethodName)) ∈ z_W := z_mem 484 (by decide +kernel) rfl
theorem zw_486 : (Jvm.Cond.instanceMethod ({ cls := "RuleNetwork$Analysis", name := "countAttractorsFrom", desc := "(I)I" } : Jvm.MethodName)) ∈ z_W := z_mem 486 (by decide +kernel) rfl
theorem zw_487 : (Jvm.Cond.code ({ cls := "RuleNetwork$Analysis", name := "countAttractorsFrom", desc := "(I)I" } : Jvm.MethodName) prog_2_method_16_code (2 : Nat) (Option.some Jvm.ClassFile.FieldType.int)) ∈ z_W := z_mem 487 (by decide +kernel) rfl
theorem zw_488 : (Jvm.Cond.methodLink "RuleNetworkLaw" (82 : Nat) ({ cls := "RuleNetwork", name := "cubes", desc := "(I)I" } : Jvm.MethodName)) ∈ z_W := z_mem 488 (by decide +kernel) rfl
theorem zw_489 : (Jvm.Cond.instanceMethod ({ cls := "RuleNetwork", name := "cubes", desc := "(I)I" } : Jvm.MethodName)) ∈ z_W := z_mem 489 (by decide +kernel) rfl
theorem zw_490 : (Jvm.Cond.selects "RuleNetwork" ({ cls := "RuleNetwork", name := "cubes", desc := "(I)I" } : Jvm.MethodName) ({ cls := "RuleNetwork", name := "cubes", desc := "(I)I" } : Jvm.MethodName)) ∈ z_W := z_mem 490 (by decide +kernel) rfl
theorem zw_491 : (Jvm.Cond.code ({ cls := "RuleNetwork", name := "cubes", desc := "(I)I" } : Jvm.MethodName) prog_1_method_17_code (2 : Nat) (Option.some Jvm.ClassFile.FieldType.int)) ∈ z_W := z_mem 491 (by decide +kernel) rfl
theorem zw_492 : (Jvm.Cond.methodLink "RuleNetwork" (121 : Nat) ({ cls := "RuleNetwork", name := "makeCubes", desc := "(I)V" } : Jvm.MethodName)) ∈ z_W := z_mem 492 (by decide +kernel) rfl
theorem zw_494 : (Jvm.Cond.instanceMethod ({ cls := "RuleNetwork", name := "makeCubes", desc := "(I)V" } : Jvm.MethodName)) ∈ z_W := z_mem 494 (by decide +kernel) rfl
theorem zw_495 : (Jvm.Cond.code ({ cls := "RuleNetwork", name := "makeCubes", desc := "(I)V" } : Jvm.MethodName) prog_1_method_19_code (3 : Nat) (Option.none : Option Jvm.ClassFile.FieldType)) ∈ z_W := z_mem 495 (by decide +kernel) rfl
theorem zw_496 : (Jvm.Cond.methodLink "RuleNetwork" (139 : Nat) ({ cls := "RuleNetwork$CubeMaker", name := "make", desc := "(IJJ)V" } : Jvm.MethodName)) ∈ z_W := z_mem 496 (by decide +kernel) rfl
theorem zw_497 : (Jvm.Cond.instanceMethod ({ cls := "RuleNetwork$CubeMaker", name := "make", desc := "(IJJ)V" } : Jvm.MethodName)) ∈ z_W := z_mem 497 (by decide +kernel) rfl
theorem zw_498 : (Jvm.Cond.selects "RuleNetwork$CubeMaker" ({ cls := "RuleNetwork$CubeMaker", name := "make", desc := "(IJJ)V" } : Jvm.MethodName) ({ cls := "RuleNetwork$CubeMaker", name := "make", desc := "(IJJ)V" } : Jvm.MethodName)) ∈ z_W := z_mem 498 (by decide +kernel) rfl
theorem zw_499 : (Jvm.Cond.code ({ cls := "RuleNetwork$CubeMaker", name := "make", desc := "(IJJ)V" } : Jvm.MethodName) prog_3_method_3_code (6 : Nat) (Option.none : Option Jvm.ClassFile.FieldType)) ∈ z_W := z_mem 499 (by decide +kernel) rfl
theorem zw_500 : (Jvm.Cond.methodLink "RuleNetwork$CubeMaker" (29 : Nat) ({ cls := "RuleNetwork$CubeMaker", name := "split", desc := "(III)V" } : Jvm.MethodName)) ∈ z_W := z_mem 500 (by decide +kernel) rfl
theorem zw_502 : (Jvm.Cond.instanceMethod ({ cls := "RuleNetwork$CubeMaker", name := "split", desc := "(III)V" } : Jvm.MethodName)) ∈ z_W := z_mem 502 (by decide +kernel) rfl
theorem zw_503 : (Jvm.Cond.code ({ cls := "RuleNetwork$CubeMaker", name := "split", desc := "(III)V" } : Jvm.MethodName) prog_3_method_4_code (5 : Nat) (Option.none : Option Jvm.ClassFile.FieldType)) ∈ z_W := z_mem 503 (by decide +kernel) rfl
theorem zw_504 : (Jvm.Cond.methodLink "RuleNetwork$CubeMaker" (33 : Nat) ({ cls := "RuleNetwork$CubeMaker", name := "countInside", desc := "(II)I" } : Jvm.MethodName)) ∈ z_W := z_mem 504 (by decide +kernel) rfl
theorem zw_506 : (Jvm.Cond.instanceMethod ({ cls := "RuleNetwork$CubeMaker", name := "countInside", desc := "(II)I" } : Jvm.MethodName)) ∈ z_W := z_mem 506 (by decide +kernel) rfl
theorem zw_507 : (Jvm.Cond.code ({ cls := "RuleNetwork$CubeMaker", name := "countInside", desc := "(II)I" } : Jvm.MethodName) prog_3_method_5_code (5 : Nat) (Option.some Jvm.ClassFile.FieldType.int)) ∈ z_W := z_mem 507 (by decide +kernel) rfl
theorem zw_509 : (Jvm.Cond.methodLink "RuleNetwork$CubeMaker" (37 : Nat) ({ cls := "RuleNetwork$CubeMaker", name := "anyFrom", desc := "(I)I" } : Jvm.MethodName)) ∈ z_W := z_mem 509 (by decide +kernel) rfl
theorem zw_511 : (Jvm.Cond.instanceMethod ({ cls := "RuleNetwork$CubeMaker", name := "anyFrom", desc := "(I)I" } : Jvm.MethodName)) ∈ z_W := z_mem 511 (by decide +kernel) rfl
theorem zw_512 : (Jvm.Cond.code ({ cls := "RuleNetwork$CubeMaker", name := "anyFrom", desc := "(I)I" } : Jvm.MethodName) prog_3_method_7_code (4 : Nat) (Option.some Jvm.ClassFile.FieldType.int)) ∈ z_W := z_mem 512 (by decide +kernel) rfl
theorem zw_513 : (Jvm.Cond.methodLink "RuleNetwork$CubeMaker" (45 : Nat) ({ cls := "RuleNetwork$CubeMaker", name := "given", desc := "(II)I" } : Jvm.MethodName)) ∈ z_W := z_mem 513 (by decide +kernel) rfl
theorem zw_514 : (Jvm.Cond.static ({ cls := "RuleNetwork$CubeMaker", name := "given", desc := "(II)I" } : Jvm.MethodName)) ∈ z_W := z_mem 514 (by decide +kernel) rfl
theorem zw_515 : (Jvm.Cond.code ({ cls := "RuleNetwork$CubeMaker", name := "given", desc := "(II)I" } : Jvm.MethodName) prog_3_method_8_code (2 : Nat) (Option.some Jvm.ClassFile.FieldType.int)) ∈ z_W := z_mem 515 (by decide +kernel) rfl
theorem zw_516 : (Jvm.Cond.methodLink "RuleNetwork$CubeMaker" (41 : Nat) ({ cls := "RuleNetwork$CubeMaker", name := "makesDifference", desc := "(II)Z" } : Jvm.MethodName)) ∈ z_W := z_mem 516 (by decide +kernel) rfl
theorem zw_518 : (Jvm.Cond.instanceMethod ({ cls := "RuleNetwork$CubeMaker", name := "makesDifference", desc := "(II)Z" } : Jvm.MethodName)) ∈ z_W := z_mem 518 (by decide +kernel) rfl
theorem zw_519 : (Jvm.Cond.code ({ cls := "RuleNetwork$CubeMaker", name := "makesDifference", desc := "(II)Z" } : Jvm.MethodName) prog_3_method_6_code (5 : Nat) (Option.some Jvm.ClassFile.FieldType.boolean)) ∈ z_W := z_mem 519 (by decide +kernel) rfl
theorem zw_520 : (Jvm.Cond.methodLink "RuleNetwork" (143 : Nat) ({ cls := "RuleNetwork$CubeMaker", name := "clear", desc := "()V" } : Jvm.MethodName)) ∈ z_W := z_mem 520 (by decide +kernel) rfl
theorem zw_521 : (Jvm.Cond.instanceMethod ({ cls := "RuleNetwork$CubeMaker", name := "clear", desc := "()V" } : Jvm.MethodName)) ∈ z_W := z_mem 521 (by decide +kernel) rfl
theorem zw_522 : (Jvm.Cond.selects "RuleNetwork$CubeMaker" ({ cls := "RuleNetwork$CubeMaker", name := "clear", desc := "()V" } : Jvm.MethodName) ({ cls := "RuleNetwork$CubeMaker", name := "clear", desc := "()V" } : Jvm.MethodName)) ∈ z_W := z_mem 522 (by decide +kernel) rfl
theorem zw_523 : (Jvm.Cond.code ({ cls := "RuleNetwork$CubeMaker", name := "clear", desc := "()V" } : Jvm.MethodName) prog_3_method_2_code (1 : Nat) (Option.none : Option Jvm.ClassFile.FieldType)) ∈ z_W := z_mem 523 (by decide +kernel) rfl
theorem zw_524 : (Jvm.Cond.methodLink "RuleNetworkLaw" (86 : Nat) ({ cls := "RuleNetwork", name := "cube", desc := "(II)I" } : Jvm.MethodName)) ∈ z_W := z_mem 524 (by decide +kernel) rfl
theorem zw_525 : (Jvm.Cond.instanceMethod ({ cls := "RuleNetwork", name := "cube", desc := "(II)I" } : Jvm.MethodName)) ∈ z_W := z_mem 525 (by decide +kernel) rfl
theorem zw_526 : (Jvm.Cond.selects "RuleNetwork" ({ cls := "RuleNetwork", name := "cube", desc := "(II)I" } : Jvm.MethodName) ({ cls := "RuleNetwork", name := "cube", desc := "(II)I" } : Jvm.MethodName)) ∈ z_W := z_mem 526 (by decide +kernel) rfl
theorem zw_527 : (Jvm.Cond.code ({ cls := "RuleNetwork", name := "cube", desc := "(II)I" } : Jvm.MethodName) prog_1_method_18_code (3 : Nat) (Option.some Jvm.ClassFile.FieldType.int)) ∈ z_W := z_mem 527 (by decide +kernel) rfl
theorem zw_528 : (Jvm.Cond.classLink "RuleNetworkLaw" (10 : Nat) "RuleNetworkModel") ∈ z_W := z_mem 528 (by decide +kernel) rfl
theorem zw_529 : (Jvm.Cond.instantiable "RuleNetworkModel" (25 : Nat)) ∈ z_W := z_mem 529 (by decide +kernel) rfl
theorem zw_530 : (Jvm.Cond.methodLink "RuleNetworkLaw" (12 : Nat) ({ cls := "RuleNetworkModel", name := "<init>", desc := "()V" } : Jvm.MethodName)) ∈ z_W := z_mem 530 (by decide +kernel) rfl
theorem zw_531 : (Jvm.Cond.instanceMethod ({ cls := "RuleNetworkModel", name := "<init>", desc := "()V" } : Jvm.MethodName)) ∈ z_W := z_mem 531 (by decide +kernel) rfl
theorem zw_532 : (Jvm.Cond.code ({ cls := "RuleNetworkModel", name := "<init>", desc := "()V" } : Jvm.MethodName) prog_8_method_1_code (1 : Nat) (Option.none : Option Jvm.ClassFile.FieldType)) ∈ z_W := z_mem 532 (by decide +kernel) rfl
theorem zw_533 : (Jvm.Cond.methodLink "RuleNetworkModel" (1 : Nat) ({ cls := "java/lang/Object", name := "<init>", desc := "()V" } : Jvm.MethodName)) ∈ z_W := z_mem 533 (by decide +kernel) rfl
theorem zw_534 : (Jvm.Cond.fieldLink "RuleNetworkModel" (59 : Nat) "RuleNetworkModel" "size" "I") ∈ z_W := z_mem 534 (by decide +kernel) rfl
theorem zw_535 : (Jvm.Cond.fieldLink "RuleNetworkModel" (7 : Nat) "RuleNetworkModel" "text" "[I") ∈ z_W := z_mem 535 (by decide +kernel) rfl
theorem zw_536 : (Jvm.Cond.fieldLink "RuleNetworkModel" (126 : Nat) "RuleNetworkModel" "genes" "I") ∈ z_W := z_mem 536 (by decide +kernel) rfl
theorem zw_537 : (Jvm.Cond.fieldLink "RuleNetworkModel" (13 : Nat) "RuleNetworkModel" "names" "[I") ∈ z_W := z_mem 537 (by decide +kernel) rfl
theorem zw_538 : (Jvm.Cond.fieldLink "RuleNetworkModel" (16 : Nat) "RuleNetworkModel" "low" "[J") ∈ z_W := z_mem 538 (by decide +kernel) rfl
theorem zw_539 : (Jvm.Cond.fieldLink "RuleNetworkModel" (20 : Nat) "RuleNetworkModel" "high" "[J") ∈ z_W := z_mem 539 (by decide +kernel) rfl
theorem zw_540 : (Jvm.Cond.fieldLink "RuleNetworkModel" (23 : Nat) "RuleNetworkModel" "fixed" "[I") ∈ z_W := z_mem 540 (by decide +kernel) rfl
theorem zw_541 : (Jvm.Cond.fieldLink "RuleNetworkModel" (63 : Nat) "RuleNetworkModel" "found" "I") ∈ z_W := z_mem 541 (by decide +kernel) rfl
theorem zw_542 : (Jvm.Cond.fieldLink "RuleNetworkModel" (26 : Nat) "RuleNetworkModel" "newNames" "[I") ∈ z_W := z_mem 542 (by decide +kernel) rfl
theorem zw_543 : (Jvm.Cond.fieldLink "RuleNetworkModel" (74 : Nat) "RuleNetworkModel" "nested" "I") ∈ z_W := z_mem 543 (by decide +kernel) rfl
theorem zw_544 : (Jvm.Cond.fieldLink "RuleNetworkModel" (69 : Nat) "RuleNetworkModel" "marks" "I") ∈ z_W := z_mem 544 (by decide +kernel) rfl
theorem zw_545 : (Jvm.Cond.fieldLink "RuleNetworkModel" (29 : Nat) "RuleNetworkModel" "mark" "[I") ∈ z_W := z_mem 545 (by decide +kernel) rfl
theorem zw_546 : (Jvm.Cond.fieldLink "RuleNetworkModel" (66 : Nat) "RuleNetworkModel" "values" "I") ∈ z_W := z_mem 546 (by decide +kernel) rfl
theorem zw_547 : (Jvm.Cond.fieldLink "RuleNetworkModel" (32 : Nat) "RuleNetworkModel" "valueLow" "[J") ∈ z_W := z_mem 547 (by decide +kernel) rfl
theorem zw_548 : (Jvm.Cond.fieldLink "RuleNetworkModel" (35 : Nat) "RuleNetworkModel" "valueHigh" "[J") ∈ z_W := z_mem 548 (by decide +kernel) rfl
theorem zw_549 : (Jvm.Cond.fieldLink "RuleNetworkModel" (102 : Nat) "RuleNetworkModel" "rules" "I") ∈ z_W := z_mem 549 (by decide +kernel) rfl
theorem zw_550 : (Jvm.Cond.fieldLink "RuleNetworkModel" (129 : Nat) "RuleNetworkModel" "analysed" "Z") ∈ z_W := z_mem 550 (by decide +kernel) rfl
theorem zw_551 : (Jvm.Cond.fieldLink "RuleNetworkModel" (154 : Nat) "RuleNetworkModel" "one" "Z") ∈ z_W := z_mem 551 (by decide +kernel) rfl
theorem zw_552 : (Jvm.Cond.fieldLink "RuleNetworkModel" (38 : Nat) "RuleNetworkModel" "reachLow" "[J") ∈ z_W := z_mem 552 (by decide +kernel) rfl
theorem zw_553 : (Jvm.Cond.fieldLink "RuleNetworkModel" (41 : Nat) "RuleNetworkModel" "reachHigh" "[J") ∈ z_W := z_mem 553 (by decide +kernel) rfl
theorem zw_554 : (Jvm.Cond.fieldLink "RuleNetworkModel" (170 : Nat) "RuleNetworkModel" "attractors" "I") ∈ z_W := z_mem 554 (by decide +kernel) rfl
theorem zw_555 : (Jvm.Cond.fieldLink "RuleNetworkModel" (44 : Nat) "RuleNetworkModel" "leastOf" "[I") ∈ z_W := z_mem 555 (by decide +kernel) rfl
theorem zw_556 : (Jvm.Cond.fieldLink "RuleNetworkModel" (188 : Nat) "RuleNetworkModel" "open" "I") ∈ z_W := z_mem 556 (by decide +kernel) rfl
theorem zw_557 : (Jvm.Cond.fieldLink "RuleNetworkModel" (47 : Nat) "RuleNetworkModel" "givenTo" "[I") ∈ z_W := z_mem 557 (by decide +kernel) rfl
theorem zw_558 : (Jvm.Cond.fieldLink "RuleNetworkModel" (50 : Nat) "RuleNetworkModel" "given" "[I") ∈ z_W := z_mem 558 (by decide +kernel) rfl
theorem zw_610 : (Jvm.Cond.methodLink "RuleNetworkLaw" (19 : Nat) ({ cls := "RuleNetworkModel", name := "write", desc := "(J)Z" } : Jvm.MethodName)) ∈ z_W := z_mem 610 (by decide +kernel) rfl
theorem zw_611 : (Jvm.Cond.instanceMethod ({ cls := "RuleNetworkModel", name := "write", desc := "(J)Z" } : Jvm.MethodName)) ∈ z_W := z_mem 611 (by decide +kernel) rfl
theorem zw_612 : (Jvm.Cond.selects "RuleNetworkModel" ({ cls := "RuleNetworkModel", name := "write", desc := "(J)Z" } : Jvm.MethodName) ({ cls := "RuleNetworkModel", name := "write", desc := "(J)Z" } : Jvm.MethodName)) ∈ z_W := z_mem 612 (by decide +kernel) rfl
theorem zw_613 : (Jvm.Cond.code ({ cls := "RuleNetworkModel", name := "write", desc := "(J)Z" } : Jvm.MethodName) prog_8_method_3_code (6 : Nat) (Option.some Jvm.ClassFile.FieldType.boolean)) ∈ z_W := z_mem 613 (by decide +kernel) rfl
theorem zw_614 : (Jvm.Cond.methodLink "RuleNetworkModel" (55 : Nat) ({ cls := "RuleNetworkModel", name := "byteOf", desc := "(JI)I" } : Jvm.MethodName)) ∈ z_W := z_mem 614 (by decide +kernel) rfl
theorem zw_615 : (Jvm.Cond.static ({ cls := "RuleNetworkModel", name := "byteOf", desc := "(JI)I" } : Jvm.MethodName)) ∈ z_W := z_mem 615 (by decide +kernel) rfl
theorem zw_616 : (Jvm.Cond.code ({ cls := "RuleNetworkModel", name := "byteOf", desc := "(JI)I" } : Jvm.MethodName) prog_8_method_2_code (3 : Nat) (Option.some Jvm.ClassFile.FieldType.int)) ∈ z_W := z_mem 616 (by decide +kernel) rfl
theorem zw_617 : (Jvm.Cond.constantLong "RuleNetworkModel" (53 : Nat) (255 : Int64)) ∈ z_W := z_mem 617 (by decide +kernel) rfl
theorem zw_618 : (Jvm.Cond.methodLink "RuleNetworkLaw" (23 : Nat) ({ cls := "RuleNetworkModel", name := "wipe", desc := "()V" } : Jvm.MethodName)) ∈ z_W := z_mem 618 (by decide +kernel) rfl
theorem zw_619 : (Jvm.Cond.instanceMethod ({ cls := "RuleNetworkModel", name := "wipe", desc := "()V" } : Jvm.MethodName)) ∈ z_W := z_mem 619 (by decide +kernel) rfl
theorem zw_620 : (Jvm.Cond.selects "RuleNetworkModel" ({ cls := "RuleNetworkModel", name := "wipe", desc := "()V" } : Jvm.MethodName) ({ cls := "RuleNetworkModel", name := "wipe", desc := "()V" } : Jvm.MethodName)) ∈ z_W := z_mem 620 (by decide +kernel) rfl
theorem zw_621 : (Jvm.Cond.code ({ cls := "RuleNetworkModel", name := "wipe", desc := "()V" } : Jvm.MethodName) prog_8_method_4_code (1 : Nat) (Option.none : Option Jvm.ClassFile.FieldType)) ∈ z_W := z_mem 621 (by decide +kernel) rfl
theorem zw_622 : (Jvm.Cond.methodLink "RuleNetworkLaw" (28 : Nat) ({ cls := "RuleNetworkModel", name := "load", desc := "()I" } : Jvm.MethodName)) ∈ z_W := z_mem 622 (by decide +kernel) rfl
theorem zw_623 : (Jvm.Cond.instanceMethod ({ cls := "RuleNetworkModel", name := "load", desc := "()I" } : Jvm.MethodName)) ∈ z_W := z_mem 623 (by decide +kernel) rfl
theorem zw_624 : (Jvm.Cond.selects "RuleNetworkModel" ({ cls := "RuleNetworkModel", name := "load", desc := "()I" } : Jvm.MethodName) ({ cls := "RuleNetworkModel", name := "load", desc := "()I" } : Jvm.MethodName)) ∈ z_W := z_mem 624 (by decide +kernel) rfl
theorem zw_625 : (Jvm.Cond.code ({ cls := "RuleNetworkModel", name := "load", desc := "()I" } : Jvm.MethodName) prog_8_method_17_code (3 : Nat) (Option.some Jvm.ClassFile.FieldType.int)) ∈ z_W := z_mem 625 (by decide +kernel) rfl
theorem zw_626 : (Jvm.Cond.methodLink "RuleNetworkModel" (118 : Nat) ({ cls := "RuleNetworkModel", name := "scan", desc := "(Z)I" } : Jvm.MethodName)) ∈ z_W := z_mem 626 (by decide +kernel) rfl
theorem zw_628 : (Jvm.Cond.instanceMethod ({ cls := "RuleNetworkModel", name := "scan", desc := "(Z)I" } : Jvm.MethodName)) ∈ z_W := z_mem 628 (by decide +kernel) rfl
theorem zw_629 : (Jvm.Cond.code ({ cls := "RuleNetworkModel", name := "scan", desc := "(Z)I" } : Jvm.MethodName) prog_8_method_15_code (6 : Nat) (Option.some Jvm.ClassFile.FieldType.int)) ∈ z_W := z_mem 629 (by decide +kernel) rfl
theorem zw_630 : (Jvm.Cond.methodLink "RuleNetworkModel" (77 : Nat) ({ cls := "RuleNetworkModel", name := "isName", desc := "(I)Z" } : Jvm.MethodName)) ∈ z_W := z_mem 630 (by decide +kernel) rfl
theorem zw_631 : (Jvm.Cond.static ({ cls := "RuleNetworkModel", name := "isName", desc := "(I)Z" } : Jvm.MethodName)) ∈ z_W := z_mem 631 (by decide +kernel) rfl
theorem zw_632 : (Jvm.Cond.code ({ cls := "RuleNetworkModel", name := "isName", desc := "(I)Z" } : Jvm.MethodName) prog_8_method_5_code (1 : Nat) (Option.some Jvm.ClassFile.FieldType.boolean)) ∈ z_W := z_mem 632 (by decide +kernel) rfl
theorem zw_633 : (Jvm.Cond.methodLink "RuleNetworkModel" (105 : Nat) ({ cls := "RuleNetworkModel", name := "isNew", desc := "(I)Z" } : Jvm.MethodName)) ∈ z_W := z_mem 633 (by decide +kernel) rfl
theorem zw_635 : (Jvm.Cond.instanceMethod ({ cls := "RuleNetworkModel", name := "isNew", desc := "(I)Z" } : Jvm.MethodName)) ∈ z_W := z_mem 635 (by decide +kernel) rfl
theorem zw_636 : (Jvm.Cond.code ({ cls := "RuleNetworkModel", name := "isNew", desc := "(I)Z" } : Jvm.MethodName) prog_8_method_16_code (2 : Nat) (Option.some Jvm.ClassFile.FieldType.boolean)) ∈ z_W := z_mem 636 (by decide +kernel) rfl
theorem zw_637 : (Jvm.Cond.methodLink "RuleNetworkModel" (81 : Nat) ({ cls := "RuleNetworkModel", name := "newGene", desc := "(I)I" } : Jvm.MethodName)) ∈ z_W := z_mem 637 (by decide +kernel) rfl
theorem zw_639 : (Jvm.Cond.instanceMethod ({ cls := "RuleNetworkModel", name := "newGene", desc := "(I)I" } : Jvm.MethodName)) ∈ z_W := z_mem 639 (by decide +kernel) rfl
theorem zw_640 : (Jvm.Cond.code ({ cls := "RuleNetworkModel", name := "newGene", desc := "(I)I" } : Jvm.MethodName) prog_8_method_6_code (3 : Nat) (Option.some Jvm.ClassFile.FieldType.int)) ∈ z_W := z_mem 640 (by decide +kernel) rfl
theorem zw_641 : (Jvm.Cond.methodLink "RuleNetworkModel" (108 : Nat) ({ cls := "RuleNetworkModel", name := "begins", desc := "(I)Z" } : Jvm.MethodName)) ∈ z_W := z_mem 641 (by decide +kernel) rfl
theorem zw_643 : (Jvm.Cond.instanceMethod ({ cls := "RuleNetworkModel", name := "begins", desc := "(I)Z" } : Jvm.MethodName)) ∈ z_W := z_mem 643 (by decide +kernel) rfl
theorem zw_644 : (Jvm.Cond.code ({ cls := "RuleNetworkModel", name := "begins", desc := "(I)Z" } : Jvm.MethodName) prog_8_method_12_code (2 : Nat) (Option.some Jvm.ClassFile.FieldType.boolean)) ∈ z_W := z_mem 644 (by decide +kernel) rfl
theorem zw_645 : (Jvm.Cond.methodLink "RuleNetworkModel" (98 : Nat) ({ cls := "RuleNetworkModel", name := "operand", desc := "(I)V" } : Jvm.MethodName)) ∈ z_W := z_mem 645 (by decide +kernel) rfl
theorem zw_647 : (Jvm.Cond.instanceMethod ({ cls := "RuleNetworkModel", name := "operand", desc := "(I)V" } : Jvm.MethodName)) ∈ z_W := z_mem 647 (by decide +kernel) rfl
theorem zw_648 : (Jvm.Cond.code ({ cls := "RuleNetworkModel", name := "operand", desc := "(I)V" } : Jvm.MethodName) prog_8_method_10_code (8 : Nat) (Option.none : Option Jvm.ClassFile.FieldType)) ∈ z_W := z_mem 648 (by decide +kernel) rfl
theorem zw_649 : (Jvm.Cond.constantLong "RuleNetworkModel" (72 : Nat) (-1 : Int64)) ∈ z_W := z_mem 649 (by decide +kernel) rfl
theorem zw_650 : (Jvm.Cond.methodLink "RuleNetworkModel" (85 : Nat) ({ cls := "RuleNetworkModel", name := "pushValue", desc := "(JJ)V" } : Jvm.MethodName)) ∈ z_W := z_mem 650 (by decide +kernel) rfl
theorem zw_652 : (Jvm.Cond.instanceMethod ({ cls := "RuleNetworkModel", name := "pushValue", desc := "(JJ)V" } : Jvm.MethodName)) ∈ z_W := z_mem 652 (by decide +kernel) rfl
theorem zw_653 : (Jvm.Cond.code ({ cls := "RuleNetworkModel", name := "pushValue", desc := "(JJ)V" } : Jvm.MethodName) prog_8_method_7_code (5 : Nat) (Option.none : Option Jvm.ClassFile.FieldType)) ∈ z_W := z_mem 653 (by decide +kernel) rfl
theorem zw_654 : (Jvm.Cond.methodLink "RuleNetworkModel" (89 : Nat) ({ cls := "RuleNetworkModel", name := "finish", desc := "()V" } : Jvm.MethodName)) ∈ z_W := z_mem 654 (by decide +kernel) rfl
theorem zw_656 : (Jvm.Cond.instanceMethod ({ cls := "RuleNetworkModel", name := "finish", desc := "()V" } : Jvm.MethodName)) ∈ z_W := z_mem 656 (by decide +kernel) rfl
theorem zw_657 : (Jvm.Cond.code ({ cls := "RuleNetworkModel", name := "finish", desc := "()V" } : Jvm.MethodName) prog_8_method_11_code (1 : Nat) (Option.none : Option Jvm.ClassFile.FieldType)) ∈ z_W := z_mem 657 (by decide +kernel) rfl
theorem zw_658 : (Jvm.Cond.methodLink "RuleNetworkModel" (92 : Nat) ({ cls := "RuleNetworkModel", name := "waits", desc := "(I)Z" } : Jvm.MethodName)) ∈ z_W := z_mem 658 (by decide +kernel) rfl
theorem zw_660 : (Jvm.Cond.instanceMethod ({ cls := "RuleNetworkModel", name := "waits", desc := "(I)Z" } : Jvm.MethodName)) ∈ z_W := z_mem 660 (by decide +kernel) rfl
theorem zw_661 : (Jvm.Cond.code ({ cls := "RuleNetworkModel", name := "waits", desc := "(I)Z" } : Jvm.MethodName) prog_8_method_9_code (2 : Nat) (Option.some Jvm.ClassFile.FieldType.boolean)) ∈ z_W := z_mem 661 (by decide +kernel) rfl
theorem zw_662 : (Jvm.Cond.methodLink "RuleNetworkModel" (95 : Nat) ({ cls := "RuleNetworkModel", name := "apply", desc := "()V" } : Jvm.MethodName)) ∈ z_W := z_mem 662 (by decide +kernel) rfl
theorem zw_664 : (Jvm.Cond.instanceMethod ({ cls := "RuleNetworkModel", name := "apply", desc := "()V" } : Jvm.MethodName)) ∈ z_W := z_mem 664 (by decide +kernel) rfl
theorem zw_665 : (Jvm.Cond.code ({ cls := "RuleNetworkModel", name := "apply", desc := "()V" } : Jvm.MethodName) prog_8_method_8_code (6 : Nat) (Option.none : Option Jvm.ClassFile.FieldType)) ∈ z_W := z_mem 665 (by decide +kernel) rfl
theorem zw_666 : (Jvm.Cond.methodLink "RuleNetworkModel" (111 : Nat) ({ cls := "RuleNetworkModel", name := "ends", desc := "(Z)Z" } : Jvm.MethodName)) ∈ z_W := z_mem 666 (by decide +kernel) rfl
theorem zw_668 : (Jvm.Cond.instanceMethod ({ cls := "RuleNetworkModel", name := "ends", desc := "(Z)Z" } : Jvm.MethodName)) ∈ z_W := z_mem 668 (by decide +kernel) rfl
theorem zw_669 : (Jvm.Cond.code ({ cls := "RuleNetworkModel", name := "ends", desc := "(Z)Z" } : Jvm.MethodName) prog_8_method_14_code (2 : Nat) (Option.some Jvm.ClassFile.FieldType.boolean)) ∈ z_W := z_mem 669 (by decide +kernel) rfl
theorem zw_670 : (Jvm.Cond.methodLink "RuleNetworkModel" (115 : Nat) ({ cls := "RuleNetworkModel", name := "goesOn", desc := "(I)Z" } : Jvm.MethodName)) ∈ z_W := z_mem 670 (by decide +kernel) rfl
theorem zw_672 : (Jvm.Cond.instanceMethod ({ cls := "RuleNetworkModel", name := "goesOn", desc := "(I)Z" } : Jvm.MethodName)) ∈ z_W := z_mem 672 (by decide +kernel) rfl
theorem zw_673 : (Jvm.Cond.code ({ cls := "RuleNetworkModel", name := "goesOn", desc := "(I)Z" } : Jvm.MethodName) prog_8_method_13_code (2 : Nat) (Option.some Jvm.ClassFile.FieldType.boolean)) ∈ z_W := z_mem 673 (by decide +kernel) rfl
theorem zw_674 : (Jvm.Cond.methodLink "RuleNetworkModel" (122 : Nat) ({ cls := "RuleNetworkModel", name := "unknown", desc := "()I" } : Jvm.MethodName)) ∈ z_W := z_mem 674 (by decide +kernel) rfl
theorem zw_676 : (Jvm.Cond.instanceMethod ({ cls := "RuleNetworkModel", name := "unknown", desc := "()I" } : Jvm.MethodName)) ∈ z_W := z_mem 676 (by decide +kernel) rfl
theorem zw_677 : (Jvm.Cond.code ({ cls := "RuleNetworkModel", name := "unknown", desc := "()I" } : Jvm.MethodName) prog_8_method_18_code (3 : Nat) (Option.some Jvm.ClassFile.FieldType.int)) ∈ z_W := z_mem 677 (by decide +kernel) rfl
theorem zw_678 : (Jvm.Cond.methodLink "RuleNetworkLaw" (32 : Nat) ({ cls := "RuleNetworkModel", name := "genes", desc := "()I" } : Jvm.MethodName)) ∈ z_W := z_mem 678 (by decide +kernel) rfl
theorem zw_679 : (Jvm.Cond.instanceMethod ({ cls := "RuleNetworkModel", name := "genes", desc := "()I" } : Jvm.MethodName)) ∈ z_W := z_mem 679 (by decide +kernel) rfl
theorem zw_680 : (Jvm.Cond.selects "RuleNetworkModel" ({ cls := "RuleNetworkModel", name := "genes", desc := "()I" } : Jvm.MethodName) ({ cls := "RuleNetworkModel", name := "genes", desc := "()I" } : Jvm.MethodName)) ∈ z_W := z_mem 680 (by decide +kernel) rfl
theorem zw_681 : (Jvm.Cond.code ({ cls := "RuleNetworkModel", name := "genes", desc := "()I" } : Jvm.MethodName) prog_8_method_19_code (1 : Nat) (Option.some Jvm.ClassFile.FieldType.int)) ∈ z_W := z_mem 681 (by decide +kernel) rfl
theorem zw_682 : (Jvm.Cond.methodLink "RuleNetworkLaw" (37 : Nat) ({ cls := "RuleNetworkModel", name := "gene", desc := "(C)I" } : Jvm.MethodName)) ∈ z_W := z_mem 682 (by decide +kernel) rfl
theorem zw_683 : (Jvm.Cond.instanceMethod ({ cls := "RuleNetworkModel", name := "gene", desc := "(C)I" } : Jvm.MethodName)) ∈ z_W := z_mem 683 (by decide +kernel) rfl
theorem zw_684 : (Jvm.Cond.selects "RuleNetworkModel" ({ cls := "RuleNetworkModel", name := "gene", desc := "(C)I" } : Jvm.MethodName) ({ cls := "RuleNetworkModel", name := "gene", desc := "(C)I" } : Jvm.MethodName)) ∈ z_W := z_mem 684 (by decide +kernel) rfl
theorem zw_685 : (Jvm.Cond.code ({ cls := "RuleNetworkModel", name := "gene", desc := "(C)I" } : Jvm.MethodName) prog_8_method_20_code (3 : Nat) (Option.some Jvm.ClassFile.FieldType.int)) ∈ z_W := z_mem 685 (by decide +kernel) rfl
theorem zw_686 : (Jvm.Cond.methodLink "RuleNetworkLaw" (42 : Nat) ({ cls := "RuleNetworkModel", name := "fix", desc := "(II)Z" } : Jvm.MethodName)) ∈ z_W := z_mem 686 (by decide +kernel) rfl
theorem zw_687 : (Jvm.Cond.instanceMethod ({ cls := "RuleNetworkModel", name := "fix", desc := "(II)Z" } : Jvm.MethodName)) ∈ z_W := z_mem 687 (by decide +kernel) rfl
theorem zw_688 : (Jvm.Cond.selects "RuleNetworkModel" ({ cls := "RuleNetworkModel", name := "fix", desc := "(II)Z" } : Jvm.MethodName) ({ cls := "RuleNetworkModel", name := "fix", desc := "(II)Z" } : Jvm.MethodName)) ∈ z_W := z_mem 688 (by decide +kernel) rfl
theorem zw_689 : (Jvm.Cond.code ({ cls := "RuleNetworkModel", name := "fix", desc := "(II)Z" } : Jvm.MethodName) prog_8_method_23_code (3 : Nat) (Option.some Jvm.ClassFile.FieldType.boolean)) ∈ z_W := z_mem 689 (by decide +kernel) rfl
theorem zw_690 : (Jvm.Cond.methodLink "RuleNetworkModel" (133 : Nat) ({ cls := "RuleNetworkModel", name := "isGene", desc := "(I)Z" } : Jvm.MethodName)) ∈ z_W := z_mem 690 (by decide +kernel) rfl
theorem zw_692 : (Jvm.Cond.instanceMethod ({ cls := "RuleNetworkModel", name := "isGene", desc := "(I)Z" } : Jvm.MethodName)) ∈ z_W := z_mem 692 (by decide +kernel) rfl
theorem zw_693 : (Jvm.Cond.code ({ cls := "RuleNetworkModel", name := "isGene", desc := "(I)Z" } : Jvm.MethodName) prog_8_method_21_code (2 : Nat) (Option.some Jvm.ClassFile.FieldType.boolean)) ∈ z_W := z_mem 693 (by decide +kernel) rfl
theorem zw_694 : (Jvm.Cond.methodLink "RuleNetworkLaw" (47 : Nat) ({ cls := "RuleNetworkModel", name := "value", desc := "(II)I" } : Jvm.MethodName)) ∈ z_W := z_mem 694 (by decide +kernel) rfl
theorem zw_695 : (Jvm.Cond.instanceMethod ({ cls := "RuleNetworkModel", name := "value", desc := "(II)I" } : Jvm.MethodName)) ∈ z_W := z_mem 695 (by decide +kernel) rfl
theorem zw_696 : (Jvm.Cond.selects "RuleNetworkModel" ({ cls := "RuleNetworkModel", name := "value", desc := "(II)I" } : Jvm.MethodName) ({ cls := "RuleNetworkModel", name := "value", desc := "(II)I" } : Jvm.MethodName)) ∈ z_W := z_mem 696 (by decide +kernel) rfl
theorem zw_697 : (Jvm.Cond.code ({ cls := "RuleNetworkModel", name := "value", desc := "(II)I" } : Jvm.MethodName) prog_8_method_25_code (3 : Nat) (Option.some Jvm.ClassFile.FieldType.int)) ∈ z_W := z_mem 697 (by decide +kernel) rfl
theorem zw_698 : (Jvm.Cond.methodLink "RuleNetworkModel" (136 : Nat) ({ cls := "RuleNetworkModel", name := "isState", desc := "(I)Z" } : Jvm.MethodName)) ∈ z_W := z_mem 698 (by decide +kernel) rfl
theorem zw_700 : (Jvm.Cond.instanceMethod ({ cls := "RuleNetworkModel", name := "isState", desc := "(I)Z" } : Jvm.MethodName)) ∈ z_W := z_mem 700 (by decide +kernel) rfl
theorem zw_701 : (Jvm.Cond.code ({ cls := "RuleNetworkModel", name := "isState", desc := "(I)Z" } : Jvm.MethodName) prog_8_method_22_code (2 : Nat) (Option.some Jvm.ClassFile.FieldType.boolean)) ∈ z_W := z_mem 701 (by decide +kernel) rfl
theorem zw_702 : (Jvm.Cond.methodLink "RuleNetworkModel" (139 : Nat) ({ cls := "RuleNetworkModel", name := "valueAt", desc := "(II)I" } : Jvm.MethodName)) ∈ z_W := z_mem 702 (by decide +kernel) rfl
theorem zw_704 : (Jvm.Cond.instanceMethod ({ cls := "RuleNetworkModel", name := "valueAt", desc := "(II)I" } : Jvm.MethodName)) ∈ z_W := z_mem 704 (by decide +kernel) rfl
theorem zw_705 : (Jvm.Cond.code ({ cls := "RuleNetworkModel", name := "valueAt", desc := "(II)I" } : Jvm.MethodName) prog_8_method_24_code (5 : Nat) (Option.some Jvm.ClassFile.FieldType.int)) ∈ z_W := z_mem 705 (by decide +kernel) rfl
theorem zw_706 : (Jvm.Cond.methodLink "RuleNetworkLaw" (52 : Nat) ({ cls := "RuleNetworkModel", name := "next", desc := "(I)I" } : Jvm.MethodName)) ∈ z_W := z_mem 706 (by decide +kernel) rfl
theorem zw_707 : (Jvm.Cond.instanceMethod ({ cls := "RuleNetworkModel", name := "next", desc := "(I)I" } : Jvm.MethodName)) ∈ z_W := z_mem 707 (by decide +kernel) rfl
theorem zw_708 : (Jvm.Cond.selects "RuleNetworkModel" ({ cls := "RuleNetworkModel", name := "next", desc := "(I)I" } : Jvm.MethodName) ({ cls := "RuleNetworkModel", name := "next", desc := "(I)I" } : Jvm.MethodName)) ∈ z_W := z_mem 708 (by decide +kernel) rfl
theorem zw_709 : (Jvm.Cond.code ({ cls := "RuleNetworkModel", name := "next", desc := "(I)I" } : Jvm.MethodName) prog_8_method_26_code (4 : Nat) (Option.some Jvm.ClassFile.FieldType.int)) ∈ z_W := z_mem 709 (by decide +kernel) rfl
theorem zw_710 : (Jvm.Cond.methodLink "RuleNetworkLaw" (56 : Nat) ({ cls := "RuleNetworkModel", name := "spread", desc := "(I)I" } : Jvm.MethodName)) ∈ z_W := z_mem 710 (by decide +kernel) rfl
theorem zw_711 : (Jvm.Cond.instanceMethod ({ cls := "RuleNetworkModel", name := "spread", desc := "(I)I" } : Jvm.MethodName)) ∈ z_W := z_mem 711 (by decide +kernel) rfl
theorem zw_712 : (Jvm.Cond.selects "RuleNetworkModel" ({ cls := "RuleNetworkModel", name := "spread", desc := "(I)I" } : Jvm.MethodName) ({ cls := "RuleNetworkModel", name := "spread", desc := "(I)I" } : Jvm.MethodName)) ∈ z_W := z_mem 712 (by decide +kernel) rfl
theorem zw_713 : (Jvm.Cond.code ({ cls := "RuleNetworkModel", name := "spread", desc := "(I)I" } : Jvm.MethodName) prog_8_method_29_code (7 : Nat) (Option.some Jvm.ClassFile.FieldType.int)) ∈ z_W := z_mem 713 (by decide +kernel) rfl
theorem zw_714 : (Jvm.Cond.methodLink "RuleNetworkModel" (143 : Nat) ({ cls := "RuleNetworkModel", name := "differs", desc := "(III)Z" } : Jvm.MethodName)) ∈ z_W := z_mem 714 (by decide +kernel) rfl
theorem zw_716 : (Jvm.Cond.instanceMethod ({ cls := "RuleNetworkModel", name := "differs", desc := "(III)Z" } : Jvm.MethodName)) ∈ z_W := z_mem 716 (by decide +kernel) rfl
theorem zw_717 : (Jvm.Cond.code ({ cls := "RuleNetworkModel", name := "differs", desc := "(III)Z" } : Jvm.MethodName) prog_8_method_28_code (7 : Nat) (Option.some Jvm.ClassFile.FieldType.boolean)) ∈ z_W := z_mem 717 (by decide +kernel) rfl
theorem zw_718 : (Jvm.Cond.methodLink "RuleNetworkModel" (147 : Nat) ({ cls := "RuleNetworkModel", name := "sameLeft", desc := "(IIII)Z" } : Jvm.MethodName)) ∈ z_W := z_mem 718 (by decide +kernel) rfl
theorem zw_720 : (Jvm.Cond.instanceMethod ({ cls := "RuleNetworkModel", name := "sameLeft", desc := "(IIII)Z" } : Jvm.MethodName)) ∈ z_W := z_mem 720 (by decide +kernel) rfl
theorem zw_721 : (Jvm.Cond.code ({ cls := "RuleNetworkModel", name := "sameLeft", desc := "(IIII)Z" } : Jvm.MethodName) prog_8_method_27_code (7 : Nat) (Option.some Jvm.ClassFile.FieldType.boolean)) ∈ z_W := z_mem 721 (by decide +kernel) rfl
theorem zw_722 : (Jvm.Cond.methodLink "RuleNetworkLaw" (61 : Nat) ({ cls := "RuleNetworkModel", name := "analyse", desc := "(Z)I" } : Jvm.MethodName)) ∈ z_W := z_mem 722 (by decide +kernel) rfl
theorem zw_723 : (Jvm.Cond.instanceMethod ({ cls := "RuleNetworkModel", name := "analyse", desc := "(Z)I" } : Jvm.MethodName)) ∈ z_W := z_mem 723 (by decide +kernel) rfl
theorem zw_724 : (Jvm.Cond.selects "RuleNetworkModel" ({ cls := "RuleNetworkModel", name := "analyse", desc := "(Z)I" } : Jvm.MethodName) ({ cls := "RuleNetworkModel", name := "analyse", desc := "(Z)I" } : Jvm.MethodName)) ∈ z_W := z_mem 724 (by decide +kernel) rfl
theorem zw_725 : (Jvm.Cond.code ({ cls := "RuleNetworkModel", name := "analyse", desc := "(Z)I" } : Jvm.MethodName) prog_8_method_36_code (3 : Nat) (Option.some Jvm.ClassFile.FieldType.int)) ∈ z_W := z_mem 725 (by decide +kernel) rfl
theorem zw_726 : (Jvm.Cond.methodLink "RuleNetworkModel" (167 : Nat) ({ cls := "RuleNetworkModel", name := "spreadOut", desc := "()V" } : Jvm.MethodName)) ∈ z_W := z_mem 726 (by decide +kernel) rfl
theorem zw_728 : (Jvm.Cond.instanceMethod ({ cls := "RuleNetworkModel", name := "spreadOut", desc := "()V" } : Jvm.MethodName)) ∈ z_W := z_mem 728 (by decide +kernel) rfl
theorem zw_729 : (Jvm.Cond.code ({ cls := "RuleNetworkModel", name := "spreadOut", desc := "()V" } : Jvm.MethodName) prog_8_method_33_code (7 : Nat) (Option.none : Option Jvm.ClassFile.FieldType)) ∈ z_W := z_mem 729 (by decide +kernel) rfl
theorem zw_730 : (Jvm.Cond.methodLink "RuleNetworkModel" (157 : Nat) ({ cls := "RuleNetworkModel", name := "step", desc := "(II)I" } : Jvm.MethodName)) ∈ z_W := z_mem 730 (by decide +kernel) rfl
theorem zw_732 : (Jvm.Cond.instanceMethod ({ cls := "RuleNetworkModel", name := "step", desc := "(II)I" } : Jvm.MethodName)) ∈ z_W := z_mem 732 (by decide +kernel) rfl
theorem zw_733 : (Jvm.Cond.code ({ cls := "RuleNetworkModel", name := "step", desc := "(II)I" } : Jvm.MethodName) prog_8_method_32_code (4 : Nat) (Option.some Jvm.ClassFile.FieldType.int)) ∈ z_W := z_mem 733 (by decide +kernel) rfl
theorem zw_734 : (Jvm.Cond.methodLink "RuleNetworkModel" (151 : Nat) ({ cls := "RuleNetworkModel", name := "next", desc := "(I)I" } : Jvm.MethodName)) ∈ z_W := z_mem 734 (by decide +kernel) rfl
theorem zw_735 : (Jvm.Cond.methodLink "RuleNetworkModel" (160 : Nat) ({ cls := "RuleNetworkModel", name := "join", desc := "(II)Z" } : Jvm.MethodName)) ∈ z_W := z_mem 735 (by decide +kernel) rfl
theorem zw_737 : (Jvm.Cond.instanceMethod ({ cls := "RuleNetworkModel", name := "join", desc := "(II)Z" } : Jvm.MethodName)) ∈ z_W := z_mem 737 (by decide +kernel) rfl
theorem zw_738 : (Jvm.Cond.code ({ cls := "RuleNetworkModel", name := "join", desc := "(II)Z" } : Jvm.MethodName) prog_8_method_31_code (8 : Nat) (Option.some Jvm.ClassFile.FieldType.boolean)) ∈ z_W := z_mem 738 (by decide +kernel) rfl
theorem zw_739 : (Jvm.Cond.methodLink "RuleNetworkModel" (173 : Nat) ({ cls := "RuleNetworkModel", name := "settled", desc := "(I)Z" } : Jvm.MethodName)) ∈ z_W := z_mem 739 (by decide +kernel) rfl
theorem zw_741 : (Jvm.Cond.instanceMethod ({ cls := "RuleNetworkModel", name := "settled", desc := "(I)Z" } : Jvm.MethodName)) ∈ z_W := z_mem 741 (by decide +kernel) rfl
theorem zw_742 : (Jvm.Cond.code ({ cls := "RuleNetworkModel", name := "settled", desc := "(I)Z" } : Jvm.MethodName) prog_8_method_34_code (4 : Nat) (Option.some Jvm.ClassFile.FieldType.boolean)) ∈ z_W := z_mem 742 (by decide +kernel) rfl
theorem zw_743 : (Jvm.Cond.methodLink "RuleNetworkModel" (164 : Nat) ({ cls := "RuleNetworkModel", name := "leads", desc := "(II)Z" } : Jvm.MethodName)) ∈ z_W := z_mem 743 (by decide +kernel) rfl
theorem zw_745 : (Jvm.Cond.instanceMethod ({ cls := "RuleNetworkModel", name := "leads", desc := "(II)Z" } : Jvm.MethodName)) ∈ z_W := z_mem 745 (by decide +kernel) rfl
theorem zw_746 : (Jvm.Cond.code ({ cls := "RuleNetworkModel", name := "leads", desc := "(II)Z" } : Jvm.MethodName) prog_8_method_30_code (3 : Nat) (Option.some Jvm.ClassFile.FieldType.boolean)) ∈ z_W := z_mem 746 (by decide +kernel) rfl
theorem zw_747 : (Jvm.Cond.methodLink "RuleNetworkModel" (176 : Nat) ({ cls := "RuleNetworkModel", name := "isLeast", desc := "(I)Z" } : Jvm.MethodName)) ∈ z_W := z_mem 747 (by decide +kernel) rfl
theorem zw_749 : (Jvm.Cond.instanceMethod ({ cls := "RuleNetworkModel", name := "isLeast", desc := "(I)Z" } : Jvm.MethodName)) ∈ z_W := z_mem 749 (by decide +kernel) rfl
theorem zw_750 : (Jvm.Cond.code ({ cls := "RuleNetworkModel", name := "isLeast", desc := "(I)Z" } : Jvm.MethodName) prog_8_method_35_code (4 : Nat) (Option.some Jvm.ClassFile.FieldType.boolean)) ∈ z_W := z_mem 750 (by decide +kernel) rfl
theorem zw_751 : (Jvm.Cond.methodLink "RuleNetworkLaw" (65 : Nat) ({ cls := "RuleNetworkModel", name := "size", desc := "(I)I" } : Jvm.MethodName)) ∈ z_W := z_mem 751 (by decide +kernel) rfl
theorem zw_752 : (Jvm.Cond.instanceMethod ({ cls := "RuleNetworkModel", name := "size", desc := "(I)I" } : Jvm.MethodName)) ∈ z_W := z_mem 752 (by decide +kernel) rfl
theorem zw_753 : (Jvm.Cond.selects "RuleNetworkModel" ({ cls := "RuleNetworkModel", name := "size", desc := "(I)I" } : Jvm.MethodName) ({ cls := "RuleNetworkModel", name := "size", desc := "(I)I" } : Jvm.MethodName)) ∈ z_W := z_mem 753 (by decide +kernel) rfl
theorem zw_754 : (Jvm.Cond.code ({ cls := "RuleNetworkModel", name := "size", desc := "(I)I" } : Jvm.MethodName) prog_8_method_39_code (4 : Nat) (Option.some Jvm.ClassFile.FieldType.int)) ∈ z_W := z_mem 754 (by decide +kernel) rfl
theorem zw_755 : (Jvm.Cond.methodLink "RuleNetworkModel" (179 : Nat) ({ cls := "RuleNetworkModel", name := "isAttractor", desc := "(I)Z" } : Jvm.MethodName)) ∈ z_W := z_mem 755 (by decide +kernel) rfl
theorem zw_757 : (Jvm.Cond.instanceMethod ({ cls := "RuleNetworkModel", name := "isAttractor", desc := "(I)Z" } : Jvm.MethodName)) ∈ z_W := z_mem 757 (by decide +kernel) rfl
theorem zw_758 : (Jvm.Cond.code ({ cls := "RuleNetworkModel", name := "isAttractor", desc := "(I)Z" } : Jvm.MethodName) prog_8_method_37_code (2 : Nat) (Option.some Jvm.ClassFile.FieldType.boolean)) ∈ z_W := z_mem 758 (by decide +kernel) rfl
theorem zw_759 : (Jvm.Cond.methodLink "RuleNetworkModel" (182 : Nat) ({ cls := "RuleNetworkModel", name := "in", desc := "(II)Z" } : Jvm.MethodName)) ∈ z_W := z_mem 759 (by decide +kernel) rfl
theorem zw_761 : (Jvm.Cond.instanceMethod ({ cls := "RuleNetworkModel", name := "in", desc := "(II)Z" } : Jvm.MethodName)) ∈ z_W := z_mem 761 (by decide +kernel) rfl
theorem zw_762 : (Jvm.Cond.code ({ cls := "RuleNetworkModel", name := "in", desc := "(II)Z" } : Jvm.MethodName) prog_8_method_38_code (3 : Nat) (Option.some Jvm.ClassFile.FieldType.boolean)) ∈ z_W := z_mem 762 (by decide +kernel) rfl
theorem zw_763 : (Jvm.Cond.methodLink "RuleNetworkLaw" (69 : Nat) ({ cls := "RuleNetworkModel", name := "least", desc := "(I)I" } : Jvm.MethodName)) ∈ z_W := z_mem 763 (by decide +kernel) rfl
theorem zw_764 : (Jvm.Cond.instanceMethod ({ cls := "RuleNetworkModel", name := "least", desc := "(I)I" } : Jvm.MethodName)) ∈ z_W := z_mem 764 (by decide +kernel) rfl
theorem zw_765 : (Jvm.Cond.selects "RuleNetworkModel" ({ cls := "RuleNetworkModel", name := "least", desc := "(I)I" } : Jvm.MethodName) ({ cls := "RuleNetworkModel", name := "least", desc := "(I)I" } : Jvm.MethodName)) ∈ z_W := z_mem 765 (by decide +kernel) rfl
theorem zw_766 : (Jvm.Cond.code ({ cls := "RuleNetworkModel", name := "least", desc := "(I)I" } : Jvm.MethodName) prog_8_method_40_code (2 : Nat) (Option.some Jvm.ClassFile.FieldType.int)) ∈ z_W := z_mem 766 (by decide +kernel) rfl
theorem zw_767 : (Jvm.Cond.methodLink "RuleNetworkLaw" (73 : Nat) ({ cls := "RuleNetworkModel", name := "attractor", desc := "(I)I" } : Jvm.MethodName)) ∈ z_W := z_mem 767 (by decide +kernel) rfl
theorem zw_768 : (Jvm.Cond.instanceMethod ({ cls := "RuleNetworkModel", name := "attractor", desc := "(I)I" } : Jvm.MethodName)) ∈ z_W := z_mem 768 (by decide +kernel) rfl
theorem zw_769 : (Jvm.Cond.selects "RuleNetworkModel" ({ cls := "RuleNetworkModel", name := "attractor", desc := "(I)I" } : Jvm.MethodName) ({ cls := "RuleNetworkModel", name := "attractor", desc := "(I)I" } : Jvm.MethodName)) ∈ z_W := z_mem 769 (by decide +kernel) rfl
theorem zw_770 : (Jvm.Cond.code ({ cls := "RuleNetworkModel", name := "attractor", desc := "(I)I" } : Jvm.MethodName) prog_8_method_41_code (3 : Nat) (Option.some Jvm.ClassFile.FieldType.int)) ∈ z_W := z_mem 770 (by decide +kernel) rfl
theorem zw_771 : (Jvm.Cond.methodLink "RuleNetworkLaw" (77 : Nat) ({ cls := "RuleNetworkModel", name := "basin", desc := "(I)I" } : Jvm.MethodName)) ∈ z_W := z_mem 771 (by decide +kernel) rfl
theorem zw_772 : (Jvm.Cond.instanceMethod ({ cls := "RuleNetworkModel", name := "basin", desc := "(I)I" } : Jvm.MethodName)) ∈ z_W := z_mem 772 (by decide +kernel) rfl
theorem zw_773 : (Jvm.Cond.selects "RuleNetworkModel" ({ cls := "RuleNetworkModel", name := "basin", desc := "(I)I" } : Jvm.MethodName) ({ cls := "RuleNetworkModel", name := "basin", desc := "(I)I" } : Jvm.MethodName)) ∈ z_W := z_mem 773 (by decide +kernel) rfl
theorem zw_774 : (Jvm.Cond.code ({ cls := "RuleNetworkModel", name := "basin", desc := "(I)I" } : Jvm.MethodName) prog_8_method_42_code (4 : Nat) (Option.some Jvm.ClassFile.FieldType.int)) ∈ z_W := z_mem 774 (by decide +kernel) rfl
theorem zw_775 : (Jvm.Cond.methodLink "RuleNetworkLaw" (81 : Nat) ({ cls := "RuleNetworkModel", name := "only", desc := "(I)I" } : Jvm.MethodName)) ∈ z_W := z_mem 775 (by decide +kernel) rfl
theorem zw_776 : (Jvm.Cond.instanceMethod ({ cls := "RuleNetworkModel", name := "only", desc := "(I)I" } : Jvm.MethodName)) ∈ z_W := z_mem 776 (by decide +kernel) rfl
theorem zw_777 : (Jvm.Cond.selects "RuleNetworkModel" ({ cls := "RuleNetworkModel", name := "only", desc := "(I)I" } : Jvm.MethodName) ({ cls := "RuleNetworkModel", name := "only", desc := "(I)I" } : Jvm.MethodName)) ∈ z_W := z_mem 777 (by decide +kernel) rfl
theorem zw_778 : (Jvm.Cond.code ({ cls := "RuleNetworkModel", name := "only", desc := "(I)I" } : Jvm.MethodName) prog_8_method_43_code (6 : Nat) (Option.some Jvm.ClassFile.FieldType.int)) ∈ z_W := z_mem 778 (by decide +kernel) rfl
theorem zw_779 : (Jvm.Cond.methodLink "RuleNetworkLaw" (85 : Nat) ({ cls := "RuleNetworkModel", name := "cubes", desc := "(I)I" } : Jvm.MethodName)) ∈ z_W := z_mem 779 (by decide +kernel) rfl
theorem zw_780 : (Jvm.Cond.instanceMethod ({ cls := "RuleNetworkModel", name := "cubes", desc := "(I)I" } : Jvm.MethodName)) ∈ z_W := z_mem 780 (by decide +kernel) rfl
theorem zw_781 : (Jvm.Cond.selects "RuleNetworkModel" ({ cls := "RuleNetworkModel", name := "cubes", desc := "(I)I" } : Jvm.MethodName) ({ cls := "RuleNetworkModel", name := "cubes", desc := "(I)I" } : Jvm.MethodName)) ∈ z_W := z_mem 781 (by decide +kernel) rfl
theorem zw_782 : (Jvm.Cond.code ({ cls := "RuleNetworkModel", name := "cubes", desc := "(I)I" } : Jvm.MethodName) prog_8_method_48_code (2 : Nat) (Option.some Jvm.ClassFile.FieldType.int)) ∈ z_W := z_mem 782 (by decide +kernel) rfl
theorem zw_783 : (Jvm.Cond.methodLink "RuleNetworkModel" (199 : Nat) ({ cls := "RuleNetworkModel", name := "look", desc := "(II)I" } : Jvm.MethodName)) ∈ z_W := z_mem 783 (by decide +kernel) rfl
theorem zw_785 : (Jvm.Cond.instanceMethod ({ cls := "RuleNetworkModel", name := "look", desc := "(II)I" } : Jvm.MethodName)) ∈ z_W := z_mem 785 (by decide +kernel) rfl
theorem zw_786 : (Jvm.Cond.code ({ cls := "RuleNetworkModel", name := "look", desc := "(II)I" } : Jvm.MethodName) prog_8_method_47_code (8 : Nat) (Option.some Jvm.ClassFile.FieldType.int)) ∈ z_W := z_mem 786 (by decide +kernel) rfl
theorem zw_787 : (Jvm.Cond.methodLink "RuleNetworkModel" (191 : Nat) ({ cls := "RuleNetworkModel", name := "later", desc := "(II)V" } : Jvm.MethodName)) ∈ z_W := z_mem 787 (by decide +kernel) rfl
theorem zw_789 : (Jvm.Cond.instanceMethod ({ cls := "RuleNetworkModel", name := "later", desc := "(II)V" } : Jvm.MethodName)) ∈ z_W := z_mem 789 (by decide +kernel) rfl
theorem zw_790 : (Jvm.Cond.code ({ cls := "RuleNetworkModel", name := "later", desc := "(II)V" } : Jvm.MethodName) prog_8_method_46_code (3 : Nat) (Option.none : Option Jvm.ClassFile.FieldType)) ∈ z_W := z_mem 790 (by decide +kernel) rfl
theorem zw_791 : (Jvm.Cond.methodLink "RuleNetworkModel" (195 : Nat) ({ cls := "RuleNetworkModel", name := "share", desc := "(III)I" } : Jvm.MethodName)) ∈ z_W := z_mem 791 (by decide +kernel) rfl
theorem zw_793 : (Jvm.Cond.instanceMethod ({ cls := "RuleNetworkModel", name := "share", desc := "(III)I" } : Jvm.MethodName)) ∈ z_W := z_mem 793 (by decide +kernel) rfl
theorem zw_794 : (Jvm.Cond.code ({ cls := "RuleNetworkModel", name := "share", desc := "(III)I" } : Jvm.MethodName) prog_8_method_45_code (8 : Nat) (Option.some Jvm.ClassFile.FieldType.int)) ∈ z_W := z_mem 794 (by decide +kernel) rfl
theorem zw_795 : (Jvm.Cond.methodLink "RuleNetworkModel" (185 : Nat) ({ cls := "RuleNetworkModel", name := "fits", desc := "(III)Z" } : Jvm.MethodName)) ∈ z_W := z_mem 795 (by decide +kernel) rfl
theorem zw_796 : (Jvm.Cond.static ({ cls := "RuleNetworkModel", name := "fits", desc := "(III)Z" } : Jvm.MethodName)) ∈ z_W := z_mem 796 (by decide +kernel) rfl
theorem zw_797 : (Jvm.Cond.code ({ cls := "RuleNetworkModel", name := "fits", desc := "(III)Z" } : Jvm.MethodName) prog_8_method_44_code (6 : Nat) (Option.some Jvm.ClassFile.FieldType.boolean)) ∈ z_W := z_mem 797 (by decide +kernel) rfl
theorem zw_798 : (Jvm.Cond.methodLink "RuleNetworkLaw" (89 : Nat) ({ cls := "RuleNetworkModel", name := "cube", desc := "(II)I" } : Jvm.MethodName)) ∈ z_W := z_mem 798 (by decide +kernel) rfl
theorem zw_799 : (Jvm.Cond.instanceMethod ({ cls := "RuleNetworkModel", name := "cube", desc := "(II)I" } : Jvm.MethodName)) ∈ z_W := z_mem 799 (by decide +kernel) rfl
theorem zw_800 : (Jvm.Cond.selects "RuleNetworkModel" ({ cls := "RuleNetworkModel", name := "cube", desc := "(II)I" } : Jvm.MethodName) ({ cls := "RuleNetworkModel", name := "cube", desc := "(II)I" } : Jvm.MethodName)) ∈ z_W := z_mem 800 (by decide +kernel) rfl
theorem zw_801 : (Jvm.Cond.code ({ cls := "RuleNetworkModel", name := "cube", desc := "(II)I" } : Jvm.MethodName) prog_8_method_49_code (3 : Nat) (Option.some Jvm.ClassFile.FieldType.int)) ∈ z_W := z_mem 801 (by decide +kernel) rfl
theorem zw_802 : (Jvm.Cond.constantLong "RuleNetworkLaw" (13 : Nat) (4294967295 : Int64)) ∈ z_W := z_mem 802 (by decide +kernel) rfl
