/-! THE CLAIM OUT OF ONE WALK OF THE LAW'S BODY. Your part is whole_start (and what it stands on); all else here is the same for every law, but numbers. -/
def R_law : String := "RuleNetworkLaw"
def lw_P (b : Addr) (xs : List Int32) (args : Array Value) (s : State) : Prop := args = #[.ref b] ∧ s.IntsAt b xs ∧ xs.length ≤ 1536 ∧ (Jvm.Cond.and given_1 narrow_1).before args s = true
def lw_Q (_ : Array Value) (s : State) (o : Outcome) (t : State) : Prop := o = .returned (some (.int 1)) ∧ Framed s o t [] 600000 7302250
def lw_Z (below : List Frame) (a : Array Value) (s : State) : State → Prop := fun t => ∃ o, t.status = .running ∧ Ended t below o ∧ lw_Q a s o t
/-- the law's own end, with 1 on the stack, nothing written that was there before, its room as the claim has it -/
theorem lw_ret {p : Program} {l : Launch} {e : Env} {s : State} {m : MethodId} {below : List Frame} {meth : Method} {c : Code} {b : Nat} (hx : p.tables.exec = Jvm.exec) (hb : c.code = code) (hr : meth.sig.returnType = ret) (hlocks : meth.locks = false) {pc : Nat} {H : Heap} {ls : Array Slot} (hdg : decode code pc = .ok (.ireturn, 1)) : W p l e room_1 s m #[Value.ref b] below meth c H [] 600000 7302250 (lw_Z below #[Value.ref b] s) (F0 m pc ls [.int 1]) := by
  intro T hT X
  obtain ⟨fs, hret, hrun, hended, hW, hframe⟩ := X.leave (v := some (.int 1)) (hlocks := hlocks) (fun h => by rw [hr] at h; cases h)
  have hmeth' : T.vm.method? m = some meth := X.method'
  refine ⟨T.setFrames fs, ?_, .returned (some (.int 1)), hrun, hended, rfl, ⟨_, rfl⟩, hW, hframe⟩
  jvm_step X.here [X.here.top, hx, hb, hdg, hmeth', hr, ret, narrow_b1]
  (try refine ⟨rfl, ?_⟩); (try refine ⟨rfl, ?_⟩)
  first | (intro acts; rw [hret _ acts rfl rfl rfl]) | rw [hret _ _ rfl rfl rfl]
  exact Steps.refl _
/-- what holds at the law's entry: the machine, the code, the tables' words (any of lw_tbl by 'hts w (by decide +kernel)'), the script of L ints xs at the cell b, what the Statement gives of the start (any of its parts by flat_of_before) -/
def lw_At (p : Program) (s : State) (m : MethodId) (meth : Method) (c : Code) (b L : Nat) (xs : Nat → Int32) : Prop :=
  p.tables.exec = Jvm.exec ∧ c.code = code ∧ meth.sig.returnType = ret ∧ c.maxLocals = 4 ∧ s.vm.findClass R_law = some m.cls ∧ (∀ w ∈ lw_tbl, w.before #[Value.ref b] s = true) ∧ va_X b L xs s s.heap ∧ b < s.heap.size ∧ meth.locks = false ∧ (Jvm.Cond.and given_1 narrow_1).before #[Value.ref b] s = true
abbrev zd_NSRACMQ (cC cI cJ : ClassId) (h_N h_S h_S_characters h_S_names h_S_code h_S_ends h_S_firstUses h_R h_R_names h_R_fixed h_R_low h_R_high h_R_stack h_A h_A_low h_A_high h_A_homes h_A_leasts h_C h_C_numbers h_C_zeros h_C_ones h_M h_M_made h_Q h_Q_text h_Q_names h_Q_low h_Q_high h_Q_fixed h_Q_newNames h_Q_mark h_Q_valueLow h_Q_valueHigh h_Q_reachLow h_Q_reachHigh h_Q_leastOf h_Q_givenTo h_Q_given : Nat) (S_characters : Nat → Int32) (S_length : Int32) (S_at : Int32) (S_names : Nat → Int32) (S_count : Int32) (S_code : Nat → Int32) (S_codeLength : Int32) (S_ends : Nat → Int32) (S_firstUses : Nat → Int32) (R_count : Int32) (R_names : Nat → Int32) (R_fixed : Nat → Int32) (R_low : Nat → Int64) (R_high : Nat → Int64) (R_stack : Nat → Int64) (A_genes : Int32) (A_count : Int32) (A_low : Nat → Int64) (A_high : Nat → Int64) (A_homes : Nat → Int32) (A_leasts : Nat → Int32) (A_states : Int32) (A_lowLeasts : Int64) (A_highLeasts : Int64) (C_numbers : Nat → Int32) (C_zeros : Nat → Int32) (C_ones : Nat → Int32) (C_nodes : Int32) (M_made : Nat → Int32) (M_count : Int32) (M_genes : Int32) (M_low : Int64) (M_high : Int64) (Q_size : Int32) (Q_text : Nat → Int32) (Q_genes : Int32) (Q_names : Nat → Int32) (Q_low : Nat → Int64) (Q_high : Nat → Int64) (Q_fixed : Nat → Int32) (Q_found : Int32) (Q_newNames : Nat → Int32) (Q_nested : Int32) (Q_marks : Int32) (Q_mark : Nat → Int32) (Q_values : Int32) (Q_valueLow : Nat → Int64) (Q_valueHigh : Nat → Int64) (Q_rules : Int32) (Q_analysed : Int32) (Q_one : Int32) (Q_reachLow : Nat → Int64) (Q_reachHigh : Nat → Int64) (Q_attractors : Int32) (Q_leastOf : Nat → Int32) (Q_open : Int32) (Q_givenTo : Nat → Int32) (Q_given : Nat → Int32) : va_W := [(h_N, .inr (5, [.ref h_S, .ref h_R, .ref h_A, .ref h_C, .ref h_M])), (h_S, .inr (0, [.ref h_S_characters, .int S_length, .int S_at, .ref h_S_names, .int S_count, .ref h_S_code, .int S_codeLength, .ref h_S_ends, .ref h_S_firstUses])), (h_S_characters, .inl (cC, 240, .inl S_characters)), (h_S_names, .inl (cC, 7, .inl S_names)), (h_S_code, .inl (cC, 240, .inl S_code)), (h_S_ends, .inl (cI, 7, .inl S_ends)), (h_S_firstUses, .inl (cI, 26, .inl S_firstUses)), (h_R, .inr (1, [.int R_count, .ref h_R_names, .ref h_R_fixed, .ref h_R_low, .ref h_R_high, .ref h_R_stack])), (h_R_names, .inl (cC, 7, .inl R_names)), (h_R_fixed, .inl (cI, 7, .inl R_fixed)), (h_R_low, .inl (cJ, 7, .inr (.inl R_low))), (h_R_high, .inl (cJ, 7, .inr (.inl R_high))), (h_R_stack, .inl (cJ, 240, .inr (.inl R_stack))), (h_A, .inr (2, [.int A_genes, .int A_count, .ref h_A_low, .ref h_A_high, .ref h_A_homes, .ref h_A_leasts, .int A_states, .long A_lowLeasts, .long A_highLeasts])), (h_A_low, .inl (cJ, 128, .inr (.inl A_low))), (h_A_high, .inl (cJ, 128, .inr (.inl A_high))), (h_A_homes, .inl (cI, 128, .inl A_homes)), (h_A_leasts, .inl (cI, 128, .inl A_leasts)), (h_C, .inr (3, [.ref h_C_numbers, .ref h_C_zeros, .ref h_C_ones, .int C_nodes])), (h_C_numbers, .inl (cI, 128, .inl C_numbers)), (h_C_zeros, .inl (cI, 128, .inl C_zeros)), (h_C_ones, .inl (cI, 128, .inl C_ones)), (h_M, .inr (4, [.ref h_M_made, .int M_count, .int M_genes, .long M_low, .long M_high])), (h_M_made, .inl (cI, 128, .inl M_made)), (h_Q, .inr (6, [.int Q_size, .ref h_Q_text, .int Q_genes, .ref h_Q_names, .ref h_Q_low, .ref h_Q_high, .ref h_Q_fixed, .int Q_found, .ref h_Q_newNames, .int Q_nested, .int Q_marks, .ref h_Q_mark, .int Q_values, .ref h_Q_valueLow, .ref h_Q_valueHigh, .int Q_rules, .int Q_analysed, .int Q_one, .ref h_Q_reachLow, .ref h_Q_reachHigh, .int Q_attractors, .ref h_Q_leastOf, .int Q_open, .ref h_Q_givenTo, .ref h_Q_given])), (h_Q_text, .inl (cI, 240, .inl Q_text)), (h_Q_names, .inl (cI, 7, .inl Q_names)), (h_Q_low, .inl (cJ, 7, .inr (.inl Q_low))), (h_Q_high, .inl (cJ, 7, .inr (.inl Q_high))), (h_Q_fixed, .inl (cI, 7, .inl Q_fixed)), (h_Q_newNames, .inl (cI, 7, .inl Q_newNames)), (h_Q_mark, .inl (cI, 64, .inl Q_mark)), (h_Q_valueLow, .inl (cJ, 64, .inr (.inl Q_valueLow))), (h_Q_valueHigh, .inl (cJ, 64, .inr (.inl Q_valueHigh))), (h_Q_reachLow, .inl (cJ, 128, .inr (.inl Q_reachLow))), (h_Q_reachHigh, .inl (cJ, 128, .inr (.inl Q_reachHigh))), (h_Q_leastOf, .inl (cI, 128, .inl Q_leastOf)), (h_Q_givenTo, .inl (cI, 32, .inl Q_givenTo)), (h_Q_given, .inl (cI, 32, .inl Q_given))]
def zf_L_law_374 (k18 : Int32 → Nat → (Nat → Int32) → (Nat → Int32) → Int32 → Int32 → (Nat → Int32) → Int32 → (Nat → Int32) → Int32 → (Nat → Int32) → (Nat → Int32) → Int32 → (Nat → Int32) → (Nat → Int32) → (Nat → Int64) → (Nat → Int64) → (Nat → Int64) → Int32 → Int32 → (Nat → Int64) → (Nat → Int64) → (Nat → Int32) → (Nat → Int32) → Int32 → Int64 → Int64 → (Nat → Int32) → (Nat → Int32) → (Nat → Int32) → Int32 → (Nat → Int32) → Int32 → Int32 → Int64 → Int64 → Int32 → (Nat → Int32) → Int32 → (Nat → Int32) → (Nat → Int64) → (Nat → Int64) → (Nat → Int32) → Int32 → (Nat → Int32) → Int32 → Int32 → (Nat → Int32) → Int32 → (Nat → Int64) → (Nat → Int64) → Int32 → Int32 → Int32 → (Nat → Int64) → (Nat → Int64) → Int32 → (Nat → Int32) → Int32 → (Nat → Int32) → (Nat → Int32) → Option (Int32)) (x3 : Int32) (t0 : Int32) (t2 : Int32) (n_p0 : Nat) (p0 : Nat → Int32) (S_characters : Nat → Int32) (S_length : Int32) (S_at : Int32) (S_names : Nat → Int32) (S_count : Int32) (S_code : Nat → Int32) (S_codeLength : Int32) (S_ends : Nat → Int32) (S_firstUses : Nat → Int32) (R_count : Int32) (R_names : Nat → Int32) (R_fixed : Nat → Int32) (R_low : Nat → Int64) (R_high : Nat → Int64) (R_stack : Nat → Int64) (A_genes : Int32) (A_count : Int32) (A_low : Nat → Int64) (A_high : Nat → Int64) (A_homes : Nat → Int32) (A_leasts : Nat → Int32) (A_states : Int32) (A_lowLeasts : Int64) (A_highLeasts : Int64) (C_numbers : Nat → Int32) (C_zeros : Nat → Int32) (C_ones : Nat → Int32) (C_nodes : Int32) (M_made : Nat → Int32) (M_count : Int32) (M_genes : Int32) (M_low : Int64) (M_high : Int64) (Q_size : Int32) (Q_text : Nat → Int32) (Q_genes : Int32) (Q_names : Nat → Int32) (Q_low : Nat → Int64) (Q_high : Nat → Int64) (Q_fixed : Nat → Int32) (Q_found : Int32) (Q_newNames : Nat → Int32) (Q_nested : Int32) (Q_marks : Int32) (Q_mark : Nat → Int32) (Q_values : Int32) (Q_valueLow : Nat → Int64) (Q_valueHigh : Nat → Int64) (Q_rules : Int32) (Q_analysed : Int32) (Q_one : Int32) (Q_reachLow : Nat → Int64) (Q_reachHigh : Nat → Int64) (Q_attractors : Int32) (Q_leastOf : Nat → Int32) (Q_open : Int32) (Q_givenTo : Nat → Int32) (Q_given : Nat → Int32) : Option (Int32) :=
  z_b7 (zf_Q_analyse t2 Q_genes Q_low Q_high Q_fixed Q_analysed Q_one Q_reachLow Q_reachHigh Q_attractors Q_leastOf) fun r1 Q_analysed_1 Q_one_1 Q_reachLow_1 Q_reachHigh_1 Q_attractors_1 Q_leastOf_1 =>
  if t0 = r1 then
    k18 (x3 + (3 : Int32)) n_p0 p0 S_characters S_length S_at S_names S_count S_code S_codeLength S_ends S_firstUses R_count R_names R_fixed R_low R_high R_stack A_genes A_count A_low A_high A_homes A_leasts A_states A_lowLeasts A_highLeasts C_numbers C_zeros C_ones C_nodes M_made M_count M_genes M_low M_high Q_size Q_text Q_genes Q_names Q_low Q_high Q_fixed Q_found Q_newNames Q_nested Q_marks Q_mark Q_values Q_valueLow Q_valueHigh Q_rules Q_analysed_1 Q_one_1 Q_reachLow_1 Q_reachHigh_1 Q_attractors_1 Q_leastOf_1 Q_open Q_givenTo Q_given
  else
    z_gb (0 : Int32) <| some ((0 : Int32))
def zf_L_law_357 (k18 : Int32 → Nat → (Nat → Int32) → (Nat → Int32) → Int32 → Int32 → (Nat → Int32) → Int32 → (Nat → Int32) → Int32 → (Nat → Int32) → (Nat → Int32) → Int32 → (Nat → Int32) → (Nat → Int32) → (Nat → Int64) → (Nat → Int64) → (Nat → Int64) → Int32 → Int32 → (Nat → Int64) → (Nat → Int64) → (Nat → Int32) → (Nat → Int32) → Int32 → Int64 → Int64 → (Nat → Int32) → (Nat → Int32) → (Nat → Int32) → Int32 → (Nat → Int32) → Int32 → Int32 → Int64 → Int64 → Int32 → (Nat → Int32) → Int32 → (Nat → Int32) → (Nat → Int64) → (Nat → Int64) → (Nat → Int32) → Int32 → (Nat → Int32) → Int32 → Int32 → (Nat → Int32) → Int32 → (Nat → Int64) → (Nat → Int64) → Int32 → Int32 → Int32 → (Nat → Int64) → (Nat → Int64) → Int32 → (Nat → Int32) → Int32 → (Nat → Int32) → (Nat → Int32) → Option (Int32)) (x3 : Int32) (t1 : Int32) (n_p0 : Nat) (p0 : Nat → Int32) (S_characters : Nat → Int32) (S_length : Int32) (S_at : Int32) (S_names : Nat → Int32) (S_count : Int32) (S_code : Nat → Int32) (S_codeLength : Int32) (S_ends : Nat → Int32) (S_firstUses : Nat → Int32) (R_count : Int32) (R_names : Nat → Int32) (R_fixed : Nat → Int32) (R_low : Nat → Int64) (R_high : Nat → Int64) (R_stack : Nat → Int64) (A_genes : Int32) (A_count : Int32) (A_low : Nat → Int64) (A_high : Nat → Int64) (A_homes : Nat → Int32) (A_leasts : Nat → Int32) (A_states : Int32) (A_lowLeasts : Int64) (A_highLeasts : Int64) (C_numbers : Nat → Int32) (C_zeros : Nat → Int32) (C_ones : Nat → Int32) (C_nodes : Int32) (M_made : Nat → Int32) (M_count : Int32) (M_genes : Int32) (M_low : Int64) (M_high : Int64) (Q_size : Int32) (Q_text : Nat → Int32) (Q_genes : Int32) (Q_names : Nat → Int32) (Q_low : Nat → Int64) (Q_high : Nat → Int64) (Q_fixed : Nat → Int32) (Q_found : Int32) (Q_newNames : Nat → Int32) (Q_nested : Int32) (Q_marks : Int32) (Q_mark : Nat → Int32) (Q_values : Int32) (Q_valueLow : Nat → Int64) (Q_valueHigh : Nat → Int64) (Q_rules : Int32) (Q_analysed : Int32) (Q_one : Int32) (Q_reachLow : Nat → Int64) (Q_reachHigh : Nat → Int64) (Q_attractors : Int32) (Q_leastOf : Nat → Int32) (Q_open : Int32) (Q_givenTo : Nat → Int32) (Q_given : Nat → Int32) : Option (Int32) :=
  z_b10 (zf_N_analyse t1 R_count R_fixed R_low R_high A_genes A_count A_low A_high A_homes A_leasts A_states A_lowLeasts A_highLeasts) fun r1 A_genes_1 A_count_1 A_low_1 A_high_1 A_homes_1 A_leasts_1 A_states_1 A_lowLeasts_1 A_highLeasts_1 =>
  z_gd (x3 + (1 : Int32)) n_p0 <|
  if (p0 (x3 + (1 : Int32)).toNatClampNeg) = 0 then
    zf_L_law_374 k18 x3 r1 (0 : Int32) n_p0 p0 S_characters S_length S_at S_names S_count S_code S_codeLength S_ends S_firstUses R_count R_names R_fixed R_low R_high R_stack A_genes_1 A_count_1 A_low_1 A_high_1 A_homes_1 A_leasts_1 A_states_1 A_lowLeasts_1 A_highLeasts_1 C_numbers C_zeros C_ones C_nodes M_made M_count M_genes M_low M_high Q_size Q_text Q_genes Q_names Q_low Q_high Q_fixed Q_found Q_newNames Q_nested Q_marks Q_mark Q_values Q_valueLow Q_valueHigh Q_rules Q_analysed Q_one Q_reachLow Q_reachHigh Q_attractors Q_leastOf Q_open Q_givenTo Q_given
  else
    zf_L_law_374 k18 x3 r1 (1 : Int32) n_p0 p0 S_characters S_length S_at S_names S_count S_code S_codeLength S_ends S_firstUses R_count R_names R_fixed R_low R_high R_stack A_genes_1 A_count_1 A_low_1 A_high_1 A_homes_1 A_leasts_1 A_states_1 A_lowLeasts_1 A_highLeasts_1 C_numbers C_zeros C_ones C_nodes M_made M_count M_genes M_low M_high Q_size Q_text Q_genes Q_names Q_low Q_high Q_fixed Q_found Q_newNames Q_nested Q_marks Q_mark Q_values Q_valueLow Q_valueHigh Q_rules Q_analysed Q_one Q_reachLow Q_reachHigh Q_attractors Q_leastOf Q_open Q_givenTo Q_given
def zf_L_law_18 : Nat → Int32 → Nat → (Nat → Int32) → (Nat → Int32) → Int32 → Int32 → (Nat → Int32) → Int32 → (Nat → Int32) → Int32 → (Nat → Int32) → (Nat → Int32) → Int32 → (Nat → Int32) → (Nat → Int32) → (Nat → Int64) → (Nat → Int64) → (Nat → Int64) → Int32 → Int32 → (Nat → Int64) → (Nat → Int64) → (Nat → Int32) → (Nat → Int32) → Int32 → Int64 → Int64 → (Nat → Int32) → (Nat → Int32) → (Nat → Int32) → Int32 → (Nat → Int32) → Int32 → Int32 → Int64 → Int64 → Int32 → (Nat → Int32) → Int32 → (Nat → Int32) → (Nat → Int64) → (Nat → Int64) → (Nat → Int32) → Int32 → (Nat → Int32) → Int32 → Int32 → (Nat → Int32) → Int32 → (Nat → Int64) → (Nat → Int64) → Int32 → Int32 → Int32 → (Nat → Int64) → (Nat → Int64) → Int32 → (Nat → Int32) → Int32 → (Nat → Int32) → (Nat → Int32) → Option (Int32)
  | 0, _, _, _, _, _, _, _, _, _, _, _, _, _, _, _, _, _, _, _, _, _, _, _, _, _, _, _, _, _, _, _, _, _, _, _, _, _, _, _, _, _, _, _, _, _, _, _, _, _, _, _, _, _, _, _, _, _, _, _, _, _ => none
  | n + 1, x3, n_p0, p0, S_characters, S_length, S_at, S_names, S_count, S_code, S_codeLength, S_ends, S_firstUses, R_count, R_names, R_fixed, R_low, R_high, R_stack, A_genes, A_count, A_low, A_high, A_homes, A_leasts, A_states, A_lowLeasts, A_highLeasts, C_numbers, C_zeros, C_ones, C_nodes, M_made, M_count, M_genes, M_low, M_high, Q_size, Q_text, Q_genes, Q_names, Q_low, Q_high, Q_fixed, Q_found, Q_newNames, Q_nested, Q_marks, Q_mark, Q_values, Q_valueLow, Q_valueHigh, Q_rules, Q_analysed, Q_one, Q_reachLow, Q_reachHigh, Q_attractors, Q_leastOf, Q_open, Q_givenTo, Q_given =>
    if ((Int32.ofNat n_p0) - (3 : Int32)) < x3 then
      z_gb (1 : Int32) <| some ((1 : Int32))
    else
      z_gd x3 n_p0 <|
      if ((p0 x3.toNatClampNeg) &&& (31 : Int32)) = (0 : Int32) then
        z_gd (x3 + (1 : Int32)) n_p0 <|
        z_gd (x3 + (2 : Int32)) n_p0 <|
        z_b3 (zf_N_write (((p0 (x3 + (1 : Int32)).toNatClampNeg).toInt64 <<< ((32 : Int32).toInt64 &&& 63)) ||| ((p0 (x3 + (2 : Int32)).toNatClampNeg).toInt64 &&& (4294967295 : Int64))) S_characters S_length) fun r1 S_characters_1 S_length_1 =>
        z_gd (x3 + (1 : Int32)) n_p0 <|
        z_gd (x3 + (2 : Int32)) n_p0 <|
        z_b3 (zf_Q_write (((p0 (x3 + (1 : Int32)).toNatClampNeg).toInt64 <<< ((32 : Int32).toInt64 &&& 63)) ||| ((p0 (x3 + (2 : Int32)).toNatClampNeg).toInt64 &&& (4294967295 : Int64))) Q_size Q_text) fun r2 Q_size_2 Q_text_2 =>
        if r1 = r2 then
          (zf_L_law_18 n) (x3 + (3 : Int32)) n_p0 p0 S_characters_1 S_length_1 S_at S_names S_count S_code S_codeLength S_ends S_firstUses R_count R_names R_fixed R_low R_high R_stack A_genes A_count A_low A_high A_homes A_leasts A_states A_lowLeasts A_highLeasts C_numbers C_zeros C_ones C_nodes M_made M_count M_genes M_low M_high Q_size_2 Q_text_2 Q_genes Q_names Q_low Q_high Q_fixed Q_found Q_newNames Q_nested Q_marks Q_mark Q_values Q_valueLow Q_valueHigh Q_rules Q_analysed Q_one Q_reachLow Q_reachHigh Q_attractors Q_leastOf Q_open Q_givenTo Q_given
        else
          z_gb (0 : Int32) <| some ((0 : Int32))
      else
        if ((p0 x3.toNatClampNeg) &&& (31 : Int32)) = (1 : Int32) then
          z_b1 (zf_N_wipe S_length) fun S_length_3 =>
          z_b1 (zf_Q_wipe Q_size) fun Q_size_4 =>
          (zf_L_law_18 n) (x3 + (3 : Int32)) n_p0 p0 S_characters S_length_3 S_at S_names S_count S_code S_codeLength S_ends S_firstUses R_count R_names R_fixed R_low R_high R_stack A_genes A_count A_low A_high A_homes A_leasts A_states A_lowLeasts A_highLeasts C_numbers C_zeros C_ones C_nodes M_made M_count M_genes M_low M_high Q_size_4 Q_text Q_genes Q_names Q_low Q_high Q_fixed Q_found Q_newNames Q_nested Q_marks Q_mark Q_values Q_valueLow Q_valueHigh Q_rules Q_analysed Q_one Q_reachLow Q_reachHigh Q_attractors Q_leastOf Q_open Q_givenTo Q_given
        else
          if ((p0 x3.toNatClampNeg) &&& (31 : Int32)) = (2 : Int32) then
            z_b16 (zf_N_load S_characters S_length S_at S_names S_count S_code S_codeLength S_ends S_firstUses R_count R_names R_fixed R_low R_high R_stack A_count A_states) fun r5 S_at_5 S_names_5 S_count_5 S_code_5 S_codeLength_5 S_ends_5 S_firstUses_5 R_count_5 R_names_5 R_fixed_5 R_low_5 R_high_5 R_stack_5 A_count_5 A_states_5 =>
            z_b16 (zf_Q_load Q_size Q_text Q_genes Q_names Q_low Q_high Q_fixed Q_found Q_newNames Q_nested Q_marks Q_mark Q_values Q_valueLow Q_valueHigh Q_rules Q_analysed) fun r6 Q_genes_6 Q_names_6 Q_low_6 Q_high_6 Q_fixed_6 Q_found_6 Q_newNames_6 Q_nested_6 Q_marks_6 Q_mark_6 Q_values_6 Q_valueLow_6 Q_valueHigh_6 Q_rules_6 Q_analysed_6 =>
            if r5 = r6 then
              (zf_L_law_18 n) (x3 + (3 : Int32)) n_p0 p0 S_characters S_length S_at_5 S_names_5 S_count_5 S_code_5 S_codeLength_5 S_ends_5 S_firstUses_5 R_count_5 R_names_5 R_fixed_5 R_low_5 R_high_5 R_stack_5 A_genes A_count_5 A_low A_high A_homes A_leasts A_states_5 A_lowLeasts A_highLeasts C_numbers C_zeros C_ones C_nodes M_made M_count M_genes M_low M_high Q_size Q_text Q_genes_6 Q_names_6 Q_low_6 Q_high_6 Q_fixed_6 Q_found_6 Q_newNames_6 Q_nested_6 Q_marks_6 Q_mark_6 Q_values_6 Q_valueLow_6 Q_valueHigh_6 Q_rules_6 Q_analysed_6 Q_one Q_reachLow Q_reachHigh Q_attractors Q_leastOf Q_open Q_givenTo Q_given
            else
              z_gb (0 : Int32) <| some ((0 : Int32))
          else
            if ((p0 x3.toNatClampNeg) &&& (31 : Int32)) = (3 : Int32) then
              z_b1 (zf_N_genes R_count) fun r7 =>
              z_b1 (zf_Q_genes Q_genes) fun r8 =>
              if r7 = r8 then
                (zf_L_law_18 n) (x3 + (3 : Int32)) n_p0 p0 S_characters S_length S_at S_names S_count S_code S_codeLength S_ends S_firstUses R_count R_names R_fixed R_low R_high R_stack A_genes A_count A_low A_high A_homes A_leasts A_states A_lowLeasts A_highLeasts C_numbers C_zeros C_ones C_nodes M_made M_count M_genes M_low M_high Q_size Q_text Q_genes Q_names Q_low Q_high Q_fixed Q_found Q_newNames Q_nested Q_marks Q_mark Q_values Q_valueLow Q_valueHigh Q_rules Q_analysed Q_one Q_reachLow Q_reachHigh Q_attractors Q_leastOf Q_open Q_givenTo Q_given
              else
                z_gb (0 : Int32) <| some ((0 : Int32))
            else
              if ((p0 x3.toNatClampNeg) &&& (31 : Int32)) = (4 : Int32) then
                z_gd (x3 + (1 : Int32)) n_p0 <|
                z_b1 (zf_N_gene ((p0 (x3 + (1 : Int32)).toNatClampNeg).toUInt32 % 65536).toInt32 R_count R_names) fun r9 =>
                z_gd (x3 + (1 : Int32)) n_p0 <|
                z_b1 (zf_Q_gene ((p0 (x3 + (1 : Int32)).toNatClampNeg).toUInt32 % 65536).toInt32 Q_genes Q_names) fun r10 =>
                if r9 = r10 then
                  (zf_L_law_18 n) (x3 + (3 : Int32)) n_p0 p0 S_characters S_length S_at S_names S_count S_code S_codeLength S_ends S_firstUses R_count R_names R_fixed R_low R_high R_stack A_genes A_count A_low A_high A_homes A_leasts A_states A_lowLeasts A_highLeasts C_numbers C_zeros C_ones C_nodes M_made M_count M_genes M_low M_high Q_size Q_text Q_genes Q_names Q_low Q_high Q_fixed Q_found Q_newNames Q_nested Q_marks Q_mark Q_values Q_valueLow Q_valueHigh Q_rules Q_analysed Q_one Q_reachLow Q_reachHigh Q_attractors Q_leastOf Q_open Q_givenTo Q_given
                else
                  z_gb (0 : Int32) <| some ((0 : Int32))
              else
                if ((p0 x3.toNatClampNeg) &&& (31 : Int32)) = (5 : Int32) then
                  z_gd (x3 + (1 : Int32)) n_p0 <|
                  z_gd (x3 + (2 : Int32)) n_p0 <|
                  z_b4 (zf_N_fix (p0 (x3 + (1 : Int32)).toNatClampNeg) (p0 (x3 + (2 : Int32)).toNatClampNeg) R_count R_fixed A_count A_states) fun r11 R_fixed_11 A_count_11 A_states_11 =>
                  z_gd (x3 + (1 : Int32)) n_p0 <|
                  z_gd (x3 + (2 : Int32)) n_p0 <|
                  z_b3 (zf_Q_fix (p0 (x3 + (1 : Int32)).toNatClampNeg) (p0 (x3 + (2 : Int32)).toNatClampNeg) Q_genes Q_fixed Q_analysed) fun r12 Q_fixed_12 Q_analysed_12 =>
                  if r11 = r12 then
                    (zf_L_law_18 n) (x3 + (3 : Int32)) n_p0 p0 S_characters S_length S_at S_names S_count S_code S_codeLength S_ends S_firstUses R_count R_names R_fixed_11 R_low R_high R_stack A_genes A_count_11 A_low A_high A_homes A_leasts A_states_11 A_lowLeasts A_highLeasts C_numbers C_zeros C_ones C_nodes M_made M_count M_genes M_low M_high Q_size Q_text Q_genes Q_names Q_low Q_high Q_fixed_12 Q_found Q_newNames Q_nested Q_marks Q_mark Q_values Q_valueLow Q_valueHigh Q_rules Q_analysed_12 Q_one Q_reachLow Q_reachHigh Q_attractors Q_leastOf Q_open Q_givenTo Q_given
                  else
                    z_gb (0 : Int32) <| some ((0 : Int32))
                else
                  if ((p0 x3.toNatClampNeg) &&& (31 : Int32)) = (6 : Int32) then
                    z_gd (x3 + (1 : Int32)) n_p0 <|
                    z_gd (x3 + (2 : Int32)) n_p0 <|
                    z_b1 (zf_N_value (p0 (x3 + (1 : Int32)).toNatClampNeg) (p0 (x3 + (2 : Int32)).toNatClampNeg) R_count R_fixed R_low R_high) fun r13 =>
                    z_gd (x3 + (1 : Int32)) n_p0 <|
                    z_gd (x3 + (2 : Int32)) n_p0 <|
                    z_b1 (zf_Q_value (p0 (x3 + (1 : Int32)).toNatClampNeg) (p0 (x3 + (2 : Int32)).toNatClampNeg) Q_genes Q_low Q_high Q_fixed) fun r14 =>
                    if r13 = r14 then
                      (zf_L_law_18 n) (x3 + (3 : Int32)) n_p0 p0 S_characters S_length S_at S_names S_count S_code S_codeLength S_ends S_firstUses R_count R_names R_fixed R_low R_high R_stack A_genes A_count A_low A_high A_homes A_leasts A_states A_lowLeasts A_highLeasts C_numbers C_zeros C_ones C_nodes M_made M_count M_genes M_low M_high Q_size Q_text Q_genes Q_names Q_low Q_high Q_fixed Q_found Q_newNames Q_nested Q_marks Q_mark Q_values Q_valueLow Q_valueHigh Q_rules Q_analysed Q_one Q_reachLow Q_reachHigh Q_attractors Q_leastOf Q_open Q_givenTo Q_given
                    else
                      z_gb (0 : Int32) <| some ((0 : Int32))
                  else
                    if ((p0 x3.toNatClampNeg) &&& (31 : Int32)) = (7 : Int32) then
                      z_gd (x3 + (1 : Int32)) n_p0 <|
                      z_b1 (zf_N_next (p0 (x3 + (1 : Int32)).toNatClampNeg) R_count R_fixed R_low R_high) fun r15 =>
                      z_gd (x3 + (1 : Int32)) n_p0 <|
                      z_b1 (zf_Q_next (p0 (x3 + (1 : Int32)).toNatClampNeg) Q_genes Q_low Q_high Q_fixed) fun r16 =>
                      if r15 = r16 then
                        (zf_L_law_18 n) (x3 + (3 : Int32)) n_p0 p0 S_characters S_length S_at S_names S_count S_code S_codeLength S_ends S_firstUses R_count R_names R_fixed R_low R_high R_stack A_genes A_count A_low A_high A_homes A_leasts A_states A_lowLeasts A_highLeasts C_numbers C_zeros C_ones C_nodes M_made M_count M_genes M_low M_high Q_size Q_text Q_genes Q_names Q_low Q_high Q_fixed Q_found Q_newNames Q_nested Q_marks Q_mark Q_values Q_valueLow Q_valueHigh Q_rules Q_analysed Q_one Q_reachLow Q_reachHigh Q_attractors Q_leastOf Q_open Q_givenTo Q_given
                      else
                        z_gb (0 : Int32) <| some ((0 : Int32))
                    else
                      if ((p0 x3.toNatClampNeg) &&& (31 : Int32)) = (8 : Int32) then
                        z_gd (x3 + (1 : Int32)) n_p0 <|
                        z_b5 (zf_N_spread (p0 (x3 + (1 : Int32)).toNatClampNeg) R_count R_fixed R_low R_high C_numbers C_zeros C_ones C_nodes) fun r17 C_numbers_17 C_zeros_17 C_ones_17 C_nodes_17 =>
                        z_gd (x3 + (1 : Int32)) n_p0 <|
                        z_b1 (zf_Q_spread (p0 (x3 + (1 : Int32)).toNatClampNeg) Q_genes Q_low Q_high Q_fixed) fun r18 =>
                        if r17 = r18 then
                          (zf_L_law_18 n) (x3 + (3 : Int32)) n_p0 p0 S_characters S_length S_at S_names S_count S_code S_codeLength S_ends S_firstUses R_count R_names R_fixed R_low R_high R_stack A_genes A_count A_low A_high A_homes A_leasts A_states A_lowLeasts A_highLeasts C_numbers_17 C_zeros_17 C_ones_17 C_nodes_17 M_made M_count M_genes M_low M_high Q_size Q_text Q_genes Q_names Q_low Q_high Q_fixed Q_found Q_newNames Q_nested Q_marks Q_mark Q_values Q_valueLow Q_valueHigh Q_rules Q_analysed Q_one Q_reachLow Q_reachHigh Q_attractors Q_leastOf Q_open Q_givenTo Q_given
                        else
                          z_gb (0 : Int32) <| some ((0 : Int32))
                      else
                        if ((p0 x3.toNatClampNeg) &&& (31 : Int32)) = (9 : Int32) then
                          z_gd (x3 + (1 : Int32)) n_p0 <|
                          if (p0 (x3 + (1 : Int32)).toNatClampNeg) = 0 then
                            zf_L_law_357 (zf_L_law_18 n) x3 (0 : Int32) n_p0 p0 S_characters S_length S_at S_names S_count S_code S_codeLength S_ends S_firstUses R_count R_names R_fixed R_low R_high R_stack A_genes A_count A_low A_high A_homes A_leasts A_states A_lowLeasts A_highLeasts C_numbers C_zeros C_ones C_nodes M_made M_count M_genes M_low M_high Q_size Q_text Q_genes Q_names Q_low Q_high Q_fixed Q_found Q_newNames Q_nested Q_marks Q_mark Q_values Q_valueLow Q_valueHigh Q_rules Q_analysed Q_one Q_reachLow Q_reachHigh Q_attractors Q_leastOf Q_open Q_givenTo Q_given
                          else
                            zf_L_law_357 (zf_L_law_18 n) x3 (1 : Int32) n_p0 p0 S_characters S_length S_at S_names S_count S_code S_codeLength S_ends S_firstUses R_count R_names R_fixed R_low R_high R_stack A_genes A_count A_low A_high A_homes A_leasts A_states A_lowLeasts A_highLeasts C_numbers C_zeros C_ones C_nodes M_made M_count M_genes M_low M_high Q_size Q_text Q_genes Q_names Q_low Q_high Q_fixed Q_found Q_newNames Q_nested Q_marks Q_mark Q_values Q_valueLow Q_valueHigh Q_rules Q_analysed Q_one Q_reachLow Q_reachHigh Q_attractors Q_leastOf Q_open Q_givenTo Q_given
                        else
                          if ((p0 x3.toNatClampNeg) &&& (31 : Int32)) = (10 : Int32) then
                            z_gd (x3 + (1 : Int32)) n_p0 <|
                            z_b1 (zf_N_size (p0 (x3 + (1 : Int32)).toNatClampNeg) A_count A_low A_high A_leasts) fun r19 =>
                            z_gd (x3 + (1 : Int32)) n_p0 <|
                            z_b1 (zf_Q_size (p0 (x3 + (1 : Int32)).toNatClampNeg) Q_genes Q_analysed Q_reachLow Q_reachHigh Q_attractors Q_leastOf) fun r20 =>
                            if r19 = r20 then
                              (zf_L_law_18 n) (x3 + (3 : Int32)) n_p0 p0 S_characters S_length S_at S_names S_count S_code S_codeLength S_ends S_firstUses R_count R_names R_fixed R_low R_high R_stack A_genes A_count A_low A_high A_homes A_leasts A_states A_lowLeasts A_highLeasts C_numbers C_zeros C_ones C_nodes M_made M_count M_genes M_low M_high Q_size Q_text Q_genes Q_names Q_low Q_high Q_fixed Q_found Q_newNames Q_nested Q_marks Q_mark Q_values Q_valueLow Q_valueHigh Q_rules Q_analysed Q_one Q_reachLow Q_reachHigh Q_attractors Q_leastOf Q_open Q_givenTo Q_given
                            else
                              z_gb (0 : Int32) <| some ((0 : Int32))
                          else
                            if ((p0 x3.toNatClampNeg) &&& (31 : Int32)) = (11 : Int32) then
                              z_gd (x3 + (1 : Int32)) n_p0 <|
                              z_b1 (zf_N_least (p0 (x3 + (1 : Int32)).toNatClampNeg) A_count A_leasts) fun r21 =>
                              z_gd (x3 + (1 : Int32)) n_p0 <|
                              z_b1 (zf_Q_least (p0 (x3 + (1 : Int32)).toNatClampNeg) Q_analysed Q_attractors Q_leastOf) fun r22 =>
                              if r21 = r22 then
                                (zf_L_law_18 n) (x3 + (3 : Int32)) n_p0 p0 S_characters S_length S_at S_names S_count S_code S_codeLength S_ends S_firstUses R_count R_names R_fixed R_low R_high R_stack A_genes A_count A_low A_high A_homes A_leasts A_states A_lowLeasts A_highLeasts C_numbers C_zeros C_ones C_nodes M_made M_count M_genes M_low M_high Q_size Q_text Q_genes Q_names Q_low Q_high Q_fixed Q_found Q_newNames Q_nested Q_marks Q_mark Q_values Q_valueLow Q_valueHigh Q_rules Q_analysed Q_one Q_reachLow Q_reachHigh Q_attractors Q_leastOf Q_open Q_givenTo Q_given
                              else
                                z_gb (0 : Int32) <| some ((0 : Int32))
                            else
                              if ((p0 x3.toNatClampNeg) &&& (31 : Int32)) = (12 : Int32) then
                                z_gd (x3 + (1 : Int32)) n_p0 <|
                                z_b1 (zf_N_attractor (p0 (x3 + (1 : Int32)).toNatClampNeg) A_homes A_states) fun r23 =>
                                z_gd (x3 + (1 : Int32)) n_p0 <|
                                z_b1 (zf_Q_attractor (p0 (x3 + (1 : Int32)).toNatClampNeg) Q_genes Q_analysed Q_reachLow Q_reachHigh Q_attractors Q_leastOf) fun r24 =>
                                if r23 = r24 then
                                  (zf_L_law_18 n) (x3 + (3 : Int32)) n_p0 p0 S_characters S_length S_at S_names S_count S_code S_codeLength S_ends S_firstUses R_count R_names R_fixed R_low R_high R_stack A_genes A_count A_low A_high A_homes A_leasts A_states A_lowLeasts A_highLeasts C_numbers C_zeros C_ones C_nodes M_made M_count M_genes M_low M_high Q_size Q_text Q_genes Q_names Q_low Q_high Q_fixed Q_found Q_newNames Q_nested Q_marks Q_mark Q_values Q_valueLow Q_valueHigh Q_rules Q_analysed Q_one Q_reachLow Q_reachHigh Q_attractors Q_leastOf Q_open Q_givenTo Q_given
                                else
                                  z_gb (0 : Int32) <| some ((0 : Int32))
                              else
                                if ((p0 x3.toNatClampNeg) &&& (31 : Int32)) = (13 : Int32) then
                                  z_gd (x3 + (1 : Int32)) n_p0 <|
                                  z_b1 (zf_N_basin (p0 (x3 + (1 : Int32)).toNatClampNeg) A_count A_low A_high A_leasts A_states) fun r25 =>
                                  z_gd (x3 + (1 : Int32)) n_p0 <|
                                  z_b1 (zf_Q_basin (p0 (x3 + (1 : Int32)).toNatClampNeg) Q_genes Q_analysed Q_reachLow Q_reachHigh Q_attractors Q_leastOf) fun r26 =>
                                  if r25 = r26 then
                                    (zf_L_law_18 n) (x3 + (3 : Int32)) n_p0 p0 S_characters S_length S_at S_names S_count S_code S_codeLength S_ends S_firstUses R_count R_names R_fixed R_low R_high R_stack A_genes A_count A_low A_high A_homes A_leasts A_states A_lowLeasts A_highLeasts C_numbers C_zeros C_ones C_nodes M_made M_count M_genes M_low M_high Q_size Q_text Q_genes Q_names Q_low Q_high Q_fixed Q_found Q_newNames Q_nested Q_marks Q_mark Q_values Q_valueLow Q_valueHigh Q_rules Q_analysed Q_one Q_reachLow Q_reachHigh Q_attractors Q_leastOf Q_open Q_givenTo Q_given
                                  else
                                    z_gb (0 : Int32) <| some ((0 : Int32))
                                else
                                  if ((p0 x3.toNatClampNeg) &&& (31 : Int32)) = (14 : Int32) then
                                    z_gd (x3 + (1 : Int32)) n_p0 <|
                                    z_b1 (zf_N_only (p0 (x3 + (1 : Int32)).toNatClampNeg) A_count A_low A_high A_leasts A_states A_lowLeasts A_highLeasts) fun r27 =>
                                    z_gd (x3 + (1 : Int32)) n_p0 <|
                                    z_b1 (zf_Q_only (p0 (x3 + (1 : Int32)).toNatClampNeg) Q_genes Q_analysed Q_reachLow Q_reachHigh Q_attractors Q_leastOf) fun r28 =>
                                    if r27 = r28 then
                                      (zf_L_law_18 n) (x3 + (3 : Int32)) n_p0 p0 S_characters S_length S_at S_names S_count S_code S_codeLength S_ends S_firstUses R_count R_names R_fixed R_low R_high R_stack A_genes A_count A_low A_high A_homes A_leasts A_states A_lowLeasts A_highLeasts C_numbers C_zeros C_ones C_nodes M_made M_count M_genes M_low M_high Q_size Q_text Q_genes Q_names Q_low Q_high Q_fixed Q_found Q_newNames Q_nested Q_marks Q_mark Q_values Q_valueLow Q_valueHigh Q_rules Q_analysed Q_one Q_reachLow Q_reachHigh Q_attractors Q_leastOf Q_open Q_givenTo Q_given
                                    else
                                      z_gb (0 : Int32) <| some ((0 : Int32))
                                  else
                                    if ((p0 x3.toNatClampNeg) &&& (31 : Int32)) = (15 : Int32) then
                                      z_gd (x3 + (1 : Int32)) n_p0 <|
                                      z_b6 (zf_N_cubes (p0 (x3 + (1 : Int32)).toNatClampNeg) A_genes A_count A_low A_high A_leasts M_made M_count M_genes M_low M_high) fun r29 M_made_29 M_count_29 M_genes_29 M_low_29 M_high_29 =>
                                      z_gd (x3 + (1 : Int32)) n_p0 <|
                                      z_b4 (zf_Q_cubes (p0 (x3 + (1 : Int32)).toNatClampNeg) Q_genes Q_analysed Q_reachLow Q_reachHigh Q_attractors Q_leastOf Q_open Q_givenTo Q_given) fun r30 Q_open_30 Q_givenTo_30 Q_given_30 =>
                                      if r29 = r30 then
                                        (zf_L_law_18 n) (x3 + (3 : Int32)) n_p0 p0 S_characters S_length S_at S_names S_count S_code S_codeLength S_ends S_firstUses R_count R_names R_fixed R_low R_high R_stack A_genes A_count A_low A_high A_homes A_leasts A_states A_lowLeasts A_highLeasts C_numbers C_zeros C_ones C_nodes M_made_29 M_count_29 M_genes_29 M_low_29 M_high_29 Q_size Q_text Q_genes Q_names Q_low Q_high Q_fixed Q_found Q_newNames Q_nested Q_marks Q_mark Q_values Q_valueLow Q_valueHigh Q_rules Q_analysed Q_one Q_reachLow Q_reachHigh Q_attractors Q_leastOf Q_open_30 Q_givenTo_30 Q_given_30
                                      else
                                        z_gb (0 : Int32) <| some ((0 : Int32))
                                    else
                                      if ((p0 x3.toNatClampNeg) &&& (31 : Int32)) = (16 : Int32) then
                                        z_gd (x3 + (1 : Int32)) n_p0 <|
                                        z_gd (x3 + (2 : Int32)) n_p0 <|
                                        z_b6 (zf_N_cube (p0 (x3 + (1 : Int32)).toNatClampNeg) (p0 (x3 + (2 : Int32)).toNatClampNeg) A_genes A_count A_low A_high A_leasts M_made M_count M_genes M_low M_high) fun r31 M_made_31 M_count_31 M_genes_31 M_low_31 M_high_31 =>
                                        z_gd (x3 + (1 : Int32)) n_p0 <|
                                        z_gd (x3 + (2 : Int32)) n_p0 <|
                                        z_b4 (zf_Q_cube (p0 (x3 + (1 : Int32)).toNatClampNeg) (p0 (x3 + (2 : Int32)).toNatClampNeg) Q_genes Q_analysed Q_reachLow Q_reachHigh Q_attractors Q_leastOf Q_open Q_givenTo Q_given) fun r32 Q_open_32 Q_givenTo_32 Q_given_32 =>
                                        if r31 = r32 then
                                          (zf_L_law_18 n) (x3 + (3 : Int32)) n_p0 p0 S_characters S_length S_at S_names S_count S_code S_codeLength S_ends S_firstUses R_count R_names R_fixed R_low R_high R_stack A_genes A_count A_low A_high A_homes A_leasts A_states A_lowLeasts A_highLeasts C_numbers C_zeros C_ones C_nodes M_made_31 M_count_31 M_genes_31 M_low_31 M_high_31 Q_size Q_text Q_genes Q_names Q_low Q_high Q_fixed Q_found Q_newNames Q_nested Q_marks Q_mark Q_values Q_valueLow Q_valueHigh Q_rules Q_analysed Q_one Q_reachLow Q_reachHigh Q_attractors Q_leastOf Q_open_32 Q_givenTo_32 Q_given_32
                                        else
                                          z_gb (0 : Int32) <| some ((0 : Int32))
                                      else
                                        (zf_L_law_18 n) (x3 + (3 : Int32)) n_p0 p0 S_characters S_length S_at S_names S_count S_code S_codeLength S_ends S_firstUses R_count R_names R_fixed R_low R_high R_stack A_genes A_count A_low A_high A_homes A_leasts A_states A_lowLeasts A_highLeasts C_numbers C_zeros C_ones C_nodes M_made M_count M_genes M_low M_high Q_size Q_text Q_genes Q_names Q_low Q_high Q_fixed Q_found Q_newNames Q_nested Q_marks Q_mark Q_values Q_valueLow Q_valueHigh Q_rules Q_analysed Q_one Q_reachLow Q_reachHigh Q_attractors Q_leastOf Q_open Q_givenTo Q_given
