set_option maxHeartbeats 4000000 in
set_option maxRecDepth 100000 in
theorem zk_R_leafBits_55 {p : Program} {l : Launch} {e : Env} {s : State} {m : MethodId} {args : Array Value} {below : List Frame} {meth : Method} {c : Code} {dC : Nat → ClassId} {dI : Nat → Nat → Nat} {cC cI cJ : ClassId} {A : Nat → Prop} {tp : Nat} {h_S h_S_characters h_S_names h_S_code h_S_ends h_S_firstUses : Nat} {S_characters : Nat → Int32} {S_length : Int32} {S_at : Int32} {S_code : Nat → Int32} {S_codeLength : Int32} {S_ends : Nat → Int32} {S_firstUses : Nat → Int32} {o_r : Int64} (C0 : z_kx p s m args meth c "RuleNetwork$Rules" zb_R_leafBits 5 (some .long)) (hK : va_K (dC, dI) vwCl (z_tys cC cI cJ) s) (hA : ∀ q : Nat, s.heap.size ≤ q → A q) (hX : z_X tp A s) :
    ∀ (x2 : Int64) (S_names : Nat → Int32) (S_count : Int32) (H : Heap) (locs : List Loc) (ls : Array Slot), va_P (dC, dI) vwCl (zd_S cC cI cJ h_S h_S_characters h_S_names h_S_code h_S_ends h_S_firstUses S_characters S_length S_at S_names S_count S_code S_codeLength S_ends S_firstUses) H → va_D A (zd_S cC cI cJ h_S h_S_characters h_S_names h_S_code h_S_ends h_S_firstUses S_characters S_length S_at S_names S_count S_code S_codeLength S_ends S_firstUses) → va_S A s.heap H locs → lv_has ls 5 [(2, .long x2)] → zf_R_leafBits_55 x2 S_names S_count = some (o_r) → W p l e (headSpec zs_R_leafBits rm_R_leafBits).room s m args below meth c H locs 0 0 (MQ below (zq_R_leafBits dC dI cC cI cJ h_S h_S_characters h_S_names h_S_code h_S_ends h_S_firstUses S_characters S_length S_at S_names S_count S_code S_codeLength S_ends S_firstUses o_r A) args s 0 0 A) (F0 m 55 ls []) := by
  obtain ⟨hx, hb, hr, hml, hown, ht, hlocks⟩ := id C0
  intro x2 S_names S_count H locs ls hP hD hS hl h
  rw [zf_R_leafBits_55] at h
  refine lv_lload_n hx hb ze_R_leafBits_55 rfl (lv_at hl 0 rfl) ?_
  cases h
  exact W.lret hx hb hr (fun t ht9 hW => ⟨⟨_, (), rfl, rfl, by rw [ht9]; exact hP, hD⟩, hS.F ht9⟩) hS.2.2 ze_R_leafBits_56
set_option maxHeartbeats 4000000 in
set_option maxRecDepth 100000 in
theorem zc_R_leafBits (l : Launch) (dC : Nat → ClassId) (dI : Nat → Nat → Nat) (cC : ClassId) (cI : ClassId) (cJ : ClassId) (tp : Nat) (h_S : Nat) (h_S_characters : Nat) (h_S_names : Nat) (h_S_code : Nat) (h_S_ends : Nat) (h_S_firstUses : Nat) (sz : Nat) (S_characters : Nat → Int32) (S_length : Int32) (S_at : Int32) (S_names : Nat → Int32) (S_count : Int32) (S_code : Nat → Int32) (S_codeLength : Int32) (S_ends : Nat → Int32) (S_firstUses : Nat → Int32) (x1 : Int32) (x2 : Int64) (o_r : Int64) (h : zf_R_leafBits x1 x2 S_names S_count = some (o_r)) : Met l zy_R_leafBits zs_R_leafBits (rm_R_leafBits) (va_Pc [.ref h_S, .int x1, .long x2] (fun U => U.heap.size = sz ∧ va_P (dC, dI) vwCl (zd_S cC cI cJ h_S h_S_characters h_S_names h_S_code h_S_ends h_S_firstUses S_characters S_length S_at S_names S_count S_code S_codeLength S_ends S_firstUses) U.heap ∧ va_K (dC, dI) vwCl (z_tys cC cI cJ) U ∧ va_D (fun _ => True) (zd_S cC cI cJ h_S h_S_characters h_S_names h_S_code h_S_ends h_S_firstUses S_characters S_length S_at S_names S_count S_code S_codeLength S_ends S_firstUses) ∧ z_X tp (va_A (zd_S cC cI cJ h_S h_S_characters h_S_names h_S_code h_S_ends h_S_firstUses S_characters S_length S_at S_names S_count S_code S_codeLength S_ends S_firstUses) sz) U)) (zq_R_leafBits dC dI cC cI cJ h_S h_S_characters h_S_names h_S_code h_S_ends h_S_firstUses S_characters S_length S_at S_names S_count S_code S_codeLength S_ends S_firstUses o_r (va_A (zd_S cC cI cJ h_S h_S_characters h_S_names h_S_code h_S_ends h_S_firstUses S_characters S_length S_at S_names S_count S_code S_codeLength S_ends S_firstUses) sz)) 0 0 (va_A (zd_S cC cI cJ h_S h_S_characters h_S_names h_S_code h_S_ends h_S_firstUses S_characters S_length S_at S_names S_count S_code S_codeLength S_ends S_firstUses) sz) := by
  refine Met.ofW (cc := zb_R_leafBits) (maxL := 5) (ret := (some .long)) (by decide) rfl ?_
  intro p e s m args below meth c s₁ B hml hv
  obtain ⟨rfl, hsz, hP, hK, hD0, hX⟩ := hv
  have hx := B.exec
  have hb := B.bytes
  have hr := B.returns
  have hts := atoms_spec (ws := zs_R_leafBits) B.pre
  have ht : ∀ w ∈ z_W, w.before _ s = true := fun w h => hts w (List.mem_cons_of_mem _ h)
  have hown : s.vm.findClass "RuleNetwork$Rules" = some m.cls := findClass_of_methodNamed B.named
  have hlocks := B.notSynchronized
  have C0 : z_kx p s m _ meth c "RuleNetwork$Rules" zb_R_leafBits 5 (some .long) := ⟨hx, hb, hr, hml, hown, ht, hlocks⟩
  subst hsz
  have hD := hD0.self (sz := s.heap.size)
  generalize hAe : va_A (zd_S cC cI cJ h_S h_S_characters h_S_names h_S_code h_S_ends h_S_firstUses S_characters S_length S_at S_names S_count S_code S_codeLength S_ends S_firstUses) s.heap.size = A at hD hX ⊢
  have hA : ∀ q : Nat, s.heap.size ≤ q → A q := fun q h => by rw [← hAe]; exact Or.inr h
  have hS : va_S A s.heap s.heap [] := va_S.rf
  have hl := lv_entry ([.ref h_S, .int x1, .long x2]) (n := 5) (Nat.le_of_ble_eq_true rfl)
  rw [lg_entry_eq]
  generalize (lg_sl ([.ref h_S, .int x1, .long x2]) ++ List.replicate (5 - (lg_sl ([.ref h_S, .int x1, .long x2])).length) Slot.unset).toArray = ls at hl ⊢
  have hl : lv_has ls 5 [(0, .ref h_S), (1, .int x1), (2, .long x2)] := hl
  rw [zf_R_leafBits] at h
  refine lv_iload_n hx hb ze_R_leafBits_0 rfl (lv_at hl 1 rfl) ?_
  refine lv_bipush (v := (48 : Int32)) hx hb ze_R_leafBits_1 (by decide) ?_
  refine lv_icmp_ne (tgt := 8) hx hb ze_R_leafBits_3 (by decide) (fun c1 => ?_) (fun c1 => ?_)
  · replace h := z_it_f c1 h
    refine lv_iload_n hx hb ze_R_leafBits_8 rfl (lv_at hl 1 rfl) ?_
    refine lv_bipush (v := (49 : Int32)) hx hb ze_R_leafBits_9 (by decide) ?_
    refine lv_icmp_ne (tgt := 18) hx hb ze_R_leafBits_11 (by decide) (fun c2 => ?_) (fun c2 => ?_)
    · replace h := z_it_f c2 h
      refine lv_iload_n hx hb ze_R_leafBits_18 rfl (lv_at hl 1 rfl) ?_
      refine lv_aload_n hx hb ze_R_leafBits_19 rfl (lv_at hl 0 rfl) ?_
      refine va_get (D := (dC, dI)) (ci := 0) (v := .ref h_S_names) (C := "RuleNetwork$Script") (T := zT_S) (N := 9) hx hb ht zin_S hown hK hP 0 rfl rfl 3 (by decide) (ht _ zw_82) (fun _ h9 => h9) rfl ze_R_leafBits_20 ?_
      refine lv_aload_n hx hb ze_R_leafBits_23 rfl (lv_at hl 0 rfl) ?_
      refine va_get (D := (dC, dI)) (ci := 0) (v := .int S_count) (C := "RuleNetwork$Script") (T := zT_S) (N := 9) hx hb ht zin_S hown hK hP 0 rfl rfl 4 (by decide) (ht _ zw_83) (fun _ h9 => h9) rfl ze_R_leafBits_24 ?_
      obtain ⟨r3, q3, h⟩ := z_b1_some h
      have hPc := hP.sub (ws' := (zd_pC cC cI cJ h_S_names 7 S_names)) [2] rfl
      have hDc := hD.sub (ws' := (zd_pC cC cI cJ h_S_names 7 S_names)) [2] (by decide) rfl
      have hFc := va_free (wc := (zd_pC cC cI cJ h_S_names 7 S_names)) hD hS hA [2] rfl
      -- CALL N_indexOf
      refine va_calli (va_runSN (As := [.int x1, .ref h_S_names, .int S_count]) (rest := []) ⟨hx, hb, hml, hown, ht⟩ (zc_N_indexOf l dC dI cC cI cJ tp h_S_names 7 s.heap.size S_names x1 S_count r3 q3) ⟨va_cnB 3 ht (z_gC zw_293) rfl rfl rfl (show va_Nw (.methodLinkNest "RuleNetwork$Rules" 53 zy_N_indexOf "RuleNetwork") s from hX.1 _ (List.mem_of_getElem? (i := 6) rfl)) (ht _ zw_55) zh_N_indexOf ⟨Nat.le_of_ble_eq_true rfl, Nat.le_of_ble_eq_true rfl⟩, ht _ zw_292, trivial⟩ ⟨fun a U g mk q => by obtain ⟨z0, z1, zP, zK, zD, zX⟩ := q; exact ⟨z0, z1, zP, va_K.moved (u := U) (U := U.calling g mk a) (Vm.Alike.refl U.vm) zK, zD, z_X.same rfl rfl zX⟩, fun U hU hW => ⟨rfl, by rw [hU], by rw [hU]; exact hPc, va_K.moved hW.alike hK, hDc.weaken (fun _ _ _ _ => trivial), hX.warm hS hFc hU hW⟩⟩ rfl rfl hl.1 rfl (lv_room (Nat.le_of_ble_eq_true rfl)) ze_R_leafBits_27 ⟨Nat.zero_le _, Nat.zero_le _⟩) hS (fun q _ h => hFc q h) hFc (fun rv u t H1 locs ht9 hvm hw hB hz1 hk1 hS => ?_)
      obtain ⟨hP1, hD1⟩ := hB
      rw [ht9] at hP1
      have hw' : r3 = rv := Eq.symm hw
      subst hw'
      obtain ⟨hP, hD⟩ := va_join (wr := [(h_S, .inr (0, [.ref h_S_characters, .int S_length, .int S_at, .ref h_S_names, .int S_count, .ref h_S_code, .int S_codeLength, .ref h_S_ends, .ref h_S_firstUses])), (h_S_characters, .inl (cC, 240, .inl S_characters)), (h_S_code, .inl (cC, 240, .inl S_code)), (h_S_ends, .inl (cI, 7, .inl S_ends)), (h_S_firstUses, .inl (cI, 26, .inl S_firstUses))]) (w1 := (zd_pC cC cI cJ h_S_names 7 S_names)) hP hD [2] [0, 1, 3, 4, 5] rfl rfl (by decide) (by decide) hk1 hFc hP1 hD1
      generalize H1 = H at hP hS ⊢
      replace hP := hP.sub (ws' := (zd_S cC cI cJ h_S h_S_characters h_S_names h_S_code h_S_ends h_S_firstUses S_characters S_length S_at S_names S_count S_code S_codeLength S_ends S_firstUses)) [0, 1, 5, 2, 3, 4] rfl
      replace hD := hD.sub (ws' := (zd_S cC cI cJ h_S h_S_characters h_S_names h_S_code h_S_ends h_S_firstUses S_characters S_length S_at S_names S_count S_code S_codeLength S_ends S_firstUses)) [0, 1, 5, 2, 3, 4] (by decide) rfl
      refine lv_istore (lv' := [(4, .int r3), (0, .ref h_S), (1, .int x1), (2, .long x2)]) hx hb ze_R_leafBits_30 hl (by decide) rfl (fun ls hl => ?_)
      refine lv_iload hx hb ze_R_leafBits_32 (lv_at hl 0 rfl) ?_
      refine lv_if_lt (tgt := 55) hx hb ze_R_leafBits_34 (by decide) (fun c4 => ?_) (fun c4 => ?_)
      · replace h := z_it_t c4 h
        exact zk_R_leafBits_55 C0 hK hA hX x2 S_names S_count _ _ _ hP hD hS (lv_sub hl [3] rfl) h
      · replace h := z_it_f c4 h
        refine lv_iload hx hb ze_R_leafBits_37 (lv_at hl 0 rfl) ?_
        refine va_gets (v := .ref tp) hx hb hX.2.1 hS hown (ht _ zw_335) (fun _ h9 => h9) ze_R_leafBits_39 ?_
        refine va_tlen (v := (6 : Int32)) hx hb hX.2.2 hS rfl ze_R_leafBits_42 ?_
        refine lv_icmp_ge (tgt := 55) hx hb ze_R_leafBits_43 (by decide) (fun c5 => ?_) (fun c5 => ?_)
        · replace h := z_it_t c5 h
          exact zk_R_leafBits_55 C0 hK hA hX x2 S_names S_count _ _ _ hP hD hS (lv_sub hl [3] rfl) h
        · replace h := z_it_f c5 h
          refine va_gets (v := .ref tp) hx hb hX.2.1 hS hown (ht _ zw_335) (fun _ h9 => h9) ze_R_leafBits_46 ?_
          refine lv_iload hx hb ze_R_leafBits_49 (lv_at hl 0 rfl) ?_
          obtain ⟨g6, h⟩ := z_gd_some h
          refine va_tl (v := .long (z_PATTERNS r3.toNatClampNeg)) hx hb hX.2.2 hS g6 rfl ze_R_leafBits_51 ?_
          refine lv_goto (tgt := 56) hx hb ze_R_leafBits_52 (by decide) ?_
          cases h
          exact W.lret hx hb hr (fun t ht9 hW => ⟨⟨_, (), rfl, rfl, by rw [ht9]; exact hP, hD⟩, hS.F ht9⟩) hS.2.2 ze_R_leafBits_56
    · replace h := z_it_t c2 h
      refine lv_ldc2 (v := (-1 : Int64)) hx hb hown (ht _ zw_330) ze_R_leafBits_14 ?_
      cases h
      exact W.lret hx hb hr (fun t ht9 hW => ⟨⟨_, (), rfl, rfl, by rw [ht9]; exact hP, hD⟩, hS.F ht9⟩) hS.2.2 ze_R_leafBits_17
  · replace h := z_it_t c1 h
    refine lv_lconst (v := (0 : Int64)) hx hb ze_R_leafBits_6 (by decide) ?_
    cases h
    exact W.lret hx hb hr (fun t ht9 hW => ⟨⟨_, (), rfl, rfl, by rw [ht9]; exact hP, hD⟩, hS.F ht9⟩) hS.2.2 ze_R_leafBits_7
set_option maxHeartbeats 4000000 in
set_option maxRecDepth 100000 in
theorem zk_R_work_135 {p : Program} {l : Launch} {e : Env} {s : State} {m : MethodId} {args : Array Value} {below : List Frame} {meth : Method} {c : Code} {dC : Nat → ClassId} {dI : Nat → Nat → Nat} {cC cI cJ : ClassId} {A : Nat → Prop} {tp : Nat} {h_R h_R_names h_R_fixed h_R_low h_R_high h_R_stack h_S h_S_characters h_S_names h_S_code h_S_ends h_S_firstUses : Nat} {R_count : Int32} {R_names : Nat → Int32} {R_fixed : Nat → Int32} {R_low : Nat → Int64} {R_high : Nat → Int64} {S_characters : Nat → Int32} {S_length : Int32} {S_at : Int32} {S_codeLength : Int32} {S_ends : Nat → Int32} {S_firstUses : Nat → Int32} {o_r : Int64} {o_R_stack : Nat → Int64} {k6 : Int32 → Int64 → Int32 → Int32 → (Nat → Int32) → Int32 → (Nat → Int32) → (Nat → Int64) → Option (Int64 × (Nat → Int64))} (C0 : z_kx p s m args meth c "RuleNetwork$Rules" zb_R_work 9 (some .long)) (hK : va_K (dC, dI) vwCl (z_tys cC cI cJ) s) (hA : ∀ q : Nat, s.heap.size ≤ q → A q) (hX : z_X tp A s) (hk6 : ∀ (x3 : Int32) (x4 : Int64) (x6 : Int32) (x7 : Int32) (S_names : Nat → Int32) (S_count : Int32) (S_code : Nat → Int32) (R_stack : Nat → Int64) (H : Heap) (locs : List Loc) (ls : Array Slot), va_P (dC, dI) vwCl (zd_RS cC cI cJ h_R h_R_names h_R_fixed h_R_low h_R_high h_R_stack h_S h_S_characters h_S_names h_S_code h_S_ends h_S_firstUses R_count R_names R_fixed R_low R_high R_stack S_characters S_length S_at S_names S_count S_code S_codeLength S_ends S_firstUses) H → va_D A (zd_RS cC cI cJ h_R h_R_names h_R_fixed h_R_low h_R_high h_R_stack h_S h_S_characters h_S_names h_S_code h_S_ends h_S_firstUses R_count R_names R_fixed R_low R_high R_stack S_characters S_length S_at S_names S_count S_code S_codeLength S_ends S_firstUses) → va_S A s.heap H locs → lv_has ls 9 [(0, .ref h_R), (1, .ref h_S), (3, .int x3), (4, .long x4), (6, .int x6), (7, .int x7)] → k6 x3 x4 x6 x7 S_names S_count S_code R_stack = some (o_r, o_R_stack) → W p l e (headSpec zs_R_work rm_R_work).room s m args below meth c H locs 0 0 (MQ below (zq_R_work dC dI cC cI cJ h_R h_R_names h_R_fixed h_R_low h_R_high h_R_stack h_S h_S_characters h_S_names h_S_code h_S_ends h_S_firstUses R_count R_names R_fixed R_low R_high S_characters S_length S_at S_names S_count S_code S_codeLength S_ends S_firstUses o_r o_R_stack A) args s 0 0 A) (F0 m 6 ls [])) :
    ∀ (x3 : Int32) (x4 : Int64) (x6 : Int32) (x7 : Int32) (x8 : Int32) (S_names : Nat → Int32) (S_count : Int32) (S_code : Nat → Int32) (R_stack : Nat → Int64) (H : Heap) (locs : List Loc) (ls : Array Slot), va_P (dC, dI) vwCl (zd_RS cC cI cJ h_R h_R_names h_R_fixed h_R_low h_R_high h_R_stack h_S h_S_characters h_S_names h_S_code h_S_ends h_S_firstUses R_count R_names R_fixed R_low R_high R_stack S_characters S_length S_at S_names S_count S_code S_codeLength S_ends S_firstUses) H → va_D A (zd_RS cC cI cJ h_R h_R_names h_R_fixed h_R_low h_R_high h_R_stack h_S h_S_characters h_S_names h_S_code h_S_ends h_S_firstUses R_count R_names R_fixed R_low R_high R_stack S_characters S_length S_at S_names S_count S_code S_codeLength S_ends S_firstUses) → va_S A s.heap H locs → lv_has ls 9 [(0, .ref h_R), (1, .ref h_S), (3, .int x3), (4, .long x4), (6, .int x6), (7, .int x7), (8, .int x8)] → zf_R_work_135 k6 x3 x4 x6 x7 x8 S_names S_count S_code R_stack = some (o_r, o_R_stack) → W p l e (headSpec zs_R_work rm_R_work).room s m args below meth c H locs 0 0 (MQ below (zq_R_work dC dI cC cI cJ h_R h_R_names h_R_fixed h_R_low h_R_high h_R_stack h_S h_S_characters h_S_names h_S_code h_S_ends h_S_firstUses R_count R_names R_fixed R_low R_high S_characters S_length S_at S_names S_count S_code S_codeLength S_ends S_firstUses o_r o_R_stack A) args s 0 0 A) (F0 m 135 ls []) := by
  obtain ⟨hx, hb, hr, hml, hown, ht, hlocks⟩ := id C0
  intro x3 x4 x6 x7 x8 S_names S_count S_code R_stack H locs ls hP hD hS hl h
  rw [zf_R_work_135] at h
  refine lv_iload hx hb ze_R_work_135 (lv_at hl 4 rfl) ?_
  refine lv_sipush (v := (240 : Int32)) hx hb ze_R_work_137 (by decide) ?_
  refine lv_icmp_ge (tgt := 161) hx hb ze_R_work_140 (by decide) (fun c1 => ?_) (fun c1 => ?_)
  · replace h := z_it_t c1 h
    refine lv_iinc (v := (x7 + (1 : Int32))) (lv' := [(7, .int (x7 + (1 : Int32))), (0, .ref h_R), (1, .ref h_S), (3, .int x3), (4, .long x4), (6, .int x6), (8, .int x8)]) hx hb ze_R_work_161 hl (k := 5) rfl rfl (by decide) rfl (fun ls hl => ?_)
    refine lv_goto (tgt := 6) hx hb ze_R_work_164 (by decide) ?_
    exact hk6 x3 x4 x6 (x7 + (1 : Int32)) S_names S_count S_code R_stack _ _ _ hP hD hS (lv_sub hl [1, 2, 3, 4, 5, 0] rfl) h
  · replace h := z_it_f c1 h
    refine lv_aload_n hx hb ze_R_work_143 rfl (lv_at hl 0 rfl) ?_
    refine va_get (D := (dC, dI)) (ci := 1) (v := .ref h_R_stack) (C := "RuleNetwork$Rules") (T := zT_R) (N := 6) hx hb ht zin_R hown hK hP 0 rfl rfl 5 (by decide) (ht _ zw_128) (fun _ h9 => h9) rfl ze_R_work_144 ?_
    refine lv_iload hx hb ze_R_work_147 (lv_at hl 4 rfl) ?_
    refine lv_aload_n hx hb ze_R_work_149 rfl (lv_at hl 1 rfl) ?_
    refine lv_iload hx hb ze_R_work_150 (lv_at hl 6 rfl) ?_
    refine lv_lload hx hb ze_R_work_152 (lv_at hl 3 rfl) ?_
    obtain ⟨r2, q2, h⟩ := z_b1_some h
    have hPc := hP.sub (ws' := (zd_S cC cI cJ h_S h_S_characters h_S_names h_S_code h_S_ends h_S_firstUses S_characters S_length S_at S_names S_count S_code S_codeLength S_ends S_firstUses)) [6, 7, 8, 9, 10, 11] rfl
    have hDc := hD.sub (ws' := (zd_S cC cI cJ h_S h_S_characters h_S_names h_S_code h_S_ends h_S_firstUses S_characters S_length S_at S_names S_count S_code S_codeLength S_ends S_firstUses)) [6, 7, 8, 9, 10, 11] (by decide) rfl
    have hFc := va_free (wc := (zd_S cC cI cJ h_S h_S_characters h_S_names h_S_code h_S_ends h_S_firstUses S_characters S_length S_at S_names S_count S_code S_codeLength S_ends S_firstUses)) hD hS hA [6, 7, 8, 9, 10, 11] rfl
    -- CALL R_leafBits
    refine va_calll (va_runS (As := [.ref h_S, .int x8, .long x4]) (rest := [.int x6, .ref h_R_stack]) ⟨hx, hb, hml, hown, ht⟩ (zc_R_leafBits l dC dI cC cI cJ tp h_S h_S_characters h_S_names h_S_code h_S_ends h_S_firstUses H.size S_characters S_length S_at S_names S_count S_code S_codeLength S_ends S_firstUses x8 x4 r2 q2) (va_cwS 3 ht (z_gS zw_331 zw_332 zw_57 zw_333) rfl rfl rfl zh_R_leafBits ⟨Nat.le_of_ble_eq_true rfl, Nat.le_of_ble_eq_true rfl⟩) ⟨fun a U g mk q => by obtain ⟨z0, z1, zP, zK, zD, zX⟩ := q; exact ⟨z0, z1, zP, va_K.moved (u := U) (U := U.calling g mk a) (Vm.Alike.refl U.vm) zK, zD, z_X.same rfl rfl zX⟩, fun U hU hW => ⟨rfl, by rw [hU], by rw [hU]; exact hPc, va_K.moved hW.alike hK, hDc.weaken (fun _ _ _ _ => trivial), hX.warm hS hFc hU hW⟩⟩ rfl rfl hl.1 rfl (lv_room (Nat.le_of_ble_eq_true rfl)) ze_R_work_154 ⟨Nat.zero_le _, Nat.zero_le _⟩) hS (fun q _ h => hFc q h) hFc (fun rv u t H1 locs ht9 hvm hw hB hz1 hk1 hS => ?_)
    obtain ⟨hP1, hD1⟩ := hB
    rw [ht9] at hP1
    have hw' : r2 = rv := Eq.symm hw
    subst hw'
    obtain ⟨hP, hD⟩ := va_join (wr := [(h_R, .inr (1, [.int R_count, .ref h_R_names, .ref h_R_fixed, .ref h_R_low, .ref h_R_high, .ref h_R_stack])), (h_R_names, .inl (cC, 7, .inl R_names)), (h_R_fixed, .inl (cI, 7, .inl R_fixed)), (h_R_low, .inl (cJ, 7, .inr (.inl R_low))), (h_R_high, .inl (cJ, 7, .inr (.inl R_high))), (h_R_stack, .inl (cJ, 240, .inr (.inl R_stack)))]) (w1 := (zd_S cC cI cJ h_S h_S_characters h_S_names h_S_code h_S_ends h_S_firstUses S_characters S_length S_at S_names S_count S_code S_codeLength S_ends S_firstUses)) hP hD [6, 7, 8, 9, 10, 11] [0, 1, 2, 3, 4, 5] rfl rfl (by decide) (by decide) hk1 hFc hP1 hD1
    generalize H1 = H at hP hS ⊢
    replace hP := hP.sub (ws' := (zd_RS cC cI cJ h_R h_R_names h_R_fixed h_R_low h_R_high h_R_stack h_S h_S_characters h_S_names h_S_code h_S_ends h_S_firstUses R_count R_names R_fixed R_low R_high R_stack S_characters S_length S_at S_names S_count S_code S_codeLength S_ends S_firstUses)) [0, 1, 2, 3, 4, 5, 6, 7, 8, 9, 10, 11] rfl
    replace hD := hD.sub (ws' := (zd_RS cC cI cJ h_R h_R_names h_R_fixed h_R_low h_R_high h_R_stack h_S h_S_characters h_S_names h_S_code h_S_ends h_S_firstUses R_count R_names R_fixed R_low R_high R_stack S_characters S_length S_at S_names S_count S_code S_codeLength S_ends S_firstUses)) [0, 1, 2, 3, 4, 5, 6, 7, 8, 9, 10, 11] (by decide) rfl
    obtain ⟨g3, h⟩ := z_gd_some h
    refine va_last hx hb hK hP hD hS 5 2 rfl rfl g3 ze_R_work_157 (fun H locs hP hD hS => ?_)
    have hP : va_P (dC, dI) vwCl (zd_RS cC cI cJ h_R h_R_names h_R_fixed h_R_low h_R_high h_R_stack h_S h_S_characters h_S_names h_S_code h_S_ends h_S_firstUses R_count R_names R_fixed R_low R_high (vp_updL R_stack x6.toNatClampNeg r2) S_characters S_length S_at S_names S_count S_code S_codeLength S_ends S_firstUses) H := hP
    have hD : va_D A (zd_RS cC cI cJ h_R h_R_names h_R_fixed h_R_low h_R_high h_R_stack h_S h_S_characters h_S_names h_S_code h_S_ends h_S_firstUses R_count R_names R_fixed R_low R_high (vp_updL R_stack x6.toNatClampNeg r2) S_characters S_length S_at S_names S_count S_code S_codeLength S_ends S_firstUses) := hD
    refine lv_iinc (v := (x6 + (1 : Int32))) (lv' := [(6, .int (x6 + (1 : Int32))), (0, .ref h_R), (1, .ref h_S), (3, .int x3), (4, .long x4), (7, .int x7), (8, .int x8)]) hx hb ze_R_work_158 hl (k := 4) rfl rfl (by decide) rfl (fun ls hl => ?_)
    refine lv_iinc (v := (x7 + (1 : Int32))) (lv' := [(7, .int (x7 + (1 : Int32))), (6, .int (x6 + (1 : Int32))), (0, .ref h_R), (1, .ref h_S), (3, .int x3), (4, .long x4), (8, .int x8)]) hx hb ze_R_work_161 hl (k := 5) rfl rfl (by decide) rfl (fun ls hl => ?_)
    refine lv_goto (tgt := 6) hx hb ze_R_work_164 (by decide) ?_
    exact hk6 x3 x4 (x6 + (1 : Int32)) (x7 + (1 : Int32)) S_names S_count S_code (vp_updL R_stack x6.toNatClampNeg r2) _ _ _ hP hD hS (lv_sub hl [2, 3, 4, 5, 1, 0] rfl) h
set_option maxHeartbeats 4000000 in
set_option maxRecDepth 100000 in
theorem zk_R_work_97 {p : Program} {l : Launch} {e : Env} {s : State} {m : MethodId} {args : Array Value} {below : List Frame} {meth : Method} {c : Code} {dC : Nat → ClassId} {dI : Nat → Nat → Nat} {cC cI cJ : ClassId} {A : Nat → Prop} {tp : Nat} {h_R h_R_names h_R_fixed h_R_low h_R_high h_R_stack h_S h_S_characters h_S_names h_S_code h_S_ends h_S_firstUses : Nat} {R_count : Int32} {R_names : Nat → Int32} {R_fixed : Nat → Int32} {R_low : Nat → Int64} {R_high : Nat → Int64} {S_characters : Nat → Int32} {S_length : Int32} {S_at : Int32} {S_codeLength : Int32} {S_ends : Nat → Int32} {S_firstUses : Nat → Int32} {o_r : Int64} {o_R_stack : Nat → Int64} {k6 : Int32 → Int64 → Int32 → Int32 → (Nat → Int32) → Int32 → (Nat → Int32) → (Nat → Int64) → Option (Int64 × (Nat → Int64))} (C0 : z_kx p s m args meth c "RuleNetwork$Rules" zb_R_work 9 (some .long)) (hK : va_K (dC, dI) vwCl (z_tys cC cI cJ) s) (hA : ∀ q : Nat, s.heap.size ≤ q → A q) (hX : z_X tp A s) (hk6 : ∀ (x3 : Int32) (x4 : Int64) (x6 : Int32) (x7 : Int32) (S_names : Nat → Int32) (S_count : Int32) (S_code : Nat → Int32) (R_stack : Nat → Int64) (H : Heap) (locs : List Loc) (ls : Array Slot), va_P (dC, dI) vwCl (zd_RS cC cI cJ h_R h_R_names h_R_fixed h_R_low h_R_high h_R_stack h_S h_S_characters h_S_names h_S_code h_S_ends h_S_firstUses R_count R_names R_fixed R_low R_high R_stack S_characters S_length S_at S_names S_count S_code S_codeLength S_ends S_firstUses) H → va_D A (zd_RS cC cI cJ h_R h_R_names h_R_fixed h_R_low h_R_high h_R_stack h_S h_S_characters h_S_names h_S_code h_S_ends h_S_firstUses R_count R_names R_fixed R_low R_high R_stack S_characters S_length S_at S_names S_count S_code S_codeLength S_ends S_firstUses) → va_S A s.heap H locs → lv_has ls 9 [(0, .ref h_R), (1, .ref h_S), (3, .int x3), (4, .long x4), (6, .int x6), (7, .int x7)] → k6 x3 x4 x6 x7 S_names S_count S_code R_stack = some (o_r, o_R_stack) → W p l e (headSpec zs_R_work rm_R_work).room s m args below meth c H locs 0 0 (MQ below (zq_R_work dC dI cC cI cJ h_R h_R_names h_R_fixed h_R_low h_R_high h_R_stack h_S h_S_characters h_S_names h_S_code h_S_ends h_S_firstUses R_count R_names R_fixed R_low R_high S_characters S_length S_at S_names S_count S_code S_codeLength S_ends S_firstUses o_r o_R_stack A) args s 0 0 A) (F0 m 6 ls [])) :
    ∀ (x3 : Int32) (x4 : Int64) (x6 : Int32) (x7 : Int32) (x8 : Int32) (S_names : Nat → Int32) (S_count : Int32) (S_code : Nat → Int32) (R_stack : Nat → Int64) (H : Heap) (locs : List Loc) (ls : Array Slot), va_P (dC, dI) vwCl (zd_RS cC cI cJ h_R h_R_names h_R_fixed h_R_low h_R_high h_R_stack h_S h_S_characters h_S_names h_S_code h_S_ends h_S_firstUses R_count R_names R_fixed R_low R_high R_stack S_characters S_length S_at S_names S_count S_code S_codeLength S_ends S_firstUses) H → va_D A (zd_RS cC cI cJ h_R h_R_names h_R_fixed h_R_low h_R_high h_R_stack h_S h_S_characters h_S_names h_S_code h_S_ends h_S_firstUses R_count R_names R_fixed R_low R_high R_stack S_characters S_length S_at S_names S_count S_code S_codeLength S_ends S_firstUses) → va_S A s.heap H locs → lv_has ls 9 [(0, .ref h_R), (1, .ref h_S), (3, .int x3), (4, .long x4), (6, .int x6), (7, .int x7), (8, .int x8)] → zf_R_work_97 k6 x3 x4 x6 x7 x8 S_names S_count S_code R_stack = some (o_r, o_R_stack) → W p l e (headSpec zs_R_work rm_R_work).room s m args below meth c H locs 0 0 (MQ below (zq_R_work dC dI cC cI cJ h_R h_R_names h_R_fixed h_R_low h_R_high h_R_stack h_S h_S_characters h_S_names h_S_code h_S_ends h_S_firstUses R_count R_names R_fixed R_low R_high S_characters S_length S_at S_names S_count S_code S_codeLength S_ends S_firstUses o_r o_R_stack A) args s 0 0 A) (F0 m 97 ls []) := by
  obtain ⟨hx, hb, hr, hml, hown, ht, hlocks⟩ := id C0
  intro x3 x4 x6 x7 x8 S_names S_count S_code R_stack H locs ls hP hD hS hl h
  rw [zf_R_work_97] at h
  refine lv_iload hx hb ze_R_work_97 (lv_at hl 6 rfl) ?_
  refine lv_bipush (v := (124 : Int32)) hx hb ze_R_work_99 (by decide) ?_
  refine lv_icmp_ne (tgt := 135) hx hb ze_R_work_101 (by decide) (fun c1 => ?_) (fun c1 => ?_)
  · replace h := z_it_f c1 h
    exact zk_R_work_135 C0 hK hA hX hk6 x3 x4 x6 x7 x8 S_names S_count S_code R_stack _ _ _ hP hD hS (lv_sub hl [0, 1, 2, 3, 4, 5, 6] rfl) h
  · replace h := z_it_t c1 h
    refine lv_iload hx hb ze_R_work_104 (lv_at hl 4 rfl) ?_
    refine lv_iconst (v := (2 : Int32)) hx hb ze_R_work_106 (by decide) ?_
    refine lv_icmp_lt (tgt := 135) hx hb ze_R_work_107 (by decide) (fun c2 => ?_) (fun c2 => ?_)
    · replace h := z_it_t c2 h
      exact zk_R_work_135 C0 hK hA hX hk6 x3 x4 x6 x7 x8 S_names S_count S_code R_stack _ _ _ hP hD hS (lv_sub hl [0, 1, 2, 3, 4, 5, 6] rfl) h
    · replace h := z_it_f c2 h
      refine lv_iinc (v := (x6 + (-1 : Int32))) (lv' := [(6, .int (x6 + (-1 : Int32))), (0, .ref h_R), (1, .ref h_S), (3, .int x3), (4, .long x4), (7, .int x7), (8, .int x8)]) hx hb ze_R_work_110 hl (k := 4) rfl rfl (by decide) rfl (fun ls hl => ?_)
      refine lv_aload_n hx hb ze_R_work_113 rfl (lv_at hl 1 rfl) ?_
      refine va_get (D := (dC, dI)) (ci := 1) (v := .ref h_R_stack) (C := "RuleNetwork$Rules") (T := zT_R) (N := 6) hx hb ht zin_R hown hK hP 0 rfl rfl 5 (by decide) (ht _ zw_128) (fun _ h9 => h9) rfl ze_R_work_114 ?_
      refine lv_iload hx hb ze_R_work_117 (lv_at hl 0 rfl) ?_
      refine lv_iconst (v := (1 : Int32)) hx hb ze_R_work_119 (by decide) ?_
      refine lv_isub hx hb ze_R_work_120 ?_
      refine lv_dup2_11 hx hb ze_R_work_121 rfl rfl ?_
      obtain ⟨g3, h⟩ := z_gd_some h
      refine va_lald hx hb hK hP 5 2 rfl rfl g3 ze_R_work_122 ?_
      refine lv_aload_n hx hb ze_R_work_123 rfl (lv_at hl 1 rfl) ?_
      refine va_get (D := (dC, dI)) (ci := 1) (v := .ref h_R_stack) (C := "RuleNetwork$Rules") (T := zT_R) (N := 6) hx hb ht zin_R hown hK hP 0 rfl rfl 5 (by decide) (ht _ zw_128) (fun _ h9 => h9) rfl ze_R_work_124 ?_
      refine lv_iload hx hb ze_R_work_127 (lv_at hl 0 rfl) ?_
      obtain ⟨g4, h⟩ := z_gd_some h
      refine va_lald hx hb hK hP 5 2 rfl rfl g4 ze_R_work_129 ?_
      refine lv_lor hx hb ze_R_work_130 ?_
      obtain ⟨g5, h⟩ := z_gd_some h
      refine va_last hx hb hK hP hD hS 5 2 rfl rfl g5 ze_R_work_131 (fun H locs hP hD hS => ?_)
      have hP : va_P (dC, dI) vwCl (zd_RS cC cI cJ h_R h_R_names h_R_fixed h_R_low h_R_high h_R_stack h_S h_S_characters h_S_names h_S_code h_S_ends h_S_firstUses R_count R_names R_fixed R_low R_high (vp_updL R_stack ((x6 + (-1 : Int32)) - (1 : Int32)).toNatClampNeg ((R_stack ((x6 + (-1 : Int32)) - (1 : Int32)).toNatClampNeg) ||| (R_stack (x6 + (-1 : Int32)).toNatClampNeg))) S_characters S_length S_at S_names S_count S_code S_codeLength S_ends S_firstUses) H := hP
      have hD : va_D A (zd_RS cC cI cJ h_R h_R_names h_R_fixed h_R_low h_R_high h_R_stack h_S h_S_characters h_S_names h_S_code h_S_ends h_S_firstUses R_count R_names R_fixed R_low R_high (vp_updL R_stack ((x6 + (-1 : Int32)) - (1 : Int32)).toNatClampNeg ((R_stack ((x6 + (-1 : Int32)) - (1 : Int32)).toNatClampNeg) ||| (R_stack (x6 + (-1 : Int32)).toNatClampNeg))) S_characters S_length S_at S_names S_count S_code S_codeLength S_ends S_firstUses) := hD
      refine lv_goto (tgt := 161) hx hb ze_R_work_132 (by decide) ?_
      refine lv_iinc (v := (x7 + (1 : Int32))) (lv' := [(7, .int (x7 + (1 : Int32))), (6, .int (x6 + (-1 : Int32))), (0, .ref h_R), (1, .ref h_S), (3, .int x3), (4, .long x4), (8, .int x8)]) hx hb ze_R_work_161 hl (k := 5) rfl rfl (by decide) rfl (fun ls hl => ?_)
      refine lv_goto (tgt := 6) hx hb ze_R_work_164 (by decide) ?_
      exact hk6 x3 x4 (x6 + (-1 : Int32)) (x7 + (1 : Int32)) S_names S_count S_code (vp_updL R_stack ((x6 + (-1 : Int32)) - (1 : Int32)).toNatClampNeg ((R_stack ((x6 + (-1 : Int32)) - (1 : Int32)).toNatClampNeg) ||| (R_stack (x6 + (-1 : Int32)).toNatClampNeg))) _ _ _ hP hD hS (lv_sub hl [2, 3, 4, 5, 1, 0] rfl) h
set_option maxHeartbeats 4000000 in
set_option maxRecDepth 100000 in
theorem zk_R_work_59 {p : Program} {l : Launch} {e : Env} {s : State} {m : MethodId} {args : Array Value} {below : List Frame} {meth : Method} {c : Code} {dC : Nat → ClassId} {dI : Nat → Nat → Nat} {cC cI cJ : ClassId} {A : Nat → Prop} {tp : Nat} {h_R h_R_names h_R_fixed h_R_low h_R_high h_R_stack h_S h_S_characters h_S_names h_S_code h_S_ends h_S_firstUses : Nat} {R_count : Int32} {R_names : Nat → Int32} {R_fixed : Nat → Int32} {R_low : Nat → Int64} {R_high : Nat → Int64} {S_characters : Nat → Int32} {S_length : Int32} {S_at : Int32} {S_codeLength : Int32} {S_ends : Nat → Int32} {S_firstUses : Nat → Int32} {o_r : Int64} {o_R_stack : Nat → Int64} {k6 : Int32 → Int64 → Int32 → Int32 → (Nat → Int32) → Int32 → (Nat → Int32) → (Nat → Int64) → Option (Int64 × (Nat → Int64))} (C0 : z_kx p s m args meth c "RuleNetwork$Rules" zb_R_work 9 (some .long)) (hK : va_K (dC, dI) vwCl (z_tys cC cI cJ) s) (hA : ∀ q : Nat, s.heap.size ≤ q → A q) (hX : z_X tp A s) (hk6 : ∀ (x3 : Int32) (x4 : Int64) (x6 : Int32) (x7 : Int32) (S_names : Nat → Int32) (S_count : Int32) (S_code : Nat → Int32) (R_stack : Nat → Int64) (H : Heap) (locs : List Loc) (ls : Array Slot), va_P (dC, dI) vwCl (zd_RS cC cI cJ h_R h_R_names h_R_fixed h_R_low h_R_high h_R_stack h_S h_S_characters h_S_names h_S_code h_S_ends h_S_firstUses R_count R_names R_fixed R_low R_high R_stack S_characters S_length S_at S_names S_count S_code S_codeLength S_ends S_firstUses) H → va_D A (zd_RS cC cI cJ h_R h_R_names h_R_fixed h_R_low h_R_high h_R_stack h_S h_S_characters h_S_names h_S_code h_S_ends h_S_firstUses R_count R_names R_fixed R_low R_high R_stack S_characters S_length S_at S_names S_count S_code S_codeLength S_ends S_firstUses) → va_S A s.heap H locs → lv_has ls 9 [(0, .ref h_R), (1, .ref h_S), (3, .int x3), (4, .long x4), (6, .int x6), (7, .int x7)] → k6 x3 x4 x6 x7 S_names S_count S_code R_stack = some (o_r, o_R_stack) → W p l e (headSpec zs_R_work rm_R_work).room s m args below meth c H locs 0 0 (MQ below (zq_R_work dC dI cC cI cJ h_R h_R_names h_R_fixed h_R_low h_R_high h_R_stack h_S h_S_characters h_S_names h_S_code h_S_ends h_S_firstUses R_count R_names R_fixed R_low R_high S_characters S_length S_at S_names S_count S_code S_codeLength S_ends S_firstUses o_r o_R_stack A) args s 0 0 A) (F0 m 6 ls [])) :
    ∀ (x3 : Int32) (x4 : Int64) (x6 : Int32) (x7 : Int32) (x8 : Int32) (S_names : Nat → Int32) (S_count : Int32) (S_code : Nat → Int32) (R_stack : Nat → Int64) (H : Heap) (locs : List Loc) (ls : Array Slot), va_P (dC, dI) vwCl (zd_RS cC cI cJ h_R h_R_names h_R_fixed h_R_low h_R_high h_R_stack h_S h_S_characters h_S_names h_S_code h_S_ends h_S_firstUses R_count R_names R_fixed R_low R_high R_stack S_characters S_length S_at S_names S_count S_code S_codeLength S_ends S_firstUses) H → va_D A (zd_RS cC cI cJ h_R h_R_names h_R_fixed h_R_low h_R_high h_R_stack h_S h_S_characters h_S_names h_S_code h_S_ends h_S_firstUses R_count R_names R_fixed R_low R_high R_stack S_characters S_length S_at S_names S_count S_code S_codeLength S_ends S_firstUses) → va_S A s.heap H locs → lv_has ls 9 [(0, .ref h_R), (1, .ref h_S), (3, .int x3), (4, .long x4), (6, .int x6), (7, .int x7), (8, .int x8)] → zf_R_work_59 k6 x3 x4 x6 x7 x8 S_names S_count S_code R_stack = some (o_r, o_R_stack) → W p l e (headSpec zs_R_work rm_R_work).room s m args below meth c H locs 0 0 (MQ below (zq_R_work dC dI cC cI cJ h_R h_R_names h_R_fixed h_R_low h_R_high h_R_stack h_S h_S_characters h_S_names h_S_code h_S_ends h_S_firstUses R_count R_names R_fixed R_low R_high S_characters S_length S_at S_names S_count S_code S_codeLength S_ends S_firstUses o_r o_R_stack A) args s 0 0 A) (F0 m 59 ls []) := by
  obtain ⟨hx, hb, hr, hml, hown, ht, hlocks⟩ := id C0
  intro x3 x4 x6 x7 x8 S_names S_count S_code R_stack H locs ls hP hD hS hl h
  rw [zf_R_work_59] at h
  refine lv_iload hx hb ze_R_work_59 (lv_at hl 6 rfl) ?_
  refine lv_bipush (v := (38 : Int32)) hx hb ze_R_work_61 (by decide) ?_
  refine lv_icmp_ne (tgt := 97) hx hb ze_R_work_63 (by decide) (fun c1 => ?_) (fun c1 => ?_)
  · replace h := z_it_f c1 h
    exact zk_R_work_97 C0 hK hA hX hk6 x3 x4 x6 x7 x8 S_names S_count S_code R_stack _ _ _ hP hD hS (lv_sub hl [0, 1, 2, 3, 4, 5, 6] rfl) h
  · replace h := z_it_t c1 h
    refine lv_iload hx hb ze_R_work_66 (lv_at hl 4 rfl) ?_
    refine lv_iconst (v := (2 : Int32)) hx hb ze_R_work_68 (by decide) ?_
    refine lv_icmp_lt (tgt := 97) hx hb ze_R_work_69 (by decide) (fun c2 => ?_) (fun c2 => ?_)
    · replace h := z_it_t c2 h
      exact zk_R_work_97 C0 hK hA hX hk6 x3 x4 x6 x7 x8 S_names S_count S_code R_stack _ _ _ hP hD hS (lv_sub hl [0, 1, 2, 3, 4, 5, 6] rfl) h
    · replace h := z_it_f c2 h
      refine lv_iinc (v := (x6 + (-1 : Int32))) (lv' := [(6, .int (x6 + (-1 : Int32))), (0, .ref h_R), (1, .ref h_S), (3, .int x3), (4, .long x4), (7, .int x7), (8, .int x8)]) hx hb ze_R_work_72 hl (k := 4) rfl rfl (by decide) rfl (fun ls hl => ?_)
      refine lv_aload_n hx hb ze_R_work_75 rfl (lv_at hl 1 rfl) ?_
      refine va_get (D := (dC, dI)) (ci := 1) (v := .ref h_R_stack) (C := "RuleNetwork$Rules") (T := zT_R) (N := 6) hx hb ht zin_R hown hK hP 0 rfl rfl 5 (by decide) (ht _ zw_128) (fun _ h9 => h9) rfl ze_R_work_76 ?_
      refine lv_iload hx hb ze_R_work_79 (lv_at hl 0 rfl) ?_
      refine lv_iconst (v := (1 : Int32)) hx hb ze_R_work_81 (by decide) ?_
      refine lv_isub hx hb ze_R_work_82 ?_
      refine lv_dup2_11 hx hb ze_R_work_83 rfl rfl ?_
      obtain ⟨g3, h⟩ := z_gd_some h
      refine va_lald hx hb hK hP 5 2 rfl rfl g3 ze_R_work_84 ?_
      refine lv_aload_n hx hb ze_R_work_85 rfl (lv_at hl 1 rfl) ?_
      refine va_get (D := (dC, dI)) (ci := 1) (v := .ref h_R_stack) (C := "RuleNetwork$Rules") (T := zT_R) (N := 6) hx hb ht zin_R hown hK hP 0 rfl rfl 5 (by decide) (ht _ zw_128) (fun _ h9 => h9) rfl ze_R_work_86 ?_
      refine lv_iload hx hb ze_R_work_89 (lv_at hl 0 rfl) ?_
      obtain ⟨g4, h⟩ := z_gd_some h
      refine va_lald hx hb hK hP 5 2 rfl rfl g4 ze_R_work_91 ?_
      refine lv_land hx hb ze_R_work_92 ?_
      obtain ⟨g5, h⟩ := z_gd_some h
      refine va_last hx hb hK hP hD hS 5 2 rfl rfl g5 ze_R_work_93 (fun H locs hP hD hS => ?_)
      have hP : va_P (dC, dI) vwCl (zd_RS cC cI cJ h_R h_R_names h_R_fixed h_R_low h_R_high h_R_stack h_S h_S_characters h_S_names h_S_code h_S_ends h_S_firstUses R_count R_names R_fixed R_low R_high (vp_updL R_stack ((x6 + (-1 : Int32)) - (1 : Int32)).toNatClampNeg ((R_stack ((x6 + (-1 : Int32)) - (1 : Int32)).toNatClampNeg) &&& (R_stack (x6 + (-1 : Int32)).toNatClampNeg))) S_characters S_length S_at S_names S_count S_code S_codeLength S_ends S_firstUses) H := hP
      have hD : va_D A (zd_RS cC cI cJ h_R h_R_names h_R_fixed h_R_low h_R_high h_R_stack h_S h_S_characters h_S_names h_S_code h_S_ends h_S_firstUses R_count R_names R_fixed R_low R_high (vp_updL R_stack ((x6 + (-1 : Int32)) - (1 : Int32)).toNatClampNeg ((R_stack ((x6 + (-1 : Int32)) - (1 : Int32)).toNatClampNeg) &&& (R_stack (x6 + (-1 : Int32)).toNatClampNeg))) S_characters S_length S_at S_names S_count S_code S_codeLength S_ends S_firstUses) := hD
      refine lv_goto (tgt := 161) hx hb ze_R_work_94 (by decide) ?_
      refine lv_iinc (v := (x7 + (1 : Int32))) (lv' := [(7, .int (x7 + (1 : Int32))), (6, .int (x6 + (-1 : Int32))), (0, .ref h_R), (1, .ref h_S), (3, .int x3), (4, .long x4), (8, .int x8)]) hx hb ze_R_work_161 hl (k := 5) rfl rfl (by decide) rfl (fun ls hl => ?_)
      refine lv_goto (tgt := 6) hx hb ze_R_work_164 (by decide) ?_
      exact hk6 x3 x4 (x6 + (-1 : Int32)) (x7 + (1 : Int32)) S_names S_count S_code (vp_updL R_stack ((x6 + (-1 : Int32)) - (1 : Int32)).toNatClampNeg ((R_stack ((x6 + (-1 : Int32)) - (1 : Int32)).toNatClampNeg) &&& (R_stack (x6 + (-1 : Int32)).toNatClampNeg))) _ _ _ hP hD hS (lv_sub hl [2, 3, 4, 5, 1, 0] rfl) h
set_option maxHeartbeats 4000000 in
set_option maxRecDepth 100000 in
theorem zk_R_work_6 {p : Program} {l : Launch} {e : Env} {s : State} {m : MethodId} {args : Array Value} {below : List Frame} {meth : Method} {c : Code} {dC : Nat → ClassId} {dI : Nat → Nat → Nat} {cC cI cJ : ClassId} {A : Nat → Prop} {tp : Nat} {h_R h_R_names h_R_fixed h_R_low h_R_high h_R_stack h_S h_S_characters h_S_names h_S_code h_S_ends h_S_firstUses : Nat} {R_count : Int32} {R_names : Nat → Int32} {R_fixed : Nat → Int32} {R_low : Nat → Int64} {R_high : Nat → Int64} {S_characters : Nat → Int32} {S_length : Int32} {S_at : Int32} {S_codeLength : Int32} {S_ends : Nat → Int32} {S_firstUses : Nat → Int32} {o_r : Int64} {o_R_stack : Nat → Int64} (C0 : z_kx p s m args meth c "RuleNetwork$Rules" zb_R_work 9 (some .long)) (hK : va_K (dC, dI) vwCl (z_tys cC cI cJ) s) (hA : ∀ q : Nat, s.heap.size ≤ q → A q) (hX : z_X tp A s) :
    ∀ n : Nat, ∀ (x3 : Int32) (x4 : Int64) (x6 : Int32) (x7 : Int32) (S_names : Nat → Int32) (S_count : Int32) (S_code : Nat → Int32) (R_stack : Nat → Int64) (H : Heap) (locs : List Loc) (ls : Array Slot), va_P (dC, dI) vwCl (zd_RS cC cI cJ h_R h_R_names h_R_fixed h_R_low h_R_high h_R_stack h_S h_S_characters h_S_names h_S_code h_S_ends h_S_firstUses R_count R_names R_fixed R_low R_high R_stack S_characters S_length S_at S_names S_count S_code S_codeLength S_ends S_firstUses) H → va_D A (zd_RS cC cI cJ h_R h_R_names h_R_fixed h_R_low h_R_high h_R_stack h_S h_S_characters h_S_names h_S_code h_S_ends h_S_firstUses R_count R_names R_fixed R_low R_high R_stack S_characters S_length S_at S_names S_count S_code S_codeLength S_ends S_firstUses) → va_S A s.heap H locs → lv_has ls 9 [(0, .ref h_R), (1, .ref h_S), (3, .int x3), (4, .long x4), (6, .int x6), (7, .int x7)] → zf_R_work_6 n x3 x4 x6 x7 S_names S_count S_code R_stack = some (o_r, o_R_stack) → W p l e (headSpec zs_R_work rm_R_work).room s m args below meth c H locs 0 0 (MQ below (zq_R_work dC dI cC cI cJ h_R h_R_names h_R_fixed h_R_low h_R_high h_R_stack h_S h_S_characters h_S_names h_S_code h_S_ends h_S_firstUses R_count R_names R_fixed R_low R_high S_characters S_length S_at S_names S_count S_code S_codeLength S_ends S_firstUses o_r o_R_stack A) args s 0 0 A) (F0 m 6 ls []) := by
  obtain ⟨hx, hb, hr, hml, hown, ht, hlocks⟩ := id C0
  intro n
  induction n with
  | zero =>
    intro x3 x4 x6 x7 S_names S_count S_code R_stack H locs ls hP hD hS hl h
    cases (show none = some _ from h)
  | succ n ih =>
    intro x3 x4 x6 x7 S_names S_count S_code R_stack H locs ls hP hD hS hl h
    rw [zf_R_work_6] at h
    refine lv_iload hx hb ze_R_work_6 (lv_at hl 5 rfl) ?_
    refine lv_iload_n hx hb ze_R_work_8 rfl (lv_at hl 2 rfl) ?_
    refine lv_icmp_ge (tgt := 167) hx hb ze_R_work_9 (by decide) (fun c1 => ?_) (fun c1 => ?_)
    · replace h := z_it_t c1 h
      refine lv_aload_n hx hb ze_R_work_167 rfl (lv_at hl 0 rfl) ?_
      refine va_get (D := (dC, dI)) (ci := 1) (v := .ref h_R_stack) (C := "RuleNetwork$Rules") (T := zT_R) (N := 6) hx hb ht zin_R hown hK hP 0 rfl rfl 5 (by decide) (ht _ zw_128) (fun _ h9 => h9) rfl ze_R_work_168 ?_
      refine lv_iconst (v := (0 : Int32)) hx hb ze_R_work_171 (by decide) ?_
      obtain ⟨g2, h⟩ := z_gd_some h
      refine va_lald hx hb hK hP 5 2 rfl rfl g2 ze_R_work_172 ?_
      cases h
      exact W.lret hx hb hr (fun t ht9 hW => ⟨⟨_, (), rfl, rfl, by rw [ht9]; exact hP, hD⟩, hS.F ht9⟩) hS.2.2 ze_R_work_173
    · replace h := z_it_f c1 h
      refine lv_aload_n hx hb ze_R_work_12 rfl (lv_at hl 1 rfl) ?_
      refine va_get (D := (dC, dI)) (ci := 0) (v := .ref h_S_code) (C := "RuleNetwork$Script") (T := zT_S) (N := 9) hx hb ht zin_S hown hK hP 6 rfl rfl 5 (by decide) (ht _ zw_86) (fun _ h9 => h9) rfl ze_R_work_13 ?_
      refine lv_iload hx hb ze_R_work_16 (lv_at hl 5 rfl) ?_
      obtain ⟨g3, h⟩ := z_gd_some h
      refine va_cald hx hb hK hP 9 0 rfl rfl g3 ze_R_work_18 ?_
      refine lv_istore (lv' := [(8, .int (S_code x7.toNatClampNeg)), (0, .ref h_R), (1, .ref h_S), (3, .int x3), (4, .long x4), (6, .int x6), (7, .int x7)]) hx hb ze_R_work_19 hl (by decide) rfl (fun ls hl => ?_)
      refine lv_iload hx hb ze_R_work_21 (lv_at hl 0 rfl) ?_
      refine lv_bipush (v := (33 : Int32)) hx hb ze_R_work_23 (by decide) ?_
      refine lv_icmp_ne (tgt := 59) hx hb ze_R_work_25 (by decide) (fun c4 => ?_) (fun c4 => ?_)
      · replace h := z_it_f c4 h
        exact zk_R_work_59 C0 hK hA hX ih x3 x4 x6 x7 (S_code x7.toNatClampNeg) S_names S_count S_code R_stack _ _ _ hP hD hS (lv_sub hl [1, 2, 3, 4, 5, 6, 0] rfl) h
      · replace h := z_it_t c4 h
        refine lv_iload hx hb ze_R_work_28 (lv_at hl 5 rfl) ?_
        refine lv_iconst (v := (1 : Int32)) hx hb ze_R_work_30 (by decide) ?_
        refine lv_icmp_lt (tgt := 59) hx hb ze_R_work_31 (by decide) (fun c5 => ?_) (fun c5 => ?_)
        · replace h := z_it_t c5 h
          exact zk_R_work_59 C0 hK hA hX ih x3 x4 x6 x7 (S_code x7.toNatClampNeg) S_names S_count S_code R_stack _ _ _ hP hD hS (lv_sub hl [1, 2, 3, 4, 5, 6, 0] rfl) h
        · replace h := z_it_f c5 h
          refine lv_aload_n hx hb ze_R_work_34 rfl (lv_at hl 1 rfl) ?_
          refine va_get (D := (dC, dI)) (ci := 1) (v := .ref h_R_stack) (C := "RuleNetwork$Rules") (T := zT_R) (N := 6) hx hb ht zin_R hown hK hP 0 rfl rfl 5 (by decide) (ht _ zw_128) (fun _ h9 => h9) rfl ze_R_work_35 ?_
          refine lv_iload hx hb ze_R_work_38 (lv_at hl 5 rfl) ?_
          refine lv_iconst (v := (1 : Int32)) hx hb ze_R_work_40 (by decide) ?_
          refine lv_isub hx hb ze_R_work_41 ?_
          refine lv_aload_n hx hb ze_R_work_42 rfl (lv_at hl 1 rfl) ?_
          refine va_get (D := (dC, dI)) (ci := 1) (v := .ref h_R_stack) (C := "RuleNetwork$Rules") (T := zT_R) (N := 6) hx hb ht zin_R hown hK hP 0 rfl rfl 5 (by decide) (ht _ zw_128) (fun _ h9 => h9) rfl ze_R_work_43 ?_
          refine lv_iload hx hb ze_R_work_46 (lv_at hl 5 rfl) ?_
          refine lv_iconst (v := (1 : Int32)) hx hb ze_R_work_48 (by decide) ?_
          refine lv_isub hx hb ze_R_work_49 ?_
          obtain ⟨g6, h⟩ := z_gd_some h
          refine va_lald hx hb hK hP 5 2 rfl rfl g6 ze_R_work_50 ?_
          refine lv_ldc2 (v := (-1 : Int64)) hx hb hown (ht _ zw_330) ze_R_work_51 ?_
          refine lv_lxor hx hb ze_R_work_54 ?_
          obtain ⟨g7, h⟩ := z_gd_some h
          refine va_last hx hb hK hP hD hS 5 2 rfl rfl g7 ze_R_work_55 (fun H locs hP hD hS => ?_)
          have hP : va_P (dC, dI) vwCl (zd_RS cC cI cJ h_R h_R_names h_R_fixed h_R_low h_R_high h_R_stack h_S h_S_characters h_S_names h_S_code h_S_ends h_S_firstUses R_count R_names R_fixed R_low R_high (vp_updL R_stack (x6 - (1 : Int32)).toNatClampNeg ((R_stack (x6 - (1 : Int32)).toNatClampNeg) ^^^ (-1 : Int64))) S_characters S_length S_at S_names S_count S_code S_codeLength S_ends S_firstUses) H := hP
          have hD : va_D A (zd_RS cC cI cJ h_R h_R_names h_R_fixed h_R_low h_R_high h_R_stack h_S h_S_characters h_S_names h_S_code h_S_ends h_S_firstUses R_count R_names R_fixed R_low R_high (vp_updL R_stack (x6 - (1 : Int32)).toNatClampNeg ((R_stack (x6 - (1 : Int32)).toNatClampNeg) ^^^ (-1 : Int64))) S_characters S_length S_at S_names S_count S_code S_codeLength S_ends S_firstUses) := hD
          refine lv_goto (tgt := 161) hx hb ze_R_work_56 (by decide) ?_
          refine lv_iinc (v := (x7 + (1 : Int32))) (lv' := [(7, .int (x7 + (1 : Int32))), (8, .int (S_code x7.toNatClampNeg)), (0, .ref h_R), (1, .ref h_S), (3, .int x3), (4, .long x4), (6, .int x6)]) hx hb ze_R_work_161 hl (k := 6) rfl rfl (by decide) rfl (fun ls hl => ?_)
          refine lv_goto (tgt := 6) hx hb ze_R_work_164 (by decide) ?_
          exact ih x3 x4 x6 (x7 + (1 : Int32)) S_names S_count S_code (vp_updL R_stack (x6 - (1 : Int32)).toNatClampNeg ((R_stack (x6 - (1 : Int32)).toNatClampNeg) ^^^ (-1 : Int64))) _ _ _ hP hD hS (lv_sub hl [2, 3, 4, 5, 6, 0] rfl) h
set_option maxHeartbeats 4000000 in
set_option maxRecDepth 100000 in
theorem zc_R_work (l : Launch) (dC : Nat → ClassId) (dI : Nat → Nat → Nat) (cC : ClassId) (cI : ClassId) (cJ : ClassId) (tp : Nat) (h_R : Nat) (h_R_names : Nat) (h_R_fixed : Nat) (h_R_low : Nat) (h_R_high : Nat) (h_R_stack : Nat) (h_S : Nat) (h_S_characters : Nat) (h_S_names : Nat) (h_S_code : Nat) (h_S_ends : Nat) (h_S_firstUses : Nat) (sz : Nat) (R_count : Int32) (R_names : Nat → Int32) (R_fixed : Nat → Int32) (R_low : Nat → Int64) (R_high : Nat → Int64) (R_stack : Nat → Int64) (S_characters : Nat → Int32) (S_length : Int32) (S_at : Int32) (S_names : Nat → Int32) (S_count : Int32) (S_code : Nat → Int32) (S_codeLength : Int32) (S_ends : Nat → Int32) (S_firstUses : Nat → Int32) (x2 : Int32) (x3 : Int32) (x4 : Int64) (o_r : Int64) (o_R_stack : Nat → Int64) (h : zf_R_work x2 x3 x4 S_names S_count S_code R_stack = some (o_r, o_R_stack)) : Met l zy_R_work zs_R_work (rm_R_work) (va_Pc [.ref h_R, .ref h_S, .int x2, .int x3, .long x4] (fun U => U.heap.size = sz ∧ va_P (dC, dI) vwCl (zd_RS cC cI cJ h_R h_R_names h_R_fixed h_R_low h_R_high h_R_stack h_S h_S_characters h_S_names h_S_code h_S_ends h_S_firstUses R_count R_names R_fixed R_low R_high R_stack S_characters S_length S_at S_names S_count S_code S_codeLength S_ends S_firstUses) U.heap ∧ va_K (dC, dI) vwCl (z_tys cC cI cJ) U ∧ va_D (fun _ => True) (zd_RS cC cI cJ h_R h_R_names h_R_fixed h_R_low h_R_high h_R_stack h_S h_S_characters h_S_names h_S_code h_S_ends h_S_firstUses R_count R_names R_fixed R_low R_high R_stack S_characters S_length S_at S_names S_count S_code S_codeLength S_ends S_firstUses) ∧ z_X tp (va_A (zd_RS cC cI cJ h_R h_R_names h_R_fixed h_R_low h_R_high h_R_stack h_S h_S_characters h_S_names h_S_code h_S_ends h_S_firstUses R_count R_names R_fixed R_low R_high R_stack S_characters S_length S_at S_names S_count S_code S_codeLength S_ends S_firstUses) sz) U)) (zq_R_work dC dI cC cI cJ h_R h_R_names h_R_fixed h_R_low h_R_high h_R_stack h_S h_S_characters h_S_names h_S_code h_S_ends h_S_firstUses R_count R_names R_fixed R_low R_high S_characters S_length S_at S_names S_count S_code S_codeLength S_ends S_firstUses o_r o_R_stack (va_A (zd_RS cC cI cJ h_R h_R_names h_R_fixed h_R_low h_R_high h_R_stack h_S h_S_characters h_S_names h_S_code h_S_ends h_S_firstUses R_count R_names R_fixed R_low R_high R_stack S_characters S_length S_at S_names S_count S_code S_codeLength S_ends S_firstUses) sz)) 0 0 (va_A (zd_RS cC cI cJ h_R h_R_names h_R_fixed h_R_low h_R_high h_R_stack h_S h_S_characters h_S_names h_S_code h_S_ends h_S_firstUses R_count R_names R_fixed R_low R_high R_stack S_characters S_length S_at S_names S_count S_code S_codeLength S_ends S_firstUses) sz) := by
  refine Met.ofW (cc := zb_R_work) (maxL := 9) (ret := (some .long)) (by decide) rfl ?_
  intro p e s m args below meth c s₁ B hml hv
  obtain ⟨rfl, hsz, hP, hK, hD0, hX⟩ := hv
  have hx := B.exec
  have hb := B.bytes
  have hr := B.returns
  have hts := atoms_spec (ws := zs_R_work) B.pre
  have ht : ∀ w ∈ z_W, w.before _ s = true := fun w h => hts w (List.mem_cons_of_mem _ h)
  have hown : s.vm.findClass "RuleNetwork$Rules" = some m.cls := findClass_of_methodNamed B.named
  have hlocks := B.notSynchronized
  have C0 : z_kx p s m _ meth c "RuleNetwork$Rules" zb_R_work 9 (some .long) := ⟨hx, hb, hr, hml, hown, ht, hlocks⟩
  subst hsz
  have hD := hD0.self (sz := s.heap.size)
  generalize hAe : va_A (zd_RS cC cI cJ h_R h_R_names h_R_fixed h_R_low h_R_high h_R_stack h_S h_S_characters h_S_names h_S_code h_S_ends h_S_firstUses R_count R_names R_fixed R_low R_high R_stack S_characters S_length S_at S_names S_count S_code S_codeLength S_ends S_firstUses) s.heap.size = A at hD hX ⊢
  have hA : ∀ q : Nat, s.heap.size ≤ q → A q := fun q h => by rw [← hAe]; exact Or.inr h
  have hS : va_S A s.heap s.heap [] := va_S.rf
  have hl := lv_entry ([.ref h_R, .ref h_S, .int x2, .int x3, .long x4]) (n := 9) (Nat.le_of_ble_eq_true rfl)
  rw [lg_entry_eq]
  generalize (lg_sl ([.ref h_R, .ref h_S, .int x2, .int x3, .long x4]) ++ List.replicate (9 - (lg_sl ([.ref h_R, .ref h_S, .int x2, .int x3, .long x4])).length) Slot.unset).toArray = ls at hl ⊢
  have hl : lv_has ls 9 [(0, .ref h_R), (1, .ref h_S), (2, .int x2), (3, .int x3), (4, .long x4)] := hl
  rw [zf_R_work] at h
  refine lv_iconst (v := (0 : Int32)) hx hb ze_R_work_0 (by decide) ?_
  refine lv_istore (lv' := [(6, .int (0 : Int32)), (0, .ref h_R), (1, .ref h_S), (2, .int x2), (3, .int x3), (4, .long x4)]) hx hb ze_R_work_1 hl (by decide) rfl (fun ls hl => ?_)
  refine lv_iload_n hx hb ze_R_work_3 rfl (lv_at hl 3 rfl) ?_
  refine lv_istore (lv' := [(7, .int x2), (6, .int (0 : Int32)), (0, .ref h_R), (1, .ref h_S), (2, .int x2), (3, .int x3), (4, .long x4)]) hx hb ze_R_work_4 hl (by decide) rfl (fun ls hl => ?_)
  exact zk_R_work_6 C0 hK hA hX z_FU x3 x4 (0 : Int32) x2 S_names S_count S_code R_stack _ _ _ hP hD hS (lv_sub hl [2, 3, 5, 6, 1, 0] rfl) h
set_option maxHeartbeats 4000000 in
set_option maxRecDepth 100000 in
theorem zk_R_take_12 {p : Program} {l : Launch} {e : Env} {s : State} {m : MethodId} {args : Array Value} {below : List Frame} {meth : Method} {c : Code} {dC : Nat → ClassId} {dI : Nat → Nat → Nat} {cC cI cJ : ClassId} {A : Nat → Prop} {tp : Nat} {h_R h_R_names h_R_fixed h_R_low h_R_high h_R_stack h_S h_S_characters h_S_names h_S_code h_S_ends h_S_firstUses : Nat} {S_characters : Nat → Int32} {S_length : Int32} {S_at : Int32} {S_codeLength : Int32} {S_firstUses : Nat → Int32} {o_R_count : Int32} {o_R_names : Nat → Int32} {o_R_fixed : Nat → Int32} {o_R_low : Nat → Int64} {o_R_high : Nat → Int64} {o_R_stack : Nat → Int64} (C0 : z_kx p s m args meth c "RuleNetwork$Rules" zb_R_take 4 none) (hK : va_K (dC, dI) vwCl (z_tys cC cI cJ) s) (hA : ∀ q : Nat, s.heap.size ≤ q → A q) (hX : z_X tp A s) :
    ∀ n : Nat, ∀ (x2 : Int32) (x3 : Int32) (S_names : Nat → Int32) (S_count : Int32) (S_code : Nat → Int32) (S_ends : Nat → Int32) (R_count : Int32) (R_names : Nat → Int32) (R_fixed : Nat → Int32) (R_low : Nat → Int64) (R_high : Nat → Int64) (R_stack : Nat → Int64) (H : Heap) (locs : List Loc) (ls : Array Slot), va_P (dC, dI) vwCl (zd_RS cC cI cJ h_R h_R_names h_R_fixed h_R_low h_R_high h_R_stack h_S h_S_characters h_S_names h_S_code h_S_ends h_S_firstUses R_count R_names R_fixed R_low R_high R_stack S_characters S_length S_at S_names S_count S_code S_codeLength S_ends S_firstUses) H → va_D A (zd_RS cC cI cJ h_R h_R_names h_R_fixed h_R_low h_R_high h_R_stack h_S h_S_characters h_S_names h_S_code h_S_ends h_S_firstUses R_count R_names R_fixed R_low R_high R_stack S_characters S_length S_at S_names S_count S_code S_codeLength S_ends S_firstUses) → va_S A s.heap H locs → lv_has ls 4 [(0, .ref h_R), (1, .ref h_S), (2, .int x2), (3, .int x3)] → zf_R_take_12 n x2 x3 S_names S_count S_code S_ends R_count R_names R_fixed R_low R_high R_stack = some (o_R_count, o_R_names, o_R_fixed, o_R_low, o_R_high, o_R_stack) → W p l e (headSpec zs_R_take rm_R_take).room s m args below meth c H locs 0 0 (MQ below (zq_R_take dC dI cC cI cJ h_R h_R_names h_R_fixed h_R_low h_R_high h_R_stack h_S h_S_characters h_S_names h_S_code h_S_ends h_S_firstUses S_characters S_length S_at S_names S_count S_code S_codeLength S_ends S_firstUses o_R_count o_R_names o_R_fixed o_R_low o_R_high o_R_stack A) args s 0 0 A) (F0 m 12 ls []) := by
  obtain ⟨hx, hb, hr, hml, hown, ht, hlocks⟩ := id C0
  intro n
  induction n with
  | zero =>
    intro x2 x3 S_names S_count S_code S_ends R_count R_names R_fixed R_low R_high R_stack H locs ls hP hD hS hl h
    cases (show none = some _ from h)
  | succ n ih =>
    intro x2 x3 S_names S_count S_code S_ends R_count R_names R_fixed R_low R_high R_stack H locs ls hP hD hS hl h
    rw [zf_R_take_12] at h
    refine lv_iload_n hx hb ze_R_take_12 rfl (lv_at hl 3 rfl) ?_
    refine lv_aload_n hx hb ze_R_take_13 rfl (lv_at hl 0 rfl) ?_
    refine va_get (D := (dC, dI)) (ci := 1) (v := .int R_count) (C := "RuleNetwork$Rules") (T := zT_R) (N := 6) hx hb ht zin_R hown hK hP 0 rfl rfl 0 (by decide) (ht _ zw_118) (fun _ h9 => h9) rfl ze_R_take_14 ?_
    refine lv_icmp_ge (tgt := 92) hx hb ze_R_take_17 (by decide) (fun c1 => ?_) (fun c1 => ?_)
    · replace h := z_it_t c1 h
      cases h
      exact W.vret hx hb hr (fun t ht9 hW => ⟨⟨(), rfl, trivial, by rw [ht9]; exact hP, hD⟩, hS.F ht9⟩) hS.2.2 ze_R_take_92
    · replace h := z_it_f c1 h
      refine lv_aload_n hx hb ze_R_take_20 rfl (lv_at hl 0 rfl) ?_
      refine va_get (D := (dC, dI)) (ci := 1) (v := .ref h_R_names) (C := "RuleNetwork$Rules") (T := zT_R) (N := 6) hx hb ht zin_R hown hK hP 0 rfl rfl 1 (by decide) (ht _ zw_122) (fun _ h9 => h9) rfl ze_R_take_21 ?_
      refine lv_iload_n hx hb ze_R_take_24 rfl (lv_at hl 3 rfl) ?_
      refine lv_aload_n hx hb ze_R_take_25 rfl (lv_at hl 1 rfl) ?_
      refine va_get (D := (dC, dI)) (ci := 0) (v := .ref h_S_names) (C := "RuleNetwork$Script") (T := zT_S) (N := 9) hx hb ht zin_S hown hK hP 6 rfl rfl 3 (by decide) (ht _ zw_82) (fun _ h9 => h9) rfl ze_R_take_26 ?_
      refine lv_iload_n hx hb ze_R_take_29 rfl (lv_at hl 3 rfl) ?_
      obtain ⟨g2, h⟩ := z_gd_some h
      refine va_cald hx hb hK hP 8 0 rfl rfl g2 ze_R_take_30 ?_
      obtain ⟨g3, h⟩ := z_gd_some h
      refine va_cast hx hb hK hP hD hS 1 0 rfl rfl g3 ze_R_take_31 (fun H locs hP hD hS => ?_)
      have hP : va_P (dC, dI) vwCl (zd_RS cC cI cJ h_R h_R_names h_R_fixed h_R_low h_R_high h_R_stack h_S h_S_characters h_S_names h_S_code h_S_ends h_S_firstUses R_count (upd R_names x3.toNatClampNeg (vp_nar .char (S_names x3.toNatClampNeg))) R_fixed R_low R_high R_stack S_characters S_length S_at S_names S_count S_code S_codeLength S_ends S_firstUses) H := hP
      have hD : va_D A (zd_RS cC cI cJ h_R h_R_names h_R_fixed h_R_low h_R_high h_R_stack h_S h_S_characters h_S_names h_S_code h_S_ends h_S_firstUses R_count (upd R_names x3.toNatClampNeg (vp_nar .char (S_names x3.toNatClampNeg))) R_fixed R_low R_high R_stack S_characters S_length S_at S_names S_count S_code S_codeLength S_ends S_firstUses) := hD
      refine lv_aload_n hx hb ze_R_take_32 rfl (lv_at hl 0 rfl) ?_
      refine va_get (D := (dC, dI)) (ci := 1) (v := .ref h_R_fixed) (C := "RuleNetwork$Rules") (T := zT_R) (N := 6) hx hb ht zin_R hown hK hP 0 rfl rfl 2 (by decide) (ht _ zw_124) (fun _ h9 => h9) rfl ze_R_take_33 ?_
      refine lv_iload_n hx hb ze_R_take_36 rfl (lv_at hl 3 rfl) ?_
      refine lv_iconst (v := (2 : Int32)) hx hb ze_R_take_37 (by decide) ?_
      obtain ⟨g4, h⟩ := z_gd_some h
      refine va_iast hx hb hK hP hD hS 2 1 rfl rfl g4 ze_R_take_38 (fun H locs hP hD hS => ?_)
      have hP : va_P (dC, dI) vwCl (zd_RS cC cI cJ h_R h_R_names h_R_fixed h_R_low h_R_high h_R_stack h_S h_S_characters h_S_names h_S_code h_S_ends h_S_firstUses R_count (upd R_names x3.toNatClampNeg (vp_nar .char (S_names x3.toNatClampNeg))) (upd R_fixed x3.toNatClampNeg (2 : Int32)) R_low R_high R_stack S_characters S_length S_at S_names S_count S_code S_codeLength S_ends S_firstUses) H := hP
      have hD : va_D A (zd_RS cC cI cJ h_R h_R_names h_R_fixed h_R_low h_R_high h_R_stack h_S h_S_characters h_S_names h_S_code h_S_ends h_S_firstUses R_count (upd R_names x3.toNatClampNeg (vp_nar .char (S_names x3.toNatClampNeg))) (upd R_fixed x3.toNatClampNeg (2 : Int32)) R_low R_high R_stack S_characters S_length S_at S_names S_count S_code S_codeLength S_ends S_firstUses) := hD
      refine lv_aload_n hx hb ze_R_take_39 rfl (lv_at hl 0 rfl) ?_
      refine va_get (D := (dC, dI)) (ci := 1) (v := .ref h_R_low) (C := "RuleNetwork$Rules") (T := zT_R) (N := 6) hx hb ht zin_R hown hK hP 0 rfl rfl 3 (by decide) (ht _ zw_126) (fun _ h9 => h9) rfl ze_R_take_40 ?_
      refine lv_iload_n hx hb ze_R_take_43 rfl (lv_at hl 3 rfl) ?_
      refine lv_aload_n hx hb ze_R_take_44 rfl (lv_at hl 0 rfl) ?_
      refine lv_aload_n hx hb ze_R_take_45 rfl (lv_at hl 1 rfl) ?_
      refine lv_iload_n hx hb ze_R_take_46 rfl (lv_at hl 2 rfl) ?_
      refine lv_aload_n hx hb ze_R_take_47 rfl (lv_at hl 1 rfl) ?_
      refine va_get (D := (dC, dI)) (ci := 0) (v := .ref h_S_ends) (C := "RuleNetwork$Script") (T := zT_S) (N := 9) hx hb ht zin_S hown hK hP 6 rfl rfl 7 (by decide) (ht _ zw_89) (fun _ h9 => h9) rfl ze_R_take_48 ?_
      refine lv_iload_n hx hb ze_R_take_51 rfl (lv_at hl 3 rfl) ?_
      obtain ⟨g5, h⟩ := z_gd_some h
      refine va_iald hx hb hK hP 10 1 rfl rfl g5 ze_R_take_52 ?_
      refine lv_lconst (v := (0 : Int64)) hx hb ze_R_take_53 (by decide) ?_
      obtain ⟨r6, R_stack_6, q6, h⟩ := z_b2_some h
      have hPc := hP.sub (ws' := (zd_RS cC cI cJ h_R h_R_names h_R_fixed h_R_low h_R_high h_R_stack h_S h_S_characters h_S_names h_S_code h_S_ends h_S_firstUses R_count (upd R_names x3.toNatClampNeg (vp_nar .char (S_names x3.toNatClampNeg))) (upd R_fixed x3.toNatClampNeg (2 : Int32)) R_low R_high R_stack S_characters S_length S_at S_names S_count S_code S_codeLength S_ends S_firstUses)) [0, 1, 2, 3, 4, 5, 6, 7, 8, 9, 10, 11] rfl
      have hDc := hD.sub (ws' := (zd_RS cC cI cJ h_R h_R_names h_R_fixed h_R_low h_R_high h_R_stack h_S h_S_characters h_S_names h_S_code h_S_ends h_S_firstUses R_count (upd R_names x3.toNatClampNeg (vp_nar .char (S_names x3.toNatClampNeg))) (upd R_fixed x3.toNatClampNeg (2 : Int32)) R_low R_high R_stack S_characters S_length S_at S_names S_count S_code S_codeLength S_ends S_firstUses)) [0, 1, 2, 3, 4, 5, 6, 7, 8, 9, 10, 11] (by decide) rfl
      have hFc := va_free (wc := (zd_RS cC cI cJ h_R h_R_names h_R_fixed h_R_low h_R_high h_R_stack h_S h_S_characters h_S_names h_S_code h_S_ends h_S_firstUses R_count (upd R_names x3.toNatClampNeg (vp_nar .char (S_names x3.toNatClampNeg))) (upd R_fixed x3.toNatClampNeg (2 : Int32)) R_low R_high R_stack S_characters S_length S_at S_names S_count S_code S_codeLength S_ends S_firstUses)) hD hS hA [0, 1, 2, 3, 4, 5, 6, 7, 8, 9, 10, 11] rfl
      -- CALL R_work
      refine va_calll (va_runV (As := [.ref h_S, .int x2, .int (S_ends x3.toNatClampNeg), .long (0 : Int64)]) (rest := [.int x3, .ref h_R_low]) ⟨hx, hb, hml, hown, ht⟩ (zc_R_work l dC dI cC cI cJ tp h_R h_R_names h_R_fixed h_R_low h_R_high h_R_stack h_S h_S_characters h_S_names h_S_code h_S_ends h_S_firstUses H.size R_count (upd R_names x3.toNatClampNeg (vp_nar .char (S_names x3.toNatClampNeg))) (upd R_fixed x3.toNatClampNeg (2 : Int32)) R_low R_high R_stack S_characters S_length S_at S_names S_count S_code S_codeLength S_ends S_firstUses x2 (S_ends x3.toNatClampNeg) (0 : Int64) r6 R_stack_6 q6) (cwV 4 ht (z_gV zw_326 zw_328 zw_10 zw_57 zw_329) rfl rfl rfl ⟨rfl, zh_R_work⟩ ⟨Nat.le_of_ble_eq_true rfl, Nat.le_of_ble_eq_true rfl⟩) ⟨fun a U g mk q => by obtain ⟨z0, z1, zP, zK, zD, zX⟩ := q; exact ⟨z0, z1, zP, va_K.moved (u := U) (U := U.calling g mk a) (Vm.Alike.refl U.vm) zK, zD, z_X.same rfl rfl zX⟩, va_recv hK hP (ci := 1) (q0 := 0) rfl rfl, fun U hU hW => ⟨rfl, by rw [hU], by rw [hU]; exact hPc, va_K.moved hW.alike hK, hDc.weaken (fun _ _ _ _ => trivial), hX.warm hS hFc hU hW⟩⟩ rfl rfl hl.1 rfl (lv_room (Nat.le_of_ble_eq_true rfl)) ze_R_take_54 ⟨Nat.zero_le _, Nat.zero_le _⟩) hS (fun q _ h => hFc q h) hFc (fun rv u t H1 locs ht9 hvm hw hB hz1 hk1 hS => ?_)
      obtain ⟨hP1, hD1⟩ := hB
      rw [ht9] at hP1
      have hw' : r6 = rv := Eq.symm hw
      subst hw'
      obtain ⟨hP, hD⟩ := va_join (wr := []) (w1 := (zd_RS cC cI cJ h_R h_R_names h_R_fixed h_R_low h_R_high h_R_stack h_S h_S_characters h_S_names h_S_code h_S_ends h_S_firstUses R_count (upd R_names x3.toNatClampNeg (vp_nar .char (S_names x3.toNatClampNeg))) (upd R_fixed x3.toNatClampNeg (2 : Int32)) R_low R_high R_stack_6 S_characters S_length S_at S_names S_count S_code S_codeLength S_ends S_firstUses)) hP hD [0, 1, 2, 3, 4, 5, 6, 7, 8, 9, 10, 11] [] rfl rfl (by decide) (by decide) hk1 hFc hP1 hD1
      generalize H1 = H at hP hS ⊢
      replace hP := hP.sub (ws' := (zd_RS cC cI cJ h_R h_R_names h_R_fixed h_R_low h_R_high h_R_stack h_S h_S_characters h_S_names h_S_code h_S_ends h_S_firstUses R_count (upd R_names x3.toNatClampNeg (vp_nar .char (S_names x3.toNatClampNeg))) (upd R_fixed x3.toNatClampNeg (2 : Int32)) R_low R_high R_stack_6 S_characters S_length S_at S_names S_count S_code S_codeLength S_ends S_firstUses)) [0, 1, 2, 3, 4, 5, 6, 7, 8, 9, 10, 11] rfl
      replace hD := hD.sub (ws' := (zd_RS cC cI cJ h_R h_R_names h_R_fixed h_R_low h_R_high h_R_stack h_S h_S_characters h_S_names h_S_code h_S_ends h_S_firstUses R_count (upd R_names x3.toNatClampNeg (vp_nar .char (S_names x3.toNatClampNeg))) (upd R_fixed x3.toNatClampNeg (2 : Int32)) R_low R_high R_stack_6 S_characters S_length S_at S_names S_count S_code S_codeLength S_ends S_firstUses)) [0, 1, 2, 3, 4, 5, 6, 7, 8, 9, 10, 11] (by decide) rfl
      obtain ⟨g7, h⟩ := z_gd_some h
      refine va_last hx hb hK hP hD hS 3 2 rfl rfl g7 ze_R_take_57 (fun H locs hP hD hS => ?_)
      have hP : va_P (dC, dI) vwCl (zd_RS cC cI cJ h_R h_R_names h_R_fixed h_R_low h_R_high h_R_stack h_S h_S_characters h_S_names h_S_code h_S_ends h_S_firstUses R_count (upd R_names x3.toNatClampNeg (vp_nar .char (S_names x3.toNatClampNeg))) (upd R_fixed x3.toNatClampNeg (2 : Int32)) (vp_updL R_low x3.toNatClampNeg r6) R_high R_stack_6 S_characters S_length S_at S_names S_count S_code S_codeLength S_ends S_firstUses) H := hP
      have hD : va_D A (zd_RS cC cI cJ h_R h_R_names h_R_fixed h_R_low h_R_high h_R_stack h_S h_S_characters h_S_names h_S_code h_S_ends h_S_firstUses R_count (upd R_names x3.toNatClampNeg (vp_nar .char (S_names x3.toNatClampNeg))) (upd R_fixed x3.toNatClampNeg (2 : Int32)) (vp_updL R_low x3.toNatClampNeg r6) R_high R_stack_6 S_characters S_length S_at S_names S_count S_code S_codeLength S_ends S_firstUses) := hD
      refine lv_aload_n hx hb ze_R_take_58 rfl (lv_at hl 0 rfl) ?_
      refine va_get (D := (dC, dI)) (ci := 1) (v := .ref h_R_high) (C := "RuleNetwork$Rules") (T := zT_R) (N := 6) hx hb ht zin_R hown hK hP 0 rfl rfl 4 (by decide) (ht _ zw_127) (fun _ h9 => h9) rfl ze_R_take_59 ?_
      refine lv_iload_n hx hb ze_R_take_62 rfl (lv_at hl 3 rfl) ?_
      refine lv_aload_n hx hb ze_R_take_63 rfl (lv_at hl 0 rfl) ?_
      refine lv_aload_n hx hb ze_R_take_64 rfl (lv_at hl 1 rfl) ?_
      refine lv_iload_n hx hb ze_R_take_65 rfl (lv_at hl 2 rfl) ?_
      refine lv_aload_n hx hb ze_R_take_66 rfl (lv_at hl 1 rfl) ?_
      refine va_get (D := (dC, dI)) (ci := 0) (v := .ref h_S_ends) (C := "RuleNetwork$Script") (T := zT_S) (N := 9) hx hb ht zin_S hown hK hP 6 rfl rfl 7 (by decide) (ht _ zw_89) (fun _ h9 => h9) rfl ze_R_take_67 ?_
      refine lv_iload_n hx hb ze_R_take_70 rfl (lv_at hl 3 rfl) ?_
      obtain ⟨g8, h⟩ := z_gd_some h
      refine va_iald hx hb hK hP 10 1 rfl rfl g8 ze_R_take_71 ?_
      refine lv_ldc2 (v := (-1 : Int64)) hx hb hown (ht _ zw_330) ze_R_take_72 ?_
      obtain ⟨r9, R_stack_9, q9, h⟩ := z_b2_some h
      have hPc := hP.sub (ws' := (zd_RS cC cI cJ h_R h_R_names h_R_fixed h_R_low h_R_high h_R_stack h_S h_S_characters h_S_names h_S_code h_S_ends h_S_firstUses R_count (upd R_names x3.toNatClampNeg (vp_nar .char (S_names x3.toNatClampNeg))) (upd R_fixed x3.toNatClampNeg (2 : Int32)) (vp_updL R_low x3.toNatClampNeg r6) R_high R_stack_6 S_characters S_length S_at S_names S_count S_code S_codeLength S_ends S_firstUses)) [0, 1, 2, 3, 4, 5, 6, 7, 8, 9, 10, 11] rfl
      have hDc := hD.sub (ws' := (zd_RS cC cI cJ h_R h_R_names h_R_fixed h_R_low h_R_high h_R_stack h_S h_S_characters h_S_names h_S_code h_S_ends h_S_firstUses R_count (upd R_names x3.toNatClampNeg (vp_nar .char (S_names x3.toNatClampNeg))) (upd R_fixed x3.toNatClampNeg (2 : Int32)) (vp_updL R_low x3.toNatClampNeg r6) R_high R_stack_6 S_characters S_length S_at S_names S_count S_code S_codeLength S_ends S_firstUses)) [0, 1, 2, 3, 4, 5, 6, 7, 8, 9, 10, 11] (by decide) rfl
      have hFc := va_free (wc := (zd_RS cC cI cJ h_R h_R_names h_R_fixed h_R_low h_R_high h_R_stack h_S h_S_characters h_S_names h_S_code h_S_ends h_S_firstUses R_count (upd R_names x3.toNatClampNeg (vp_nar .char (S_names x3.toNatClampNeg))) (upd R_fixed x3.toNatClampNeg (2 : Int32)) (vp_updL R_low x3.toNatClampNeg r6) R_high R_stack_6 S_characters S_length S_at S_names S_count S_code S_codeLength S_ends S_firstUses)) hD hS hA [0, 1, 2, 3, 4, 5, 6, 7, 8, 9, 10, 11] rfl
      -- CALL R_work
      refine va_calll (va_runV (As := [.ref h_S, .int x2, .int (S_ends x3.toNatClampNeg), .long (-1 : Int64)]) (rest := [.int x3, .ref h_R_high]) ⟨hx, hb, hml, hown, ht⟩ (zc_R_work l dC dI cC cI cJ tp h_R h_R_names h_R_fixed h_R_low h_R_high h_R_stack h_S h_S_characters h_S_names h_S_code h_S_ends h_S_firstUses H.size R_count (upd R_names x3.toNatClampNeg (vp_nar .char (S_names x3.toNatClampNeg))) (upd R_fixed x3.toNatClampNeg (2 : Int32)) (vp_updL R_low x3.toNatClampNeg r6) R_high R_stack_6 S_characters S_length S_at S_names S_count S_code S_codeLength S_ends S_firstUses x2 (S_ends x3.toNatClampNeg) (-1 : Int64) r9 R_stack_9 q9) (cwV 4 ht (z_gV zw_326 zw_328 zw_10 zw_57 zw_329) rfl rfl rfl ⟨rfl, zh_R_work⟩ ⟨Nat.le_of_ble_eq_true rfl, Nat.le_of_ble_eq_true rfl⟩) ⟨fun a U g mk q => by obtain ⟨z0, z1, zP, zK, zD, zX⟩ := q; exact ⟨z0, z1, zP, va_K.moved (u := U) (U := U.calling g mk a) (Vm.Alike.refl U.vm) zK, zD, z_X.same rfl rfl zX⟩, va_recv hK hP (ci := 1) (q0 := 0) rfl rfl, fun U hU hW => ⟨rfl, by rw [hU], by rw [hU]; exact hPc, va_K.moved hW.alike hK, hDc.weaken (fun _ _ _ _ => trivial), hX.warm hS hFc hU hW⟩⟩ rfl rfl hl.1 rfl (lv_room (Nat.le_of_ble_eq_true rfl)) ze_R_take_75 ⟨Nat.zero_le _, Nat.zero_le _⟩) hS (fun q _ h => hFc q h) hFc (fun rv u t H1 locs ht9 hvm hw hB hz1 hk1 hS => ?_)
      obtain ⟨hP1, hD1⟩ := hB
      rw [ht9] at hP1
      have hw' : r9 = rv := Eq.symm hw
      subst hw'
      obtain ⟨hP, hD⟩ := va_join (wr := []) (w1 := (zd_RS cC cI cJ h_R h_R_names h_R_fixed h_R_low h_R_high h_R_stack h_S h_S_characters h_S_names h_S_code h_S_ends h_S_firstUses R_count (upd R_names x3.toNatClampNeg (vp_nar .char (S_names x3.toNatClampNeg))) (upd R_fixed x3.toNatClampNeg (2 : Int32)) (vp_updL R_low x3.toNatClampNeg r6) R_high R_stack_9 S_characters S_length S_at S_names S_count S_code S_codeLength S_ends S_firstUses)) hP hD [0, 1, 2, 3, 4, 5, 6, 7, 8, 9, 10, 11] [] rfl rfl (by decide) (by decide) hk1 hFc hP1 hD1
      generalize H1 = H at hP hS ⊢
      replace hP := hP.sub (ws' := (zd_RS cC cI cJ h_R h_R_names h_R_fixed h_R_low h_R_high h_R_stack h_S h_S_characters h_S_names h_S_code h_S_ends h_S_firstUses R_count (upd R_names x3.toNatClampNeg (vp_nar .char (S_names x3.toNatClampNeg))) (upd R_fixed x3.toNatClampNeg (2 : Int32)) (vp_updL R_low x3.toNatClampNeg r6) R_high R_stack_9 S_characters S_length S_at S_names S_count S_code S_codeLength S_ends S_firstUses)) [0, 1, 2, 3, 4, 5, 6, 7, 8, 9, 10, 11] rfl
      replace hD := hD.sub (ws' := (zd_RS cC cI cJ h_R h_R_names h_R_fixed h_R_low h_R_high h_R_stack h_S h_S_characters h_S_names h_S_code h_S_ends h_S_firstUses R_count (upd R_names x3.toNatClampNeg (vp_nar .char (S_names x3.toNatClampNeg))) (upd R_fixed x3.toNatClampNeg (2 : Int32)) (vp_updL R_low x3.toNatClampNeg r6) R_high R_stack_9 S_characters S_length S_at S_names S_count S_code S_codeLength S_ends S_firstUses)) [0, 1, 2, 3, 4, 5, 6, 7, 8, 9, 10, 11] (by decide) rfl
      obtain ⟨g10, h⟩ := z_gd_some h
      refine va_last hx hb hK hP hD hS 4 2 rfl rfl g10 ze_R_take_78 (fun H locs hP hD hS => ?_)
      have hP : va_P (dC, dI) vwCl (zd_RS cC cI cJ h_R h_R_names h_R_fixed h_R_low h_R_high h_R_stack h_S h_S_characters h_S_names h_S_code h_S_ends h_S_firstUses R_count (upd R_names x3.toNatClampNeg (vp_nar .char (S_names x3.toNatClampNeg))) (upd R_fixed x3.toNatClampNeg (2 : Int32)) (vp_updL R_low x3.toNatClampNeg r6) (vp_updL R_high x3.toNatClampNeg r9) R_stack_9 S_characters S_length S_at S_names S_count S_code S_codeLength S_ends S_firstUses) H := hP
      have hD : va_D A (zd_RS cC cI cJ h_R h_R_names h_R_fixed h_R_low h_R_high h_R_stack h_S h_S_characters h_S_names h_S_code h_S_ends h_S_firstUses R_count (upd R_names x3.toNatClampNeg (vp_nar .char (S_names x3.toNatClampNeg))) (upd R_fixed x3.toNatClampNeg (2 : Int32)) (vp_updL R_low x3.toNatClampNeg r6) (vp_updL R_high x3.toNatClampNeg r9) R_stack_9 S_characters S_length S_at S_names S_count S_code S_codeLength S_ends S_firstUses) := hD
      refine lv_aload_n hx hb ze_R_take_79 rfl (lv_at hl 1 rfl) ?_
      refine va_get (D := (dC, dI)) (ci := 0) (v := .ref h_S_ends) (C := "RuleNetwork$Script") (T := zT_S) (N := 9) hx hb ht zin_S hown hK hP 6 rfl rfl 7 (by decide) (ht _ zw_89) (fun _ h9 => h9) rfl ze_R_take_80 ?_
      refine lv_iload_n hx hb ze_R_take_83 rfl (lv_at hl 3 rfl) ?_
      obtain ⟨g11, h⟩ := z_gd_some h
      refine va_iald hx hb hK hP 10 1 rfl rfl g11 ze_R_take_84 ?_
      refine lv_istore_n (lv' := [(2, .int (S_ends x3.toNatClampNeg)), (0, .ref h_R), (1, .ref h_S), (3, .int x3)]) hx hb ze_R_take_85 rfl hl (by decide) rfl (fun ls hl => ?_)
      refine lv_iinc (v := (x3 + (1 : Int32))) (lv' := [(3, .int (x3 + (1 : Int32))), (2, .int (S_ends x3.toNatClampNeg)), (0, .ref h_R), (1, .ref h_S)]) hx hb ze_R_take_86 hl (k := 3) rfl rfl (by decide) rfl (fun ls hl => ?_)
      refine lv_goto (tgt := 12) hx hb ze_R_take_89 (by decide) ?_
      exact ih (S_ends x3.toNatClampNeg) (x3 + (1 : Int32)) S_names S_count S_code S_ends R_count (upd R_names x3.toNatClampNeg (vp_nar .char (S_names x3.toNatClampNeg))) (upd R_fixed x3.toNatClampNeg (2 : Int32)) (vp_updL R_low x3.toNatClampNeg r6) (vp_updL R_high x3.toNatClampNeg r9) R_stack_9 _ _ _ hP hD hS (lv_sub hl [2, 3, 1, 0] rfl) h
set_option maxHeartbeats 4000000 in
set_option maxRecDepth 100000 in
theorem zc_R_take (l : Launch) (dC : Nat → ClassId) (dI : Nat → Nat → Nat) (cC : ClassId) (cI : ClassId) (cJ : ClassId) (tp : Nat) (h_R : Nat) (h_R_names : Nat) (h_R_fixed : Nat) (h_R_low : Nat) (h_R_high : Nat) (h_R_stack : Nat) (h_S : Nat) (h_S_characters : Nat) (h_S_names : Nat) (h_S_code : Nat) (h_S_ends : Nat) (h_S_firstUses : Nat) (sz : Nat) (R_count : Int32) (R_names : Nat → Int32) (R_fixed : Nat → Int32) (R_low : Nat → Int64) (R_high : Nat → Int64) (R_stack : Nat → Int64) (S_characters : Nat → Int32) (S_length : Int32) (S_at : Int32) (S_names : Nat → Int32) (S_count : Int32) (S_code : Nat → Int32) (S_codeLength : Int32) (S_ends : Nat → Int32) (S_firstUses : Nat → Int32) (o_R_count : Int32) (o_R_names : Nat → Int32) (o_R_fixed : Nat → Int32) (o_R_low : Nat → Int64) (o_R_high : Nat → Int64) (o_R_stack : Nat → Int64) (h : zf_R_take S_names S_count S_code S_ends R_count R_names R_fixed R_low R_high R_stack = some (o_R_count, o_R_names, o_R_fixed, o_R_low, o_R_high, o_R_stack)) : Met l zy_R_take zs_R_take (rm_R_take) (va_Pc [.ref h_R, .ref h_S] (fun U => U.heap.size = sz ∧ va_P (dC, dI) vwCl (zd_RS cC cI cJ h_R h_R_names h_R_fixed h_R_low h_R_high h_R_stack h_S h_S_characters h_S_names h_S_code h_S_ends h_S_firstUses R_count R_names R_fixed R_low R_high R_stack S_characters S_length S_at S_names S_count S_code S_codeLength S_ends S_firstUses) U.heap ∧ va_K (dC, dI) vwCl (z_tys cC cI cJ) U ∧ va_D (fun _ => True) (zd_RS cC cI cJ h_R h_R_names h_R_fixed h_R_low h_R_high h_R_stack h_S h_S_characters h_S_names h_S_code h_S_ends h_S_firstUses R_count R_names R_fixed R_low R_high R_stack S_characters S_length S_at S_names S_count S_code S_codeLength S_ends S_firstUses) ∧ z_X tp (va_A (zd_RS cC cI cJ h_R h_R_names h_R_fixed h_R_low h_R_high h_R_stack h_S h_S_characters h_S_names h_S_code h_S_ends h_S_firstUses R_count R_names R_fixed R_low R_high R_stack S_characters S_length S_at S_names S_count S_code S_codeLength S_ends S_firstUses) sz) U)) (zq_R_take dC dI cC cI cJ h_R h_R_names h_R_fixed h_R_low h_R_high h_R_stack h_S h_S_characters h_S_names h_S_code h_S_ends h_S_firstUses S_characters S_length S_at S_names S_count S_code S_codeLength S_ends S_firstUses o_R_count o_R_names o_R_fixed o_R_low o_R_high o_R_stack (va_A (zd_RS cC cI cJ h_R h_R_names h_R_fixed h_R_low h_R_high h_R_stack h_S h_S_characters h_S_names h_S_code h_S_ends h_S_firstUses R_count R_names R_fixed R_low R_high R_stack S_characters S_length S_at S_names S_count S_code S_codeLength S_ends S_firstUses) sz)) 0 0 (va_A (zd_RS cC cI cJ h_R h_R_names h_R_fixed h_R_low h_R_high h_R_stack h_S h_S_characters h_S_names h_S_code h_S_ends h_S_firstUses R_count R_names R_fixed R_low R_high R_stack S_characters S_length S_at S_names S_count S_code S_codeLength S_ends S_firstUses) sz) := by
  refine Met.ofW (cc := zb_R_take) (maxL := 4) (ret := none) (by decide) rfl ?_
  intro p e s m args below meth c s₁ B hml hv
  obtain ⟨rfl, hsz, hP, hK, hD0, hX⟩ := hv
  have hx := B.exec
  have hb := B.bytes
  have hr := B.returns
  have hts := atoms_spec (ws := zs_R_take) B.pre
  have ht : ∀ w ∈ z_W, w.before _ s = true := fun w h => hts w (List.mem_cons_of_mem _ h)
  have hown : s.vm.findClass "RuleNetwork$Rules" = some m.cls := findClass_of_methodNamed B.named
  have hlocks := B.notSynchronized
  have C0 : z_kx p s m _ meth c "RuleNetwork$Rules" zb_R_take 4 none := ⟨hx, hb, hr, hml, hown, ht, hlocks⟩
  subst hsz
  have hD := hD0.self (sz := s.heap.size)
  generalize hAe : va_A (zd_RS cC cI cJ h_R h_R_names h_R_fixed h_R_low h_R_high h_R_stack h_S h_S_characters h_S_names h_S_code h_S_ends h_S_firstUses R_count R_names R_fixed R_low R_high R_stack S_characters S_length S_at S_names S_count S_code S_codeLength S_ends S_firstUses) s.heap.size = A at hD hX ⊢
  have hA : ∀ q : Nat, s.heap.size ≤ q → A q := fun q h => by rw [← hAe]; exact Or.inr h
  have hS : va_S A s.heap s.heap [] := va_S.rf
  have hl := lv_entry ([.ref h_R, .ref h_S]) (n := 4) (Nat.le_of_ble_eq_true rfl)
  rw [lg_entry_eq]
  generalize (lg_sl ([.ref h_R, .ref h_S]) ++ List.replicate (4 - (lg_sl ([.ref h_R, .ref h_S])).length) Slot.unset).toArray = ls at hl ⊢
  have hl : lv_has ls 4 [(0, .ref h_R), (1, .ref h_S)] := hl
  rw [zf_R_take] at h
  refine lv_aload_n hx hb ze_R_take_0 rfl (lv_at hl 0 rfl) ?_
  refine lv_aload_n hx hb ze_R_take_1 rfl (lv_at hl 1 rfl) ?_
  refine va_get (D := (dC, dI)) (ci := 0) (v := .int S_count) (C := "RuleNetwork$Script") (T := zT_S) (N := 9) hx hb ht zin_S hown hK hP 6 rfl rfl 4 (by decide) (ht _ zw_83) (fun _ h9 => h9) rfl ze_R_take_2 ?_
  refine va_put (D := (dC, dI)) (ci := 1) (v := .int S_count) (ty := .int) (C := "RuleNetwork$Rules") (T := zT_R) (N := 6) hx hb ht zin_R zty_R zty_R_ok znm_R hown hK hP hD hS 0 rfl rfl 0 (by decide) (ht _ zw_118) (fun _ h9 => h9) rfl (zty_R_ok 0 (by decide)) rfl rfl (Nat.le_of_ble_eq_true rfl) ze_R_take_5 (fun H locs hP hD hS => ?_)
  have hP : va_P (dC, dI) vwCl (zd_RS cC cI cJ h_R h_R_names h_R_fixed h_R_low h_R_high h_R_stack h_S h_S_characters h_S_names h_S_code h_S_ends h_S_firstUses S_count R_names R_fixed R_low R_high R_stack S_characters S_length S_at S_names S_count S_code S_codeLength S_ends S_firstUses) H := hP
  have hD : va_D A (zd_RS cC cI cJ h_R h_R_names h_R_fixed h_R_low h_R_high h_R_stack h_S h_S_characters h_S_names h_S_code h_S_ends h_S_firstUses S_count R_names R_fixed R_low R_high R_stack S_characters S_length S_at S_names S_count S_code S_codeLength S_ends S_firstUses) := hD
  refine lv_iconst (v := (0 : Int32)) hx hb ze_R_take_8 (by decide) ?_
  refine lv_istore_n (lv' := [(2, .int (0 : Int32)), (0, .ref h_R), (1, .ref h_S)]) hx hb ze_R_take_9 rfl hl (by decide) rfl (fun ls hl => ?_)
  refine lv_iconst (v := (0 : Int32)) hx hb ze_R_take_10 (by decide) ?_
  refine lv_istore_n (lv' := [(3, .int (0 : Int32)), (2, .int (0 : Int32)), (0, .ref h_R), (1, .ref h_S)]) hx hb ze_R_take_11 rfl hl (by decide) rfl (fun ls hl => ?_)
  exact zk_R_take_12 C0 hK hA hX z_FU (0 : Int32) (0 : Int32) S_names S_count S_code S_ends S_count R_names R_fixed R_low R_high R_stack _ _ _ hP hD hS (lv_sub hl [2, 3, 1, 0] rfl) h
set_option maxHeartbeats 4000000 in
set_option maxRecDepth 100000 in
theorem zc_R_hasGene (l : Launch) (dC : Nat → ClassId) (dI : Nat → Nat → Nat) (cC : ClassId) (cI : ClassId) (cJ : ClassId) (tp : Nat) (h_R : Nat) (h_R_names : Nat) (h_R_fixed : Nat) (h_R_low : Nat) (h_R_high : Nat) (h_R_stack : Nat) (sz : Nat) (R_count : Int32) (R_names : Nat → Int32) (R_fixed : Nat → Int32) (R_low : Nat → Int64) (R_high : Nat → Int64) (R_stack : Nat → Int64) (x1 : Int32) (o_r : Int32) (h : zf_R_hasGene x1 R_count = some (o_r)) : Met l zy_R_hasGene zs_R_hasGene (rm_R_hasGene) (va_Pc [.ref h_R, .int x1] (fun U => U.heap.size = sz ∧ va_P (dC, dI) vwCl (zd_R cC cI cJ h_R h_R_names h_R_fixed h_R_low h_R_high h_R_stack R_count R_names R_fixed R_low R_high R_stack) U.heap ∧ va_K (dC, dI) vwCl (z_tys cC cI cJ) U ∧ va_D (fun _ => True) (zd_R cC cI cJ h_R h_R_names h_R_fixed h_R_low h_R_high h_R_stack R_count R_names R_fixed R_low R_high R_stack) ∧ z_X tp (va_A (zd_R cC cI cJ h_R h_R_names h_R_fixed h_R_low h_R_high h_R_stack R_count R_names R_fixed R_low R_high R_stack) sz) U)) (zq_R_hasGene dC dI cC cI cJ h_R h_R_names h_R_fixed h_R_low h_R_high h_R_stack R_count R_names R_fixed R_low R_high R_stack o_r (va_A (zd_R cC cI cJ h_R h_R_names h_R_fixed h_R_low h_R_high h_R_stack R_count R_names R_fixed R_low R_high R_stack) sz)) 0 0 (va_A (zd_R cC cI cJ h_R h_R_names h_R_fixed h_R_low h_R_high h_R_stack R_count R_names R_fixed R_low R_high R_stack) sz) := by
  refine Met.ofW (cc := zb_R_hasGene) (maxL := 2) (ret := (some .boolean)) (by decide) rfl ?_
  intro p e s m args below meth c s₁ B hml hv
  obtain ⟨rfl, hsz, hP, hK, hD0, hX⟩ := hv
  have hx := B.exec
  have hb := B.bytes
  have hr := B.returns
  have hts := atoms_spec (ws := zs_R_hasGene) B.pre
  have ht : ∀ w ∈ z_W, w.before _ s = true := fun w h => hts w (List.mem_cons_of_mem _ h)
  have hown : s.vm.findClass "RuleNetwork$Rules" = some m.cls := findClass_of_methodNamed B.named
  have hlocks := B.notSynchronized
  have C0 : z_kx p s m _ meth c "RuleNetwork$Rules" zb_R_hasGene 2 (some .boolean) := ⟨hx, hb, hr, hml, hown, ht, hlocks⟩
  subst hsz
  have hD := hD0.self (sz := s.heap.size)
  generalize hAe : va_A (zd_R cC cI cJ h_R h_R_names h_R_fixed h_R_low h_R_high h_R_stack R_count R_names R_fixed R_low R_high R_stack) s.heap.size = A at hD hX ⊢
  have hA : ∀ q : Nat, s.heap.size ≤ q → A q := fun q h => by rw [← hAe]; exact Or.inr h
  have hS : va_S A s.heap s.heap [] := va_S.rf
  have hl := lv_entry ([.ref h_R, .int x1]) (n := 2) (Nat.le_of_ble_eq_true rfl)
  rw [lg_entry_eq]
  generalize (lg_sl ([.ref h_R, .int x1]) ++ List.replicate (2 - (lg_sl ([.ref h_R, .int x1])).length) Slot.unset).toArray = ls at hl ⊢
  have hl : lv_has ls 2 [(0, .ref h_R), (1, .int x1)] := hl
  rw [zf_R_hasGene] at h
  refine lv_iload_n hx hb ze_R_hasGene_0 rfl (lv_at hl 1 rfl) ?_
  refine lv_if_lt (tgt := 16) hx hb ze_R_hasGene_1 (by decide) (fun c1 => ?_) (fun c1 => ?_)
  · replace h := z_it_t c1 h
    refine lv_iconst (v := (0 : Int32)) hx hb ze_R_hasGene_16 (by decide) ?_
    obtain ⟨hn, h⟩ := z_gb_some h
    cases h
    exact W.zret hx hb hr hn (fun t ht9 hW => ⟨⟨_, (), rfl, rfl, by rw [ht9]; exact hP, hD⟩, hS.F ht9⟩) hS.2.2 ze_R_hasGene_17
  · replace h := z_it_f c1 h
    refine lv_iload_n hx hb ze_R_hasGene_4 rfl (lv_at hl 1 rfl) ?_
    refine lv_aload_n hx hb ze_R_hasGene_5 rfl (lv_at hl 0 rfl) ?_
    refine va_get (D := (dC, dI)) (ci := 1) (v := .int R_count) (C := "RuleNetwork$Rules") (T := zT_R) (N := 6) hx hb ht zin_R hown hK hP 0 rfl rfl 0 (by decide) (ht _ zw_118) (fun _ h9 => h9) rfl ze_R_hasGene_6 ?_
    refine lv_icmp_ge (tgt := 16) hx hb ze_R_hasGene_9 (by decide) (fun c2 => ?_) (fun c2 => ?_)
    · replace h := z_it_t c2 h
      refine lv_iconst (v := (0 : Int32)) hx hb ze_R_hasGene_16 (by decide) ?_
      obtain ⟨hn, h⟩ := z_gb_some h
      cases h
      exact W.zret hx hb hr hn (fun t ht9 hW => ⟨⟨_, (), rfl, rfl, by rw [ht9]; exact hP, hD⟩, hS.F ht9⟩) hS.2.2 ze_R_hasGene_17
    · replace h := z_it_f c2 h
      refine lv_iconst (v := (1 : Int32)) hx hb ze_R_hasGene_12 (by decide) ?_
      refine lv_goto (tgt := 17) hx hb ze_R_hasGene_13 (by decide) ?_
      obtain ⟨hn, h⟩ := z_gb_some h
      cases h
      exact W.zret hx hb hr hn (fun t ht9 hW => ⟨⟨_, (), rfl, rfl, by rw [ht9]; exact hP, hD⟩, hS.F ht9⟩) hS.2.2 ze_R_hasGene_17
set_option maxHeartbeats 4000000 in
set_option maxRecDepth 100000 in
theorem zc_R_hasState (l : Launch) (dC : Nat → ClassId) (dI : Nat → Nat → Nat) (cC : ClassId) (cI : ClassId) (cJ : ClassId) (tp : Nat) (h_R : Nat) (h_R_names : Nat) (h_R_fixed : Nat) (h_R_low : Nat) (h_R_high : Nat) (h_R_stack : Nat) (sz : Nat) (R_count : Int32) (R_names : Nat → Int32) (R_fixed : Nat → Int32) (R_low : Nat → Int64) (R_high : Nat → Int64) (R_stack : Nat → Int64) (x1 : Int32) (o_r : Int32) (h : zf_R_hasState x1 R_count = some (o_r)) : Met l zy_R_hasState zs_R_hasState (rm_R_hasState) (va_Pc [.ref h_R, .int x1] (fun U => U.heap.size = sz ∧ va_P (dC, dI) vwCl (zd_R cC cI cJ h_R h_R_names h_R_fixed h_R_low h_R_high h_R_stack R_count R_names R_fixed R_low R_high R_stack) U.heap ∧ va_K (dC, dI) vwCl (z_tys cC cI cJ) U ∧ va_D (fun _ => True) (zd_R cC cI cJ h_R h_R_names h_R_fixed h_R_low h_R_high h_R_stack R_count R_names R_fixed R_low R_high R_stack) ∧ z_X tp (va_A (zd_R cC cI cJ h_R h_R_names h_R_fixed h_R_low h_R_high h_R_stack R_count R_names R_fixed R_low R_high R_stack) sz) U)) (zq_R_hasState dC dI cC cI cJ h_R h_R_names h_R_fixed h_R_low h_R_high h_R_stack R_count R_names R_fixed R_low R_high R_stack o_r (va_A (zd_R cC cI cJ h_R h_R_names h_R_fixed h_R_low h_R_high h_R_stack R_count R_names R_fixed R_low R_high R_stack) sz)) 0 0 (va_A (zd_R cC cI cJ h_R h_R_names h_R_fixed h_R_low h_R_high h_R_stack R_count R_names R_fixed R_low R_high R_stack) sz) := by
  refine Met.ofW (cc := zb_R_hasState) (maxL := 2) (ret := (some .boolean)) (by decide) rfl ?_
  intro p e s m args below meth c s₁ B hml hv
  obtain ⟨rfl, hsz, hP, hK, hD0, hX⟩ := hv
  have hx := B.exec
  have hb := B.bytes
  have hr := B.returns
  have hts := atoms_spec (ws := zs_R_hasState) B.pre
  have ht : ∀ w ∈ z_W, w.before _ s = true := fun w h => hts w (List.mem_cons_of_mem _ h)
  have hown : s.vm.findClass "RuleNetwork$Rules" = some m.cls := findClass_of_methodNamed B.named
  have hlocks := B.notSynchronized
  have C0 : z_kx p s m _ meth c "RuleNetwork$Rules" zb_R_hasState 2 (some .boolean) := ⟨hx, hb, hr, hml, hown, ht, hlocks⟩
  subst hsz
  have hD := hD0.self (sz := s.heap.size)
  generalize hAe : va_A (zd_R cC cI cJ h_R h_R_names h_R_fixed h_R_low h_R_high h_R_stack R_count R_names R_fixed R_low R_high R_stack) s.heap.size = A at hD hX ⊢
  have hA : ∀ q : Nat, s.heap.size ≤ q → A q := fun q h => by rw [← hAe]; exact Or.inr h
  have hS : va_S A s.heap s.heap [] := va_S.rf
  have hl := lv_entry ([.ref h_R, .int x1]) (n := 2) (Nat.le_of_ble_eq_true rfl)
  rw [lg_entry_eq]
  generalize (lg_sl ([.ref h_R, .int x1]) ++ List.replicate (2 - (lg_sl ([.ref h_R, .int x1])).length) Slot.unset).toArray = ls at hl ⊢
  have hl : lv_has ls 2 [(0, .ref h_R), (1, .int x1)] := hl
  rw [zf_R_hasState] at h
  refine lv_aload_n hx hb ze_R_hasState_0 rfl (lv_at hl 0 rfl) ?_
  refine va_get (D := (dC, dI)) (ci := 1) (v := .int R_count) (C := "RuleNetwork$Rules") (T := zT_R) (N := 6) hx hb ht zin_R hown hK hP 0 rfl rfl 0 (by decide) (ht _ zw_118) (fun _ h9 => h9) rfl ze_R_hasState_1 ?_
  refine lv_if_le (tgt := 25) hx hb ze_R_hasState_4 (by decide) (fun c1 => ?_) (fun c1 => ?_)
  · replace h := z_it_t c1 h
    refine lv_iconst (v := (0 : Int32)) hx hb ze_R_hasState_25 (by decide) ?_
    obtain ⟨hn, h⟩ := z_gb_some h
    cases h
    exact W.zret hx hb hr hn (fun t ht9 hW => ⟨⟨_, (), rfl, rfl, by rw [ht9]; exact hP, hD⟩, hS.F ht9⟩) hS.2.2 ze_R_hasState_26
  · replace h := z_it_f c1 h
    refine lv_iload_n hx hb ze_R_hasState_7 rfl (lv_at hl 1 rfl) ?_
    refine lv_if_lt (tgt := 25) hx hb ze_R_hasState_8 (by decide) (fun c2 => ?_) (fun c2 => ?_)
    · replace h := z_it_t c2 h
      refine lv_iconst (v := (0 : Int32)) hx hb ze_R_hasState_25 (by decide) ?_
      obtain ⟨hn, h⟩ := z_gb_some h
      cases h
      exact W.zret hx hb hr hn (fun t ht9 hW => ⟨⟨_, (), rfl, rfl, by rw [ht9]; exact hP, hD⟩, hS.F ht9⟩) hS.2.2 ze_R_hasState_26
    · replace h := z_it_f c2 h
      refine lv_iload_n hx hb ze_R_hasState_11 rfl (lv_at hl 1 rfl) ?_
      refine lv_iconst (v := (1 : Int32)) hx hb ze_R_hasState_12 (by decide) ?_
      refine lv_aload_n hx hb ze_R_hasState_13 rfl (lv_at hl 0 rfl) ?_
      refine va_get (D := (dC, dI)) (ci := 1) (v := .int R_count) (C := "RuleNetwork$Rules") (T := zT_R) (N := 6) hx hb ht zin_R hown hK hP 0 rfl rfl 0 (by decide) (ht _ zw_118) (fun _ h9 => h9) rfl ze_R_hasState_14 ?_
      refine lv_ishl hx hb ze_R_hasState_17 ?_
      refine lv_icmp_ge (tgt := 25) hx hb ze_R_hasState_18 (by decide) (fun c3 => ?_) (fun c3 => ?_)
      · replace h := z_it_t c3 h
        refine lv_iconst (v := (0 : Int32)) hx hb ze_R_hasState_25 (by decide) ?_
        obtain ⟨hn, h⟩ := z_gb_some h
        cases h
        exact W.zret hx hb hr hn (fun t ht9 hW => ⟨⟨_, (), rfl, rfl, by rw [ht9]; exact hP, hD⟩, hS.F ht9⟩) hS.2.2 ze_R_hasState_26
      · replace h := z_it_f c3 h
        refine lv_iconst (v := (1 : Int32)) hx hb ze_R_hasState_21 (by decide) ?_
        refine lv_goto (tgt := 26) hx hb ze_R_hasState_22 (by decide) ?_
        obtain ⟨hn, h⟩ := z_gb_some h
        cases h
        exact W.zret hx hb hr hn (fun t ht9 hW => ⟨⟨_, (), rfl, rfl, by rw [ht9]; exact hP, hD⟩, hS.F ht9⟩) hS.2.2 ze_R_hasState_26
set_option maxHeartbeats 4000000 in
set_option maxRecDepth 100000 in
theorem zc_R_valueOf (l : Launch) (dC : Nat → ClassId) (dI : Nat → Nat → Nat) (cC : ClassId) (cI : ClassId) (cJ : ClassId) (tp : Nat) (h_R : Nat) (h_R_names : Nat) (h_R_fixed : Nat) (h_R_low : Nat) (h_R_high : Nat) (h_R_stack : Nat) (sz : Nat) (R_count : Int32) (R_names : Nat → Int32) (R_fixed : Nat → Int32) (R_low : Nat → Int64) (R_high : Nat → Int64) (R_stack : Nat → Int64) (x1 : Int32) (x2 : Int32) (o_r : Int32) (h : zf_R_valueOf x1 x2 R_fixed R_low R_high = some (o_r)) : Met l zy_R_valueOf zs_R_valueOf (rm_R_valueOf) (va_Pc [.ref h_R, .int x1, .int x2] (fun U => U.heap.size = sz ∧ va_P (dC, dI) vwCl (zd_R cC cI cJ h_R h_R_names h_R_fixed h_R_low h_R_high h_R_stack R_count R_names R_fixed R_low R_high R_stack) U.heap ∧ va_K (dC, dI) vwCl (z_tys cC cI cJ) U ∧ va_D (fun _ => True) (zd_R cC cI cJ h_R h_R_names h_R_fixed h_R_low h_R_high h_R_stack R_count R_names R_fixed R_low R_high R_stack) ∧ z_X tp (va_A (zd_R cC cI cJ h_R h_R_names h_R_fixed h_R_low h_R_high h_R_stack R_count R_names R_fixed R_low R_high R_stack) sz) U)) (zq_R_valueOf dC dI cC cI cJ h_R h_R_names h_R_fixed h_R_low h_R_high h_R_stack R_count R_names R_fixed R_low R_high R_stack o_r (va_A (zd_R cC cI cJ h_R h_R_names h_R_fixed h_R_low h_R_high h_R_stack R_count R_names R_fixed R_low R_high R_stack) sz)) 0 0 (va_A (zd_R cC cI cJ h_R h_R_names h_R_fixed h_R_low h_R_high h_R_stack R_count R_names R_fixed R_low R_high R_stack) sz) := by
  refine Met.ofW (cc := zb_R_valueOf) (maxL := 3) (ret := (some .int)) (by decide) rfl ?_
  intro p e s m args below meth c s₁ B hml hv
  obtain ⟨rfl, hsz, hP, hK, hD0, hX⟩ := hv
  have hx := B.exec
  have hb := B.bytes
  have hr := B.returns
  have hts := atoms_spec (ws := zs_R_valueOf) B.pre
  have ht : ∀ w ∈ z_W, w.before _ s = true := fun w h => hts w (List.mem_cons_of_mem _ h)
  have hown : s.vm.findClass "RuleNetwork$Rules" = some m.cls := findClass_of_methodNamed B.named
  have hlocks := B.notSynchronized
  have C0 : z_kx p s m _ meth c "RuleNetwork$Rules" zb_R_valueOf 3 (some .int) := ⟨hx, hb, hr, hml, hown, ht, hlocks⟩
  subst hsz
  have hD := hD0.self (sz := s.heap.size)
  generalize hAe : va_A (zd_R cC cI cJ h_R h_R_names h_R_fixed h_R_low h_R_high h_R_stack R_count R_names R_fixed R_low R_high R_stack) s.heap.size = A at hD hX ⊢
  have hA : ∀ q : Nat, s.heap.size ≤ q → A q := fun q h => by rw [← hAe]; exact Or.inr h
  have hS : va_S A s.heap s.heap [] := va_S.rf
  have hl := lv_entry ([.ref h_R, .int x1, .int x2]) (n := 3) (Nat.le_of_ble_eq_true rfl)
  rw [lg_entry_eq]
  generalize (lg_sl ([.ref h_R, .int x1, .int x2]) ++ List.replicate (3 - (lg_sl ([.ref h_R, .int x1, .int x2])).length) Slot.unset).toArray = ls at hl ⊢
  have hl : lv_has ls 3 [(0, .ref h_R), (1, .int x1), (2, .int x2)] := hl
  rw [zf_R_valueOf] at h
  refine lv_aload_n hx hb ze_R_valueOf_0 rfl (lv_at hl 0 rfl) ?_
  refine va_get (D := (dC, dI)) (ci := 1) (v := .ref h_R_fixed) (C := "RuleNetwork$Rules") (T := zT_R) (N := 6) hx hb ht zin_R hown hK hP 0 rfl rfl 2 (by decide) (ht _ zw_124) (fun _ h9 => h9) rfl ze_R_valueOf_1 ?_
  refine lv_iload_n hx hb ze_R_valueOf_4 rfl (lv_at hl 1 rfl) ?_
  obtain ⟨g1, h⟩ := z_gd_some h
  refine va_iald hx hb hK hP 2 1 rfl rfl g1 ze_R_valueOf_5 ?_
  refine lv_iconst (v := (2 : Int32)) hx hb ze_R_valueOf_6 (by decide) ?_
  refine lv_icmp_eq (tgt := 17) hx hb ze_R_valueOf_7 (by decide) (fun c2 => ?_) (fun c2 => ?_)
  · replace h := z_it_t c2 h
    refine lv_aload_n hx hb ze_R_valueOf_17 rfl (lv_at hl 0 rfl) ?_
    refine va_get (D := (dC, dI)) (ci := 1) (v := .ref h_R_low) (C := "RuleNetwork$Rules") (T := zT_R) (N := 6) hx hb ht zin_R hown hK hP 0 rfl rfl 3 (by decide) (ht _ zw_126) (fun _ h9 => h9) rfl ze_R_valueOf_18 ?_
    refine lv_iload_n hx hb ze_R_valueOf_21 rfl (lv_at hl 1 rfl) ?_
    obtain ⟨g3, h⟩ := z_gd_some h
    refine va_lald hx hb hK hP 3 2 rfl rfl g3 ze_R_valueOf_22 ?_
    refine lv_aload_n hx hb ze_R_valueOf_23 rfl (lv_at hl 0 rfl) ?_
    refine va_get (D := (dC, dI)) (ci := 1) (v := .ref h_R_high) (C := "RuleNetwork$Rules") (T := zT_R) (N := 6) hx hb ht zin_R hown hK hP 0 rfl rfl 4 (by decide) (ht _ zw_127) (fun _ h9 => h9) rfl ze_R_valueOf_24 ?_
    refine lv_iload_n hx hb ze_R_valueOf_27 rfl (lv_at hl 1 rfl) ?_
    obtain ⟨g4, h⟩ := z_gd_some h
    refine va_lald hx hb hK hP 4 2 rfl rfl g4 ze_R_valueOf_28 ?_
    refine lv_iload_n hx hb ze_R_valueOf_29 rfl (lv_at hl 2 rfl) ?_
    obtain ⟨r5, q5, h⟩ := z_b1_some h
    have hPc := hP.sub (ws' := (zd_ cC cI cJ)) [] rfl
    have hDc := hD.sub (ws' := (zd_ cC cI cJ)) [] (by decide) rfl
    have hFc := va_free (wc := (zd_ cC cI cJ)) hD hS hA [] rfl
    -- CALL N_bitOf
    refine va_calli (va_runSN (As := [.long (R_low x1.toNatClampNeg), .long (R_high x1.toNatClampNeg), .int x2]) (rest := []) ⟨hx, hb, hml, hown, ht⟩ (zc_N_bitOf l dC dI cC cI cJ tp s.heap.size (R_low x1.toNatClampNeg) (R_high x1.toNatClampNeg) x2 r5 q5) ⟨va_cnB 3 ht (z_gC zw_372) rfl rfl rfl (show va_Nw (.methodLinkNest "RuleNetwork$Rules" 60 zy_N_bitOf "RuleNetwork") s from hX.1 _ (List.mem_of_getElem? (i := 7) rfl)) (ht _ zw_55) zh_N_bitOf ⟨Nat.le_of_ble_eq_true rfl, Nat.le_of_ble_eq_true rfl⟩, ht _ zw_371, trivial⟩ ⟨fun a U g mk q => by obtain ⟨z0, z1, zP, zK, zD, zX⟩ := q; exact ⟨z0, z1, zP, va_K.moved (u := U) (U := U.calling g mk a) (Vm.Alike.refl U.vm) zK, zD, z_X.same rfl rfl zX⟩, fun U hU hW => ⟨rfl, by rw [hU], by rw [hU]; exact hPc, va_K.moved hW.alike hK, hDc.weaken (fun _ _ _ _ => trivial), hX.warm hS hFc hU hW⟩⟩ rfl rfl hl.1 rfl (lv_room (Nat.le_of_ble_eq_true rfl)) ze_R_valueOf_30 ⟨Nat.zero_le _, Nat.zero_le _⟩) hS (fun q _ h => hFc q h) hFc (fun rv u t H1 locs ht9 hvm hw hB hz1 hk1 hS => ?_)
    obtain ⟨hP1, hD1⟩ := hB
    rw [ht9] at hP1
    have hw' : r5 = rv := Eq.symm hw
    subst hw'
    obtain ⟨hP, hD⟩ := va_join (wr := [(h_R, .inr (1, [.int R_count, .ref h_R_names, .ref h_R_fixed, .ref h_R_low, .ref h_R_high, .ref h_R_stack])), (h_R_names, .inl (cC, 7, .inl R_names)), (h_R_fixed, .inl (cI, 7, .inl R_fixed)), (h_R_low, .inl (cJ, 7, .inr (.inl R_low))), (h_R_high, .inl (cJ, 7, .inr (.inl R_high))), (h_R_stack, .inl (cJ, 240, .inr (.inl R_stack)))]) (w1 := (zd_ cC cI cJ)) hP hD [] [0, 1, 2, 3, 4, 5] rfl rfl (by decide) (by decide) hk1 hFc hP1 hD1
    generalize H1 = H at hP hS ⊢
    replace hP := hP.sub (ws' := (zd_R cC cI cJ h_R h_R_names h_R_fixed h_R_low h_R_high h_R_stack R_count R_names R_fixed R_low R_high R_stack)) [0, 1, 2, 3, 4, 5] rfl
    replace hD := hD.sub (ws' := (zd_R cC cI cJ h_R h_R_names h_R_fixed h_R_low h_R_high h_R_stack R_count R_names R_fixed R_low R_high R_stack)) [0, 1, 2, 3, 4, 5] (by decide) rfl
    cases h
    exact W.iret hx hb hr (fun t ht9 hW => ⟨⟨_, (), rfl, rfl, by rw [ht9]; exact hP, hD⟩, hS.F ht9⟩) hS.2.2 ze_R_valueOf_33
  · replace h := z_it_f c2 h
    refine lv_aload_n hx hb ze_R_valueOf_10 rfl (lv_at hl 0 rfl) ?_
    refine va_get (D := (dC, dI)) (ci := 1) (v := .ref h_R_fixed) (C := "RuleNetwork$Rules") (T := zT_R) (N := 6) hx hb ht zin_R hown hK hP 0 rfl rfl 2 (by decide) (ht _ zw_124) (fun _ h9 => h9) rfl ze_R_valueOf_11 ?_
    refine lv_iload_n hx hb ze_R_valueOf_14 rfl (lv_at hl 1 rfl) ?_
    obtain ⟨g6, h⟩ := z_gd_some h
    refine va_iald hx hb hK hP 2 1 rfl rfl g6 ze_R_valueOf_15 ?_
    cases h
    exact W.iret hx hb hr (fun t ht9 hW => ⟨⟨_, (), rfl, rfl, by rw [ht9]; exact hP, hD⟩, hS.F ht9⟩) hS.2.2 ze_R_valueOf_16
set_option maxHeartbeats 4000000 in
set_option maxRecDepth 100000 in
theorem zk_R_stepTogether_4 {p : Program} {l : Launch} {e : Env} {s : State} {m : MethodId} {args : Array Value} {below : List Frame} {meth : Method} {c : Code} {dC : Nat → ClassId} {dI : Nat → Nat → Nat} {cC cI cJ : ClassId} {A : Nat → Prop} {tp : Nat} {h_R h_R_names h_R_fixed h_R_low h_R_high h_R_stack : Nat} {R_names : Nat → Int32} {R_stack : Nat → Int64} {o_r : Int32} (C0 : z_kx p s m args meth c "RuleNetwork$Rules" zb_R_stepTogether 4 (some .int)) (hK : va_K (dC, dI) vwCl (z_tys cC cI cJ) s) (hA : ∀ q : Nat, s.heap.size ≤ q → A q) (hX : z_X tp A s) :
    ∀ n : Nat, ∀ (x1 : Int32) (x2 : Int32) (x3 : Int32) (R_count : Int32) (R_fixed : Nat → Int32) (R_low : Nat → Int64) (R_high : Nat → Int64) (H : Heap) (locs : List Loc) (ls : Array Slot), va_P (dC, dI) vwCl (zd_R cC cI cJ h_R h_R_names h_R_fixed h_R_low h_R_high h_R_stack R_count R_names R_fixed R_low R_high R_stack) H → va_D A (zd_R cC cI cJ h_R h_R_names h_R_fixed h_R_low h_R_high h_R_stack R_count R_names R_fixed R_low R_high R_stack) → va_S A s.heap H locs → lv_has ls 4 [(0, .ref h_R), (1, .int x1), (2, .int x2), (3, .int x3)] → zf_R_stepTogether_4 n x1 x2 x3 R_count R_fixed R_low R_high = some (o_r) → W p l e (headSpec zs_R_stepTogether rm_R_stepTogether).room s m args below meth c H locs 0 0 (MQ below (zq_R_stepTogether dC dI cC cI cJ h_R h_R_names h_R_fixed h_R_low h_R_high h_R_stack R_count R_names R_fixed R_low R_high R_stack o_r A) args s 0 0 A) (F0 m 4 ls []) := by
  obtain ⟨hx, hb, hr, hml, hown, ht, hlocks⟩ := id C0
  intro n
  induction n with
  | zero =>
    intro x1 x2 x3 R_count R_fixed R_low R_high H locs ls hP hD hS hl h
    cases (show none = some _ from h)
  | succ n ih =>
    intro x1 x2 x3 R_count R_fixed R_low R_high H locs ls hP hD hS hl h
    rw [zf_R_stepTogether_4] at h
    refine lv_iload_n hx hb ze_R_stepTogether_4 rfl (lv_at hl 3 rfl) ?_
    refine lv_aload_n hx hb ze_R_stepTogether_5 rfl (lv_at hl 0 rfl) ?_
    refine va_get (D := (dC, dI)) (ci := 1) (v := .int R_count) (C := "RuleNetwork$Rules") (T := zT_R) (N := 6) hx hb ht zin_R hown hK hP 0 rfl rfl 0 (by decide) (ht _ zw_118) (fun _ h9 => h9) rfl ze_R_stepTogether_6 ?_
    refine lv_icmp_ge (tgt := 29) hx hb ze_R_stepTogether_9 (by decide) (fun c1 => ?_) (fun c1 => ?_)
    · replace h := z_it_t c1 h
      refine lv_iload_n hx hb ze_R_stepTogether_29 rfl (lv_at hl 2 rfl) ?_
      cases h
      exact W.iret hx hb hr (fun t ht9 hW => ⟨⟨_, (), rfl, rfl, by rw [ht9]; exact hP, hD⟩, hS.F ht9⟩) hS.2.2 ze_R_stepTogether_30
    · replace h := z_it_f c1 h
      refine lv_iload_n hx hb ze_R_stepTogether_12 rfl (lv_at hl 2 rfl) ?_
      refine lv_aload_n hx hb ze_R_stepTogether_13 rfl (lv_at hl 0 rfl) ?_
      refine lv_iload_n hx hb ze_R_stepTogether_14 rfl (lv_at hl 3 rfl) ?_
      refine lv_iload_n hx hb ze_R_stepTogether_15 rfl (lv_at hl 1 rfl) ?_
      obtain ⟨r2, q2, h⟩ := z_b1_some h
      have hPc := hP.sub (ws' := (zd_R cC cI cJ h_R h_R_names h_R_fixed h_R_low h_R_high h_R_stack R_count R_names R_fixed R_low R_high R_stack)) [0, 1, 2, 3, 4, 5] rfl
      have hDc := hD.sub (ws' := (zd_R cC cI cJ h_R h_R_names h_R_fixed h_R_low h_R_high h_R_stack R_count R_names R_fixed R_low R_high R_stack)) [0, 1, 2, 3, 4, 5] (by decide) rfl
      have hFc := va_free (wc := (zd_R cC cI cJ h_R h_R_names h_R_fixed h_R_low h_R_high h_R_stack R_count R_names R_fixed R_low R_high R_stack)) hD hS hA [0, 1, 2, 3, 4, 5] rfl
      -- CALL R_valueOf
      refine va_calli (va_runV (As := [.int x3, .int x1]) (rest := [.int x2]) ⟨hx, hb, hml, hown, ht⟩ (zc_R_valueOf l dC dI cC cI cJ tp h_R h_R_names h_R_fixed h_R_low h_R_high h_R_stack H.size R_count R_names R_fixed R_low R_high R_stack x3 x1 r2 q2) (cwV 2 ht (z_gV zw_381 zw_367 zw_368 zw_57 zw_369) rfl rfl rfl ⟨rfl, zh_R_valueOf⟩ ⟨Nat.le_of_ble_eq_true rfl, Nat.le_of_ble_eq_true rfl⟩) ⟨fun a U g mk q => by obtain ⟨z0, z1, zP, zK, zD, zX⟩ := q; exact ⟨z0, z1, zP, va_K.moved (u := U) (U := U.calling g mk a) (Vm.Alike.refl U.vm) zK, zD, z_X.same rfl rfl zX⟩, va_recv hK hP (ci := 1) (q0 := 0) rfl rfl, fun U hU hW => ⟨rfl, by rw [hU], by rw [hU]; exact hPc, va_K.moved hW.alike hK, hDc.weaken (fun _ _ _ _ => trivial), hX.warm hS hFc hU hW⟩⟩ rfl rfl hl.1 rfl (lv_room (Nat.le_of_ble_eq_true rfl)) ze_R_stepTogether_16 ⟨Nat.zero_le _, Nat.zero_le _⟩) hS (fun q _ h => hFc q h) hFc (fun rv u t H1 locs ht9 hvm hw hB hz1 hk1 hS => ?_)
      obtain ⟨hP1, hD1⟩ := hB
      rw [ht9] at hP1
      have hw' : r2 = rv := Eq.symm hw
      subst hw'
      obtain ⟨hP, hD⟩ := va_join (wr := []) (w1 := (zd_R cC cI cJ h_R h_R_names h_R_fixed h_R_low h_R_high h_R_stack R_count R_names R_fixed R_low R_high R_stack)) hP hD [0, 1, 2, 3, 4, 5] [] rfl rfl (by decide) (by decide) hk1 hFc hP1 hD1
      generalize H1 = H at hP hS ⊢
      replace hP := hP.sub (ws' := (zd_R cC cI cJ h_R h_R_names h_R_fixed h_R_low h_R_high h_R_stack R_count R_names R_fixed R_low R_high R_stack)) [0, 1, 2, 3, 4, 5] rfl
      replace hD := hD.sub (ws' := (zd_R cC cI cJ h_R h_R_names h_R_fixed h_R_low h_R_high h_R_stack R_count R_names R_fixed R_low R_high R_stack)) [0, 1, 2, 3, 4, 5] (by decide) rfl
      refine lv_iload_n hx hb ze_R_stepTogether_19 rfl (lv_at hl 3 rfl) ?_
      refine lv_ishl hx hb ze_R_stepTogether_20 ?_
      refine lv_ior hx hb ze_R_stepTogether_21 ?_
      refine lv_istore_n (lv' := [(2, .int (x2 ||| (r2 <<< (x3 &&& 31)))), (0, .ref h_R), (1, .int x1), (3, .int x3)]) hx hb ze_R_stepTogether_22 rfl hl (by decide) rfl (fun ls hl => ?_)
      refine lv_iinc (v := (x3 + (1 : Int32))) (lv' := [(3, .int (x3 + (1 : Int32))), (2, .int (x2 ||| (r2 <<< (x3 &&& 31)))), (0, .ref h_R), (1, .int x1)]) hx hb ze_R_stepTogether_23 hl (k := 3) rfl rfl (by decide) rfl (fun ls hl => ?_)
      refine lv_goto (tgt := 4) hx hb ze_R_stepTogether_26 (by decide) ?_
      exact ih x1 (x2 ||| (r2 <<< (x3 &&& 31))) (x3 + (1 : Int32)) R_count R_fixed R_low R_high _ _ _ hP hD hS (lv_sub hl [2, 3, 1, 0] rfl) h
set_option maxHeartbeats 4000000 in
set_option maxRecDepth 100000 in
theorem zc_R_stepTogether (l : Launch) (dC : Nat → ClassId) (dI : Nat → Nat → Nat) (cC : ClassId) (cI : ClassId) (cJ : ClassId) (tp : Nat) (h_R : Nat) (h_R_names : Nat) (h_R_fixed : Nat) (h_R_low : Nat) (h_R_high : Nat) (h_R_stack : Nat) (sz : Nat) (R_count : Int32) (R_names : Nat → Int32) (R_fixed : Nat → Int32) (R_low : Nat → Int64) (R_high : Nat → Int64) (R_stack : Nat → Int64) (x1 : Int32) (o_r : Int32) (h : zf_R_stepTogether x1 R_count R_fixed R_low R_high = some (o_r)) : Met l zy_R_stepTogether zs_R_stepTogether (rm_R_stepTogether) (va_Pc [.ref h_R, .int x1] (fun U => U.heap.size = sz ∧ va_P (dC, dI) vwCl (zd_R cC cI cJ h_R h_R_names h_R_fixed h_R_low h_R_high h_R_stack R_count R_names R_fixed R_low R_high R_stack) U.heap ∧ va_K (dC, dI) vwCl (z_tys cC cI cJ) U ∧ va_D (fun _ => True) (zd_R cC cI cJ h_R h_R_names h_R_fixed h_R_low h_R_high h_R_stack R_count R_names R_fixed R_low R_high R_stack) ∧ z_X tp (va_A (zd_R cC cI cJ h_R h_R_names h_R_fixed h_R_low h_R_high h_R_stack R_count R_names R_fixed R_low R_high R_stack) sz) U)) (zq_R_stepTogether dC dI cC cI cJ h_R h_R_names h_R_fixed h_R_low h_R_high h_R_stack R_count R_names R_fixed R_low R_high R_stack o_r (va_A (zd_R cC cI cJ h_R h_R_names h_R_fixed h_R_low h_R_high h_R_stack R_count R_names R_fixed R_low R_high R_stack) sz)) 0 0 (va_A (zd_R cC cI cJ h_R h_R_names h_R_fixed h_R_low h_R_high h_R_stack R_count R_names R_fixed R_low R_high R_stack) sz) := by
  refine Met.ofW (cc := zb_R_stepTogether) (maxL := 4) (ret := (some .int)) (by decide) rfl ?_
  intro p e s m args below meth c s₁ B hml hv
  obtain ⟨rfl, hsz, hP, hK, hD0, hX⟩ := hv
  have hx := B.exec
  have hb := B.bytes
  have hr := B.returns
  have hts := atoms_spec (ws := zs_R_stepTogether) B.pre
  have ht : ∀ w ∈ z_W, w.before _ s = true := fun w h => hts w (List.mem_cons_of_mem _ h)
  have hown : s.vm.findClass "RuleNetwork$Rules" = some m.cls := findClass_of_methodNamed B.named
  have hlocks := B.notSynchronized
  have C0 : z_kx p s m _ meth c "RuleNetwork$Rules" zb_R_stepTogether 4 (some .int) := ⟨hx, hb, hr, hml, hown, ht, hlocks⟩
  subst hsz
  have hD := hD0.self (sz := s.heap.size)
  generalize hAe : va_A (zd_R cC cI cJ h_R h_R_names h_R_fixed h_R_low h_R_high h_R_stack R_count R_names R_fixed R_low R_high R_stack) s.heap.size = A at hD hX ⊢
  have hA : ∀ q : Nat, s.heap.size ≤ q → A q := fun q h => by rw [← hAe]; exact Or.inr h
  have hS : va_S A s.heap s.heap [] := va_S.rf
  have hl := lv_entry ([.ref h_R, .int x1]) (n := 4) (Nat.le_of_ble_eq_true rfl)
  rw [lg_entry_eq]
  generalize (lg_sl ([.ref h_R, .int x1]) ++ List.replicate (4 - (lg_sl ([.ref h_R, .int x1])).length) Slot.unset).toArray = ls at hl ⊢
  have hl : lv_has ls 4 [(0, .ref h_R), (1, .int x1)] := hl
  rw [zf_R_stepTogether] at h
  refine lv_iconst (v := (0 : Int32)) hx hb ze_R_stepTogether_0 (by decide) ?_
  refine lv_istore_n (lv' := [(2, .int (0 : Int32)), (0, .ref h_R), (1, .int x1)]) hx hb ze_R_stepTogether_1 rfl hl (by decide) rfl (fun ls hl => ?_)
  refine lv_iconst (v := (0 : Int32)) hx hb ze_R_stepTogether_2 (by decide) ?_
  refine lv_istore_n (lv' := [(3, .int (0 : Int32)), (2, .int (0 : Int32)), (0, .ref h_R), (1, .int x1)]) hx hb ze_R_stepTogether_3 rfl hl (by decide) rfl (fun ls hl => ?_)
  exact zk_R_stepTogether_4 C0 hK hA hX z_FU x1 (0 : Int32) (0 : Int32) R_count R_fixed R_low R_high _ _ _ hP hD hS (lv_sub hl [2, 3, 1, 0] rfl) h
