set_option maxHeartbeats 4000000 in
set_option maxRecDepth 100000 in
theorem zc_S_byteAt (l : Launch) (dC : Nat → ClassId) (dI : Nat → Nat → Nat) (cC : ClassId) (cI : ClassId) (cJ : ClassId) (tp : Nat) (sz : Nat) (x0 : Int64) (x2 : Int32) (o_r : Int32) (h : zf_S_byteAt x0 x2 = some (o_r)) : Met l zy_S_byteAt zs_S_byteAt (rm_S_byteAt) (va_Pc [.long x0, .int x2] (fun U => U.heap.size = sz ∧ va_P (dC, dI) vwCl (zd_ cC cI cJ) U.heap ∧ va_K (dC, dI) vwCl (z_tys cC cI cJ) U ∧ va_D (fun _ => True) (zd_ cC cI cJ) ∧ z_X tp (va_A (zd_ cC cI cJ) sz) U)) (zq_S_byteAt dC dI cC cI cJ o_r (va_A (zd_ cC cI cJ) sz)) 0 0 (va_A (zd_ cC cI cJ) sz) := by
  refine Met.ofW (cc := zb_S_byteAt) (maxL := 3) (ret := (some .char)) (by decide) rfl ?_
  intro p e s m args below meth c s₁ B hml hv
  obtain ⟨rfl, hsz, hP, hK, hD0, hX⟩ := hv
  have hx := B.exec
  have hb := B.bytes
  have hr := B.returns
  have hts := atoms_spec (ws := zs_S_byteAt) B.pre
  have ht : ∀ w ∈ z_W, w.before _ s = true := fun w h => hts w (List.mem_cons_of_mem _ h)
  have hown : s.vm.findClass "RuleNetwork$Script" = some m.cls := findClass_of_methodNamed B.named
  have hlocks := B.notSynchronized
  have C0 : z_kx p s m _ meth c "RuleNetwork$Script" zb_S_byteAt 3 (some .char) := ⟨hx, hb, hr, hml, hown, ht, hlocks⟩
  subst hsz
  have hD := hD0.self (sz := s.heap.size)
  generalize hAe : va_A (zd_ cC cI cJ) s.heap.size = A at hD hX ⊢
  have hA : ∀ q : Nat, s.heap.size ≤ q → A q := fun q h => by rw [← hAe]; exact Or.inr h
  have hS : va_S A s.heap s.heap [] := va_S.rf
  have hl := lv_entry ([.long x0, .int x2]) (n := 3) (Nat.le_of_ble_eq_true rfl)
  rw [lg_entry_eq]
  generalize (lg_sl ([.long x0, .int x2]) ++ List.replicate (3 - (lg_sl ([.long x0, .int x2])).length) Slot.unset).toArray = ls at hl ⊢
  have hl : lv_has ls 3 [(0, .long x0), (2, .int x2)] := hl
  rw [zf_S_byteAt] at h
  refine lv_lload_n hx hb ze_S_byteAt_0 rfl (lv_at hl 0 rfl) ?_
  refine lv_bipush (v := (8 : Int32)) hx hb ze_S_byteAt_1 (by decide) ?_
  refine lv_iload_n hx hb ze_S_byteAt_3 rfl (lv_at hl 1 rfl) ?_
  refine lv_imul hx hb ze_S_byteAt_4 ?_
  refine lv_lushr hx hb ze_S_byteAt_5 rfl ?_
  refine lv_ldc2 (v := (255 : Int64)) hx hb hown (ht _ zw_256) ze_S_byteAt_6 ?_
  refine lv_land hx hb ze_S_byteAt_9 ?_
  refine lv_l2i hx hb ze_S_byteAt_10 rfl ?_
  refine lv_i2c hx hb ze_S_byteAt_11 rfl ?_
  obtain ⟨hn, h⟩ := z_gc_some h
  cases h
  exact W.zret hx hb hr hn (fun t ht9 hW => ⟨⟨_, (), rfl, rfl, by rw [ht9]; exact hP, hD⟩, hS.F ht9⟩) hS.2.2 ze_S_byteAt_12
set_option maxHeartbeats 4000000 in
set_option maxRecDepth 100000 in
theorem zk_S_countCharacters_4 {p : Program} {l : Launch} {e : Env} {s : State} {m : MethodId} {args : Array Value} {below : List Frame} {meth : Method} {c : Code} {dC : Nat → ClassId} {dI : Nat → Nat → Nat} {cC cI cJ : ClassId} {A : Nat → Prop} {tp : Nat} {o_r : Int32} (C0 : z_kx p s m args meth c "RuleNetwork$Script" zb_S_countCharacters 5 (some .int)) (hK : va_K (dC, dI) vwCl (z_tys cC cI cJ) s) (hA : ∀ q : Nat, s.heap.size ≤ q → A q) (hX : z_X tp A s) :
    ∀ n : Nat, ∀ (x0 : Int64) (x2 : Int32) (x3 : Int32) (H : Heap) (locs : List Loc) (ls : Array Slot), va_P (dC, dI) vwCl (zd_ cC cI cJ) H → va_D A (zd_ cC cI cJ) → va_S A s.heap H locs → lv_has ls 5 [(0, .long x0), (2, .int x2), (3, .int x3)] → zf_S_countCharacters_4 n x0 x2 x3 = some (o_r) → W p l e (headSpec zs_S_countCharacters rm_S_countCharacters).room s m args below meth c H locs 0 0 (MQ below (zq_S_countCharacters dC dI cC cI cJ o_r A) args s 0 0 A) (F0 m 4 ls []) := by
  obtain ⟨hx, hb, hr, hml, hown, ht, hlocks⟩ := id C0
  intro n
  induction n with
  | zero =>
    intro x0 x2 x3 H locs ls hP hD hS hl h
    cases (show none = some _ from h)
  | succ n ih =>
    intro x0 x2 x3 H locs ls hP hD hS hl h
    rw [zf_S_countCharacters_4] at h
    refine lv_iload_n hx hb ze_S_countCharacters_4 rfl (lv_at hl 2 rfl) ?_
    refine lv_bipush (v := (8 : Int32)) hx hb ze_S_countCharacters_5 (by decide) ?_
    refine lv_icmp_ge (tgt := 47) hx hb ze_S_countCharacters_7 (by decide) (fun c1 => ?_) (fun c1 => ?_)
    · replace h := z_it_t c1 h
      refine lv_iload_n hx hb ze_S_countCharacters_47 rfl (lv_at hl 1 rfl) ?_
      cases h
      exact W.iret hx hb hr (fun t ht9 hW => ⟨⟨_, (), rfl, rfl, by rw [ht9]; exact hP, hD⟩, hS.F ht9⟩) hS.2.2 ze_S_countCharacters_48
    · replace h := z_it_f c1 h
      refine lv_lload_n hx hb ze_S_countCharacters_10 rfl (lv_at hl 0 rfl) ?_
      refine lv_iload_n hx hb ze_S_countCharacters_11 rfl (lv_at hl 2 rfl) ?_
      obtain ⟨r2, q2, h⟩ := z_b1_some h
      have hPc := hP.sub (ws' := (zd_ cC cI cJ)) [] rfl
      have hDc := hD.sub (ws' := (zd_ cC cI cJ)) [] (by decide) rfl
      have hFc := va_free (wc := (zd_ cC cI cJ)) hD hS hA [] rfl
      -- CALL S_byteAt
      refine va_calli (va_runS (As := [.long x0, .int x3]) (rest := []) ⟨hx, hb, hml, hown, ht⟩ (zc_S_byteAt l dC dI cC cI cJ tp H.size x0 x3 r2 q2) (va_cwS 2 ht (z_gS zw_253 zw_254 zw_56 zw_255) rfl rfl rfl zh_S_byteAt ⟨Nat.le_of_ble_eq_true rfl, Nat.le_of_ble_eq_true rfl⟩) ⟨fun a U g mk q => by obtain ⟨z0, z1, zP, zK, zD, zX⟩ := q; exact ⟨z0, z1, zP, va_K.moved (u := U) (U := U.calling g mk a) (Vm.Alike.refl U.vm) zK, zD, z_X.same rfl rfl zX⟩, fun U hU hW => ⟨rfl, by rw [hU], by rw [hU]; exact hPc, va_K.moved hW.alike hK, hDc.weaken (fun _ _ _ _ => trivial), hX.warm hS hFc hU hW⟩⟩ rfl rfl hl.1 rfl (lv_room (Nat.le_of_ble_eq_true rfl)) ze_S_countCharacters_12 ⟨Nat.zero_le _, Nat.zero_le _⟩) hS (fun q _ h => hFc q h) hFc (fun rv u t H1 locs ht9 hvm hw hB hz1 hk1 hS => ?_)
      obtain ⟨hP1, hD1⟩ := hB
      rw [ht9] at hP1
      have hw' : r2 = rv := Eq.symm hw
      subst hw'
      obtain ⟨hP, hD⟩ := va_join (wr := []) (w1 := (zd_ cC cI cJ)) hP hD [] [] rfl rfl (by decide) (by decide) hk1 hFc hP1 hD1
      generalize H1 = H at hP hS ⊢
      replace hP := hP.sub (ws' := (zd_ cC cI cJ)) [] rfl
      replace hD := hD.sub (ws' := (zd_ cC cI cJ)) [] (by decide) rfl
      refine lv_istore (lv' := [(4, .int r2), (0, .long x0), (2, .int x2), (3, .int x3)]) hx hb ze_S_countCharacters_15 hl (by decide) rfl (fun ls hl => ?_)
      refine lv_iload hx hb ze_S_countCharacters_17 (lv_at hl 0 rfl) ?_
      refine lv_if_eq (tgt := 41) hx hb ze_S_countCharacters_19 (by decide) (fun c3 => ?_) (fun c3 => ?_)
      · replace h := z_it_t c3 h
        refine lv_iinc (v := (x3 + (1 : Int32))) (lv' := [(3, .int (x3 + (1 : Int32))), (4, .int r2), (0, .long x0), (2, .int x2)]) hx hb ze_S_countCharacters_41 hl (k := 3) rfl rfl (by decide) rfl (fun ls hl => ?_)
        refine lv_goto (tgt := 4) hx hb ze_S_countCharacters_44 (by decide) ?_
        exact ih x0 x2 (x3 + (1 : Int32)) _ _ _ hP hD hS (lv_sub hl [2, 3, 0] rfl) h
      · replace h := z_it_f c3 h
        refine lv_iload hx hb ze_S_countCharacters_22 (lv_at hl 0 rfl) ?_
        refine lv_bipush (v := (32 : Int32)) hx hb ze_S_countCharacters_24 (by decide) ?_
        refine lv_icmp_lt (tgt := 36) hx hb ze_S_countCharacters_26 (by decide) (fun c4 => ?_) (fun c4 => ?_)
        · replace h := z_it_t c4 h
          refine lv_iconst (v := (-1 : Int32)) hx hb ze_S_countCharacters_36 (by decide) ?_
          cases h
          exact W.iret hx hb hr (fun t ht9 hW => ⟨⟨_, (), rfl, rfl, by rw [ht9]; exact hP, hD⟩, hS.F ht9⟩) hS.2.2 ze_S_countCharacters_37
        · replace h := z_it_f c4 h
          refine lv_iload hx hb ze_S_countCharacters_29 (lv_at hl 0 rfl) ?_
          refine lv_bipush (v := (126 : Int32)) hx hb ze_S_countCharacters_31 (by decide) ?_
          refine lv_icmp_le (tgt := 38) hx hb ze_S_countCharacters_33 (by decide) (fun c5 => ?_) (fun c5 => ?_)
          · replace h := z_it_t c5 h
            refine lv_iinc (v := (x2 + (1 : Int32))) (lv' := [(2, .int (x2 + (1 : Int32))), (4, .int r2), (0, .long x0), (3, .int x3)]) hx hb ze_S_countCharacters_38 hl (k := 2) rfl rfl (by decide) rfl (fun ls hl => ?_)
            refine lv_iinc (v := (x3 + (1 : Int32))) (lv' := [(3, .int (x3 + (1 : Int32))), (2, .int (x2 + (1 : Int32))), (4, .int r2), (0, .long x0)]) hx hb ze_S_countCharacters_41 hl (k := 3) rfl rfl (by decide) rfl (fun ls hl => ?_)
            refine lv_goto (tgt := 4) hx hb ze_S_countCharacters_44 (by decide) ?_
            exact ih x0 (x2 + (1 : Int32)) (x3 + (1 : Int32)) _ _ _ hP hD hS (lv_sub hl [3, 1, 0] rfl) h
          · replace h := z_it_f c5 h
            refine lv_iconst (v := (-1 : Int32)) hx hb ze_S_countCharacters_36 (by decide) ?_
            cases h
            exact W.iret hx hb hr (fun t ht9 hW => ⟨⟨_, (), rfl, rfl, by rw [ht9]; exact hP, hD⟩, hS.F ht9⟩) hS.2.2 ze_S_countCharacters_37
set_option maxHeartbeats 4000000 in
set_option maxRecDepth 100000 in
theorem zc_S_countCharacters (l : Launch) (dC : Nat → ClassId) (dI : Nat → Nat → Nat) (cC : ClassId) (cI : ClassId) (cJ : ClassId) (tp : Nat) (sz : Nat) (x0 : Int64) (o_r : Int32) (h : zf_S_countCharacters x0 = some (o_r)) : Met l zy_S_countCharacters zs_S_countCharacters (rm_S_countCharacters) (va_Pc [.long x0] (fun U => U.heap.size = sz ∧ va_P (dC, dI) vwCl (zd_ cC cI cJ) U.heap ∧ va_K (dC, dI) vwCl (z_tys cC cI cJ) U ∧ va_D (fun _ => True) (zd_ cC cI cJ) ∧ z_X tp (va_A (zd_ cC cI cJ) sz) U)) (zq_S_countCharacters dC dI cC cI cJ o_r (va_A (zd_ cC cI cJ) sz)) 0 0 (va_A (zd_ cC cI cJ) sz) := by
  refine Met.ofW (cc := zb_S_countCharacters) (maxL := 5) (ret := (some .int)) (by decide) rfl ?_
  intro p e s m args below meth c s₁ B hml hv
  obtain ⟨rfl, hsz, hP, hK, hD0, hX⟩ := hv
  have hx := B.exec
  have hb := B.bytes
  have hr := B.returns
  have hts := atoms_spec (ws := zs_S_countCharacters) B.pre
  have ht : ∀ w ∈ z_W, w.before _ s = true := fun w h => hts w (List.mem_cons_of_mem _ h)
  have hown : s.vm.findClass "RuleNetwork$Script" = some m.cls := findClass_of_methodNamed B.named
  have hlocks := B.notSynchronized
  have C0 : z_kx p s m _ meth c "RuleNetwork$Script" zb_S_countCharacters 5 (some .int) := ⟨hx, hb, hr, hml, hown, ht, hlocks⟩
  subst hsz
  have hD := hD0.self (sz := s.heap.size)
  generalize hAe : va_A (zd_ cC cI cJ) s.heap.size = A at hD hX ⊢
  have hA : ∀ q : Nat, s.heap.size ≤ q → A q := fun q h => by rw [← hAe]; exact Or.inr h
  have hS : va_S A s.heap s.heap [] := va_S.rf
  have hl := lv_entry ([.long x0]) (n := 5) (Nat.le_of_ble_eq_true rfl)
  rw [lg_entry_eq]
  generalize (lg_sl ([.long x0]) ++ List.replicate (5 - (lg_sl ([.long x0])).length) Slot.unset).toArray = ls at hl ⊢
  have hl : lv_has ls 5 [(0, .long x0)] := hl
  rw [zf_S_countCharacters] at h
  refine lv_iconst (v := (0 : Int32)) hx hb ze_S_countCharacters_0 (by decide) ?_
  refine lv_istore_n (lv' := [(2, .int (0 : Int32)), (0, .long x0)]) hx hb ze_S_countCharacters_1 rfl hl (by decide) rfl (fun ls hl => ?_)
  refine lv_iconst (v := (0 : Int32)) hx hb ze_S_countCharacters_2 (by decide) ?_
  refine lv_istore_n (lv' := [(3, .int (0 : Int32)), (2, .int (0 : Int32)), (0, .long x0)]) hx hb ze_S_countCharacters_3 rfl hl (by decide) rfl (fun ls hl => ?_)
  exact zk_S_countCharacters_4 C0 hK hA hX z_FU x0 (0 : Int32) (0 : Int32) _ _ _ hP hD hS (lv_sub hl [2, 1, 0] rfl) h
set_option maxHeartbeats 4000000 in
set_option maxRecDepth 100000 in
theorem zk_S_append_27 {p : Program} {l : Launch} {e : Env} {s : State} {m : MethodId} {args : Array Value} {below : List Frame} {meth : Method} {c : Code} {dC : Nat → ClassId} {dI : Nat → Nat → Nat} {cC cI cJ : ClassId} {A : Nat → Prop} {tp : Nat} {h_S h_S_characters h_S_names h_S_code h_S_ends h_S_firstUses : Nat} {S_at : Int32} {S_names : Nat → Int32} {S_count : Int32} {S_code : Nat → Int32} {S_codeLength : Int32} {S_ends : Nat → Int32} {S_firstUses : Nat → Int32} {o_r : Int32} {o_S_characters : Nat → Int32} {o_S_length : Int32} (C0 : z_kx p s m args meth c "RuleNetwork$Script" zb_S_append 6 (some .boolean)) (hK : va_K (dC, dI) vwCl (z_tys cC cI cJ) s) (hA : ∀ q : Nat, s.heap.size ≤ q → A q) (hX : z_X tp A s) :
    ∀ n : Nat, ∀ (x1 : Int64) (x4 : Int32) (S_characters : Nat → Int32) (S_length : Int32) (H : Heap) (locs : List Loc) (ls : Array Slot), va_P (dC, dI) vwCl (zd_S cC cI cJ h_S h_S_characters h_S_names h_S_code h_S_ends h_S_firstUses S_characters S_length S_at S_names S_count S_code S_codeLength S_ends S_firstUses) H → va_D A (zd_S cC cI cJ h_S h_S_characters h_S_names h_S_code h_S_ends h_S_firstUses S_characters S_length S_at S_names S_count S_code S_codeLength S_ends S_firstUses) → va_S A s.heap H locs → lv_has ls 6 [(0, .ref h_S), (1, .long x1), (4, .int x4)] → zf_S_append_27 n x1 x4 S_characters S_length = some (o_r, o_S_characters, o_S_length) → W p l e (headSpec zs_S_append rm_S_append).room s m args below meth c H locs 0 0 (MQ below (zq_S_append dC dI cC cI cJ h_S h_S_characters h_S_names h_S_code h_S_ends h_S_firstUses S_at S_names S_count S_code S_codeLength S_ends S_firstUses o_r o_S_characters o_S_length A) args s 0 0 A) (F0 m 27 ls []) := by
  obtain ⟨hx, hb, hr, hml, hown, ht, hlocks⟩ := id C0
  intro n
  induction n with
  | zero =>
    intro x1 x4 S_characters S_length H locs ls hP hD hS hl h
    cases (show none = some _ from h)
  | succ n ih =>
    intro x1 x4 S_characters S_length H locs ls hP hD hS hl h
    rw [zf_S_append_27] at h
    refine lv_iload hx hb ze_S_append_27 (lv_at hl 2 rfl) ?_
    refine lv_bipush (v := (8 : Int32)) hx hb ze_S_append_29 (by decide) ?_
    refine lv_icmp_ge (tgt := 74) hx hb ze_S_append_31 (by decide) (fun c1 => ?_) (fun c1 => ?_)
    · replace h := z_it_t c1 h
      refine lv_iconst (v := (1 : Int32)) hx hb ze_S_append_74 (by decide) ?_
      obtain ⟨hn, h⟩ := z_gb_some h
      cases h
      exact W.zret hx hb hr hn (fun t ht9 hW => ⟨⟨_, (), rfl, rfl, by rw [ht9]; exact hP, hD⟩, hS.F ht9⟩) hS.2.2 ze_S_append_75
    · replace h := z_it_f c1 h
      refine lv_lload_n hx hb ze_S_append_34 rfl (lv_at hl 1 rfl) ?_
      refine lv_iload hx hb ze_S_append_35 (lv_at hl 2 rfl) ?_
      obtain ⟨r2, q2, h⟩ := z_b1_some h
      have hPc := hP.sub (ws' := (zd_ cC cI cJ)) [] rfl
      have hDc := hD.sub (ws' := (zd_ cC cI cJ)) [] (by decide) rfl
      have hFc := va_free (wc := (zd_ cC cI cJ)) hD hS hA [] rfl
      -- CALL S_byteAt
      refine va_calli (va_runS (As := [.long x1, .int x4]) (rest := []) ⟨hx, hb, hml, hown, ht⟩ (zc_S_byteAt l dC dI cC cI cJ tp H.size x1 x4 r2 q2) (va_cwS 2 ht (z_gS zw_253 zw_254 zw_56 zw_255) rfl rfl rfl zh_S_byteAt ⟨Nat.le_of_ble_eq_true rfl, Nat.le_of_ble_eq_true rfl⟩) ⟨fun a U g mk q => by obtain ⟨z0, z1, zP, zK, zD, zX⟩ := q; exact ⟨z0, z1, zP, va_K.moved (u := U) (U := U.calling g mk a) (Vm.Alike.refl U.vm) zK, zD, z_X.same rfl rfl zX⟩, fun U hU hW => ⟨rfl, by rw [hU], by rw [hU]; exact hPc, va_K.moved hW.alike hK, hDc.weaken (fun _ _ _ _ => trivial), hX.warm hS hFc hU hW⟩⟩ rfl rfl hl.1 rfl (lv_room (Nat.le_of_ble_eq_true rfl)) ze_S_append_37 ⟨Nat.zero_le _, Nat.zero_le _⟩) hS (fun q _ h => hFc q h) hFc (fun rv u t H1 locs ht9 hvm hw hB hz1 hk1 hS => ?_)
      obtain ⟨hP1, hD1⟩ := hB
      rw [ht9] at hP1
      have hw' : r2 = rv := Eq.symm hw
      subst hw'
      obtain ⟨hP, hD⟩ := va_join (wr := [(h_S, .inr (0, [.ref h_S_characters, .int S_length, .int S_at, .ref h_S_names, .int S_count, .ref h_S_code, .int S_codeLength, .ref h_S_ends, .ref h_S_firstUses])), (h_S_characters, .inl (cC, 240, .inl S_characters)), (h_S_names, .inl (cC, 7, .inl S_names)), (h_S_code, .inl (cC, 240, .inl S_code)), (h_S_ends, .inl (cI, 7, .inl S_ends)), (h_S_firstUses, .inl (cI, 26, .inl S_firstUses))]) (w1 := (zd_ cC cI cJ)) hP hD [] [0, 1, 2, 3, 4, 5] rfl rfl (by decide) (by decide) hk1 hFc hP1 hD1
      generalize H1 = H at hP hS ⊢
      replace hP := hP.sub (ws' := (zd_S cC cI cJ h_S h_S_characters h_S_names h_S_code h_S_ends h_S_firstUses S_characters S_length S_at S_names S_count S_code S_codeLength S_ends S_firstUses)) [0, 1, 2, 3, 4, 5] rfl
      replace hD := hD.sub (ws' := (zd_S cC cI cJ h_S h_S_characters h_S_names h_S_code h_S_ends h_S_firstUses S_characters S_length S_at S_names S_count S_code S_codeLength S_ends S_firstUses)) [0, 1, 2, 3, 4, 5] (by decide) rfl
      refine lv_istore (lv' := [(5, .int r2), (0, .ref h_S), (1, .long x1), (4, .int x4)]) hx hb ze_S_append_40 hl (by decide) rfl (fun ls hl => ?_)
      refine lv_iload hx hb ze_S_append_42 (lv_at hl 0 rfl) ?_
      refine lv_if_eq (tgt := 68) hx hb ze_S_append_44 (by decide) (fun c3 => ?_) (fun c3 => ?_)
      · replace h := z_it_t c3 h
        refine lv_iinc (v := (x4 + (1 : Int32))) (lv' := [(4, .int (x4 + (1 : Int32))), (5, .int r2), (0, .ref h_S), (1, .long x1)]) hx hb ze_S_append_68 hl (k := 3) rfl rfl (by decide) rfl (fun ls hl => ?_)
        refine lv_goto (tgt := 27) hx hb ze_S_append_71 (by decide) ?_
        exact ih x1 (x4 + (1 : Int32)) S_characters S_length _ _ _ hP hD hS (lv_sub hl [2, 3, 0] rfl) h
      · replace h := z_it_f c3 h
        refine lv_aload_n hx hb ze_S_append_47 rfl (lv_at hl 1 rfl) ?_
        refine va_get (D := (dC, dI)) (ci := 0) (v := .ref h_S_characters) (C := "RuleNetwork$Script") (T := zT_S) (N := 9) hx hb ht zin_S hown hK hP 0 rfl rfl 0 (by decide) (ht _ zw_78) (fun _ h9 => h9) rfl ze_S_append_48 ?_
        refine lv_aload_n hx hb ze_S_append_51 rfl (lv_at hl 1 rfl) ?_
        refine va_get (D := (dC, dI)) (ci := 0) (v := .int S_length) (C := "RuleNetwork$Script") (T := zT_S) (N := 9) hx hb ht zin_S hown hK hP 0 rfl rfl 1 (by decide) (ht _ zw_79) (fun _ h9 => h9) rfl ze_S_append_52 ?_
        refine lv_iload hx hb ze_S_append_55 (lv_at hl 0 rfl) ?_
        obtain ⟨g4, h⟩ := z_gd_some h
        refine va_cast hx hb hK hP hD hS 1 0 rfl rfl g4 ze_S_append_57 (fun H locs hP hD hS => ?_)
        have hP : va_P (dC, dI) vwCl (zd_S cC cI cJ h_S h_S_characters h_S_names h_S_code h_S_ends h_S_firstUses (upd S_characters S_length.toNatClampNeg (vp_nar .char r2)) S_length S_at S_names S_count S_code S_codeLength S_ends S_firstUses) H := hP
        have hD : va_D A (zd_S cC cI cJ h_S h_S_characters h_S_names h_S_code h_S_ends h_S_firstUses (upd S_characters S_length.toNatClampNeg (vp_nar .char r2)) S_length S_at S_names S_count S_code S_codeLength S_ends S_firstUses) := hD
        refine lv_aload_n hx hb ze_S_append_58 rfl (lv_at hl 1 rfl) ?_
        refine lv_dup hx hb ze_S_append_59 rfl ?_
        refine va_get (D := (dC, dI)) (ci := 0) (v := .int S_length) (C := "RuleNetwork$Script") (T := zT_S) (N := 9) hx hb ht zin_S hown hK hP 0 rfl rfl 1 (by decide) (ht _ zw_79) (fun _ h9 => h9) rfl ze_S_append_60 ?_
        refine lv_iconst (v := (1 : Int32)) hx hb ze_S_append_63 (by decide) ?_
        refine lv_iadd hx hb ze_S_append_64 ?_
        refine va_put (D := (dC, dI)) (ci := 0) (v := .int (S_length + (1 : Int32))) (ty := .int) (C := "RuleNetwork$Script") (T := zT_S) (N := 9) hx hb ht zin_S zty_S zty_S_ok znm_S hown hK hP hD hS 0 rfl rfl 1 (by decide) (ht _ zw_79) (fun _ h9 => h9) rfl (zty_S_ok 1 (by decide)) rfl rfl (Nat.le_of_ble_eq_true rfl) ze_S_append_65 (fun H locs hP hD hS => ?_)
        have hP : va_P (dC, dI) vwCl (zd_S cC cI cJ h_S h_S_characters h_S_names h_S_code h_S_ends h_S_firstUses (upd S_characters S_length.toNatClampNeg (vp_nar .char r2)) (S_length + (1 : Int32)) S_at S_names S_count S_code S_codeLength S_ends S_firstUses) H := hP
        have hD : va_D A (zd_S cC cI cJ h_S h_S_characters h_S_names h_S_code h_S_ends h_S_firstUses (upd S_characters S_length.toNatClampNeg (vp_nar .char r2)) (S_length + (1 : Int32)) S_at S_names S_count S_code S_codeLength S_ends S_firstUses) := hD
        refine lv_iinc (v := (x4 + (1 : Int32))) (lv' := [(4, .int (x4 + (1 : Int32))), (5, .int r2), (0, .ref h_S), (1, .long x1)]) hx hb ze_S_append_68 hl (k := 3) rfl rfl (by decide) rfl (fun ls hl => ?_)
        refine lv_goto (tgt := 27) hx hb ze_S_append_71 (by decide) ?_
        exact ih x1 (x4 + (1 : Int32)) (upd S_characters S_length.toNatClampNeg (vp_nar .char r2)) (S_length + (1 : Int32)) _ _ _ hP hD hS (lv_sub hl [2, 3, 0] rfl) h
set_option maxHeartbeats 4000000 in
set_option maxRecDepth 100000 in
theorem zc_S_append (l : Launch) (dC : Nat → ClassId) (dI : Nat → Nat → Nat) (cC : ClassId) (cI : ClassId) (cJ : ClassId) (tp : Nat) (h_S : Nat) (h_S_characters : Nat) (h_S_names : Nat) (h_S_code : Nat) (h_S_ends : Nat) (h_S_firstUses : Nat) (sz : Nat) (S_characters : Nat → Int32) (S_length : Int32) (S_at : Int32) (S_names : Nat → Int32) (S_count : Int32) (S_code : Nat → Int32) (S_codeLength : Int32) (S_ends : Nat → Int32) (S_firstUses : Nat → Int32) (x1 : Int64) (o_r : Int32) (o_S_characters : Nat → Int32) (o_S_length : Int32) (h : zf_S_append x1 S_characters S_length = some (o_r, o_S_characters, o_S_length)) : Met l zy_S_append zs_S_append (rm_S_append) (va_Pc [.ref h_S, .long x1] (fun U => U.heap.size = sz ∧ va_P (dC, dI) vwCl (zd_S cC cI cJ h_S h_S_characters h_S_names h_S_code h_S_ends h_S_firstUses S_characters S_length S_at S_names S_count S_code S_codeLength S_ends S_firstUses) U.heap ∧ va_K (dC, dI) vwCl (z_tys cC cI cJ) U ∧ va_D (fun _ => True) (zd_S cC cI cJ h_S h_S_characters h_S_names h_S_code h_S_ends h_S_firstUses S_characters S_length S_at S_names S_count S_code S_codeLength S_ends S_firstUses) ∧ z_X tp (va_A (zd_S cC cI cJ h_S h_S_characters h_S_names h_S_code h_S_ends h_S_firstUses S_characters S_length S_at S_names S_count S_code S_codeLength S_ends S_firstUses) sz) U)) (zq_S_append dC dI cC cI cJ h_S h_S_characters h_S_names h_S_code h_S_ends h_S_firstUses S_at S_names S_count S_code S_codeLength S_ends S_firstUses o_r o_S_characters o_S_length (va_A (zd_S cC cI cJ h_S h_S_characters h_S_names h_S_code h_S_ends h_S_firstUses S_characters S_length S_at S_names S_count S_code S_codeLength S_ends S_firstUses) sz)) 0 0 (va_A (zd_S cC cI cJ h_S h_S_characters h_S_names h_S_code h_S_ends h_S_firstUses S_characters S_length S_at S_names S_count S_code S_codeLength S_ends S_firstUses) sz) := by
  refine Met.ofW (cc := zb_S_append) (maxL := 6) (ret := (some .boolean)) (by decide) rfl ?_
  intro p e s m args below meth c s₁ B hml hv
  obtain ⟨rfl, hsz, hP, hK, hD0, hX⟩ := hv
  have hx := B.exec
  have hb := B.bytes
  have hr := B.returns
  have hts := atoms_spec (ws := zs_S_append) B.pre
  have ht : ∀ w ∈ z_W, w.before _ s = true := fun w h => hts w (List.mem_cons_of_mem _ h)
  have hown : s.vm.findClass "RuleNetwork$Script" = some m.cls := findClass_of_methodNamed B.named
  have hlocks := B.notSynchronized
  have C0 : z_kx p s m _ meth c "RuleNetwork$Script" zb_S_append 6 (some .boolean) := ⟨hx, hb, hr, hml, hown, ht, hlocks⟩
  subst hsz
  have hD := hD0.self (sz := s.heap.size)
  generalize hAe : va_A (zd_S cC cI cJ h_S h_S_characters h_S_names h_S_code h_S_ends h_S_firstUses S_characters S_length S_at S_names S_count S_code S_codeLength S_ends S_firstUses) s.heap.size = A at hD hX ⊢
  have hA : ∀ q : Nat, s.heap.size ≤ q → A q := fun q h => by rw [← hAe]; exact Or.inr h
  have hS : va_S A s.heap s.heap [] := va_S.rf
  have hl := lv_entry ([.ref h_S, .long x1]) (n := 6) (Nat.le_of_ble_eq_true rfl)
  rw [lg_entry_eq]
  generalize (lg_sl ([.ref h_S, .long x1]) ++ List.replicate (6 - (lg_sl ([.ref h_S, .long x1])).length) Slot.unset).toArray = ls at hl ⊢
  have hl : lv_has ls 6 [(0, .ref h_S), (1, .long x1)] := hl
  rw [zf_S_append] at h
  refine lv_lload_n hx hb ze_S_append_0 rfl (lv_at hl 1 rfl) ?_
  obtain ⟨r1, q1, h⟩ := z_b1_some h
  have hPc := hP.sub (ws' := (zd_ cC cI cJ)) [] rfl
  have hDc := hD.sub (ws' := (zd_ cC cI cJ)) [] (by decide) rfl
  have hFc := va_free (wc := (zd_ cC cI cJ)) hD hS hA [] rfl
  -- CALL S_countCharacters
  refine va_calli (va_runS (As := [.long x1]) (rest := []) ⟨hx, hb, hml, hown, ht⟩ (zc_S_countCharacters l dC dI cC cI cJ tp s.heap.size x1 r1 q1) (va_cwS 1 ht (z_gS zw_250 zw_251 zw_56 zw_252) rfl rfl rfl zh_S_countCharacters ⟨Nat.le_of_ble_eq_true rfl, Nat.le_of_ble_eq_true rfl⟩) ⟨fun a U g mk q => by obtain ⟨z0, z1, zP, zK, zD, zX⟩ := q; exact ⟨z0, z1, zP, va_K.moved (u := U) (U := U.calling g mk a) (Vm.Alike.refl U.vm) zK, zD, z_X.same rfl rfl zX⟩, fun U hU hW => ⟨rfl, by rw [hU], by rw [hU]; exact hPc, va_K.moved hW.alike hK, hDc.weaken (fun _ _ _ _ => trivial), hX.warm hS hFc hU hW⟩⟩ rfl rfl hl.1 rfl (lv_room (Nat.le_of_ble_eq_true rfl)) ze_S_append_1 ⟨Nat.zero_le _, Nat.zero_le _⟩) hS (fun q _ h => hFc q h) hFc (fun rv u t H1 locs ht9 hvm hw hB hz1 hk1 hS => ?_)
  obtain ⟨hP1, hD1⟩ := hB
  rw [ht9] at hP1
  have hw' : r1 = rv := Eq.symm hw
  subst hw'
  obtain ⟨hP, hD⟩ := va_join (wr := [(h_S, .inr (0, [.ref h_S_characters, .int S_length, .int S_at, .ref h_S_names, .int S_count, .ref h_S_code, .int S_codeLength, .ref h_S_ends, .ref h_S_firstUses])), (h_S_characters, .inl (cC, 240, .inl S_characters)), (h_S_names, .inl (cC, 7, .inl S_names)), (h_S_code, .inl (cC, 240, .inl S_code)), (h_S_ends, .inl (cI, 7, .inl S_ends)), (h_S_firstUses, .inl (cI, 26, .inl S_firstUses))]) (w1 := (zd_ cC cI cJ)) hP hD [] [0, 1, 2, 3, 4, 5] rfl rfl (by decide) (by decide) hk1 hFc hP1 hD1
  generalize H1 = H at hP hS ⊢
  replace hP := hP.sub (ws' := (zd_S cC cI cJ h_S h_S_characters h_S_names h_S_code h_S_ends h_S_firstUses S_characters S_length S_at S_names S_count S_code S_codeLength S_ends S_firstUses)) [0, 1, 2, 3, 4, 5] rfl
  replace hD := hD.sub (ws' := (zd_S cC cI cJ h_S h_S_characters h_S_names h_S_code h_S_ends h_S_firstUses S_characters S_length S_at S_names S_count S_code S_codeLength S_ends S_firstUses)) [0, 1, 2, 3, 4, 5] (by decide) rfl
  refine lv_istore_n (lv' := [(3, .int r1), (0, .ref h_S), (1, .long x1)]) hx hb ze_S_append_4 rfl hl (by decide) rfl (fun ls hl => ?_)
  refine lv_iload_n hx hb ze_S_append_5 rfl (lv_at hl 0 rfl) ?_
  refine lv_iconst (v := (-1 : Int32)) hx hb ze_S_append_6 (by decide) ?_
  refine lv_icmp_eq (tgt := 22) hx hb ze_S_append_7 (by decide) (fun c2 => ?_) (fun c2 => ?_)
  · replace h := z_it_t c2 h
    refine lv_iconst (v := (0 : Int32)) hx hb ze_S_append_22 (by decide) ?_
    obtain ⟨hn, h⟩ := z_gb_some h
    cases h
    exact W.zret hx hb hr hn (fun t ht9 hW => ⟨⟨_, (), rfl, rfl, by rw [ht9]; exact hP, hD⟩, hS.F ht9⟩) hS.2.2 ze_S_append_23
  · replace h := z_it_f c2 h
    refine lv_aload_n hx hb ze_S_append_10 rfl (lv_at hl 1 rfl) ?_
    refine va_get (D := (dC, dI)) (ci := 0) (v := .int S_length) (C := "RuleNetwork$Script") (T := zT_S) (N := 9) hx hb ht zin_S hown hK hP 0 rfl rfl 1 (by decide) (ht _ zw_79) (fun _ h9 => h9) rfl ze_S_append_11 ?_
    refine lv_iload_n hx hb ze_S_append_14 rfl (lv_at hl 0 rfl) ?_
    refine lv_iadd hx hb ze_S_append_15 ?_
    refine lv_sipush (v := (240 : Int32)) hx hb ze_S_append_16 (by decide) ?_
    refine lv_icmp_le (tgt := 24) hx hb ze_S_append_19 (by decide) (fun c3 => ?_) (fun c3 => ?_)
    · replace h := z_it_t c3 h
      refine lv_iconst (v := (0 : Int32)) hx hb ze_S_append_24 (by decide) ?_
      refine lv_istore (lv' := [(4, .int (0 : Int32)), (3, .int r1), (0, .ref h_S), (1, .long x1)]) hx hb ze_S_append_25 hl (by decide) rfl (fun ls hl => ?_)
      exact zk_S_append_27 C0 hK hA hX z_FU x1 (0 : Int32) S_characters S_length _ _ _ hP hD hS (lv_sub hl [2, 3, 0] rfl) h
    · replace h := z_it_f c3 h
      refine lv_iconst (v := (0 : Int32)) hx hb ze_S_append_22 (by decide) ?_
      obtain ⟨hn, h⟩ := z_gb_some h
      cases h
      exact W.zret hx hb hr hn (fun t ht9 hW => ⟨⟨_, (), rfl, rfl, by rw [ht9]; exact hP, hD⟩, hS.F ht9⟩) hS.2.2 ze_S_append_23
set_option maxHeartbeats 4000000 in
set_option maxRecDepth 100000 in
theorem zc_S_clear (l : Launch) (dC : Nat → ClassId) (dI : Nat → Nat → Nat) (cC : ClassId) (cI : ClassId) (cJ : ClassId) (tp : Nat) (h_S : Nat) (h_S_characters : Nat) (h_S_names : Nat) (h_S_code : Nat) (h_S_ends : Nat) (h_S_firstUses : Nat) (sz : Nat) (S_characters : Nat → Int32) (S_length : Int32) (S_at : Int32) (S_names : Nat → Int32) (S_count : Int32) (S_code : Nat → Int32) (S_codeLength : Int32) (S_ends : Nat → Int32) (S_firstUses : Nat → Int32) (o_S_length : Int32) (h : zf_S_clear S_length = some (o_S_length)) : Met l zy_S_clear zs_S_clear (rm_S_clear) (va_Pc [.ref h_S] (fun U => U.heap.size = sz ∧ va_P (dC, dI) vwCl (zd_S cC cI cJ h_S h_S_characters h_S_names h_S_code h_S_ends h_S_firstUses S_characters S_length S_at S_names S_count S_code S_codeLength S_ends S_firstUses) U.heap ∧ va_K (dC, dI) vwCl (z_tys cC cI cJ) U ∧ va_D (fun _ => True) (zd_S cC cI cJ h_S h_S_characters h_S_names h_S_code h_S_ends h_S_firstUses S_characters S_length S_at S_names S_count S_code S_codeLength S_ends S_firstUses) ∧ z_X tp (va_A (zd_S cC cI cJ h_S h_S_characters h_S_names h_S_code h_S_ends h_S_firstUses S_characters S_length S_at S_names S_count S_code S_codeLength S_ends S_firstUses) sz) U)) (zq_S_clear dC dI cC cI cJ h_S h_S_characters h_S_names h_S_code h_S_ends h_S_firstUses S_characters S_at S_names S_count S_code S_codeLength S_ends S_firstUses o_S_length (va_A (zd_S cC cI cJ h_S h_S_characters h_S_names h_S_code h_S_ends h_S_firstUses S_characters S_length S_at S_names S_count S_code S_codeLength S_ends S_firstUses) sz)) 0 0 (va_A (zd_S cC cI cJ h_S h_S_characters h_S_names h_S_code h_S_ends h_S_firstUses S_characters S_length S_at S_names S_count S_code S_codeLength S_ends S_firstUses) sz) := by
  refine Met.ofW (cc := zb_S_clear) (maxL := 1) (ret := none) (by decide) rfl ?_
  intro p e s m args below meth c s₁ B hml hv
  obtain ⟨rfl, hsz, hP, hK, hD0, hX⟩ := hv
  have hx := B.exec
  have hb := B.bytes
  have hr := B.returns
  have hts := atoms_spec (ws := zs_S_clear) B.pre
  have ht : ∀ w ∈ z_W, w.before _ s = true := fun w h => hts w (List.mem_cons_of_mem _ h)
  have hown : s.vm.findClass "RuleNetwork$Script" = some m.cls := findClass_of_methodNamed B.named
  have hlocks := B.notSynchronized
  have C0 : z_kx p s m _ meth c "RuleNetwork$Script" zb_S_clear 1 none := ⟨hx, hb, hr, hml, hown, ht, hlocks⟩
  subst hsz
  have hD := hD0.self (sz := s.heap.size)
  generalize hAe : va_A (zd_S cC cI cJ h_S h_S_characters h_S_names h_S_code h_S_ends h_S_firstUses S_characters S_length S_at S_names S_count S_code S_codeLength S_ends S_firstUses) s.heap.size = A at hD hX ⊢
  have hA : ∀ q : Nat, s.heap.size ≤ q → A q := fun q h => by rw [← hAe]; exact Or.inr h
  have hS : va_S A s.heap s.heap [] := va_S.rf
  have hl := lv_entry ([.ref h_S]) (n := 1) (Nat.le_of_ble_eq_true rfl)
  rw [lg_entry_eq]
  generalize (lg_sl ([.ref h_S]) ++ List.replicate (1 - (lg_sl ([.ref h_S])).length) Slot.unset).toArray = ls at hl ⊢
  have hl : lv_has ls 1 [(0, .ref h_S)] := hl
  rw [zf_S_clear] at h
  refine lv_aload_n hx hb ze_S_clear_0 rfl (lv_at hl 0 rfl) ?_
  refine lv_iconst (v := (0 : Int32)) hx hb ze_S_clear_1 (by decide) ?_
  refine va_put (D := (dC, dI)) (ci := 0) (v := .int (0 : Int32)) (ty := .int) (C := "RuleNetwork$Script") (T := zT_S) (N := 9) hx hb ht zin_S zty_S zty_S_ok znm_S hown hK hP hD hS 0 rfl rfl 1 (by decide) (ht _ zw_79) (fun _ h9 => h9) rfl (zty_S_ok 1 (by decide)) rfl rfl (Nat.le_of_ble_eq_true rfl) ze_S_clear_2 (fun H locs hP hD hS => ?_)
  have hP : va_P (dC, dI) vwCl (zd_S cC cI cJ h_S h_S_characters h_S_names h_S_code h_S_ends h_S_firstUses S_characters (0 : Int32) S_at S_names S_count S_code S_codeLength S_ends S_firstUses) H := hP
  have hD : va_D A (zd_S cC cI cJ h_S h_S_characters h_S_names h_S_code h_S_ends h_S_firstUses S_characters (0 : Int32) S_at S_names S_count S_code S_codeLength S_ends S_firstUses) := hD
  cases h
  exact W.vret hx hb hr (fun t ht9 hW => ⟨⟨(), rfl, trivial, by rw [ht9]; exact hP, hD⟩, hS.F ht9⟩) hS.2.2 ze_S_clear_5
set_option maxHeartbeats 4000000 in
set_option maxRecDepth 100000 in
theorem zk_S_ahead_38 {p : Program} {l : Launch} {e : Env} {s : State} {m : MethodId} {args : Array Value} {below : List Frame} {meth : Method} {c : Code} {dC : Nat → ClassId} {dI : Nat → Nat → Nat} {cC cI cJ : ClassId} {A : Nat → Prop} {tp : Nat} {h_S h_S_characters h_S_names h_S_code h_S_ends h_S_firstUses : Nat} {S_names : Nat → Int32} {S_count : Int32} {S_code : Nat → Int32} {S_codeLength : Int32} {S_ends : Nat → Int32} {S_firstUses : Nat → Int32} {o_r : Int32} {o_S_at : Int32} (C0 : z_kx p s m args meth c "RuleNetwork$Script" zb_S_ahead 1 (some .char)) (hK : va_K (dC, dI) vwCl (z_tys cC cI cJ) s) (hA : ∀ q : Nat, s.heap.size ≤ q → A q) (hX : z_X tp A s) :
    ∀ (S_characters : Nat → Int32) (S_length : Int32) (S_at : Int32) (H : Heap) (locs : List Loc) (ls : Array Slot), va_P (dC, dI) vwCl (zd_S cC cI cJ h_S h_S_characters h_S_names h_S_code h_S_ends h_S_firstUses S_characters S_length S_at S_names S_count S_code S_codeLength S_ends S_firstUses) H → va_D A (zd_S cC cI cJ h_S h_S_characters h_S_names h_S_code h_S_ends h_S_firstUses S_characters S_length S_at S_names S_count S_code S_codeLength S_ends S_firstUses) → va_S A s.heap H locs → lv_has ls 1 [(0, .ref h_S)] → zf_S_ahead_38 S_characters S_length S_at = some (o_r, o_S_at) → W p l e (headSpec zs_S_ahead rm_S_ahead).room s m args below meth c H locs 0 0 (MQ below (zq_S_ahead dC dI cC cI cJ h_S h_S_characters h_S_names h_S_code h_S_ends h_S_firstUses S_characters S_length S_names S_count S_code S_codeLength S_ends S_firstUses o_r o_S_at A) args s 0 0 A) (F0 m 38 ls []) := by
  obtain ⟨hx, hb, hr, hml, hown, ht, hlocks⟩ := id C0
  intro S_characters S_length S_at H locs ls hP hD hS hl h
  rw [zf_S_ahead_38] at h
  refine lv_aload_n hx hb ze_S_ahead_38 rfl (lv_at hl 0 rfl) ?_
  refine va_get (D := (dC, dI)) (ci := 0) (v := .int S_at) (C := "RuleNetwork$Script") (T := zT_S) (N := 9) hx hb ht zin_S hown hK hP 0 rfl rfl 2 (by decide) (ht _ zw_80) (fun _ h9 => h9) rfl ze_S_ahead_39 ?_
  refine lv_aload_n hx hb ze_S_ahead_42 rfl (lv_at hl 0 rfl) ?_
  refine va_get (D := (dC, dI)) (ci := 0) (v := .int S_length) (C := "RuleNetwork$Script") (T := zT_S) (N := 9) hx hb ht zin_S hown hK hP 0 rfl rfl 1 (by decide) (ht _ zw_79) (fun _ h9 => h9) rfl ze_S_ahead_43 ?_
  refine lv_icmp_ge (tgt := 61) hx hb ze_S_ahead_46 (by decide) (fun c1 => ?_) (fun c1 => ?_)
  · replace h := z_it_t c1 h
    refine lv_iconst (v := (0 : Int32)) hx hb ze_S_ahead_61 (by decide) ?_
    obtain ⟨hn, h⟩ := z_gc_some h
    cases h
    exact W.zret hx hb hr hn (fun t ht9 hW => ⟨⟨_, (), rfl, rfl, by rw [ht9]; exact hP, hD⟩, hS.F ht9⟩) hS.2.2 ze_S_ahead_62
  · replace h := z_it_f c1 h
    refine lv_aload_n hx hb ze_S_ahead_49 rfl (lv_at hl 0 rfl) ?_
    refine va_get (D := (dC, dI)) (ci := 0) (v := .ref h_S_characters) (C := "RuleNetwork$Script") (T := zT_S) (N := 9) hx hb ht zin_S hown hK hP 0 rfl rfl 0 (by decide) (ht _ zw_78) (fun _ h9 => h9) rfl ze_S_ahead_50 ?_
    refine lv_aload_n hx hb ze_S_ahead_53 rfl (lv_at hl 0 rfl) ?_
    refine va_get (D := (dC, dI)) (ci := 0) (v := .int S_at) (C := "RuleNetwork$Script") (T := zT_S) (N := 9) hx hb ht zin_S hown hK hP 0 rfl rfl 2 (by decide) (ht _ zw_80) (fun _ h9 => h9) rfl ze_S_ahead_54 ?_
    obtain ⟨g2, h⟩ := z_gd_some h
    refine va_cald hx hb hK hP 1 0 rfl rfl g2 ze_S_ahead_57 ?_
    refine lv_goto (tgt := 62) hx hb ze_S_ahead_58 (by decide) ?_
    obtain ⟨hn, h⟩ := z_gc_some h
    cases h
    exact W.zret hx hb hr hn (fun t ht9 hW => ⟨⟨_, (), rfl, rfl, by rw [ht9]; exact hP, hD⟩, hS.F ht9⟩) hS.2.2 ze_S_ahead_62
set_option maxHeartbeats 4000000 in
set_option maxRecDepth 100000 in
theorem zk_S_ahead_0 {p : Program} {l : Launch} {e : Env} {s : State} {m : MethodId} {args : Array Value} {below : List Frame} {meth : Method} {c : Code} {dC : Nat → ClassId} {dI : Nat → Nat → Nat} {cC cI cJ : ClassId} {A : Nat → Prop} {tp : Nat} {h_S h_S_characters h_S_names h_S_code h_S_ends h_S_firstUses : Nat} {S_names : Nat → Int32} {S_count : Int32} {S_code : Nat → Int32} {S_codeLength : Int32} {S_ends : Nat → Int32} {S_firstUses : Nat → Int32} {o_r : Int32} {o_S_at : Int32} (C0 : z_kx p s m args meth c "RuleNetwork$Script" zb_S_ahead 1 (some .char)) (hK : va_K (dC, dI) vwCl (z_tys cC cI cJ) s) (hA : ∀ q : Nat, s.heap.size ≤ q → A q) (hX : z_X tp A s) :
    ∀ n : Nat, ∀ (S_characters : Nat → Int32) (S_length : Int32) (S_at : Int32) (H : Heap) (locs : List Loc) (ls : Array Slot), va_P (dC, dI) vwCl (zd_S cC cI cJ h_S h_S_characters h_S_names h_S_code h_S_ends h_S_firstUses S_characters S_length S_at S_names S_count S_code S_codeLength S_ends S_firstUses) H → va_D A (zd_S cC cI cJ h_S h_S_characters h_S_names h_S_code h_S_ends h_S_firstUses S_characters S_length S_at S_names S_count S_code S_codeLength S_ends S_firstUses) → va_S A s.heap H locs → lv_has ls 1 [(0, .ref h_S)] → zf_S_ahead_0 n S_characters S_length S_at = some (o_r, o_S_at) → W p l e (headSpec zs_S_ahead rm_S_ahead).room s m args below meth c H locs 0 0 (MQ below (zq_S_ahead dC dI cC cI cJ h_S h_S_characters h_S_names h_S_code h_S_ends h_S_firstUses S_characters S_length S_names S_count S_code S_codeLength S_ends S_firstUses o_r o_S_at A) args s 0 0 A) (F0 m 0 ls []) := by
  obtain ⟨hx, hb, hr, hml, hown, ht, hlocks⟩ := id C0
  intro n
  induction n with
  | zero =>
    intro S_characters S_length S_at H locs ls hP hD hS hl h
    cases (show none = some _ from h)
  | succ n ih =>
    intro S_characters S_length S_at H locs ls hP hD hS hl h
    rw [zf_S_ahead_0] at h
    refine lv_aload_n hx hb ze_S_ahead_0 rfl (lv_at hl 0 rfl) ?_
    refine va_get (D := (dC, dI)) (ci := 0) (v := .int S_at) (C := "RuleNetwork$Script") (T := zT_S) (N := 9) hx hb ht zin_S hown hK hP 0 rfl rfl 2 (by decide) (ht _ zw_80) (fun _ h9 => h9) rfl ze_S_ahead_1 ?_
    refine lv_aload_n hx hb ze_S_ahead_4 rfl (lv_at hl 0 rfl) ?_
    refine va_get (D := (dC, dI)) (ci := 0) (v := .int S_length) (C := "RuleNetwork$Script") (T := zT_S) (N := 9) hx hb ht zin_S hown hK hP 0 rfl rfl 1 (by decide) (ht _ zw_79) (fun _ h9 => h9) rfl ze_S_ahead_5 ?_
    refine lv_icmp_ge (tgt := 38) hx hb ze_S_ahead_8 (by decide) (fun c1 => ?_) (fun c1 => ?_)
    · replace h := z_it_t c1 h
      exact zk_S_ahead_38 C0 hK hA hX S_characters S_length S_at _ _ _ hP hD hS (lv_sub hl [0] rfl) h
    · replace h := z_it_f c1 h
      refine lv_aload_n hx hb ze_S_ahead_11 rfl (lv_at hl 0 rfl) ?_
      refine va_get (D := (dC, dI)) (ci := 0) (v := .ref h_S_characters) (C := "RuleNetwork$Script") (T := zT_S) (N := 9) hx hb ht zin_S hown hK hP 0 rfl rfl 0 (by decide) (ht _ zw_78) (fun _ h9 => h9) rfl ze_S_ahead_12 ?_
      refine lv_aload_n hx hb ze_S_ahead_15 rfl (lv_at hl 0 rfl) ?_
      refine va_get (D := (dC, dI)) (ci := 0) (v := .int S_at) (C := "RuleNetwork$Script") (T := zT_S) (N := 9) hx hb ht zin_S hown hK hP 0 rfl rfl 2 (by decide) (ht _ zw_80) (fun _ h9 => h9) rfl ze_S_ahead_16 ?_
      obtain ⟨g2, h⟩ := z_gd_some h
      refine va_cald hx hb hK hP 1 0 rfl rfl g2 ze_S_ahead_19 ?_
      refine lv_bipush (v := (32 : Int32)) hx hb ze_S_ahead_20 (by decide) ?_
      refine lv_icmp_ne (tgt := 38) hx hb ze_S_ahead_22 (by decide) (fun c3 => ?_) (fun c3 => ?_)
      · replace h := z_it_f c3 h
        exact zk_S_ahead_38 C0 hK hA hX S_characters S_length S_at _ _ _ hP hD hS (lv_sub hl [0] rfl) h
      · replace h := z_it_t c3 h
        refine lv_aload_n hx hb ze_S_ahead_25 rfl (lv_at hl 0 rfl) ?_
        refine lv_dup hx hb ze_S_ahead_26 rfl ?_
        refine va_get (D := (dC, dI)) (ci := 0) (v := .int S_at) (C := "RuleNetwork$Script") (T := zT_S) (N := 9) hx hb ht zin_S hown hK hP 0 rfl rfl 2 (by decide) (ht _ zw_80) (fun _ h9 => h9) rfl ze_S_ahead_27 ?_
        refine lv_iconst (v := (1 : Int32)) hx hb ze_S_ahead_30 (by decide) ?_
        refine lv_iadd hx hb ze_S_ahead_31 ?_
        refine va_put (D := (dC, dI)) (ci := 0) (v := .int (S_at + (1 : Int32))) (ty := .int) (C := "RuleNetwork$Script") (T := zT_S) (N := 9) hx hb ht zin_S zty_S zty_S_ok znm_S hown hK hP hD hS 0 rfl rfl 2 (by decide) (ht _ zw_80) (fun _ h9 => h9) rfl (zty_S_ok 2 (by decide)) rfl rfl (Nat.le_of_ble_eq_true rfl) ze_S_ahead_32 (fun H locs hP hD hS => ?_)
        have hP : va_P (dC, dI) vwCl (zd_S cC cI cJ h_S h_S_characters h_S_names h_S_code h_S_ends h_S_firstUses S_characters S_length (S_at + (1 : Int32)) S_names S_count S_code S_codeLength S_ends S_firstUses) H := hP
        have hD : va_D A (zd_S cC cI cJ h_S h_S_characters h_S_names h_S_code h_S_ends h_S_firstUses S_characters S_length (S_at + (1 : Int32)) S_names S_count S_code S_codeLength S_ends S_firstUses) := hD
        refine lv_goto (tgt := 0) hx hb ze_S_ahead_35 (by decide) ?_
        exact ih S_characters S_length (S_at + (1 : Int32)) _ _ _ hP hD hS (lv_sub hl [0] rfl) h
set_option maxHeartbeats 4000000 in
set_option maxRecDepth 100000 in
theorem zc_S_ahead (l : Launch) (dC : Nat → ClassId) (dI : Nat → Nat → Nat) (cC : ClassId) (cI : ClassId) (cJ : ClassId) (tp : Nat) (h_S : Nat) (h_S_characters : Nat) (h_S_names : Nat) (h_S_code : Nat) (h_S_ends : Nat) (h_S_firstUses : Nat) (sz : Nat) (S_characters : Nat → Int32) (S_length : Int32) (S_at : Int32) (S_names : Nat → Int32) (S_count : Int32) (S_code : Nat → Int32) (S_codeLength : Int32) (S_ends : Nat → Int32) (S_firstUses : Nat → Int32) (o_r : Int32) (o_S_at : Int32) (h : zf_S_ahead S_characters S_length S_at = some (o_r, o_S_at)) : Met l zy_S_ahead zs_S_ahead (rm_S_ahead) (va_Pc [.ref h_S] (fun U => U.heap.size = sz ∧ va_P (dC, dI) vwCl (zd_S cC cI cJ h_S h_S_characters h_S_names h_S_code h_S_ends h_S_firstUses S_characters S_length S_at S_names S_count S_code S_codeLength S_ends S_firstUses) U.heap ∧ va_K (dC, dI) vwCl (z_tys cC cI cJ) U ∧ va_D (fun _ => True) (zd_S cC cI cJ h_S h_S_characters h_S_names h_S_code h_S_ends h_S_firstUses S_characters S_length S_at S_names S_count S_code S_codeLength S_ends S_firstUses) ∧ z_X tp (va_A (zd_S cC cI cJ h_S h_S_characters h_S_names h_S_code h_S_ends h_S_firstUses S_characters S_length S_at S_names S_count S_code S_codeLength S_ends S_firstUses) sz) U)) (zq_S_ahead dC dI cC cI cJ h_S h_S_characters h_S_names h_S_code h_S_ends h_S_firstUses S_characters S_length S_names S_count S_code S_codeLength S_ends S_firstUses o_r o_S_at (va_A (zd_S cC cI cJ h_S h_S_characters h_S_names h_S_code h_S_ends h_S_firstUses S_characters S_length S_at S_names S_count S_code S_codeLength S_ends S_firstUses) sz)) 0 0 (va_A (zd_S cC cI cJ h_S h_S_characters h_S_names h_S_code h_S_ends h_S_firstUses S_characters S_length S_at S_names S_count S_code S_codeLength S_ends S_firstUses) sz) := by
  refine Met.ofW (cc := zb_S_ahead) (maxL := 1) (ret := (some .char)) (by decide) rfl ?_
  intro p e s m args below meth c s₁ B hml hv
  obtain ⟨rfl, hsz, hP, hK, hD0, hX⟩ := hv
  have hx := B.exec
  have hb := B.bytes
  have hr := B.returns
  have hts := atoms_spec (ws := zs_S_ahead) B.pre
  have ht : ∀ w ∈ z_W, w.before _ s = true := fun w h => hts w (List.mem_cons_of_mem _ h)
  have hown : s.vm.findClass "RuleNetwork$Script" = some m.cls := findClass_of_methodNamed B.named
  have hlocks := B.notSynchronized
  have C0 : z_kx p s m _ meth c "RuleNetwork$Script" zb_S_ahead 1 (some .char) := ⟨hx, hb, hr, hml, hown, ht, hlocks⟩
  subst hsz
  have hD := hD0.self (sz := s.heap.size)
  generalize hAe : va_A (zd_S cC cI cJ h_S h_S_characters h_S_names h_S_code h_S_ends h_S_firstUses S_characters S_length S_at S_names S_count S_code S_codeLength S_ends S_firstUses) s.heap.size = A at hD hX ⊢
  have hA : ∀ q : Nat, s.heap.size ≤ q → A q := fun q h => by rw [← hAe]; exact Or.inr h
  have hS : va_S A s.heap s.heap [] := va_S.rf
  have hl := lv_entry ([.ref h_S]) (n := 1) (Nat.le_of_ble_eq_true rfl)
  rw [lg_entry_eq]
  generalize (lg_sl ([.ref h_S]) ++ List.replicate (1 - (lg_sl ([.ref h_S])).length) Slot.unset).toArray = ls at hl ⊢
  have hl : lv_has ls 1 [(0, .ref h_S)] := hl
  rw [zf_S_ahead] at h
  exact zk_S_ahead_0 C0 hK hA hX z_FU S_characters S_length S_at _ _ _ hP hD hS (lv_sub hl [0] rfl) h
set_option maxHeartbeats 4000000 in
set_option maxRecDepth 100000 in
theorem zc_S_isName (l : Launch) (dC : Nat → ClassId) (dI : Nat → Nat → Nat) (cC : ClassId) (cI : ClassId) (cJ : ClassId) (tp : Nat) (sz : Nat) (x0 : Int32) (o_r : Int32) (h : zf_S_isName x0 = some (o_r)) : Met l zy_S_isName zs_S_isName (rm_S_isName) (va_Pc [.int x0] (fun U => U.heap.size = sz ∧ va_P (dC, dI) vwCl (zd_ cC cI cJ) U.heap ∧ va_K (dC, dI) vwCl (z_tys cC cI cJ) U ∧ va_D (fun _ => True) (zd_ cC cI cJ) ∧ z_X tp (va_A (zd_ cC cI cJ) sz) U)) (zq_S_isName dC dI cC cI cJ o_r (va_A (zd_ cC cI cJ) sz)) 0 0 (va_A (zd_ cC cI cJ) sz) := by
  refine Met.ofW (cc := zb_S_isName) (maxL := 1) (ret := (some .boolean)) (by decide) rfl ?_
  intro p e s m args below meth c s₁ B hml hv
  obtain ⟨rfl, hsz, hP, hK, hD0, hX⟩ := hv
  have hx := B.exec
  have hb := B.bytes
  have hr := B.returns
  have hts := atoms_spec (ws := zs_S_isName) B.pre
  have ht : ∀ w ∈ z_W, w.before _ s = true := fun w h => hts w (List.mem_cons_of_mem _ h)
  have hown : s.vm.findClass "RuleNetwork$Script" = some m.cls := findClass_of_methodNamed B.named
  have hlocks := B.notSynchronized
  have C0 : z_kx p s m _ meth c "RuleNetwork$Script" zb_S_isName 1 (some .boolean) := ⟨hx, hb, hr, hml, hown, ht, hlocks⟩
  subst hsz
  have hD := hD0.self (sz := s.heap.size)
  generalize hAe : va_A (zd_ cC cI cJ) s.heap.size = A at hD hX ⊢
  have hA : ∀ q : Nat, s.heap.size ≤ q → A q := fun q h => by rw [← hAe]; exact Or.inr h
  have hS : va_S A s.heap s.heap [] := va_S.rf
  have hl := lv_entry ([.int x0]) (n := 1) (Nat.le_of_ble_eq_true rfl)
  rw [lg_entry_eq]
  generalize (lg_sl ([.int x0]) ++ List.replicate (1 - (lg_sl ([.int x0])).length) Slot.unset).toArray = ls at hl ⊢
  have hl : lv_has ls 1 [(0, .int x0)] := hl
  rw [zf_S_isName] at h
  refine lv_iload_n hx hb ze_S_isName_0 rfl (lv_at hl 0 rfl) ?_
  refine lv_bipush (v := (97 : Int32)) hx hb ze_S_isName_1 (by decide) ?_
  refine lv_icmp_lt (tgt := 16) hx hb ze_S_isName_3 (by decide) (fun c1 => ?_) (fun c1 => ?_)
  · replace h := z_it_t c1 h
    refine lv_iconst (v := (0 : Int32)) hx hb ze_S_isName_16 (by decide) ?_
    obtain ⟨hn, h⟩ := z_gb_some h
    cases h
    exact W.zret hx hb hr hn (fun t ht9 hW => ⟨⟨_, (), rfl, rfl, by rw [ht9]; exact hP, hD⟩, hS.F ht9⟩) hS.2.2 ze_S_isName_17
  · replace h := z_it_f c1 h
    refine lv_iload_n hx hb ze_S_isName_6 rfl (lv_at hl 0 rfl) ?_
    refine lv_bipush (v := (122 : Int32)) hx hb ze_S_isName_7 (by decide) ?_
    refine lv_icmp_gt (tgt := 16) hx hb ze_S_isName_9 (by decide) (fun c2 => ?_) (fun c2 => ?_)
    · replace h := z_it_t c2 h
      refine lv_iconst (v := (0 : Int32)) hx hb ze_S_isName_16 (by decide) ?_
      obtain ⟨hn, h⟩ := z_gb_some h
      cases h
      exact W.zret hx hb hr hn (fun t ht9 hW => ⟨⟨_, (), rfl, rfl, by rw [ht9]; exact hP, hD⟩, hS.F ht9⟩) hS.2.2 ze_S_isName_17
    · replace h := z_it_f c2 h
      refine lv_iconst (v := (1 : Int32)) hx hb ze_S_isName_12 (by decide) ?_
      refine lv_goto (tgt := 17) hx hb ze_S_isName_13 (by decide) ?_
      obtain ⟨hn, h⟩ := z_gb_some h
      cases h
      exact W.zret hx hb hr hn (fun t ht9 hW => ⟨⟨_, (), rfl, rfl, by rw [ht9]; exact hP, hD⟩, hS.F ht9⟩) hS.2.2 ze_S_isName_17
set_option maxHeartbeats 4000000 in
set_option maxRecDepth 100000 in
theorem zc_S_readMark (l : Launch) (dC : Nat → ClassId) (dI : Nat → Nat → Nat) (cC : ClassId) (cI : ClassId) (cJ : ClassId) (tp : Nat) (h_S : Nat) (h_S_characters : Nat) (h_S_names : Nat) (h_S_code : Nat) (h_S_ends : Nat) (h_S_firstUses : Nat) (sz : Nat) (S_characters : Nat → Int32) (S_length : Int32) (S_at : Int32) (S_names : Nat → Int32) (S_count : Int32) (S_code : Nat → Int32) (S_codeLength : Int32) (S_ends : Nat → Int32) (S_firstUses : Nat → Int32) (x1 : Int32) (o_r : Int32) (o_S_at : Int32) (h : zf_S_readMark x1 S_characters S_length S_at = some (o_r, o_S_at)) : Met l zy_S_readMark zs_S_readMark (rm_S_readMark) (va_Pc [.ref h_S, .int x1] (fun U => U.heap.size = sz ∧ va_P (dC, dI) vwCl (zd_S cC cI cJ h_S h_S_characters h_S_names h_S_code h_S_ends h_S_firstUses S_characters S_length S_at S_names S_count S_code S_codeLength S_ends S_firstUses) U.heap ∧ va_K (dC, dI) vwCl (z_tys cC cI cJ) U ∧ va_D (fun _ => True) (zd_S cC cI cJ h_S h_S_characters h_S_names h_S_code h_S_ends h_S_firstUses S_characters S_length S_at S_names S_count S_code S_codeLength S_ends S_firstUses) ∧ z_X tp (va_A (zd_S cC cI cJ h_S h_S_characters h_S_names h_S_code h_S_ends h_S_firstUses S_characters S_length S_at S_names S_count S_code S_codeLength S_ends S_firstUses) sz) U)) (zq_S_readMark dC dI cC cI cJ h_S h_S_characters h_S_names h_S_code h_S_ends h_S_firstUses S_characters S_length S_names S_count S_code S_codeLength S_ends S_firstUses o_r o_S_at (va_A (zd_S cC cI cJ h_S h_S_characters h_S_names h_S_code h_S_ends h_S_firstUses S_characters S_length S_at S_names S_count S_code S_codeLength S_ends S_firstUses) sz)) 0 0 (va_A (zd_S cC cI cJ h_S h_S_characters h_S_names h_S_code h_S_ends h_S_firstUses S_characters S_length S_at S_names S_count S_code S_codeLength S_ends S_firstUses) sz) := by
  refine Met.ofW (cc := zb_S_readMark) (maxL := 2) (ret := (some .boolean)) (by decide) rfl ?_
  intro p e s m args below meth c s₁ B hml hv
  obtain ⟨rfl, hsz, hP, hK, hD0, hX⟩ := hv
  have hx := B.exec
  have hb := B.bytes
  have hr := B.returns
  have hts := atoms_spec (ws := zs_S_readMark) B.pre
  have ht : ∀ w ∈ z_W, w.before _ s = true := fun w h => hts w (List.mem_cons_of_mem _ h)
  have hown : s.vm.findClass "RuleNetwork$Script" = some m.cls := findClass_of_methodNamed B.named
  have hlocks := B.notSynchronized
  have C0 : z_kx p s m _ meth c "RuleNetwork$Script" zb_S_readMark 2 (some .boolean) := ⟨hx, hb, hr, hml, hown, ht, hlocks⟩
  subst hsz
  have hD := hD0.self (sz := s.heap.size)
  generalize hAe : va_A (zd_S cC cI cJ h_S h_S_characters h_S_names h_S_code h_S_ends h_S_firstUses S_characters S_length S_at S_names S_count S_code S_codeLength S_ends S_firstUses) s.heap.size = A at hD hX ⊢
  have hA : ∀ q : Nat, s.heap.size ≤ q → A q := fun q h => by rw [← hAe]; exact Or.inr h
  have hS : va_S A s.heap s.heap [] := va_S.rf
  have hl := lv_entry ([.ref h_S, .int x1]) (n := 2) (Nat.le_of_ble_eq_true rfl)
  rw [lg_entry_eq]
  generalize (lg_sl ([.ref h_S, .int x1]) ++ List.replicate (2 - (lg_sl ([.ref h_S, .int x1])).length) Slot.unset).toArray = ls at hl ⊢
  have hl : lv_has ls 2 [(0, .ref h_S), (1, .int x1)] := hl
  rw [zf_S_readMark] at h
  refine lv_aload_n hx hb ze_S_readMark_0 rfl (lv_at hl 0 rfl) ?_
  obtain ⟨r1, S_at_1, q1, h⟩ := z_b2_some h
  have hPc := hP.sub (ws' := (zd_S cC cI cJ h_S h_S_characters h_S_names h_S_code h_S_ends h_S_firstUses S_characters S_length S_at S_names S_count S_code S_codeLength S_ends S_firstUses)) [0, 1, 2, 3, 4, 5] rfl
  have hDc := hD.sub (ws' := (zd_S cC cI cJ h_S h_S_characters h_S_names h_S_code h_S_ends h_S_firstUses S_characters S_length S_at S_names S_count S_code S_codeLength S_ends S_firstUses)) [0, 1, 2, 3, 4, 5] (by decide) rfl
  have hFc := va_free (wc := (zd_S cC cI cJ h_S h_S_characters h_S_names h_S_code h_S_ends h_S_firstUses S_characters S_length S_at S_names S_count S_code S_codeLength S_ends S_firstUses)) hD hS hA [0, 1, 2, 3, 4, 5] rfl
  -- CALL S_ahead
  refine va_calli (va_runV (As := []) (rest := []) ⟨hx, hb, hml, hown, ht⟩ (zc_S_ahead l dC dI cC cI cJ tp h_S h_S_characters h_S_names h_S_code h_S_ends h_S_firstUses s.heap.size S_characters S_length S_at S_names S_count S_code S_codeLength S_ends S_firstUses r1 S_at_1 q1) (cwV 0 ht (z_gV zw_284 zw_286 zw_2 zw_56 zw_287) rfl rfl rfl ⟨rfl, zh_S_ahead⟩ ⟨Nat.le_of_ble_eq_true rfl, Nat.le_of_ble_eq_true rfl⟩) ⟨fun a U g mk q => by obtain ⟨z0, z1, zP, zK, zD, zX⟩ := q; exact ⟨z0, z1, zP, va_K.moved (u := U) (U := U.calling g mk a) (Vm.Alike.refl U.vm) zK, zD, z_X.same rfl rfl zX⟩, va_recv hK hP (ci := 0) (q0 := 0) rfl rfl, fun U hU hW => ⟨rfl, by rw [hU], by rw [hU]; exact hPc, va_K.moved hW.alike hK, hDc.weaken (fun _ _ _ _ => trivial), hX.warm hS hFc hU hW⟩⟩ rfl rfl hl.1 rfl (lv_room (Nat.le_of_ble_eq_true rfl)) ze_S_readMark_1 ⟨Nat.zero_le _, Nat.zero_le _⟩) hS (fun q _ h => hFc q h) hFc (fun rv u t H1 locs ht9 hvm hw hB hz1 hk1 hS => ?_)
  obtain ⟨hP1, hD1⟩ := hB
  rw [ht9] at hP1
  have hw' : r1 = rv := Eq.symm hw
  subst hw'
  obtain ⟨hP, hD⟩ := va_join (wr := []) (w1 := (zd_S cC cI cJ h_S h_S_characters h_S_names h_S_code h_S_ends h_S_firstUses S_characters S_length S_at_1 S_names S_count S_code S_codeLength S_ends S_firstUses)) hP hD [0, 1, 2, 3, 4, 5] [] rfl rfl (by decide) (by decide) hk1 hFc hP1 hD1
  generalize H1 = H at hP hS ⊢
  replace hP := hP.sub (ws' := (zd_S cC cI cJ h_S h_S_characters h_S_names h_S_code h_S_ends h_S_firstUses S_characters S_length S_at_1 S_names S_count S_code S_codeLength S_ends S_firstUses)) [0, 1, 2, 3, 4, 5] rfl
  replace hD := hD.sub (ws' := (zd_S cC cI cJ h_S h_S_characters h_S_names h_S_code h_S_ends h_S_firstUses S_characters S_length S_at_1 S_names S_count S_code S_codeLength S_ends S_firstUses)) [0, 1, 2, 3, 4, 5] (by decide) rfl
  refine lv_iload_n hx hb ze_S_readMark_4 rfl (lv_at hl 1 rfl) ?_
  refine lv_icmp_eq (tgt := 10) hx hb ze_S_readMark_5 (by decide) (fun c2 => ?_) (fun c2 => ?_)
  · replace h := z_it_t c2 h
    refine lv_aload_n hx hb ze_S_readMark_10 rfl (lv_at hl 0 rfl) ?_
    refine lv_dup hx hb ze_S_readMark_11 rfl ?_
    refine va_get (D := (dC, dI)) (ci := 0) (v := .int S_at_1) (C := "RuleNetwork$Script") (T := zT_S) (N := 9) hx hb ht zin_S hown hK hP 0 rfl rfl 2 (by decide) (ht _ zw_80) (fun _ h9 => h9) rfl ze_S_readMark_12 ?_
    refine lv_iconst (v := (1 : Int32)) hx hb ze_S_readMark_15 (by decide) ?_
    refine lv_iadd hx hb ze_S_readMark_16 ?_
    refine va_put (D := (dC, dI)) (ci := 0) (v := .int (S_at_1 + (1 : Int32))) (ty := .int) (C := "RuleNetwork$Script") (T := zT_S) (N := 9) hx hb ht zin_S zty_S zty_S_ok znm_S hown hK hP hD hS 0 rfl rfl 2 (by decide) (ht _ zw_80) (fun _ h9 => h9) rfl (zty_S_ok 2 (by decide)) rfl rfl (Nat.le_of_ble_eq_true rfl) ze_S_readMark_17 (fun H locs hP hD hS => ?_)
    have hP : va_P (dC, dI) vwCl (zd_S cC cI cJ h_S h_S_characters h_S_names h_S_code h_S_ends h_S_firstUses S_characters S_length (S_at_1 + (1 : Int32)) S_names S_count S_code S_codeLength S_ends S_firstUses) H := hP
    have hD : va_D A (zd_S cC cI cJ h_S h_S_characters h_S_names h_S_code h_S_ends h_S_firstUses S_characters S_length (S_at_1 + (1 : Int32)) S_names S_count S_code S_codeLength S_ends S_firstUses) := hD
    refine lv_iconst (v := (1 : Int32)) hx hb ze_S_readMark_20 (by decide) ?_
    obtain ⟨hn, h⟩ := z_gb_some h
    cases h
    exact W.zret hx hb hr hn (fun t ht9 hW => ⟨⟨_, (), rfl, rfl, by rw [ht9]; exact hP, hD⟩, hS.F ht9⟩) hS.2.2 ze_S_readMark_21
  · replace h := z_it_f c2 h
    refine lv_iconst (v := (0 : Int32)) hx hb ze_S_readMark_8 (by decide) ?_
    obtain ⟨hn, h⟩ := z_gb_some h
    cases h
    exact W.zret hx hb hr hn (fun t ht9 hW => ⟨⟨_, (), rfl, rfl, by rw [ht9]; exact hP, hD⟩, hS.F ht9⟩) hS.2.2 ze_S_readMark_9
set_option maxHeartbeats 4000000 in
set_option maxRecDepth 100000 in
theorem zc_S_emit (l : Launch) (dC : Nat → ClassId) (dI : Nat → Nat → Nat) (cC : ClassId) (cI : ClassId) (cJ : ClassId) (tp : Nat) (h_S : Nat) (h_S_characters : Nat) (h_S_names : Nat) (h_S_code : Nat) (h_S_ends : Nat) (h_S_firstUses : Nat) (sz : Nat) (S_characters : Nat → Int32) (S_length : Int32) (S_at : Int32) (S_names : Nat → Int32) (S_count : Int32) (S_code : Nat → Int32) (S_codeLength : Int32) (S_ends : Nat → Int32) (S_firstUses : Nat → Int32) (x1 : Int32) (o_S_code : Nat → Int32) (o_S_codeLength : Int32) (h : zf_S_emit x1 S_code S_codeLength = some (o_S_code, o_S_codeLength)) : Met l zy_S_emit zs_S_emit (rm_S_emit) (va_Pc [.ref h_S, .int x1] (fun U => U.heap.size = sz ∧ va_P (dC, dI) vwCl (zd_S cC cI cJ h_S h_S_characters h_S_names h_S_code h_S_ends h_S_firstUses S_characters S_length S_at S_names S_count S_code S_codeLength S_ends S_firstUses) U.heap ∧ va_K (dC, dI) vwCl (z_tys cC cI cJ) U ∧ va_D (fun _ => True) (zd_S cC cI cJ h_S h_S_characters h_S_names h_S_code h_S_ends h_S_firstUses S_characters S_length S_at S_names S_count S_code S_codeLength S_ends S_firstUses) ∧ z_X tp (va_A (zd_S cC cI cJ h_S h_S_characters h_S_names h_S_code h_S_ends h_S_firstUses S_characters S_length S_at S_names S_count S_code S_codeLength S_ends S_firstUses) sz) U)) (zq_S_emit dC dI cC cI cJ h_S h_S_characters h_S_names h_S_code h_S_ends h_S_firstUses S_characters S_length S_at S_names S_count S_ends S_firstUses o_S_code o_S_codeLength (va_A (zd_S cC cI cJ h_S h_S_characters h_S_names h_S_code h_S_ends h_S_firstUses S_characters S_length S_at S_names S_count S_code S_codeLength S_ends S_firstUses) sz)) 0 0 (va_A (zd_S cC cI cJ h_S h_S_characters h_S_names h_S_code h_S_ends h_S_firstUses S_characters S_length S_at S_names S_count S_code S_codeLength S_ends S_firstUses) sz) := by
  refine Met.ofW (cc := zb_S_emit) (maxL := 2) (ret := none) (by decide) rfl ?_
  intro p e s m args below meth c s₁ B hml hv
  obtain ⟨rfl, hsz, hP, hK, hD0, hX⟩ := hv
  have hx := B.exec
  have hb := B.bytes
  have hr := B.returns
  have hts := atoms_spec (ws := zs_S_emit) B.pre
  have ht : ∀ w ∈ z_W, w.before _ s = true := fun w h => hts w (List.mem_cons_of_mem _ h)
  have hown : s.vm.findClass "RuleNetwork$Script" = some m.cls := findClass_of_methodNamed B.named
  have hlocks := B.notSynchronized
  have C0 : z_kx p s m _ meth c "RuleNetwork$Script" zb_S_emit 2 none := ⟨hx, hb, hr, hml, hown, ht, hlocks⟩
  subst hsz
  have hD := hD0.self (sz := s.heap.size)
  generalize hAe : va_A (zd_S cC cI cJ h_S h_S_characters h_S_names h_S_code h_S_ends h_S_firstUses S_characters S_length S_at S_names S_count S_code S_codeLength S_ends S_firstUses) s.heap.size = A at hD hX ⊢
  have hA : ∀ q : Nat, s.heap.size ≤ q → A q := fun q h => by rw [← hAe]; exact Or.inr h
  have hS : va_S A s.heap s.heap [] := va_S.rf
  have hl := lv_entry ([.ref h_S, .int x1]) (n := 2) (Nat.le_of_ble_eq_true rfl)
  rw [lg_entry_eq]
  generalize (lg_sl ([.ref h_S, .int x1]) ++ List.replicate (2 - (lg_sl ([.ref h_S, .int x1])).length) Slot.unset).toArray = ls at hl ⊢
  have hl : lv_has ls 2 [(0, .ref h_S), (1, .int x1)] := hl
  rw [zf_S_emit] at h
  refine lv_aload_n hx hb ze_S_emit_0 rfl (lv_at hl 0 rfl) ?_
  refine va_get (D := (dC, dI)) (ci := 0) (v := .int S_codeLength) (C := "RuleNetwork$Script") (T := zT_S) (N := 9) hx hb ht zin_S hown hK hP 0 rfl rfl 6 (by decide) (ht _ zw_87) (fun _ h9 => h9) rfl ze_S_emit_1 ?_
  refine lv_sipush (v := (240 : Int32)) hx hb ze_S_emit_4 (by decide) ?_
  refine lv_icmp_ge (tgt := 30) hx hb ze_S_emit_7 (by decide) (fun c1 => ?_) (fun c1 => ?_)
  · replace h := z_it_t c1 h
    cases h
    exact W.vret hx hb hr (fun t ht9 hW => ⟨⟨(), rfl, trivial, by rw [ht9]; exact hP, hD⟩, hS.F ht9⟩) hS.2.2 ze_S_emit_30
  · replace h := z_it_f c1 h
    refine lv_aload_n hx hb ze_S_emit_10 rfl (lv_at hl 0 rfl) ?_
    refine va_get (D := (dC, dI)) (ci := 0) (v := .ref h_S_code) (C := "RuleNetwork$Script") (T := zT_S) (N := 9) hx hb ht zin_S hown hK hP 0 rfl rfl 5 (by decide) (ht _ zw_85) (fun _ h9 => h9) rfl ze_S_emit_11 ?_
    refine lv_aload_n hx hb ze_S_emit_14 rfl (lv_at hl 0 rfl) ?_
    refine va_get (D := (dC, dI)) (ci := 0) (v := .int S_codeLength) (C := "RuleNetwork$Script") (T := zT_S) (N := 9) hx hb ht zin_S hown hK hP 0 rfl rfl 6 (by decide) (ht _ zw_87) (fun _ h9 => h9) rfl ze_S_emit_15 ?_
    refine lv_iload_n hx hb ze_S_emit_18 rfl (lv_at hl 1 rfl) ?_
    obtain ⟨g2, h⟩ := z_gd_some h
    refine va_cast hx hb hK hP hD hS 3 0 rfl rfl g2 ze_S_emit_19 (fun H locs hP hD hS => ?_)
    have hP : va_P (dC, dI) vwCl (zd_S cC cI cJ h_S h_S_characters h_S_names h_S_code h_S_ends h_S_firstUses S_characters S_length S_at S_names S_count (upd S_code S_codeLength.toNatClampNeg (vp_nar .char x1)) S_codeLength S_ends S_firstUses) H := hP
    have hD : va_D A (zd_S cC cI cJ h_S h_S_characters h_S_names h_S_code h_S_ends h_S_firstUses S_characters S_length S_at S_names S_count (upd S_code S_codeLength.toNatClampNeg (vp_nar .char x1)) S_codeLength S_ends S_firstUses) := hD
    refine lv_aload_n hx hb ze_S_emit_20 rfl (lv_at hl 0 rfl) ?_
    refine lv_dup hx hb ze_S_emit_21 rfl ?_
    refine va_get (D := (dC, dI)) (ci := 0) (v := .int S_codeLength) (C := "RuleNetwork$Script") (T := zT_S) (N := 9) hx hb ht zin_S hown hK hP 0 rfl rfl 6 (by decide) (ht _ zw_87) (fun _ h9 => h9) rfl ze_S_emit_22 ?_
    refine lv_iconst (v := (1 : Int32)) hx hb ze_S_emit_25 (by decide) ?_
    refine lv_iadd hx hb ze_S_emit_26 ?_
    refine va_put (D := (dC, dI)) (ci := 0) (v := .int (S_codeLength + (1 : Int32))) (ty := .int) (C := "RuleNetwork$Script") (T := zT_S) (N := 9) hx hb ht zin_S zty_S zty_S_ok znm_S hown hK hP hD hS 0 rfl rfl 6 (by decide) (ht _ zw_87) (fun _ h9 => h9) rfl (zty_S_ok 6 (by decide)) rfl rfl (Nat.le_of_ble_eq_true rfl) ze_S_emit_27 (fun H locs hP hD hS => ?_)
    have hP : va_P (dC, dI) vwCl (zd_S cC cI cJ h_S h_S_characters h_S_names h_S_code h_S_ends h_S_firstUses S_characters S_length S_at S_names S_count (upd S_code S_codeLength.toNatClampNeg (vp_nar .char x1)) (S_codeLength + (1 : Int32)) S_ends S_firstUses) H := hP
    have hD : va_D A (zd_S cC cI cJ h_S h_S_characters h_S_names h_S_code h_S_ends h_S_firstUses S_characters S_length S_at S_names S_count (upd S_code S_codeLength.toNatClampNeg (vp_nar .char x1)) (S_codeLength + (1 : Int32)) S_ends S_firstUses) := hD
    cases h
    exact W.vret hx hb hr (fun t ht9 hW => ⟨⟨(), rfl, trivial, by rw [ht9]; exact hP, hD⟩, hS.F ht9⟩) hS.2.2 ze_S_emit_30
set_option maxHeartbeats 4000000 in
set_option maxRecDepth 100000 in
theorem zk_S_readLeaf_51 {p : Program} {l : Launch} {e : Env} {s : State} {m : MethodId} {args : Array Value} {below : List Frame} {meth : Method} {c : Code} {dC : Nat → ClassId} {dI : Nat → Nat → Nat} {cC cI cJ : ClassId} {A : Nat → Prop} {tp : Nat} {h_S h_S_characters h_S_names h_S_code h_S_ends h_S_firstUses : Nat} {S_characters : Nat → Int32} {S_length : Int32} {S_names : Nat → Int32} {S_count : Int32} {S_ends : Nat → Int32} {o_r : Int32} {o_S_at : Int32} {o_S_code : Nat → Int32} {o_S_codeLength : Int32} {o_S_firstUses : Nat → Int32} (C0 : z_kx p s m args meth c "RuleNetwork$Script" zb_S_readLeaf 2 (some .boolean)) (hK : va_K (dC, dI) vwCl (z_tys cC cI cJ) s) (hA : ∀ q : Nat, s.heap.size ≤ q → A q) (hX : z_X tp A s) :
    ∀ (x1 : Int32) (S_at : Int32) (S_code : Nat → Int32) (S_codeLength : Int32) (S_firstUses : Nat → Int32) (H : Heap) (locs : List Loc) (ls : Array Slot), va_P (dC, dI) vwCl (zd_S cC cI cJ h_S h_S_characters h_S_names h_S_code h_S_ends h_S_firstUses S_characters S_length S_at S_names S_count S_code S_codeLength S_ends S_firstUses) H → va_D A (zd_S cC cI cJ h_S h_S_characters h_S_names h_S_code h_S_ends h_S_firstUses S_characters S_length S_at S_names S_count S_code S_codeLength S_ends S_firstUses) → va_S A s.heap H locs → lv_has ls 2 [(0, .ref h_S), (1, .int x1)] → zf_S_readLeaf_51 x1 S_at S_code S_codeLength S_firstUses = some (o_r, o_S_at, o_S_code, o_S_codeLength, o_S_firstUses) → W p l e (headSpec zs_S_readLeaf rm_S_readLeaf).room s m args below meth c H locs 0 0 (MQ below (zq_S_readLeaf dC dI cC cI cJ h_S h_S_characters h_S_names h_S_code h_S_ends h_S_firstUses S_characters S_length S_names S_count S_ends o_r o_S_at o_S_code o_S_codeLength o_S_firstUses A) args s 0 0 A) (F0 m 51 ls []) := by
  obtain ⟨hx, hb, hr, hml, hown, ht, hlocks⟩ := id C0
  intro x1 S_at S_code S_codeLength S_firstUses H locs ls hP hD hS hl h
  rw [zf_S_readLeaf_51] at h
  refine lv_aload_n hx hb ze_S_readLeaf_51 rfl (lv_at hl 0 rfl) ?_
  refine lv_dup hx hb ze_S_readLeaf_52 rfl ?_
  refine va_get (D := (dC, dI)) (ci := 0) (v := .int S_at) (C := "RuleNetwork$Script") (T := zT_S) (N := 9) hx hb ht zin_S hown hK hP 0 rfl rfl 2 (by decide) (ht _ zw_80) (fun _ h9 => h9) rfl ze_S_readLeaf_53 ?_
  refine lv_iconst (v := (1 : Int32)) hx hb ze_S_readLeaf_56 (by decide) ?_
  refine lv_iadd hx hb ze_S_readLeaf_57 ?_
  refine va_put (D := (dC, dI)) (ci := 0) (v := .int (S_at + (1 : Int32))) (ty := .int) (C := "RuleNetwork$Script") (T := zT_S) (N := 9) hx hb ht zin_S zty_S zty_S_ok znm_S hown hK hP hD hS 0 rfl rfl 2 (by decide) (ht _ zw_80) (fun _ h9 => h9) rfl (zty_S_ok 2 (by decide)) rfl rfl (Nat.le_of_ble_eq_true rfl) ze_S_readLeaf_58 (fun H locs hP hD hS => ?_)
  have hP : va_P (dC, dI) vwCl (zd_S cC cI cJ h_S h_S_characters h_S_names h_S_code h_S_ends h_S_firstUses S_characters S_length (S_at + (1 : Int32)) S_names S_count S_code S_codeLength S_ends S_firstUses) H := hP
  have hD : va_D A (zd_S cC cI cJ h_S h_S_characters h_S_names h_S_code h_S_ends h_S_firstUses S_characters S_length (S_at + (1 : Int32)) S_names S_count S_code S_codeLength S_ends S_firstUses) := hD
  refine lv_aload_n hx hb ze_S_readLeaf_61 rfl (lv_at hl 0 rfl) ?_
  refine lv_iload_n hx hb ze_S_readLeaf_62 rfl (lv_at hl 1 rfl) ?_
  obtain ⟨S_code_1, S_codeLength_1, q1, h⟩ := z_b2_some h
  have hPc := hP.sub (ws' := (zd_S cC cI cJ h_S h_S_characters h_S_names h_S_code h_S_ends h_S_firstUses S_characters S_length (S_at + (1 : Int32)) S_names S_count S_code S_codeLength S_ends S_firstUses)) [0, 1, 2, 3, 4, 5] rfl
  have hDc := hD.sub (ws' := (zd_S cC cI cJ h_S h_S_characters h_S_names h_S_code h_S_ends h_S_firstUses S_characters S_length (S_at + (1 : Int32)) S_names S_count S_code S_codeLength S_ends S_firstUses)) [0, 1, 2, 3, 4, 5] (by decide) rfl
  have hFc := va_free (wc := (zd_S cC cI cJ h_S h_S_characters h_S_names h_S_code h_S_ends h_S_firstUses S_characters S_length (S_at + (1 : Int32)) S_names S_count S_code S_codeLength S_ends S_firstUses)) hD hS hA [0, 1, 2, 3, 4, 5] rfl
  -- CALL S_emit
  refine va_callv (va_runV (As := [.int x1]) (rest := []) ⟨hx, hb, hml, hown, ht⟩ (zc_S_emit l dC dI cC cI cJ tp h_S h_S_characters h_S_names h_S_code h_S_ends h_S_firstUses H.size S_characters S_length (S_at + (1 : Int32)) S_names S_count S_code S_codeLength S_ends S_firstUses x1 S_code_1 S_codeLength_1 q1) (cwV 1 ht (z_gV zw_314 zw_316 zw_8 zw_56 zw_317) rfl rfl rfl ⟨rfl, zh_S_emit⟩ ⟨Nat.le_of_ble_eq_true rfl, Nat.le_of_ble_eq_true rfl⟩) ⟨fun a U g mk q => by obtain ⟨z0, z1, zP, zK, zD, zX⟩ := q; exact ⟨z0, z1, zP, va_K.moved (u := U) (U := U.calling g mk a) (Vm.Alike.refl U.vm) zK, zD, z_X.same rfl rfl zX⟩, va_recv hK hP (ci := 0) (q0 := 0) rfl rfl, fun U hU hW => ⟨rfl, by rw [hU], by rw [hU]; exact hPc, va_K.moved hW.alike hK, hDc.weaken (fun _ _ _ _ => trivial), hX.warm hS hFc hU hW⟩⟩ rfl rfl hl.1 rfl (lv_room (Nat.le_of_ble_eq_true rfl)) ze_S_readLeaf_63 ⟨Nat.zero_le _, Nat.zero_le _⟩) hS (fun q _ h => hFc q h) hFc (fun u t H1 locs ht9 hvm hw hB hz1 hk1 hS => ?_)
  obtain ⟨hP1, hD1⟩ := hB
  rw [ht9] at hP1
  obtain ⟨hP, hD⟩ := va_join (wr := []) (w1 := (zd_S cC cI cJ h_S h_S_characters h_S_names h_S_code h_S_ends h_S_firstUses S_characters S_length (S_at + (1 : Int32)) S_names S_count S_code_1 S_codeLength_1 S_ends S_firstUses)) hP hD [0, 1, 2, 3, 4, 5] [] rfl rfl (by decide) (by decide) hk1 hFc hP1 hD1
  generalize H1 = H at hP hS ⊢
  replace hP := hP.sub (ws' := (zd_S cC cI cJ h_S h_S_characters h_S_names h_S_code h_S_ends h_S_firstUses S_characters S_length (S_at + (1 : Int32)) S_names S_count S_code_1 S_codeLength_1 S_ends S_firstUses)) [0, 1, 2, 3, 4, 5] rfl
  replace hD := hD.sub (ws' := (zd_S cC cI cJ h_S h_S_characters h_S_names h_S_code h_S_ends h_S_firstUses S_characters S_length (S_at + (1 : Int32)) S_names S_count S_code_1 S_codeLength_1 S_ends S_firstUses)) [0, 1, 2, 3, 4, 5] (by decide) rfl
  refine lv_iconst (v := (1 : Int32)) hx hb ze_S_readLeaf_66 (by decide) ?_
  obtain ⟨hn, h⟩ := z_gb_some h
  cases h
  exact W.zret hx hb hr hn (fun t ht9 hW => ⟨⟨_, (), rfl, rfl, by rw [ht9]; exact hP, hD⟩, hS.F ht9⟩) hS.2.2 ze_S_readLeaf_67
set_option maxHeartbeats 4000000 in
set_option maxRecDepth 100000 in
theorem zc_S_readLeaf (l : Launch) (dC : Nat → ClassId) (dI : Nat → Nat → Nat) (cC : ClassId) (cI : ClassId) (cJ : ClassId) (tp : Nat) (h_S : Nat) (h_S_characters : Nat) (h_S_names : Nat) (h_S_code : Nat) (h_S_ends : Nat) (h_S_firstUses : Nat) (sz : Nat) (S_characters : Nat → Int32) (S_length : Int32) (S_at : Int32) (S_names : Nat → Int32) (S_count : Int32) (S_code : Nat → Int32) (S_codeLength : Int32) (S_ends : Nat → Int32) (S_firstUses : Nat → Int32) (x1 : Int32) (o_r : Int32) (o_S_at : Int32) (o_S_code : Nat → Int32) (o_S_codeLength : Int32) (o_S_firstUses : Nat → Int32) (h : zf_S_readLeaf x1 S_at S_code S_codeLength S_firstUses = some (o_r, o_S_at, o_S_code, o_S_codeLength, o_S_firstUses)) : Met l zy_S_readLeaf zs_S_readLeaf (rm_S_readLeaf) (va_Pc [.ref h_S, .int x1] (fun U => U.heap.size = sz ∧ va_P (dC, dI) vwCl (zd_S cC cI cJ h_S h_S_characters h_S_names h_S_code h_S_ends h_S_firstUses S_characters S_length S_at S_names S_count S_code S_codeLength S_ends S_firstUses) U.heap ∧ va_K (dC, dI) vwCl (z_tys cC cI cJ) U ∧ va_D (fun _ => True) (zd_S cC cI cJ h_S h_S_characters h_S_names h_S_code h_S_ends h_S_firstUses S_characters S_length S_at S_names S_count S_code S_codeLength S_ends S_firstUses) ∧ z_X tp (va_A (zd_S cC cI cJ h_S h_S_characters h_S_names h_S_code h_S_ends h_S_firstUses S_characters S_length S_at S_names S_count S_code S_codeLength S_ends S_firstUses) sz) U)) (zq_S_readLeaf dC dI cC cI cJ h_S h_S_characters h_S_names h_S_code h_S_ends h_S_firstUses S_characters S_length S_names S_count S_ends o_r o_S_at o_S_code o_S_codeLength o_S_firstUses (va_A (zd_S cC cI cJ h_S h_S_characters h_S_names h_S_code h_S_ends h_S_firstUses S_characters S_length S_at S_names S_count S_code S_codeLength S_ends S_firstUses) sz)) 0 0 (va_A (zd_S cC cI cJ h_S h_S_characters h_S_names h_S_code h_S_ends h_S_firstUses S_characters S_length S_at S_names S_count S_code S_codeLength S_ends S_firstUses) sz) := by
  refine Met.ofW (cc := zb_S_readLeaf) (maxL := 2) (ret := (some .boolean)) (by decide) rfl ?_
  intro p e s m args below meth c s₁ B hml hv
  obtain ⟨rfl, hsz, hP, hK, hD0, hX⟩ := hv
  have hx := B.exec
  have hb := B.bytes
  have hr := B.returns
  have hts := atoms_spec (ws := zs_S_readLeaf) B.pre
  have ht : ∀ w ∈ z_W, w.before _ s = true := fun w h => hts w (List.mem_cons_of_mem _ h)
  have hown : s.vm.findClass "RuleNetwork$Script" = some m.cls := findClass_of_methodNamed B.named
  have hlocks := B.notSynchronized
  have C0 : z_kx p s m _ meth c "RuleNetwork$Script" zb_S_readLeaf 2 (some .boolean) := ⟨hx, hb, hr, hml, hown, ht, hlocks⟩
  subst hsz
  have hD := hD0.self (sz := s.heap.size)
  generalize hAe : va_A (zd_S cC cI cJ h_S h_S_characters h_S_names h_S_code h_S_ends h_S_firstUses S_characters S_length S_at S_names S_count S_code S_codeLength S_ends S_firstUses) s.heap.size = A at hD hX ⊢
  have hA : ∀ q : Nat, s.heap.size ≤ q → A q := fun q h => by rw [← hAe]; exact Or.inr h
  have hS : va_S A s.heap s.heap [] := va_S.rf
  have hl := lv_entry ([.ref h_S, .int x1]) (n := 2) (Nat.le_of_ble_eq_true rfl)
  rw [lg_entry_eq]
  generalize (lg_sl ([.ref h_S, .int x1]) ++ List.replicate (2 - (lg_sl ([.ref h_S, .int x1])).length) Slot.unset).toArray = ls at hl ⊢
  have hl : lv_has ls 2 [(0, .ref h_S), (1, .int x1)] := hl
  rw [zf_S_readLeaf] at h
  refine lv_iload_n hx hb ze_S_readLeaf_0 rfl (lv_at hl 1 rfl) ?_
  obtain ⟨r1, q1, h⟩ := z_b1_some h
  have hPc := hP.sub (ws' := (zd_ cC cI cJ)) [] rfl
  have hDc := hD.sub (ws' := (zd_ cC cI cJ)) [] (by decide) rfl
  have hFc := va_free (wc := (zd_ cC cI cJ)) hD hS hA [] rfl
  -- CALL S_isName
  refine va_calli (va_runS (As := [.int x1]) (rest := []) ⟨hx, hb, hml, hown, ht⟩ (zc_S_isName l dC dI cC cI cJ tp s.heap.size x1 r1 q1) (va_cwS 1 ht (z_gS zw_288 zw_289 zw_56 zw_290) rfl rfl rfl zh_S_isName ⟨Nat.le_of_ble_eq_true rfl, Nat.le_of_ble_eq_true rfl⟩) ⟨fun a U g mk q => by obtain ⟨z0, z1, zP, zK, zD, zX⟩ := q; exact ⟨z0, z1, zP, va_K.moved (u := U) (U := U.calling g mk a) (Vm.Alike.refl U.vm) zK, zD, z_X.same rfl rfl zX⟩, fun U hU hW => ⟨rfl, by rw [hU], by rw [hU]; exact hPc, va_K.moved hW.alike hK, hDc.weaken (fun _ _ _ _ => trivial), hX.warm hS hFc hU hW⟩⟩ rfl rfl hl.1 rfl (lv_room (Nat.le_of_ble_eq_true rfl)) ze_S_readLeaf_1 ⟨Nat.zero_le _, Nat.zero_le _⟩) hS (fun q _ h => hFc q h) hFc (fun rv u t H1 locs ht9 hvm hw hB hz1 hk1 hS => ?_)
  obtain ⟨hP1, hD1⟩ := hB
  rw [ht9] at hP1
  have hw' : r1 = rv := Eq.symm hw
  subst hw'
  obtain ⟨hP, hD⟩ := va_join (wr := [(h_S, .inr (0, [.ref h_S_characters, .int S_length, .int S_at, .ref h_S_names, .int S_count, .ref h_S_code, .int S_codeLength, .ref h_S_ends, .ref h_S_firstUses])), (h_S_characters, .inl (cC, 240, .inl S_characters)), (h_S_names, .inl (cC, 7, .inl S_names)), (h_S_code, .inl (cC, 240, .inl S_code)), (h_S_ends, .inl (cI, 7, .inl S_ends)), (h_S_firstUses, .inl (cI, 26, .inl S_firstUses))]) (w1 := (zd_ cC cI cJ)) hP hD [] [0, 1, 2, 3, 4, 5] rfl rfl (by decide) (by decide) hk1 hFc hP1 hD1
  generalize H1 = H at hP hS ⊢
  replace hP := hP.sub (ws' := (zd_S cC cI cJ h_S h_S_characters h_S_names h_S_code h_S_ends h_S_firstUses S_characters S_length S_at S_names S_count S_code S_codeLength S_ends S_firstUses)) [0, 1, 2, 3, 4, 5] rfl
  replace hD := hD.sub (ws' := (zd_S cC cI cJ h_S h_S_characters h_S_names h_S_code h_S_ends h_S_firstUses S_characters S_length S_at S_names S_count S_code S_codeLength S_ends S_firstUses)) [0, 1, 2, 3, 4, 5] (by decide) rfl
  refine lv_if_eq (tgt := 37) hx hb ze_S_readLeaf_4 (by decide) (fun c2 => ?_) (fun c2 => ?_)
  · replace h := z_it_t c2 h
    refine lv_iload_n hx hb ze_S_readLeaf_37 rfl (lv_at hl 1 rfl) ?_
    refine lv_bipush (v := (48 : Int32)) hx hb ze_S_readLeaf_38 (by decide) ?_
    refine lv_icmp_eq (tgt := 51) hx hb ze_S_readLeaf_40 (by decide) (fun c3 => ?_) (fun c3 => ?_)
    · replace h := z_it_t c3 h
      exact zk_S_readLeaf_51 C0 hK hA hX x1 S_at S_code S_codeLength S_firstUses _ _ _ hP hD hS (lv_sub hl [0, 1] rfl) h
    · replace h := z_it_f c3 h
      refine lv_iload_n hx hb ze_S_readLeaf_43 rfl (lv_at hl 1 rfl) ?_
      refine lv_bipush (v := (49 : Int32)) hx hb ze_S_readLeaf_44 (by decide) ?_
      refine lv_icmp_eq (tgt := 51) hx hb ze_S_readLeaf_46 (by decide) (fun c4 => ?_) (fun c4 => ?_)
      · replace h := z_it_t c4 h
        exact zk_S_readLeaf_51 C0 hK hA hX x1 S_at S_code S_codeLength S_firstUses _ _ _ hP hD hS (lv_sub hl [0, 1] rfl) h
      · replace h := z_it_f c4 h
        refine lv_iconst (v := (0 : Int32)) hx hb ze_S_readLeaf_49 (by decide) ?_
        obtain ⟨hn, h⟩ := z_gb_some h
        cases h
        exact W.zret hx hb hr hn (fun t ht9 hW => ⟨⟨_, (), rfl, rfl, by rw [ht9]; exact hP, hD⟩, hS.F ht9⟩) hS.2.2 ze_S_readLeaf_50
  · replace h := z_it_f c2 h
    refine lv_aload_n hx hb ze_S_readLeaf_7 rfl (lv_at hl 0 rfl) ?_
    refine va_get (D := (dC, dI)) (ci := 0) (v := .ref h_S_firstUses) (C := "RuleNetwork$Script") (T := zT_S) (N := 9) hx hb ht zin_S hown hK hP 0 rfl rfl 8 (by decide) (ht _ zw_90) (fun _ h9 => h9) rfl ze_S_readLeaf_8 ?_
    refine lv_iload_n hx hb ze_S_readLeaf_11 rfl (lv_at hl 1 rfl) ?_
    refine lv_bipush (v := (97 : Int32)) hx hb ze_S_readLeaf_12 (by decide) ?_
    refine lv_isub hx hb ze_S_readLeaf_14 ?_
    obtain ⟨g5, h⟩ := z_gd_some h
    refine va_iald hx hb hK hP 5 1 rfl rfl g5 ze_S_readLeaf_15 ?_
    refine lv_if_ne (tgt := 51) hx hb ze_S_readLeaf_16 (by decide) (fun c6 => ?_) (fun c6 => ?_)
    · replace h := z_it_f c6 h
      exact zk_S_readLeaf_51 C0 hK hA hX x1 S_at S_code S_codeLength S_firstUses _ _ _ hP hD hS (lv_sub hl [0, 1] rfl) h
    · replace h := z_it_t c6 h
      refine lv_aload_n hx hb ze_S_readLeaf_19 rfl (lv_at hl 0 rfl) ?_
      refine va_get (D := (dC, dI)) (ci := 0) (v := .ref h_S_firstUses) (C := "RuleNetwork$Script") (T := zT_S) (N := 9) hx hb ht zin_S hown hK hP 0 rfl rfl 8 (by decide) (ht _ zw_90) (fun _ h9 => h9) rfl ze_S_readLeaf_20 ?_
      refine lv_iload_n hx hb ze_S_readLeaf_23 rfl (lv_at hl 1 rfl) ?_
      refine lv_bipush (v := (97 : Int32)) hx hb ze_S_readLeaf_24 (by decide) ?_
      refine lv_isub hx hb ze_S_readLeaf_26 ?_
      refine lv_aload_n hx hb ze_S_readLeaf_27 rfl (lv_at hl 0 rfl) ?_
      refine va_get (D := (dC, dI)) (ci := 0) (v := .int S_at) (C := "RuleNetwork$Script") (T := zT_S) (N := 9) hx hb ht zin_S hown hK hP 0 rfl rfl 2 (by decide) (ht _ zw_80) (fun _ h9 => h9) rfl ze_S_readLeaf_28 ?_
      refine lv_iconst (v := (1 : Int32)) hx hb ze_S_readLeaf_31 (by decide) ?_
      refine lv_iadd hx hb ze_S_readLeaf_32 ?_
      obtain ⟨g7, h⟩ := z_gd_some h
      refine va_iast hx hb hK hP hD hS 5 1 rfl rfl g7 ze_S_readLeaf_33 (fun H locs hP hD hS => ?_)
      have hP : va_P (dC, dI) vwCl (zd_S cC cI cJ h_S h_S_characters h_S_names h_S_code h_S_ends h_S_firstUses S_characters S_length S_at S_names S_count S_code S_codeLength S_ends (upd S_firstUses (x1 - (97 : Int32)).toNatClampNeg (S_at + (1 : Int32)))) H := hP
      have hD : va_D A (zd_S cC cI cJ h_S h_S_characters h_S_names h_S_code h_S_ends h_S_firstUses S_characters S_length S_at S_names S_count S_code S_codeLength S_ends (upd S_firstUses (x1 - (97 : Int32)).toNatClampNeg (S_at + (1 : Int32)))) := hD
      refine lv_goto (tgt := 51) hx hb ze_S_readLeaf_34 (by decide) ?_
      exact zk_S_readLeaf_51 C0 hK hA hX x1 S_at S_code S_codeLength (upd S_firstUses (x1 - (97 : Int32)).toNatClampNeg (S_at + (1 : Int32))) _ _ _ hP hD hS (lv_sub hl [0, 1] rfl) h
set_option maxHeartbeats 4000000 in
set_option maxRecDepth 100000 in
theorem zk_S_readProduct_12 {p : Program} {l : Launch} {e : Env} {s : State} {m : MethodId} {args : Array Value} {below : List Frame} {meth : Method} {c : Code} {dC : Nat → ClassId} {dI : Nat → Nat → Nat} {cC cI cJ : ClassId} {A : Nat → Prop} {tp : Nat} {h_S h_S_characters h_S_names h_S_code h_S_ends h_S_firstUses : Nat} {S_names : Nat → Int32} {S_count : Int32} {S_ends : Nat → Int32} {o_r : Int32} {o_S_at : Int32} {o_S_code : Nat → Int32} {o_S_codeLength : Int32} {o_S_firstUses : Nat → Int32} (C0 : z_kx p s m args meth c "RuleNetwork$Script" zb_S_readProduct 3 (some .boolean)) (hK : va_K (dC, dI) vwCl (z_tys cC cI cJ) s) (hA : ∀ q : Nat, s.heap.size ≤ q → A q) (hX : z_X tp A s) {dd : Nat} {rf : Int32 → (Nat → Int32) → Int32 → Int32 → (Nat → Int32) → Int32 → (Nat → Int32) → Option (Int32 × Int32 × (Nat → Int32) × Int32 × (Nat → Int32))} (hrf : zC_S_readFactor l (rm_S_readFactor dd) rf) :
    ∀ n : Nat, ∀ (x1 : Int32) (x2 : Int32) (S_characters : Nat → Int32) (S_length : Int32) (S_at : Int32) (S_code : Nat → Int32) (S_codeLength : Int32) (S_firstUses : Nat → Int32) (H : Heap) (locs : List Loc) (ls : Array Slot), va_P (dC, dI) vwCl (zd_S cC cI cJ h_S h_S_characters h_S_names h_S_code h_S_ends h_S_firstUses S_characters S_length S_at S_names S_count S_code S_codeLength S_ends S_firstUses) H → va_D A (zd_S cC cI cJ h_S h_S_characters h_S_names h_S_code h_S_ends h_S_firstUses S_characters S_length S_at S_names S_count S_code S_codeLength S_ends S_firstUses) → va_S A s.heap H locs → lv_has ls 3 [(0, .ref h_S), (1, .int x1), (2, .int x2)] → zf_S_readProduct_12 rf n x1 x2 S_characters S_length S_at S_code S_codeLength S_firstUses = some (o_r, o_S_at, o_S_code, o_S_codeLength, o_S_firstUses) → W p l e (headSpec zs_S_readProduct (rm_S_readProduct dd)).room s m args below meth c H locs 0 0 (MQ below (zq_S_readProduct dC dI cC cI cJ h_S h_S_characters h_S_names h_S_code h_S_ends h_S_firstUses S_characters S_length S_names S_count S_ends o_r o_S_at o_S_code o_S_codeLength o_S_firstUses A) args s 0 0 A) (F0 m 12 ls []) := by
  obtain ⟨hx, hb, hr, hml, hown, ht, hlocks⟩ := id C0
  intro n
  induction n with
  | zero =>
    intro x1 x2 S_characters S_length S_at S_code S_codeLength S_firstUses H locs ls hP hD hS hl h
    cases (show none = some _ from h)
  | succ n ih =>
    intro x1 x2 S_characters S_length S_at S_code S_codeLength S_firstUses H locs ls hP hD hS hl h
    rw [zf_S_readProduct_12] at h
    refine lv_iload_n hx hb ze_S_readProduct_12 rfl (lv_at hl 2 rfl) ?_
    refine lv_sipush (v := (240 : Int32)) hx hb ze_S_readProduct_13 (by decide) ?_
    refine lv_icmp_ge (tgt := 60) hx hb ze_S_readProduct_16 (by decide) (fun c1 => ?_) (fun c1 => ?_)
    · replace h := z_it_t c1 h
      refine lv_iconst (v := (1 : Int32)) hx hb ze_S_readProduct_60 (by decide) ?_
      obtain ⟨hn, h⟩ := z_gb_some h
      cases h
      exact W.zret hx hb hr hn (fun t ht9 hW => ⟨⟨_, (), rfl, rfl, by rw [ht9]; exact hP, hD⟩, hS.F ht9⟩) hS.2.2 ze_S_readProduct_61
    · replace h := z_it_f c1 h
      refine lv_aload_n hx hb ze_S_readProduct_19 rfl (lv_at hl 0 rfl) ?_
      obtain ⟨r2, S_at_2, q2, h⟩ := z_b2_some h
      have hPc := hP.sub (ws' := (zd_S cC cI cJ h_S h_S_characters h_S_names h_S_code h_S_ends h_S_firstUses S_characters S_length S_at S_names S_count S_code S_codeLength S_ends S_firstUses)) [0, 1, 2, 3, 4, 5] rfl
      have hDc := hD.sub (ws' := (zd_S cC cI cJ h_S h_S_characters h_S_names h_S_code h_S_ends h_S_firstUses S_characters S_length S_at S_names S_count S_code S_codeLength S_ends S_firstUses)) [0, 1, 2, 3, 4, 5] (by decide) rfl
      have hFc := va_free (wc := (zd_S cC cI cJ h_S h_S_characters h_S_names h_S_code h_S_ends h_S_firstUses S_characters S_length S_at S_names S_count S_code S_codeLength S_ends S_firstUses)) hD hS hA [0, 1, 2, 3, 4, 5] rfl
      -- CALL S_ahead
      refine va_calli (va_runV (As := []) (rest := []) ⟨hx, hb, hml, hown, ht⟩ (zc_S_ahead l dC dI cC cI cJ tp h_S h_S_characters h_S_names h_S_code h_S_ends h_S_firstUses H.size S_characters S_length S_at S_names S_count S_code S_codeLength S_ends S_firstUses r2 S_at_2 q2) (cwV 0 ht (z_gV zw_284 zw_286 zw_2 zw_56 zw_287) rfl rfl rfl ⟨rfl, zh_S_ahead⟩ ⟨by dsimp only [headSpec, rm_S_readProduct, rm_S_ahead]; omega, by dsimp only [headSpec, rm_S_readProduct, rm_S_ahead]; omega⟩) ⟨fun a U g mk q => by obtain ⟨z0, z1, zP, zK, zD, zX⟩ := q; exact ⟨z0, z1, zP, va_K.moved (u := U) (U := U.calling g mk a) (Vm.Alike.refl U.vm) zK, zD, z_X.same rfl rfl zX⟩, va_recv hK hP (ci := 0) (q0 := 0) rfl rfl, fun U hU hW => ⟨rfl, by rw [hU], by rw [hU]; exact hPc, va_K.moved hW.alike hK, hDc.weaken (fun _ _ _ _ => trivial), hX.warm hS hFc hU hW⟩⟩ rfl rfl hl.1 rfl (lv_room (Nat.le_of_ble_eq_true rfl)) ze_S_readProduct_20 ⟨Nat.zero_le _, Nat.zero_le _⟩) hS (fun q _ h => hFc q h) hFc (fun rv u t H1 locs ht9 hvm hw hB hz1 hk1 hS => ?_)
      obtain ⟨hP1, hD1⟩ := hB
      rw [ht9] at hP1
      have hw' : r2 = rv := Eq.symm hw
      subst hw'
      obtain ⟨hP, hD⟩ := va_join (wr := []) (w1 := (zd_S cC cI cJ h_S h_S_characters h_S_names h_S_code h_S_ends h_S_firstUses S_characters S_length S_at_2 S_names S_count S_code S_codeLength S_ends S_firstUses)) hP hD [0, 1, 2, 3, 4, 5] [] rfl rfl (by decide) (by decide) hk1 hFc hP1 hD1
      generalize H1 = H at hP hS ⊢
      replace hP := hP.sub (ws' := (zd_S cC cI cJ h_S h_S_characters h_S_names h_S_code h_S_ends h_S_firstUses S_characters S_length S_at_2 S_names S_count S_code S_codeLength S_ends S_firstUses)) [0, 1, 2, 3, 4, 5] rfl
      replace hD := hD.sub (ws' := (zd_S cC cI cJ h_S h_S_characters h_S_names h_S_code h_S_ends h_S_firstUses S_characters S_length S_at_2 S_names S_count S_code S_codeLength S_ends S_firstUses)) [0, 1, 2, 3, 4, 5] (by decide) rfl
      refine lv_bipush (v := (38 : Int32)) hx hb ze_S_readProduct_23 (by decide) ?_
      refine lv_icmp_ne (tgt := 60) hx hb ze_S_readProduct_25 (by decide) (fun c3 => ?_) (fun c3 => ?_)
      · replace h := z_it_f c3 h
        refine lv_iconst (v := (1 : Int32)) hx hb ze_S_readProduct_60 (by decide) ?_
        obtain ⟨hn, h⟩ := z_gb_some h
        cases h
        exact W.zret hx hb hr hn (fun t ht9 hW => ⟨⟨_, (), rfl, rfl, by rw [ht9]; exact hP, hD⟩, hS.F ht9⟩) hS.2.2 ze_S_readProduct_61
      · replace h := z_it_t c3 h
        refine lv_aload_n hx hb ze_S_readProduct_28 rfl (lv_at hl 0 rfl) ?_
        refine lv_dup hx hb ze_S_readProduct_29 rfl ?_
        refine va_get (D := (dC, dI)) (ci := 0) (v := .int S_at_2) (C := "RuleNetwork$Script") (T := zT_S) (N := 9) hx hb ht zin_S hown hK hP 0 rfl rfl 2 (by decide) (ht _ zw_80) (fun _ h9 => h9) rfl ze_S_readProduct_30 ?_
        refine lv_iconst (v := (1 : Int32)) hx hb ze_S_readProduct_33 (by decide) ?_
        refine lv_iadd hx hb ze_S_readProduct_34 ?_
        refine va_put (D := (dC, dI)) (ci := 0) (v := .int (S_at_2 + (1 : Int32))) (ty := .int) (C := "RuleNetwork$Script") (T := zT_S) (N := 9) hx hb ht zin_S zty_S zty_S_ok znm_S hown hK hP hD hS 0 rfl rfl 2 (by decide) (ht _ zw_80) (fun _ h9 => h9) rfl (zty_S_ok 2 (by decide)) rfl rfl (Nat.le_of_ble_eq_true rfl) ze_S_readProduct_35 (fun H locs hP hD hS => ?_)
        have hP : va_P (dC, dI) vwCl (zd_S cC cI cJ h_S h_S_characters h_S_names h_S_code h_S_ends h_S_firstUses S_characters S_length (S_at_2 + (1 : Int32)) S_names S_count S_code S_codeLength S_ends S_firstUses) H := hP
        have hD : va_D A (zd_S cC cI cJ h_S h_S_characters h_S_names h_S_code h_S_ends h_S_firstUses S_characters S_length (S_at_2 + (1 : Int32)) S_names S_count S_code S_codeLength S_ends S_firstUses) := hD
        refine lv_aload_n hx hb ze_S_readProduct_38 rfl (lv_at hl 0 rfl) ?_
        refine lv_iload_n hx hb ze_S_readProduct_39 rfl (lv_at hl 1 rfl) ?_
        obtain ⟨r4, S_at_4, S_code_4, S_codeLength_4, S_firstUses_4, q4, h⟩ := z_b5_some h
        have hPc := hP.sub (ws' := (zd_S cC cI cJ h_S h_S_characters h_S_names h_S_code h_S_ends h_S_firstUses S_characters S_length (S_at_2 + (1 : Int32)) S_names S_count S_code S_codeLength S_ends S_firstUses)) [0, 1, 2, 3, 4, 5] rfl
        have hDc := hD.sub (ws' := (zd_S cC cI cJ h_S h_S_characters h_S_names h_S_code h_S_ends h_S_firstUses S_characters S_length (S_at_2 + (1 : Int32)) S_names S_count S_code S_codeLength S_ends S_firstUses)) [0, 1, 2, 3, 4, 5] (by decide) rfl
        have hFc := va_free (wc := (zd_S cC cI cJ h_S h_S_characters h_S_names h_S_code h_S_ends h_S_firstUses S_characters S_length (S_at_2 + (1 : Int32)) S_names S_count S_code S_codeLength S_ends S_firstUses)) hD hS hA [0, 1, 2, 3, 4, 5] rfl
        -- CALL S_readFactor
        refine va_calli (va_runV (As := [.int x1]) (rest := []) ⟨hx, hb, hml, hown, ht⟩ (hrf dC dI cC cI cJ tp h_S h_S_characters h_S_names h_S_code h_S_ends h_S_firstUses H.size S_characters S_length (S_at_2 + (1 : Int32)) S_names S_count S_code S_codeLength S_ends S_firstUses x1 r4 S_at_4 S_code_4 S_codeLength_4 S_firstUses_4 q4) (cwV 1 ht (z_gV zw_306 zw_308 zw_6 zw_56 zw_309) rfl rfl rfl ⟨rfl, zh_S_readFactor⟩ ⟨by dsimp only [headSpec, rm_S_readProduct, rm_S_readFactor]; omega, by dsimp only [headSpec, rm_S_readProduct, rm_S_readFactor]; omega⟩) ⟨fun a U g mk q => by obtain ⟨z0, z1, zP, zK, zD, zX⟩ := q; exact ⟨z0, z1, zP, va_K.moved (u := U) (U := U.calling g mk a) (Vm.Alike.refl U.vm) zK, zD, z_X.same rfl rfl zX⟩, va_recv hK hP (ci := 0) (q0 := 0) rfl rfl, fun U hU hW => ⟨rfl, by rw [hU], by rw [hU]; exact hPc, va_K.moved hW.alike hK, hDc.weaken (fun _ _ _ _ => trivial), hX.warm hS hFc hU hW⟩⟩ rfl rfl hl.1 rfl (lv_room (Nat.le_of_ble_eq_true rfl)) ze_S_readProduct_40 ⟨Nat.zero_le _, Nat.zero_le _⟩) hS (fun q _ h => hFc q h) hFc (fun rv u t H1 locs ht9 hvm hw hB hz1 hk1 hS => ?_)
        obtain ⟨hP1, hD1⟩ := hB
        rw [ht9] at hP1
        have hw' : r4 = rv := Eq.symm hw
        subst hw'
        obtain ⟨hP, hD⟩ := va_join (wr := []) (w1 := (zd_S cC cI cJ h_S h_S_characters h_S_names h_S_code h_S_ends h_S_firstUses S_characters S_length S_at_4 S_names S_count S_code_4 S_codeLength_4 S_ends S_firstUses_4)) hP hD [0, 1, 2, 3, 4, 5] [] rfl rfl (by decide) (by decide) hk1 hFc hP1 hD1
        generalize H1 = H at hP hS ⊢
        replace hP := hP.sub (ws' := (zd_S cC cI cJ h_S h_S_characters h_S_names h_S_code h_S_ends h_S_firstUses S_characters S_length S_at_4 S_names S_count S_code_4 S_codeLength_4 S_ends S_firstUses_4)) [0, 1, 2, 3, 4, 5] rfl
        replace hD := hD.sub (ws' := (zd_S cC cI cJ h_S h_S_characters h_S_names h_S_code h_S_ends h_S_firstUses S_characters S_length S_at_4 S_names S_count S_code_4 S_codeLength_4 S_ends S_firstUses_4)) [0, 1, 2, 3, 4, 5] (by decide) rfl
        refine lv_if_ne (tgt := 48) hx hb ze_S_readProduct_43 (by decide) (fun c5 => ?_) (fun c5 => ?_)
        · replace h := z_it_f c5 h
          refine lv_aload_n hx hb ze_S_readProduct_48 rfl (lv_at hl 0 rfl) ?_
          refine lv_bipush (v := (38 : Int32)) hx hb ze_S_readProduct_49 (by decide) ?_
          obtain ⟨S_code_6, S_codeLength_6, q6, h⟩ := z_b2_some h
          have hPc := hP.sub (ws' := (zd_S cC cI cJ h_S h_S_characters h_S_names h_S_code h_S_ends h_S_firstUses S_characters S_length S_at_4 S_names S_count S_code_4 S_codeLength_4 S_ends S_firstUses_4)) [0, 1, 2, 3, 4, 5] rfl
          have hDc := hD.sub (ws' := (zd_S cC cI cJ h_S h_S_characters h_S_names h_S_code h_S_ends h_S_firstUses S_characters S_length S_at_4 S_names S_count S_code_4 S_codeLength_4 S_ends S_firstUses_4)) [0, 1, 2, 3, 4, 5] (by decide) rfl
          have hFc := va_free (wc := (zd_S cC cI cJ h_S h_S_characters h_S_names h_S_code h_S_ends h_S_firstUses S_characters S_length S_at_4 S_names S_count S_code_4 S_codeLength_4 S_ends S_firstUses_4)) hD hS hA [0, 1, 2, 3, 4, 5] rfl
          -- CALL S_emit
          refine va_callv (va_runV (As := [.int (38 : Int32)]) (rest := []) ⟨hx, hb, hml, hown, ht⟩ (zc_S_emit l dC dI cC cI cJ tp h_S h_S_characters h_S_names h_S_code h_S_ends h_S_firstUses H.size S_characters S_length S_at_4 S_names S_count S_code_4 S_codeLength_4 S_ends S_firstUses_4 (38 : Int32) S_code_6 S_codeLength_6 q6) (cwV 1 ht (z_gV zw_314 zw_316 zw_8 zw_56 zw_317) rfl rfl rfl ⟨rfl, zh_S_emit⟩ ⟨by dsimp only [headSpec, rm_S_readProduct, rm_S_emit]; omega, by dsimp only [headSpec, rm_S_readProduct, rm_S_emit]; omega⟩) ⟨fun a U g mk q => by obtain ⟨z0, z1, zP, zK, zD, zX⟩ := q; exact ⟨z0, z1, zP, va_K.moved (u := U) (U := U.calling g mk a) (Vm.Alike.refl U.vm) zK, zD, z_X.same rfl rfl zX⟩, va_recv hK hP (ci := 0) (q0 := 0) rfl rfl, fun U hU hW => ⟨rfl, by rw [hU], by rw [hU]; exact hPc, va_K.moved hW.alike hK, hDc.weaken (fun _ _ _ _ => trivial), hX.warm hS hFc hU hW⟩⟩ rfl rfl hl.1 rfl (lv_room (Nat.le_of_ble_eq_true rfl)) ze_S_readProduct_51 ⟨Nat.zero_le _, Nat.zero_le _⟩) hS (fun q _ h => hFc q h) hFc (fun u t H1 locs ht9 hvm hw hB hz1 hk1 hS => ?_)
          obtain ⟨hP1, hD1⟩ := hB
          rw [ht9] at hP1
          obtain ⟨hP, hD⟩ := va_join (wr := []) (w1 := (zd_S cC cI cJ h_S h_S_characters h_S_names h_S_code h_S_ends h_S_firstUses S_characters S_length S_at_4 S_names S_count S_code_6 S_codeLength_6 S_ends S_firstUses_4)) hP hD [0, 1, 2, 3, 4, 5] [] rfl rfl (by decide) (by decide) hk1 hFc hP1 hD1
          generalize H1 = H at hP hS ⊢
          replace hP := hP.sub (ws' := (zd_S cC cI cJ h_S h_S_characters h_S_names h_S_code h_S_ends h_S_firstUses S_characters S_length S_at_4 S_names S_count S_code_6 S_codeLength_6 S_ends S_firstUses_4)) [0, 1, 2, 3, 4, 5] rfl
          replace hD := hD.sub (ws' := (zd_S cC cI cJ h_S h_S_characters h_S_names h_S_code h_S_ends h_S_firstUses S_characters S_length S_at_4 S_names S_count S_code_6 S_codeLength_6 S_ends S_firstUses_4)) [0, 1, 2, 3, 4, 5] (by decide) rfl
          refine lv_iinc (v := (x2 + (1 : Int32))) (lv' := [(2, .int (x2 + (1 : Int32))), (0, .ref h_S), (1, .int x1)]) hx hb ze_S_readProduct_54 hl (k := 2) rfl rfl (by decide) rfl (fun ls hl => ?_)
          refine lv_goto (tgt := 12) hx hb ze_S_readProduct_57 (by decide) ?_
          exact ih x1 (x2 + (1 : Int32)) S_characters S_length S_at_4 S_code_6 S_codeLength_6 S_firstUses_4 _ _ _ hP hD hS (lv_sub hl [1, 2, 0] rfl) h
        · replace h := z_it_t c5 h
          refine lv_iconst (v := (0 : Int32)) hx hb ze_S_readProduct_46 (by decide) ?_
          obtain ⟨hn, h⟩ := z_gb_some h
          cases h
          exact W.zret hx hb hr hn (fun t ht9 hW => ⟨⟨_, (), rfl, rfl, by rw [ht9]; exact hP, hD⟩, hS.F ht9⟩) hS.2.2 ze_S_readProduct_47
set_option maxHeartbeats 4000000 in
set_option maxRecDepth 100000 in
theorem zc_S_readProduct (l : Launch) {dd : Nat} {rf : Int32 → (Nat → Int32) → Int32 → Int32 → (Nat → Int32) → Int32 → (Nat → Int32) → Option (Int32 × Int32 × (Nat → Int32) × Int32 × (Nat → Int32))} (hrf : zC_S_readFactor l (rm_S_readFactor dd) rf) (dC : Nat → ClassId) (dI : Nat → Nat → Nat) (cC : ClassId) (cI : ClassId) (cJ : ClassId) (tp : Nat) (h_S : Nat) (h_S_characters : Nat) (h_S_names : Nat) (h_S_code : Nat) (h_S_ends : Nat) (h_S_firstUses : Nat) (sz : Nat) (S_characters : Nat → Int32) (S_length : Int32) (S_at : Int32) (S_names : Nat → Int32) (S_count : Int32) (S_code : Nat → Int32) (S_codeLength : Int32) (S_ends : Nat → Int32) (S_firstUses : Nat → Int32) (x1 : Int32) (o_r : Int32) (o_S_at : Int32) (o_S_code : Nat → Int32) (o_S_codeLength : Int32) (o_S_firstUses : Nat → Int32) (h : zf_S_readProduct rf x1 S_characters S_length S_at S_code S_codeLength S_firstUses = some (o_r, o_S_at, o_S_code, o_S_codeLength, o_S_firstUses)) : Met l zy_S_readProduct zs_S_readProduct (rm_S_readProduct dd) (va_Pc [.ref h_S, .int x1] (fun U => U.heap.size = sz ∧ va_P (dC, dI) vwCl (zd_S cC cI cJ h_S h_S_characters h_S_names h_S_code h_S_ends h_S_firstUses S_characters S_length S_at S_names S_count S_code S_codeLength S_ends S_firstUses) U.heap ∧ va_K (dC, dI) vwCl (z_tys cC cI cJ) U ∧ va_D (fun _ => True) (zd_S cC cI cJ h_S h_S_characters h_S_names h_S_code h_S_ends h_S_firstUses S_characters S_length S_at S_names S_count S_code S_codeLength S_ends S_firstUses) ∧ z_X tp (va_A (zd_S cC cI cJ h_S h_S_characters h_S_names h_S_code h_S_ends h_S_firstUses S_characters S_length S_at S_names S_count S_code S_codeLength S_ends S_firstUses) sz) U)) (zq_S_readProduct dC dI cC cI cJ h_S h_S_characters h_S_names h_S_code h_S_ends h_S_firstUses S_characters S_length S_names S_count S_ends o_r o_S_at o_S_code o_S_codeLength o_S_firstUses (va_A (zd_S cC cI cJ h_S h_S_characters h_S_names h_S_code h_S_ends h_S_firstUses S_characters S_length S_at S_names S_count S_code S_codeLength S_ends S_firstUses) sz)) 0 0 (va_A (zd_S cC cI cJ h_S h_S_characters h_S_names h_S_code h_S_ends h_S_firstUses S_characters S_length S_at S_names S_count S_code S_codeLength S_ends S_firstUses) sz) := by
  refine Met.ofW (cc := zb_S_readProduct) (maxL := 3) (ret := (some .boolean)) (by decide) rfl ?_
  intro p e s m args below meth c s₁ B hml hv
  obtain ⟨rfl, hsz, hP, hK, hD0, hX⟩ := hv
  have hx := B.exec
  have hb := B.bytes
  have hr := B.returns
  have hts := atoms_spec (ws := zs_S_readProduct) B.pre
  have ht : ∀ w ∈ z_W, w.before _ s = true := fun w h => hts w (List.mem_cons_of_mem _ h)
  have hown : s.vm.findClass "RuleNetwork$Script" = some m.cls := findClass_of_methodNamed B.named
  have hlocks := B.notSynchronized
  have C0 : z_kx p s m _ meth c "RuleNetwork$Script" zb_S_readProduct 3 (some .boolean) := ⟨hx, hb, hr, hml, hown, ht, hlocks⟩
  subst hsz
  have hD := hD0.self (sz := s.heap.size)
  generalize hAe : va_A (zd_S cC cI cJ h_S h_S_characters h_S_names h_S_code h_S_ends h_S_firstUses S_characters S_length S_at S_names S_count S_code S_codeLength S_ends S_firstUses) s.heap.size = A at hD hX ⊢
  have hA : ∀ q : Nat, s.heap.size ≤ q → A q := fun q h => by rw [← hAe]; exact Or.inr h
  have hS : va_S A s.heap s.heap [] := va_S.rf
  have hl := lv_entry ([.ref h_S, .int x1]) (n := 3) (Nat.le_of_ble_eq_true rfl)
  rw [lg_entry_eq]
  generalize (lg_sl ([.ref h_S, .int x1]) ++ List.replicate (3 - (lg_sl ([.ref h_S, .int x1])).length) Slot.unset).toArray = ls at hl ⊢
  have hl : lv_has ls 3 [(0, .ref h_S), (1, .int x1)] := hl
  rw [zf_S_readProduct] at h
  refine lv_aload_n hx hb ze_S_readProduct_0 rfl (lv_at hl 0 rfl) ?_
  refine lv_iload_n hx hb ze_S_readProduct_1 rfl (lv_at hl 1 rfl) ?_
  obtain ⟨r1, S_at_1, S_code_1, S_codeLength_1, S_firstUses_1, q1, h⟩ := z_b5_some h
  have hPc := hP.sub (ws' := (zd_S cC cI cJ h_S h_S_characters h_S_names h_S_code h_S_ends h_S_firstUses S_characters S_length S_at S_names S_count S_code S_codeLength S_ends S_firstUses)) [0, 1, 2, 3, 4, 5] rfl
  have hDc := hD.sub (ws' := (zd_S cC cI cJ h_S h_S_characters h_S_names h_S_code h_S_ends h_S_firstUses S_characters S_length S_at S_names S_count S_code S_codeLength S_ends S_firstUses)) [0, 1, 2, 3, 4, 5] (by decide) rfl
  have hFc := va_free (wc := (zd_S cC cI cJ h_S h_S_characters h_S_names h_S_code h_S_ends h_S_firstUses S_characters S_length S_at S_names S_count S_code S_codeLength S_ends S_firstUses)) hD hS hA [0, 1, 2, 3, 4, 5] rfl
  -- CALL S_readFactor
  refine va_calli (va_runV (As := [.int x1]) (rest := []) ⟨hx, hb, hml, hown, ht⟩ (hrf dC dI cC cI cJ tp h_S h_S_characters h_S_names h_S_code h_S_ends h_S_firstUses s.heap.size S_characters S_length S_at S_names S_count S_code S_codeLength S_ends S_firstUses x1 r1 S_at_1 S_code_1 S_codeLength_1 S_firstUses_1 q1) (cwV 1 ht (z_gV zw_306 zw_308 zw_6 zw_56 zw_309) rfl rfl rfl ⟨rfl, zh_S_readFactor⟩ ⟨by dsimp only [headSpec, rm_S_readProduct, rm_S_readFactor]; omega, by dsimp only [headSpec, rm_S_readProduct, rm_S_readFactor]; omega⟩) ⟨fun a U g mk q => by obtain ⟨z0, z1, zP, zK, zD, zX⟩ := q; exact ⟨z0, z1, zP, va_K.moved (u := U) (U := U.calling g mk a) (Vm.Alike.refl U.vm) zK, zD, z_X.same rfl rfl zX⟩, va_recv hK hP (ci := 0) (q0 := 0) rfl rfl, fun U hU hW => ⟨rfl, by rw [hU], by rw [hU]; exact hPc, va_K.moved hW.alike hK, hDc.weaken (fun _ _ _ _ => trivial), hX.warm hS hFc hU hW⟩⟩ rfl rfl hl.1 rfl (lv_room (Nat.le_of_ble_eq_true rfl)) ze_S_readProduct_2 ⟨Nat.zero_le _, Nat.zero_le _⟩) hS (fun q _ h => hFc q h) hFc (fun rv u t H1 locs ht9 hvm hw hB hz1 hk1 hS => ?_)
  obtain ⟨hP1, hD1⟩ := hB
  rw [ht9] at hP1
  have hw' : r1 = rv := Eq.symm hw
  subst hw'
  obtain ⟨hP, hD⟩ := va_join (wr := []) (w1 := (zd_S cC cI cJ h_S h_S_characters h_S_names h_S_code h_S_ends h_S_firstUses S_characters S_length S_at_1 S_names S_count S_code_1 S_codeLength_1 S_ends S_firstUses_1)) hP hD [0, 1, 2, 3, 4, 5] [] rfl rfl (by decide) (by decide) hk1 hFc hP1 hD1
  generalize H1 = H at hP hS ⊢
  replace hP := hP.sub (ws' := (zd_S cC cI cJ h_S h_S_characters h_S_names h_S_code h_S_ends h_S_firstUses S_characters S_length S_at_1 S_names S_count S_code_1 S_codeLength_1 S_ends S_firstUses_1)) [0, 1, 2, 3, 4, 5] rfl
  replace hD := hD.sub (ws' := (zd_S cC cI cJ h_S h_S_characters h_S_names h_S_code h_S_ends h_S_firstUses S_characters S_length S_at_1 S_names S_count S_code_1 S_codeLength_1 S_ends S_firstUses_1)) [0, 1, 2, 3, 4, 5] (by decide) rfl
  refine lv_if_ne (tgt := 10) hx hb ze_S_readProduct_5 (by decide) (fun c2 => ?_) (fun c2 => ?_)
  · replace h := z_it_f c2 h
    refine lv_iconst (v := (0 : Int32)) hx hb ze_S_readProduct_10 (by decide) ?_
    refine lv_istore_n (lv' := [(2, .int (0 : Int32)), (0, .ref h_S), (1, .int x1)]) hx hb ze_S_readProduct_11 rfl hl (by decide) rfl (fun ls hl => ?_)
    exact zk_S_readProduct_12 C0 hK hA hX hrf z_FU x1 (0 : Int32) S_characters S_length S_at_1 S_code_1 S_codeLength_1 S_firstUses_1 _ _ _ hP hD hS (lv_sub hl [1, 2, 0] rfl) h
  · replace h := z_it_t c2 h
    refine lv_iconst (v := (0 : Int32)) hx hb ze_S_readProduct_8 (by decide) ?_
    obtain ⟨hn, h⟩ := z_gb_some h
    cases h
    exact W.zret hx hb hr hn (fun t ht9 hW => ⟨⟨_, (), rfl, rfl, by rw [ht9]; exact hP, hD⟩, hS.F ht9⟩) hS.2.2 ze_S_readProduct_9
set_option maxHeartbeats 4000000 in
set_option maxRecDepth 100000 in
theorem zk_S_readSum_12 {p : Program} {l : Launch} {e : Env} {s : State} {m : MethodId} {args : Array Value} {below : List Frame} {meth : Method} {c : Code} {dC : Nat → ClassId} {dI : Nat → Nat → Nat} {cC cI cJ : ClassId} {A : Nat → Prop} {tp : Nat} {h_S h_S_characters h_S_names h_S_code h_S_ends h_S_firstUses : Nat} {S_names : Nat → Int32} {S_count : Int32} {S_ends : Nat → Int32} {o_r : Int32} {o_S_at : Int32} {o_S_code : Nat → Int32} {o_S_codeLength : Int32} {o_S_firstUses : Nat → Int32} (C0 : z_kx p s m args meth c "RuleNetwork$Script" zb_S_readSum 3 (some .boolean)) (hK : va_K (dC, dI) vwCl (z_tys cC cI cJ) s) (hA : ∀ q : Nat, s.heap.size ≤ q → A q) (hX : z_X tp A s) {dd : Nat} {rf : Int32 → (Nat → Int32) → Int32 → Int32 → (Nat → Int32) → Int32 → (Nat → Int32) → Option (Int32 × Int32 × (Nat → Int32) × Int32 × (Nat → Int32))} (hrf : zC_S_readFactor l (rm_S_readFactor dd) rf) :
    ∀ n : Nat, ∀ (x1 : Int32) (x2 : Int32) (S_characters : Nat → Int32) (S_length : Int32) (S_at : Int32) (S_code : Nat → Int32) (S_codeLength : Int32) (S_firstUses : Nat → Int32) (H : Heap) (locs : List Loc) (ls : Array Slot), va_P (dC, dI) vwCl (zd_S cC cI cJ h_S h_S_characters h_S_names h_S_code h_S_ends h_S_firstUses S_characters S_length S_at S_names S_count S_code S_codeLength S_ends S_firstUses) H → va_D A (zd_S cC cI cJ h_S h_S_characters h_S_names h_S_code h_S_ends h_S_firstUses S_characters S_length S_at S_names S_count S_code S_codeLength S_ends S_firstUses) → va_S A s.heap H locs → lv_has ls 3 [(0, .ref h_S), (1, .int x1), (2, .int x2)] → zf_S_readSum_12 rf n x1 x2 S_characters S_length S_at S_code S_codeLength S_firstUses = some (o_r, o_S_at, o_S_code, o_S_codeLength, o_S_firstUses) → W p l e (headSpec zs_S_readSum (rm_S_readSum dd)).room s m args below meth c H locs 0 0 (MQ below (zq_S_readSum dC dI cC cI cJ h_S h_S_characters h_S_names h_S_code h_S_ends h_S_firstUses S_characters S_length S_names S_count S_ends o_r o_S_at o_S_code o_S_codeLength o_S_firstUses A) args s 0 0 A) (F0 m 12 ls []) := by
  obtain ⟨hx, hb, hr, hml, hown, ht, hlocks⟩ := id C0
  intro n
  induction n with
  | zero =>
    intro x1 x2 S_characters S_length S_at S_code S_codeLength S_firstUses H locs ls hP hD hS hl h
    cases (show none = some _ from h)
  | succ n ih =>
    intro x1 x2 S_characters S_length S_at S_code S_codeLength S_firstUses H locs ls hP hD hS hl h
    rw [zf_S_readSum_12] at h
    refine lv_iload_n hx hb ze_S_readSum_12 rfl (lv_at hl 2 rfl) ?_
    refine lv_sipush (v := (240 : Int32)) hx hb ze_S_readSum_13 (by decide) ?_
    refine lv_icmp_ge (tgt := 60) hx hb ze_S_readSum_16 (by decide) (fun c1 => ?_) (fun c1 => ?_)
    · replace h := z_it_t c1 h
      refine lv_iconst (v := (1 : Int32)) hx hb ze_S_readSum_60 (by decide) ?_
      obtain ⟨hn, h⟩ := z_gb_some h
      cases h
      exact W.zret hx hb hr hn (fun t ht9 hW => ⟨⟨_, (), rfl, rfl, by rw [ht9]; exact hP, hD⟩, hS.F ht9⟩) hS.2.2 ze_S_readSum_61
    · replace h := z_it_f c1 h
      refine lv_aload_n hx hb ze_S_readSum_19 rfl (lv_at hl 0 rfl) ?_
      obtain ⟨r2, S_at_2, q2, h⟩ := z_b2_some h
      have hPc := hP.sub (ws' := (zd_S cC cI cJ h_S h_S_characters h_S_names h_S_code h_S_ends h_S_firstUses S_characters S_length S_at S_names S_count S_code S_codeLength S_ends S_firstUses)) [0, 1, 2, 3, 4, 5] rfl
      have hDc := hD.sub (ws' := (zd_S cC cI cJ h_S h_S_characters h_S_names h_S_code h_S_ends h_S_firstUses S_characters S_length S_at S_names S_count S_code S_codeLength S_ends S_firstUses)) [0, 1, 2, 3, 4, 5] (by decide) rfl
      have hFc := va_free (wc := (zd_S cC cI cJ h_S h_S_characters h_S_names h_S_code h_S_ends h_S_firstUses S_characters S_length S_at S_names S_count S_code S_codeLength S_ends S_firstUses)) hD hS hA [0, 1, 2, 3, 4, 5] rfl
      -- CALL S_ahead
      refine va_calli (va_runV (As := []) (rest := []) ⟨hx, hb, hml, hown, ht⟩ (zc_S_ahead l dC dI cC cI cJ tp h_S h_S_characters h_S_names h_S_code h_S_ends h_S_firstUses H.size S_characters S_length S_at S_names S_count S_code S_codeLength S_ends S_firstUses r2 S_at_2 q2) (cwV 0 ht (z_gV zw_284 zw_286 zw_2 zw_56 zw_287) rfl rfl rfl ⟨rfl, zh_S_ahead⟩ ⟨by dsimp only [headSpec, rm_S_readSum, rm_S_ahead]; omega, by dsimp only [headSpec, rm_S_readSum, rm_S_ahead]; omega⟩) ⟨fun a U g mk q => by obtain ⟨z0, z1, zP, zK, zD, zX⟩ := q; exact ⟨z0, z1, zP, va_K.moved (u := U) (U := U.calling g mk a) (Vm.Alike.refl U.vm) zK, zD, z_X.same rfl rfl zX⟩, va_recv hK hP (ci := 0) (q0 := 0) rfl rfl, fun U hU hW => ⟨rfl, by rw [hU], by rw [hU]; exact hPc, va_K.moved hW.alike hK, hDc.weaken (fun _ _ _ _ => trivial), hX.warm hS hFc hU hW⟩⟩ rfl rfl hl.1 rfl (lv_room (Nat.le_of_ble_eq_true rfl)) ze_S_readSum_20 ⟨Nat.zero_le _, Nat.zero_le _⟩) hS (fun q _ h => hFc q h) hFc (fun rv u t H1 locs ht9 hvm hw hB hz1 hk1 hS => ?_)
      obtain ⟨hP1, hD1⟩ := hB
      rw [ht9] at hP1
      have hw' : r2 = rv := Eq.symm hw
      subst hw'
      obtain ⟨hP, hD⟩ := va_join (wr := []) (w1 := (zd_S cC cI cJ h_S h_S_characters h_S_names h_S_code h_S_ends h_S_firstUses S_characters S_length S_at_2 S_names S_count S_code S_codeLength S_ends S_firstUses)) hP hD [0, 1, 2, 3, 4, 5] [] rfl rfl (by decide) (by decide) hk1 hFc hP1 hD1
      generalize H1 = H at hP hS ⊢
      replace hP := hP.sub (ws' := (zd_S cC cI cJ h_S h_S_characters h_S_names h_S_code h_S_ends h_S_firstUses S_characters S_length S_at_2 S_names S_count S_code S_codeLength S_ends S_firstUses)) [0, 1, 2, 3, 4, 5] rfl
      replace hD := hD.sub (ws' := (zd_S cC cI cJ h_S h_S_characters h_S_names h_S_code h_S_ends h_S_firstUses S_characters S_length S_at_2 S_names S_count S_code S_codeLength S_ends S_firstUses)) [0, 1, 2, 3, 4, 5] (by decide) rfl
      refine lv_bipush (v := (124 : Int32)) hx hb ze_S_readSum_23 (by decide) ?_
      refine lv_icmp_ne (tgt := 60) hx hb ze_S_readSum_25 (by decide) (fun c3 => ?_) (fun c3 => ?_)
      · replace h := z_it_f c3 h
        refine lv_iconst (v := (1 : Int32)) hx hb ze_S_readSum_60 (by decide) ?_
        obtain ⟨hn, h⟩ := z_gb_some h
        cases h
        exact W.zret hx hb hr hn (fun t ht9 hW => ⟨⟨_, (), rfl, rfl, by rw [ht9]; exact hP, hD⟩, hS.F ht9⟩) hS.2.2 ze_S_readSum_61
      · replace h := z_it_t c3 h
        refine lv_aload_n hx hb ze_S_readSum_28 rfl (lv_at hl 0 rfl) ?_
        refine lv_dup hx hb ze_S_readSum_29 rfl ?_
        refine va_get (D := (dC, dI)) (ci := 0) (v := .int S_at_2) (C := "RuleNetwork$Script") (T := zT_S) (N := 9) hx hb ht zin_S hown hK hP 0 rfl rfl 2 (by decide) (ht _ zw_80) (fun _ h9 => h9) rfl ze_S_readSum_30 ?_
        refine lv_iconst (v := (1 : Int32)) hx hb ze_S_readSum_33 (by decide) ?_
        refine lv_iadd hx hb ze_S_readSum_34 ?_
        refine va_put (D := (dC, dI)) (ci := 0) (v := .int (S_at_2 + (1 : Int32))) (ty := .int) (C := "RuleNetwork$Script") (T := zT_S) (N := 9) hx hb ht zin_S zty_S zty_S_ok znm_S hown hK hP hD hS 0 rfl rfl 2 (by decide) (ht _ zw_80) (fun _ h9 => h9) rfl (zty_S_ok 2 (by decide)) rfl rfl (Nat.le_of_ble_eq_true rfl) ze_S_readSum_35 (fun H locs hP hD hS => ?_)
        have hP : va_P (dC, dI) vwCl (zd_S cC cI cJ h_S h_S_characters h_S_names h_S_code h_S_ends h_S_firstUses S_characters S_length (S_at_2 + (1 : Int32)) S_names S_count S_code S_codeLength S_ends S_firstUses) H := hP
        have hD : va_D A (zd_S cC cI cJ h_S h_S_characters h_S_names h_S_code h_S_ends h_S_firstUses S_characters S_length (S_at_2 + (1 : Int32)) S_names S_count S_code S_codeLength S_ends S_firstUses) := hD
        refine lv_aload_n hx hb ze_S_readSum_38 rfl (lv_at hl 0 rfl) ?_
        refine lv_iload_n hx hb ze_S_readSum_39 rfl (lv_at hl 1 rfl) ?_
        obtain ⟨r4, S_at_4, S_code_4, S_codeLength_4, S_firstUses_4, q4, h⟩ := z_b5_some h
        have hPc := hP.sub (ws' := (zd_S cC cI cJ h_S h_S_characters h_S_names h_S_code h_S_ends h_S_firstUses S_characters S_length (S_at_2 + (1 : Int32)) S_names S_count S_code S_codeLength S_ends S_firstUses)) [0, 1, 2, 3, 4, 5] rfl
        have hDc := hD.sub (ws' := (zd_S cC cI cJ h_S h_S_characters h_S_names h_S_code h_S_ends h_S_firstUses S_characters S_length (S_at_2 + (1 : Int32)) S_names S_count S_code S_codeLength S_ends S_firstUses)) [0, 1, 2, 3, 4, 5] (by decide) rfl
        have hFc := va_free (wc := (zd_S cC cI cJ h_S h_S_characters h_S_names h_S_code h_S_ends h_S_firstUses S_characters S_length (S_at_2 + (1 : Int32)) S_names S_count S_code S_codeLength S_ends S_firstUses)) hD hS hA [0, 1, 2, 3, 4, 5] rfl
        -- CALL S_readProduct
        refine va_calli (va_runV (As := [.int x1]) (rest := []) ⟨hx, hb, hml, hown, ht⟩ (zc_S_readProduct l hrf dC dI cC cI cJ tp h_S h_S_characters h_S_names h_S_code h_S_ends h_S_firstUses H.size S_characters S_length (S_at_2 + (1 : Int32)) S_names S_count S_code S_codeLength S_ends S_firstUses x1 r4 S_at_4 S_code_4 S_codeLength_4 S_firstUses_4 q4) (cwV 1 ht (z_gV zw_302 zw_304 zw_5 zw_56 zw_305) rfl rfl rfl ⟨rfl, zh_S_readProduct⟩ ⟨by dsimp only [headSpec, rm_S_readSum, rm_S_readProduct]; omega, by dsimp only [headSpec, rm_S_readSum, rm_S_readProduct]; omega⟩) ⟨fun a U g mk q => by obtain ⟨z0, z1, zP, zK, zD, zX⟩ := q; exact ⟨z0, z1, zP, va_K.moved (u := U) (U := U.calling g mk a) (Vm.Alike.refl U.vm) zK, zD, z_X.same rfl rfl zX⟩, va_recv hK hP (ci := 0) (q0 := 0) rfl rfl, fun U hU hW => ⟨rfl, by rw [hU], by rw [hU]; exact hPc, va_K.moved hW.alike hK, hDc.weaken (fun _ _ _ _ => trivial), hX.warm hS hFc hU hW⟩⟩ rfl rfl hl.1 rfl (lv_room (Nat.le_of_ble_eq_true rfl)) ze_S_readSum_40 ⟨Nat.zero_le _, Nat.zero_le _⟩) hS (fun q _ h => hFc q h) hFc (fun rv u t H1 locs ht9 hvm hw hB hz1 hk1 hS => ?_)
        obtain ⟨hP1, hD1⟩ := hB
        rw [ht9] at hP1
        have hw' : r4 = rv := Eq.symm hw
        subst hw'
        obtain ⟨hP, hD⟩ := va_join (wr := []) (w1 := (zd_S cC cI cJ h_S h_S_characters h_S_names h_S_code h_S_ends h_S_firstUses S_characters S_length S_at_4 S_names S_count S_code_4 S_codeLength_4 S_ends S_firstUses_4)) hP hD [0, 1, 2, 3, 4, 5] [] rfl rfl (by decide) (by decide) hk1 hFc hP1 hD1
        generalize H1 = H at hP hS ⊢
        replace hP := hP.sub (ws' := (zd_S cC cI cJ h_S h_S_characters h_S_names h_S_code h_S_ends h_S_firstUses S_characters S_length S_at_4 S_names S_count S_code_4 S_codeLength_4 S_ends S_firstUses_4)) [0, 1, 2, 3, 4, 5] rfl
        replace hD := hD.sub (ws' := (zd_S cC cI cJ h_S h_S_characters h_S_names h_S_code h_S_ends h_S_firstUses S_characters S_length S_at_4 S_names S_count S_code_4 S_codeLength_4 S_ends S_firstUses_4)) [0, 1, 2, 3, 4, 5] (by decide) rfl
        refine lv_if_ne (tgt := 48) hx hb ze_S_readSum_43 (by decide) (fun c5 => ?_) (fun c5 => ?_)
        · replace h := z_it_f c5 h
          refine lv_aload_n hx hb ze_S_readSum_48 rfl (lv_at hl 0 rfl) ?_
          refine lv_bipush (v := (124 : Int32)) hx hb ze_S_readSum_49 (by decide) ?_
          obtain ⟨S_code_6, S_codeLength_6, q6, h⟩ := z_b2_some h
          have hPc := hP.sub (ws' := (zd_S cC cI cJ h_S h_S_characters h_S_names h_S_code h_S_ends h_S_firstUses S_characters S_length S_at_4 S_names S_count S_code_4 S_codeLength_4 S_ends S_firstUses_4)) [0, 1, 2, 3, 4, 5] rfl
          have hDc := hD.sub (ws' := (zd_S cC cI cJ h_S h_S_characters h_S_names h_S_code h_S_ends h_S_firstUses S_characters S_length S_at_4 S_names S_count S_code_4 S_codeLength_4 S_ends S_firstUses_4)) [0, 1, 2, 3, 4, 5] (by decide) rfl
          have hFc := va_free (wc := (zd_S cC cI cJ h_S h_S_characters h_S_names h_S_code h_S_ends h_S_firstUses S_characters S_length S_at_4 S_names S_count S_code_4 S_codeLength_4 S_ends S_firstUses_4)) hD hS hA [0, 1, 2, 3, 4, 5] rfl
          -- CALL S_emit
          refine va_callv (va_runV (As := [.int (124 : Int32)]) (rest := []) ⟨hx, hb, hml, hown, ht⟩ (zc_S_emit l dC dI cC cI cJ tp h_S h_S_characters h_S_names h_S_code h_S_ends h_S_firstUses H.size S_characters S_length S_at_4 S_names S_count S_code_4 S_codeLength_4 S_ends S_firstUses_4 (124 : Int32) S_code_6 S_codeLength_6 q6) (cwV 1 ht (z_gV zw_314 zw_316 zw_8 zw_56 zw_317) rfl rfl rfl ⟨rfl, zh_S_emit⟩ ⟨by dsimp only [headSpec, rm_S_readSum, rm_S_emit]; omega, by dsimp only [headSpec, rm_S_readSum, rm_S_emit]; omega⟩) ⟨fun a U g mk q => by obtain ⟨z0, z1, zP, zK, zD, zX⟩ := q; exact ⟨z0, z1, zP, va_K.moved (u := U) (U := U.calling g mk a) (Vm.Alike.refl U.vm) zK, zD, z_X.same rfl rfl zX⟩, va_recv hK hP (ci := 0) (q0 := 0) rfl rfl, fun U hU hW => ⟨rfl, by rw [hU], by rw [hU]; exact hPc, va_K.moved hW.alike hK, hDc.weaken (fun _ _ _ _ => trivial), hX.warm hS hFc hU hW⟩⟩ rfl rfl hl.1 rfl (lv_room (Nat.le_of_ble_eq_true rfl)) ze_S_readSum_51 ⟨Nat.zero_le _, Nat.zero_le _⟩) hS (fun q _ h => hFc q h) hFc (fun u t H1 locs ht9 hvm hw hB hz1 hk1 hS => ?_)
          obtain ⟨hP1, hD1⟩ := hB
          rw [ht9] at hP1
          obtain ⟨hP, hD⟩ := va_join (wr := []) (w1 := (zd_S cC cI cJ h_S h_S_characters h_S_names h_S_code h_S_ends h_S_firstUses S_characters S_length S_at_4 S_names S_count S_code_6 S_codeLength_6 S_ends S_firstUses_4)) hP hD [0, 1, 2, 3, 4, 5] [] rfl rfl (by decide) (by decide) hk1 hFc hP1 hD1
          generalize H1 = H at hP hS ⊢
          replace hP := hP.sub (ws' := (zd_S cC cI cJ h_S h_S_characters h_S_names h_S_code h_S_ends h_S_firstUses S_characters S_length S_at_4 S_names S_count S_code_6 S_codeLength_6 S_ends S_firstUses_4)) [0, 1, 2, 3, 4, 5] rfl
          replace hD := hD.sub (ws' := (zd_S cC cI cJ h_S h_S_characters h_S_names h_S_code h_S_ends h_S_firstUses S_characters S_length S_at_4 S_names S_count S_code_6 S_codeLength_6 S_ends S_firstUses_4)) [0, 1, 2, 3, 4, 5] (by decide) rfl
          refine lv_iinc (v := (x2 + (1 : Int32))) (lv' := [(2, .int (x2 + (1 : Int32))), (0, .ref h_S), (1, .int x1)]) hx hb ze_S_readSum_54 hl (k := 2) rfl rfl (by decide) rfl (fun ls hl => ?_)
          refine lv_goto (tgt := 12) hx hb ze_S_readSum_57 (by decide) ?_
          exact ih x1 (x2 + (1 : Int32)) S_characters S_length S_at_4 S_code_6 S_codeLength_6 S_firstUses_4 _ _ _ hP hD hS (lv_sub hl [1, 2, 0] rfl) h
        · replace h := z_it_t c5 h
          refine lv_iconst (v := (0 : Int32)) hx hb ze_S_readSum_46 (by decide) ?_
          obtain ⟨hn, h⟩ := z_gb_some h
          cases h
          exact W.zret hx hb hr hn (fun t ht9 hW => ⟨⟨_, (), rfl, rfl, by rw [ht9]; exact hP, hD⟩, hS.F ht9⟩) hS.2.2 ze_S_readSum_47
set_option maxHeartbeats 4000000 in
set_option maxRecDepth 100000 in
theorem zc_S_readSum (l : Launch) {dd : Nat} {rf : Int32 → (Nat → Int32) → Int32 → Int32 → (Nat → Int32) → Int32 → (Nat → Int32) → Option (Int32 × Int32 × (Nat → Int32) × Int32 × (Nat → Int32))} (hrf : zC_S_readFactor l (rm_S_readFactor dd) rf) (dC : Nat → ClassId) (dI : Nat → Nat → Nat) (cC : ClassId) (cI : ClassId) (cJ : ClassId) (tp : Nat) (h_S : Nat) (h_S_characters : Nat) (h_S_names : Nat) (h_S_code : Nat) (h_S_ends : Nat) (h_S_firstUses : Nat) (sz : Nat) (S_characters : Nat → Int32) (S_length : Int32) (S_at : Int32) (S_names : Nat → Int32) (S_count : Int32) (S_code : Nat → Int32) (S_codeLength : Int32) (S_ends : Nat → Int32) (S_firstUses : Nat → Int32) (x1 : Int32) (o_r : Int32) (o_S_at : Int32) (o_S_code : Nat → Int32) (o_S_codeLength : Int32) (o_S_firstUses : Nat → Int32) (h : zf_S_readSum rf x1 S_characters S_length S_at S_code S_codeLength S_firstUses = some (o_r, o_S_at, o_S_code, o_S_codeLength, o_S_firstUses)) : Met l zy_S_readSum zs_S_readSum (rm_S_readSum dd) (va_Pc [.ref h_S, .int x1] (fun U => U.heap.size = sz ∧ va_P (dC, dI) vwCl (zd_S cC cI cJ h_S h_S_characters h_S_names h_S_code h_S_ends h_S_firstUses S_characters S_length S_at S_names S_count S_code S_codeLength S_ends S_firstUses) U.heap ∧ va_K (dC, dI) vwCl (z_tys cC cI cJ) U ∧ va_D (fun _ => True) (zd_S cC cI cJ h_S h_S_characters h_S_names h_S_code h_S_ends h_S_firstUses S_characters S_length S_at S_names S_count S_code S_codeLength S_ends S_firstUses) ∧ z_X tp (va_A (zd_S cC cI cJ h_S h_S_characters h_S_names h_S_code h_S_ends h_S_firstUses S_characters S_length S_at S_names S_count S_code S_codeLength S_ends S_firstUses) sz) U)) (zq_S_readSum dC dI cC cI cJ h_S h_S_characters h_S_names h_S_code h_S_ends h_S_firstUses S_characters S_length S_names S_count S_ends o_r o_S_at o_S_code o_S_codeLength o_S_firstUses (va_A (zd_S cC cI cJ h_S h_S_characters h_S_names h_S_code h_S_ends h_S_firstUses S_characters S_length S_at S_names S_count S_code S_codeLength S_ends S_firstUses) sz)) 0 0 (va_A (zd_S cC cI cJ h_S h_S_characters h_S_names h_S_code h_S_ends h_S_firstUses S_characters S_length S_at S_names S_count S_code S_codeLength S_ends S_firstUses) sz) := by
  refine Met.ofW (cc := zb_S_readSum) (maxL := 3) (ret := (some .boolean)) (by decide) rfl ?_
  intro p e s m args below meth c s₁ B hml hv
  obtain ⟨rfl, hsz, hP, hK, hD0, hX⟩ := hv
  have hx := B.exec
  have hb := B.bytes
  have hr := B.returns
  have hts := atoms_spec (ws := zs_S_readSum) B.pre
  have ht : ∀ w ∈ z_W, w.before _ s = true := fun w h => hts w (List.mem_cons_of_mem _ h)
  have hown : s.vm.findClass "RuleNetwork$Script" = some m.cls := findClass_of_methodNamed B.named
  have hlocks := B.notSynchronized
  have C0 : z_kx p s m _ meth c "RuleNetwork$Script" zb_S_readSum 3 (some .boolean) := ⟨hx, hb, hr, hml, hown, ht, hlocks⟩
  subst hsz
  have hD := hD0.self (sz := s.heap.size)
  generalize hAe : va_A (zd_S cC cI cJ h_S h_S_characters h_S_names h_S_code h_S_ends h_S_firstUses S_characters S_length S_at S_names S_count S_code S_codeLength S_ends S_firstUses) s.heap.size = A at hD hX ⊢
  have hA : ∀ q : Nat, s.heap.size ≤ q → A q := fun q h => by rw [← hAe]; exact Or.inr h
  have hS : va_S A s.heap s.heap [] := va_S.rf
  have hl := lv_entry ([.ref h_S, .int x1]) (n := 3) (Nat.le_of_ble_eq_true rfl)
  rw [lg_entry_eq]
  generalize (lg_sl ([.ref h_S, .int x1]) ++ List.replicate (3 - (lg_sl ([.ref h_S, .int x1])).length) Slot.unset).toArray = ls at hl ⊢
  have hl : lv_has ls 3 [(0, .ref h_S), (1, .int x1)] := hl
  rw [zf_S_readSum] at h
  refine lv_aload_n hx hb ze_S_readSum_0 rfl (lv_at hl 0 rfl) ?_
  refine lv_iload_n hx hb ze_S_readSum_1 rfl (lv_at hl 1 rfl) ?_
  obtain ⟨r1, S_at_1, S_code_1, S_codeLength_1, S_firstUses_1, q1, h⟩ := z_b5_some h
  have hPc := hP.sub (ws' := (zd_S cC cI cJ h_S h_S_characters h_S_names h_S_code h_S_ends h_S_firstUses S_characters S_length S_at S_names S_count S_code S_codeLength S_ends S_firstUses)) [0, 1, 2, 3, 4, 5] rfl
  have hDc := hD.sub (ws' := (zd_S cC cI cJ h_S h_S_characters h_S_names h_S_code h_S_ends h_S_firstUses S_characters S_length S_at S_names S_count S_code S_codeLength S_ends S_firstUses)) [0, 1, 2, 3, 4, 5] (by decide) rfl
  have hFc := va_free (wc := (zd_S cC cI cJ h_S h_S_characters h_S_names h_S_code h_S_ends h_S_firstUses S_characters S_length S_at S_names S_count S_code S_codeLength S_ends S_firstUses)) hD hS hA [0, 1, 2, 3, 4, 5] rfl
  -- CALL S_readProduct
  refine va_calli (va_runV (As := [.int x1]) (rest := []) ⟨hx, hb, hml, hown, ht⟩ (zc_S_readProduct l hrf dC dI cC cI cJ tp h_S h_S_characters h_S_names h_S_code h_S_ends h_S_firstUses s.heap.size S_characters S_length S_at S_names S_count S_code S_codeLength S_ends S_firstUses x1 r1 S_at_1 S_code_1 S_codeLength_1 S_firstUses_1 q1) (cwV 1 ht (z_gV zw_302 zw_304 zw_5 zw_56 zw_305) rfl rfl rfl ⟨rfl, zh_S_readProduct⟩ ⟨by dsimp only [headSpec, rm_S_readSum, rm_S_readProduct]; omega, by dsimp only [headSpec, rm_S_readSum, rm_S_readProduct]; omega⟩) ⟨fun a U g mk q => by obtain ⟨z0, z1, zP, zK, zD, zX⟩ := q; exact ⟨z0, z1, zP, va_K.moved (u := U) (U := U.calling g mk a) (Vm.Alike.refl U.vm) zK, zD, z_X.same rfl rfl zX⟩, va_recv hK hP (ci := 0) (q0 := 0) rfl rfl, fun U hU hW => ⟨rfl, by rw [hU], by rw [hU]; exact hPc, va_K.moved hW.alike hK, hDc.weaken (fun _ _ _ _ => trivial), hX.warm hS hFc hU hW⟩⟩ rfl rfl hl.1 rfl (lv_room (Nat.le_of_ble_eq_true rfl)) ze_S_readSum_2 ⟨Nat.zero_le _, Nat.zero_le _⟩) hS (fun q _ h => hFc q h) hFc (fun rv u t H1 locs ht9 hvm hw hB hz1 hk1 hS => ?_)
  obtain ⟨hP1, hD1⟩ := hB
  rw [ht9] at hP1
  have hw' : r1 = rv := Eq.symm hw
  subst hw'
  obtain ⟨hP, hD⟩ := va_join (wr := []) (w1 := (zd_S cC cI cJ h_S h_S_characters h_S_names h_S_code h_S_ends h_S_firstUses S_characters S_length S_at_1 S_names S_count S_code_1 S_codeLength_1 S_ends S_firstUses_1)) hP hD [0, 1, 2, 3, 4, 5] [] rfl rfl (by decide) (by decide) hk1 hFc hP1 hD1
  generalize H1 = H at hP hS ⊢
  replace hP := hP.sub (ws' := (zd_S cC cI cJ h_S h_S_characters h_S_names h_S_code h_S_ends h_S_firstUses S_characters S_length S_at_1 S_names S_count S_code_1 S_codeLength_1 S_ends S_firstUses_1)) [0, 1, 2, 3, 4, 5] rfl
  replace hD := hD.sub (ws' := (zd_S cC cI cJ h_S h_S_characters h_S_names h_S_code h_S_ends h_S_firstUses S_characters S_length S_at_1 S_names S_count S_code_1 S_codeLength_1 S_ends S_firstUses_1)) [0, 1, 2, 3, 4, 5] (by decide) rfl
  refine lv_if_ne (tgt := 10) hx hb ze_S_readSum_5 (by decide) (fun c2 => ?_) (fun c2 => ?_)
  · replace h := z_it_f c2 h
    refine lv_iconst (v := (0 : Int32)) hx hb ze_S_readSum_10 (by decide) ?_
    refine lv_istore_n (lv' := [(2, .int (0 : Int32)), (0, .ref h_S), (1, .int x1)]) hx hb ze_S_readSum_11 rfl hl (by decide) rfl (fun ls hl => ?_)
    exact zk_S_readSum_12 C0 hK hA hX hrf z_FU x1 (0 : Int32) S_characters S_length S_at_1 S_code_1 S_codeLength_1 S_firstUses_1 _ _ _ hP hD hS (lv_sub hl [1, 2, 0] rfl) h
  · replace h := z_it_t c2 h
    refine lv_iconst (v := (0 : Int32)) hx hb ze_S_readSum_8 (by decide) ?_
    obtain ⟨hn, h⟩ := z_gb_some h
    cases h
    exact W.zret hx hb hr hn (fun t ht9 hW => ⟨⟨_, (), rfl, rfl, by rw [ht9]; exact hP, hD⟩, hS.F ht9⟩) hS.2.2 ze_S_readSum_9
set_option maxHeartbeats 4000000 in
set_option maxRecDepth 100000 in
theorem zk_S_readFactor_23 {p : Program} {l : Launch} {e : Env} {s : State} {m : MethodId} {args : Array Value} {below : List Frame} {meth : Method} {c : Code} {dC : Nat → ClassId} {dI : Nat → Nat → Nat} {cC cI cJ : ClassId} {A : Nat → Prop} {tp : Nat} {h_S h_S_characters h_S_names h_S_code h_S_ends h_S_firstUses : Nat} {S_names : Nat → Int32} {S_count : Int32} {S_ends : Nat → Int32} {o_r : Int32} {o_S_at : Int32} {o_S_code : Nat → Int32} {o_S_codeLength : Int32} {o_S_firstUses : Nat → Int32} (C0 : z_kx p s m args meth c "RuleNetwork$Script" zb_S_readFactor 3 (some .boolean)) (hK : va_K (dC, dI) vwCl (z_tys cC cI cJ) s) (hA : ∀ q : Nat, s.heap.size ≤ q → A q) (hX : z_X tp A s) {dd : Nat} {rf : Int32 → (Nat → Int32) → Int32 → Int32 → (Nat → Int32) → Int32 → (Nat → Int32) → Option (Int32 × Int32 × (Nat → Int32) × Int32 × (Nat → Int32))} (hrf : zC_S_readFactor l (rm_S_readFactor dd) rf) :
    ∀ (x1 : Int32) (x2 : Int32) (S_characters : Nat → Int32) (S_length : Int32) (S_at : Int32) (S_code : Nat → Int32) (S_codeLength : Int32) (S_firstUses : Nat → Int32) (H : Heap) (locs : List Loc) (ls : Array Slot), va_P (dC, dI) vwCl (zd_S cC cI cJ h_S h_S_characters h_S_names h_S_code h_S_ends h_S_firstUses S_characters S_length S_at S_names S_count S_code S_codeLength S_ends S_firstUses) H → va_D A (zd_S cC cI cJ h_S h_S_characters h_S_names h_S_code h_S_ends h_S_firstUses S_characters S_length S_at S_names S_count S_code S_codeLength S_ends S_firstUses) → va_S A s.heap H locs → lv_has ls 3 [(0, .ref h_S), (1, .int x1), (2, .int x2)] → zf_S_readFactor_23 rf x1 x2 S_characters S_length S_at S_code S_codeLength S_firstUses = some (o_r, o_S_at, o_S_code, o_S_codeLength, o_S_firstUses) → W p l e (headSpec zs_S_readFactor (rm_S_readFactor (dd + 1))).room s m args below meth c H locs 0 0 (MQ below (zq_S_readFactor dC dI cC cI cJ h_S h_S_characters h_S_names h_S_code h_S_ends h_S_firstUses S_characters S_length S_names S_count S_ends o_r o_S_at o_S_code o_S_codeLength o_S_firstUses A) args s 0 0 A) (F0 m 23 ls []) := by
  obtain ⟨hx, hb, hr, hml, hown, ht, hlocks⟩ := id C0
  intro x1 x2 S_characters S_length S_at S_code S_codeLength S_firstUses H locs ls hP hD hS hl h
  rw [zf_S_readFactor_23] at h
  refine lv_iload_n hx hb ze_S_readFactor_23 rfl (lv_at hl 1 rfl) ?_
  refine lv_bipush (v := (12 : Int32)) hx hb ze_S_readFactor_24 (by decide) ?_
  refine lv_icmp_lt (tgt := 31) hx hb ze_S_readFactor_26 (by decide) (fun c1 => ?_) (fun c1 => ?_)
  · replace h := z_it_t c1 h
    refine lv_aload_n hx hb ze_S_readFactor_31 rfl (lv_at hl 0 rfl) ?_
    refine lv_dup hx hb ze_S_readFactor_32 rfl ?_
    refine va_get (D := (dC, dI)) (ci := 0) (v := .int S_at) (C := "RuleNetwork$Script") (T := zT_S) (N := 9) hx hb ht zin_S hown hK hP 0 rfl rfl 2 (by decide) (ht _ zw_80) (fun _ h9 => h9) rfl ze_S_readFactor_33 ?_
    refine lv_iconst (v := (1 : Int32)) hx hb ze_S_readFactor_36 (by decide) ?_
    refine lv_iadd hx hb ze_S_readFactor_37 ?_
    refine va_put (D := (dC, dI)) (ci := 0) (v := .int (S_at + (1 : Int32))) (ty := .int) (C := "RuleNetwork$Script") (T := zT_S) (N := 9) hx hb ht zin_S zty_S zty_S_ok znm_S hown hK hP hD hS 0 rfl rfl 2 (by decide) (ht _ zw_80) (fun _ h9 => h9) rfl (zty_S_ok 2 (by decide)) rfl rfl (Nat.le_of_ble_eq_true rfl) ze_S_readFactor_38 (fun H locs hP hD hS => ?_)
    have hP : va_P (dC, dI) vwCl (zd_S cC cI cJ h_S h_S_characters h_S_names h_S_code h_S_ends h_S_firstUses S_characters S_length (S_at + (1 : Int32)) S_names S_count S_code S_codeLength S_ends S_firstUses) H := hP
    have hD : va_D A (zd_S cC cI cJ h_S h_S_characters h_S_names h_S_code h_S_ends h_S_firstUses S_characters S_length (S_at + (1 : Int32)) S_names S_count S_code S_codeLength S_ends S_firstUses) := hD
    refine lv_iload_n hx hb ze_S_readFactor_41 rfl (lv_at hl 2 rfl) ?_
    refine lv_bipush (v := (40 : Int32)) hx hb ze_S_readFactor_42 (by decide) ?_
    refine lv_icmp_ne (tgt := 72) hx hb ze_S_readFactor_44 (by decide) (fun c2 => ?_) (fun c2 => ?_)
    · replace h := z_it_f c2 h
      refine lv_aload_n hx hb ze_S_readFactor_72 rfl (lv_at hl 0 rfl) ?_
      refine lv_iload_n hx hb ze_S_readFactor_73 rfl (lv_at hl 1 rfl) ?_
      refine lv_iconst (v := (1 : Int32)) hx hb ze_S_readFactor_74 (by decide) ?_
      refine lv_iadd hx hb ze_S_readFactor_75 ?_
      obtain ⟨r3, S_at_3, S_code_3, S_codeLength_3, S_firstUses_3, q3, h⟩ := z_b5_some h
      have hPc := hP.sub (ws' := (zd_S cC cI cJ h_S h_S_characters h_S_names h_S_code h_S_ends h_S_firstUses S_characters S_length (S_at + (1 : Int32)) S_names S_count S_code S_codeLength S_ends S_firstUses)) [0, 1, 2, 3, 4, 5] rfl
      have hDc := hD.sub (ws' := (zd_S cC cI cJ h_S h_S_characters h_S_names h_S_code h_S_ends h_S_firstUses S_characters S_length (S_at + (1 : Int32)) S_names S_count S_code S_codeLength S_ends S_firstUses)) [0, 1, 2, 3, 4, 5] (by decide) rfl
      have hFc := va_free (wc := (zd_S cC cI cJ h_S h_S_characters h_S_names h_S_code h_S_ends h_S_firstUses S_characters S_length (S_at + (1 : Int32)) S_names S_count S_code S_codeLength S_ends S_firstUses)) hD hS hA [0, 1, 2, 3, 4, 5] rfl
      -- CALL S_readFactor
      refine va_calli (va_runV (As := [.int (x1 + (1 : Int32))]) (rest := []) ⟨hx, hb, hml, hown, ht⟩ (hrf dC dI cC cI cJ tp h_S h_S_characters h_S_names h_S_code h_S_ends h_S_firstUses H.size S_characters S_length (S_at + (1 : Int32)) S_names S_count S_code S_codeLength S_ends S_firstUses (x1 + (1 : Int32)) r3 S_at_3 S_code_3 S_codeLength_3 S_firstUses_3 q3) (cwV 1 ht (z_gV zw_306 zw_308 zw_6 zw_56 zw_309) rfl rfl rfl ⟨rfl, zh_S_readFactor⟩ ⟨by dsimp only [headSpec, rm_S_readFactor, rm_S_readFactor]; omega, by dsimp only [headSpec, rm_S_readFactor, rm_S_readFactor]; omega⟩) ⟨fun a U g mk q => by obtain ⟨z0, z1, zP, zK, zD, zX⟩ := q; exact ⟨z0, z1, zP, va_K.moved (u := U) (U := U.calling g mk a) (Vm.Alike.refl U.vm) zK, zD, z_X.same rfl rfl zX⟩, va_recv hK hP (ci := 0) (q0 := 0) rfl rfl, fun U hU hW => ⟨rfl, by rw [hU], by rw [hU]; exact hPc, va_K.moved hW.alike hK, hDc.weaken (fun _ _ _ _ => trivial), hX.warm hS hFc hU hW⟩⟩ rfl rfl hl.1 rfl (lv_room (Nat.le_of_ble_eq_true rfl)) ze_S_readFactor_76 ⟨Nat.zero_le _, Nat.zero_le _⟩) hS (fun q _ h => hFc q h) hFc (fun rv u t H1 locs ht9 hvm hw hB hz1 hk1 hS => ?_)
      obtain ⟨hP1, hD1⟩ := hB
      rw [ht9] at hP1
      have hw' : r3 = rv := Eq.symm hw
      subst hw'
      obtain ⟨hP, hD⟩ := va_join (wr := []) (w1 := (zd_S cC cI cJ h_S h_S_characters h_S_names h_S_code h_S_ends h_S_firstUses S_characters S_length S_at_3 S_names S_count S_code_3 S_codeLength_3 S_ends S_firstUses_3)) hP hD [0, 1, 2, 3, 4, 5] [] rfl rfl (by decide) (by decide) hk1 hFc hP1 hD1
      generalize H1 = H at hP hS ⊢
      replace hP := hP.sub (ws' := (zd_S cC cI cJ h_S h_S_characters h_S_names h_S_code h_S_ends h_S_firstUses S_characters S_length S_at_3 S_names S_count S_code_3 S_codeLength_3 S_ends S_firstUses_3)) [0, 1, 2, 3, 4, 5] rfl
      replace hD := hD.sub (ws' := (zd_S cC cI cJ h_S h_S_characters h_S_names h_S_code h_S_ends h_S_firstUses S_characters S_length S_at_3 S_names S_count S_code_3 S_codeLength_3 S_ends S_firstUses_3)) [0, 1, 2, 3, 4, 5] (by decide) rfl
      refine lv_if_ne (tgt := 84) hx hb ze_S_readFactor_79 (by decide) (fun c4 => ?_) (fun c4 => ?_)
      · replace h := z_it_f c4 h
        refine lv_aload_n hx hb ze_S_readFactor_84 rfl (lv_at hl 0 rfl) ?_
        refine lv_bipush (v := (33 : Int32)) hx hb ze_S_readFactor_85 (by decide) ?_
        obtain ⟨S_code_5, S_codeLength_5, q5, h⟩ := z_b2_some h
        have hPc := hP.sub (ws' := (zd_S cC cI cJ h_S h_S_characters h_S_names h_S_code h_S_ends h_S_firstUses S_characters S_length S_at_3 S_names S_count S_code_3 S_codeLength_3 S_ends S_firstUses_3)) [0, 1, 2, 3, 4, 5] rfl
        have hDc := hD.sub (ws' := (zd_S cC cI cJ h_S h_S_characters h_S_names h_S_code h_S_ends h_S_firstUses S_characters S_length S_at_3 S_names S_count S_code_3 S_codeLength_3 S_ends S_firstUses_3)) [0, 1, 2, 3, 4, 5] (by decide) rfl
        have hFc := va_free (wc := (zd_S cC cI cJ h_S h_S_characters h_S_names h_S_code h_S_ends h_S_firstUses S_characters S_length S_at_3 S_names S_count S_code_3 S_codeLength_3 S_ends S_firstUses_3)) hD hS hA [0, 1, 2, 3, 4, 5] rfl
        -- CALL S_emit
        refine va_callv (va_runV (As := [.int (33 : Int32)]) (rest := []) ⟨hx, hb, hml, hown, ht⟩ (zc_S_emit l dC dI cC cI cJ tp h_S h_S_characters h_S_names h_S_code h_S_ends h_S_firstUses H.size S_characters S_length S_at_3 S_names S_count S_code_3 S_codeLength_3 S_ends S_firstUses_3 (33 : Int32) S_code_5 S_codeLength_5 q5) (cwV 1 ht (z_gV zw_314 zw_316 zw_8 zw_56 zw_317) rfl rfl rfl ⟨rfl, zh_S_emit⟩ ⟨by dsimp only [headSpec, rm_S_readFactor, rm_S_emit]; omega, by dsimp only [headSpec, rm_S_readFactor, rm_S_emit]; omega⟩) ⟨fun a U g mk q => by obtain ⟨z0, z1, zP, zK, zD, zX⟩ := q; exact ⟨z0, z1, zP, va_K.moved (u := U) (U := U.calling g mk a) (Vm.Alike.refl U.vm) zK, zD, z_X.same rfl rfl zX⟩, va_recv hK hP (ci := 0) (q0 := 0) rfl rfl, fun U hU hW => ⟨rfl, by rw [hU], by rw [hU]; exact hPc, va_K.moved hW.alike hK, hDc.weaken (fun _ _ _ _ => trivial), hX.warm hS hFc hU hW⟩⟩ rfl rfl hl.1 rfl (lv_room (Nat.le_of_ble_eq_true rfl)) ze_S_readFactor_87 ⟨Nat.zero_le _, Nat.zero_le _⟩) hS (fun q _ h => hFc q h) hFc (fun u t H1 locs ht9 hvm hw hB hz1 hk1 hS => ?_)
        obtain ⟨hP1, hD1⟩ := hB
        rw [ht9] at hP1
        obtain ⟨hP, hD⟩ := va_join (wr := []) (w1 := (zd_S cC cI cJ h_S h_S_characters h_S_names h_S_code h_S_ends h_S_firstUses S_characters S_length S_at_3 S_names S_count S_code_5 S_codeLength_5 S_ends S_firstUses_3)) hP hD [0, 1, 2, 3, 4, 5] [] rfl rfl (by decide) (by decide) hk1 hFc hP1 hD1
        generalize H1 = H at hP hS ⊢
        replace hP := hP.sub (ws' := (zd_S cC cI cJ h_S h_S_characters h_S_names h_S_code h_S_ends h_S_firstUses S_characters S_length S_at_3 S_names S_count S_code_5 S_codeLength_5 S_ends S_firstUses_3)) [0, 1, 2, 3, 4, 5] rfl
        replace hD := hD.sub (ws' := (zd_S cC cI cJ h_S h_S_characters h_S_names h_S_code h_S_ends h_S_firstUses S_characters S_length S_at_3 S_names S_count S_code_5 S_codeLength_5 S_ends S_firstUses_3)) [0, 1, 2, 3, 4, 5] (by decide) rfl
        refine lv_iconst (v := (1 : Int32)) hx hb ze_S_readFactor_90 (by decide) ?_
        obtain ⟨hn, h⟩ := z_gb_some h
        cases h
        exact W.zret hx hb hr hn (fun t ht9 hW => ⟨⟨_, (), rfl, rfl, by rw [ht9]; exact hP, hD⟩, hS.F ht9⟩) hS.2.2 ze_S_readFactor_91
      · replace h := z_it_t c4 h
        refine lv_iconst (v := (0 : Int32)) hx hb ze_S_readFactor_82 (by decide) ?_
        obtain ⟨hn, h⟩ := z_gb_some h
        cases h
        exact W.zret hx hb hr hn (fun t ht9 hW => ⟨⟨_, (), rfl, rfl, by rw [ht9]; exact hP, hD⟩, hS.F ht9⟩) hS.2.2 ze_S_readFactor_83
    · replace h := z_it_t c2 h
      refine lv_aload_n hx hb ze_S_readFactor_47 rfl (lv_at hl 0 rfl) ?_
      refine lv_iload_n hx hb ze_S_readFactor_48 rfl (lv_at hl 1 rfl) ?_
      refine lv_iconst (v := (1 : Int32)) hx hb ze_S_readFactor_49 (by decide) ?_
      refine lv_iadd hx hb ze_S_readFactor_50 ?_
      obtain ⟨r6, S_at_6, S_code_6, S_codeLength_6, S_firstUses_6, q6, h⟩ := z_b5_some h
      have hPc := hP.sub (ws' := (zd_S cC cI cJ h_S h_S_characters h_S_names h_S_code h_S_ends h_S_firstUses S_characters S_length (S_at + (1 : Int32)) S_names S_count S_code S_codeLength S_ends S_firstUses)) [0, 1, 2, 3, 4, 5] rfl
      have hDc := hD.sub (ws' := (zd_S cC cI cJ h_S h_S_characters h_S_names h_S_code h_S_ends h_S_firstUses S_characters S_length (S_at + (1 : Int32)) S_names S_count S_code S_codeLength S_ends S_firstUses)) [0, 1, 2, 3, 4, 5] (by decide) rfl
      have hFc := va_free (wc := (zd_S cC cI cJ h_S h_S_characters h_S_names h_S_code h_S_ends h_S_firstUses S_characters S_length (S_at + (1 : Int32)) S_names S_count S_code S_codeLength S_ends S_firstUses)) hD hS hA [0, 1, 2, 3, 4, 5] rfl
      -- CALL S_readSum
      refine va_calli (va_runV (As := [.int (x1 + (1 : Int32))]) (rest := []) ⟨hx, hb, hml, hown, ht⟩ (zc_S_readSum l hrf dC dI cC cI cJ tp h_S h_S_characters h_S_names h_S_code h_S_ends h_S_firstUses H.size S_characters S_length (S_at + (1 : Int32)) S_names S_count S_code S_codeLength S_ends S_firstUses (x1 + (1 : Int32)) r6 S_at_6 S_code_6 S_codeLength_6 S_firstUses_6 q6) (cwV 1 ht (z_gV zw_298 zw_300 zw_4 zw_56 zw_301) rfl rfl rfl ⟨rfl, zh_S_readSum⟩ ⟨by dsimp only [headSpec, rm_S_readFactor, rm_S_readSum]; omega, by dsimp only [headSpec, rm_S_readFactor, rm_S_readSum]; omega⟩) ⟨fun a U g mk q => by obtain ⟨z0, z1, zP, zK, zD, zX⟩ := q; exact ⟨z0, z1, zP, va_K.moved (u := U) (U := U.calling g mk a) (Vm.Alike.refl U.vm) zK, zD, z_X.same rfl rfl zX⟩, va_recv hK hP (ci := 0) (q0 := 0) rfl rfl, fun U hU hW => ⟨rfl, by rw [hU], by rw [hU]; exact hPc, va_K.moved hW.alike hK, hDc.weaken (fun _ _ _ _ => trivial), hX.warm hS hFc hU hW⟩⟩ rfl rfl hl.1 rfl (lv_room (Nat.le_of_ble_eq_true rfl)) ze_S_readFactor_51 ⟨Nat.zero_le _, Nat.zero_le _⟩) hS (fun q _ h => hFc q h) hFc (fun rv u t H1 locs ht9 hvm hw hB hz1 hk1 hS => ?_)
      obtain ⟨hP1, hD1⟩ := hB
      rw [ht9] at hP1
      have hw' : r6 = rv := Eq.symm hw
      subst hw'
      obtain ⟨hP, hD⟩ := va_join (wr := []) (w1 := (zd_S cC cI cJ h_S h_S_characters h_S_names h_S_code h_S_ends h_S_firstUses S_characters S_length S_at_6 S_names S_count S_code_6 S_codeLength_6 S_ends S_firstUses_6)) hP hD [0, 1, 2, 3, 4, 5] [] rfl rfl (by decide) (by decide) hk1 hFc hP1 hD1
      generalize H1 = H at hP hS ⊢
      replace hP := hP.sub (ws' := (zd_S cC cI cJ h_S h_S_characters h_S_names h_S_code h_S_ends h_S_firstUses S_characters S_length S_at_6 S_names S_count S_code_6 S_codeLength_6 S_ends S_firstUses_6)) [0, 1, 2, 3, 4, 5] rfl
      replace hD := hD.sub (ws' := (zd_S cC cI cJ h_S h_S_characters h_S_names h_S_code h_S_ends h_S_firstUses S_characters S_length S_at_6 S_names S_count S_code_6 S_codeLength_6 S_ends S_firstUses_6)) [0, 1, 2, 3, 4, 5] (by decide) rfl
      refine lv_if_eq (tgt := 70) hx hb ze_S_readFactor_54 (by decide) (fun c7 => ?_) (fun c7 => ?_)
      · replace h := z_it_t c7 h
        refine lv_iconst (v := (0 : Int32)) hx hb ze_S_readFactor_70 (by decide) ?_
        obtain ⟨hn, h⟩ := z_gb_some h
        cases h
        exact W.zret hx hb hr hn (fun t ht9 hW => ⟨⟨_, (), rfl, rfl, by rw [ht9]; exact hP, hD⟩, hS.F ht9⟩) hS.2.2 ze_S_readFactor_71
      · replace h := z_it_f c7 h
        refine lv_aload_n hx hb ze_S_readFactor_57 rfl (lv_at hl 0 rfl) ?_
        refine lv_bipush (v := (41 : Int32)) hx hb ze_S_readFactor_58 (by decide) ?_
        obtain ⟨r8, S_at_8, q8, h⟩ := z_b2_some h
        have hPc := hP.sub (ws' := (zd_S cC cI cJ h_S h_S_characters h_S_names h_S_code h_S_ends h_S_firstUses S_characters S_length S_at_6 S_names S_count S_code_6 S_codeLength_6 S_ends S_firstUses_6)) [0, 1, 2, 3, 4, 5] rfl
        have hDc := hD.sub (ws' := (zd_S cC cI cJ h_S h_S_characters h_S_names h_S_code h_S_ends h_S_firstUses S_characters S_length S_at_6 S_names S_count S_code_6 S_codeLength_6 S_ends S_firstUses_6)) [0, 1, 2, 3, 4, 5] (by decide) rfl
        have hFc := va_free (wc := (zd_S cC cI cJ h_S h_S_characters h_S_names h_S_code h_S_ends h_S_firstUses S_characters S_length S_at_6 S_names S_count S_code_6 S_codeLength_6 S_ends S_firstUses_6)) hD hS hA [0, 1, 2, 3, 4, 5] rfl
        -- CALL S_readMark
        refine va_calli (va_runV (As := [.int (41 : Int32)]) (rest := []) ⟨hx, hb, hml, hown, ht⟩ (zc_S_readMark l dC dI cC cI cJ tp h_S h_S_characters h_S_names h_S_code h_S_ends h_S_firstUses H.size S_characters S_length S_at_6 S_names S_count S_code_6 S_codeLength_6 S_ends S_firstUses_6 (41 : Int32) r8 S_at_8 q8) (cwV 1 ht (z_gV zw_294 zw_296 zw_3 zw_56 zw_297) rfl rfl rfl ⟨rfl, zh_S_readMark⟩ ⟨by dsimp only [headSpec, rm_S_readFactor, rm_S_readMark]; omega, by dsimp only [headSpec, rm_S_readFactor, rm_S_readMark]; omega⟩) ⟨fun a U g mk q => by obtain ⟨z0, z1, zP, zK, zD, zX⟩ := q; exact ⟨z0, z1, zP, va_K.moved (u := U) (U := U.calling g mk a) (Vm.Alike.refl U.vm) zK, zD, z_X.same rfl rfl zX⟩, va_recv hK hP (ci := 0) (q0 := 0) rfl rfl, fun U hU hW => ⟨rfl, by rw [hU], by rw [hU]; exact hPc, va_K.moved hW.alike hK, hDc.weaken (fun _ _ _ _ => trivial), hX.warm hS hFc hU hW⟩⟩ rfl rfl hl.1 rfl (lv_room (Nat.le_of_ble_eq_true rfl)) ze_S_readFactor_60 ⟨Nat.zero_le _, Nat.zero_le _⟩) hS (fun q _ h => hFc q h) hFc (fun rv u t H1 locs ht9 hvm hw hB hz1 hk1 hS => ?_)
        obtain ⟨hP1, hD1⟩ := hB
        rw [ht9] at hP1
        have hw' : r8 = rv := Eq.symm hw
        subst hw'
        obtain ⟨hP, hD⟩ := va_join (wr := []) (w1 := (zd_S cC cI cJ h_S h_S_characters h_S_names h_S_code h_S_ends h_S_firstUses S_characters S_length S_at_8 S_names S_count S_code_6 S_codeLength_6 S_ends S_firstUses_6)) hP hD [0, 1, 2, 3, 4, 5] [] rfl rfl (by decide) (by decide) hk1 hFc hP1 hD1
        generalize H1 = H at hP hS ⊢
        replace hP := hP.sub (ws' := (zd_S cC cI cJ h_S h_S_characters h_S_names h_S_code h_S_ends h_S_firstUses S_characters S_length S_at_8 S_names S_count S_code_6 S_codeLength_6 S_ends S_firstUses_6)) [0, 1, 2, 3, 4, 5] rfl
        replace hD := hD.sub (ws' := (zd_S cC cI cJ h_S h_S_characters h_S_names h_S_code h_S_ends h_S_firstUses S_characters S_length S_at_8 S_names S_count S_code_6 S_codeLength_6 S_ends S_firstUses_6)) [0, 1, 2, 3, 4, 5] (by decide) rfl
        refine lv_if_eq (tgt := 70) hx hb ze_S_readFactor_63 (by decide) (fun c9 => ?_) (fun c9 => ?_)
        · replace h := z_it_t c9 h
          refine lv_iconst (v := (0 : Int32)) hx hb ze_S_readFactor_70 (by decide) ?_
          obtain ⟨hn, h⟩ := z_gb_some h
          cases h
          exact W.zret hx hb hr hn (fun t ht9 hW => ⟨⟨_, (), rfl, rfl, by rw [ht9]; exact hP, hD⟩, hS.F ht9⟩) hS.2.2 ze_S_readFactor_71
        · replace h := z_it_f c9 h
          refine lv_iconst (v := (1 : Int32)) hx hb ze_S_readFactor_66 (by decide) ?_
          refine lv_goto (tgt := 71) hx hb ze_S_readFactor_67 (by decide) ?_
          obtain ⟨hn, h⟩ := z_gb_some h
          cases h
          exact W.zret hx hb hr hn (fun t ht9 hW => ⟨⟨_, (), rfl, rfl, by rw [ht9]; exact hP, hD⟩, hS.F ht9⟩) hS.2.2 ze_S_readFactor_71
  · replace h := z_it_f c1 h
    refine lv_iconst (v := (0 : Int32)) hx hb ze_S_readFactor_29 (by decide) ?_
    obtain ⟨hn, h⟩ := z_gb_some h
    cases h
    exact W.zret hx hb hr hn (fun t ht9 hW => ⟨⟨_, (), rfl, rfl, by rw [ht9]; exact hP, hD⟩, hS.F ht9⟩) hS.2.2 ze_S_readFactor_30
set_option maxHeartbeats 4000000 in
set_option maxRecDepth 100000 in
theorem zc_S_readFactor (l : Launch) : ∀ dd : Nat, zC_S_readFactor l (rm_S_readFactor dd) (zf_S_readFactor dd) := by
  intro dd
  induction dd with
  | zero =>
    intro dC dI cC cI cJ tp h_S h_S_characters h_S_names h_S_code h_S_ends h_S_firstUses sz S_characters S_length S_at S_names S_count S_code S_codeLength S_ends S_firstUses x1 o_r o_S_at o_S_code o_S_codeLength o_S_firstUses h
    cases (show none = some _ from h)
  | succ dd hrf =>
  intro dC dI cC cI cJ tp h_S h_S_characters h_S_names h_S_code h_S_ends h_S_firstUses sz S_characters S_length S_at S_names S_count S_code S_codeLength S_ends S_firstUses x1 o_r o_S_at o_S_code o_S_codeLength o_S_firstUses h
  refine Met.ofW (cc := zb_S_readFactor) (maxL := 3) (ret := (some .boolean)) (by decide) rfl ?_
  intro p e s m args below meth c s₁ B hml hv
  obtain ⟨rfl, hsz, hP, hK, hD0, hX⟩ := hv
  have hx := B.exec
  have hb := B.bytes
  have hr := B.returns
  have hts := atoms_spec (ws := zs_S_readFactor) B.pre
  have ht : ∀ w ∈ z_W, w.before _ s = true := fun w h => hts w (List.mem_cons_of_mem _ h)
  have hown : s.vm.findClass "RuleNetwork$Script" = some m.cls := findClass_of_methodNamed B.named
  have hlocks := B.notSynchronized
  have C0 : z_kx p s m _ meth c "RuleNetwork$Script" zb_S_readFactor 3 (some .boolean) := ⟨hx, hb, hr, hml, hown, ht, hlocks⟩
  subst hsz
  have hD := hD0.self (sz := s.heap.size)
  generalize hAe : va_A (zd_S cC cI cJ h_S h_S_characters h_S_names h_S_code h_S_ends h_S_firstUses S_characters S_length S_at S_names S_count S_code S_codeLength S_ends S_firstUses) s.heap.size = A at hD hX ⊢
  have hA : ∀ q : Nat, s.heap.size ≤ q → A q := fun q h => by rw [← hAe]; exact Or.inr h
  have hS : va_S A s.heap s.heap [] := va_S.rf
  have hl := lv_entry ([.ref h_S, .int x1]) (n := 3) (Nat.le_of_ble_eq_true rfl)
  rw [lg_entry_eq]
  generalize (lg_sl ([.ref h_S, .int x1]) ++ List.replicate (3 - (lg_sl ([.ref h_S, .int x1])).length) Slot.unset).toArray = ls at hl ⊢
  have hl : lv_has ls 3 [(0, .ref h_S), (1, .int x1)] := hl
  rw [zf_S_readFactor, zf_S_readFactor_b] at h
  refine lv_aload_n hx hb ze_S_readFactor_0 rfl (lv_at hl 0 rfl) ?_
  obtain ⟨r1, S_at_1, q1, h⟩ := z_b2_some h
  have hPc := hP.sub (ws' := (zd_S cC cI cJ h_S h_S_characters h_S_names h_S_code h_S_ends h_S_firstUses S_characters S_length S_at S_names S_count S_code S_codeLength S_ends S_firstUses)) [0, 1, 2, 3, 4, 5] rfl
  have hDc := hD.sub (ws' := (zd_S cC cI cJ h_S h_S_characters h_S_names h_S_code h_S_ends h_S_firstUses S_characters S_length S_at S_names S_count S_code S_codeLength S_ends S_firstUses)) [0, 1, 2, 3, 4, 5] (by decide) rfl
  have hFc := va_free (wc := (zd_S cC cI cJ h_S h_S_characters h_S_names h_S_code h_S_ends h_S_firstUses S_characters S_length S_at S_names S_count S_code S_codeLength S_ends S_firstUses)) hD hS hA [0, 1, 2, 3, 4, 5] rfl
  -- CALL S_ahead
  refine va_calli (va_runV (As := []) (rest := []) ⟨hx, hb, hml, hown, ht⟩ (zc_S_ahead l dC dI cC cI cJ tp h_S h_S_characters h_S_names h_S_code h_S_ends h_S_firstUses s.heap.size S_characters S_length S_at S_names S_count S_code S_codeLength S_ends S_firstUses r1 S_at_1 q1) (cwV 0 ht (z_gV zw_284 zw_286 zw_2 zw_56 zw_287) rfl rfl rfl ⟨rfl, zh_S_ahead⟩ ⟨by dsimp only [headSpec, rm_S_readFactor, rm_S_ahead]; omega, by dsimp only [headSpec, rm_S_readFactor, rm_S_ahead]; omega⟩) ⟨fun a U g mk q => by obtain ⟨z0, z1, zP, zK, zD, zX⟩ := q; exact ⟨z0, z1, zP, va_K.moved (u := U) (U := U.calling g mk a) (Vm.Alike.refl U.vm) zK, zD, z_X.same rfl rfl zX⟩, va_recv hK hP (ci := 0) (q0 := 0) rfl rfl, fun U hU hW => ⟨rfl, by rw [hU], by rw [hU]; exact hPc, va_K.moved hW.alike hK, hDc.weaken (fun _ _ _ _ => trivial), hX.warm hS hFc hU hW⟩⟩ rfl rfl hl.1 rfl (lv_room (Nat.le_of_ble_eq_true rfl)) ze_S_readFactor_1 ⟨Nat.zero_le _, Nat.zero_le _⟩) hS (fun q _ h => hFc q h) hFc (fun rv u t H1 locs ht9 hvm hw hB hz1 hk1 hS => ?_)
  obtain ⟨hP1, hD1⟩ := hB
  rw [ht9] at hP1
  have hw' : r1 = rv := Eq.symm hw
  subst hw'
  obtain ⟨hP, hD⟩ := va_join (wr := []) (w1 := (zd_S cC cI cJ h_S h_S_characters h_S_names h_S_code h_S_ends h_S_firstUses S_characters S_length S_at_1 S_names S_count S_code S_codeLength S_ends S_firstUses)) hP hD [0, 1, 2, 3, 4, 5] [] rfl rfl (by decide) (by decide) hk1 hFc hP1 hD1
  generalize H1 = H at hP hS ⊢
  replace hP := hP.sub (ws' := (zd_S cC cI cJ h_S h_S_characters h_S_names h_S_code h_S_ends h_S_firstUses S_characters S_length S_at_1 S_names S_count S_code S_codeLength S_ends S_firstUses)) [0, 1, 2, 3, 4, 5] rfl
  replace hD := hD.sub (ws' := (zd_S cC cI cJ h_S h_S_characters h_S_names h_S_code h_S_ends h_S_firstUses S_characters S_length S_at_1 S_names S_count S_code S_codeLength S_ends S_firstUses)) [0, 1, 2, 3, 4, 5] (by decide) rfl
  refine lv_istore_n (lv' := [(2, .int r1), (0, .ref h_S), (1, .int x1)]) hx hb ze_S_readFactor_4 rfl hl (by decide) rfl (fun ls hl => ?_)
  refine lv_iload_n hx hb ze_S_readFactor_5 rfl (lv_at hl 0 rfl) ?_
  refine lv_bipush (v := (33 : Int32)) hx hb ze_S_readFactor_6 (by decide) ?_
  refine lv_icmp_eq (tgt := 23) hx hb ze_S_readFactor_8 (by decide) (fun c2 => ?_) (fun c2 => ?_)
  · replace h := z_it_t c2 h
    exact zk_S_readFactor_23 C0 hK hA hX hrf x1 r1 S_characters S_length S_at_1 S_code S_codeLength S_firstUses _ _ _ hP hD hS (lv_sub hl [1, 2, 0] rfl) h
  · replace h := z_it_f c2 h
    refine lv_iload_n hx hb ze_S_readFactor_11 rfl (lv_at hl 0 rfl) ?_
    refine lv_bipush (v := (40 : Int32)) hx hb ze_S_readFactor_12 (by decide) ?_
    refine lv_icmp_eq (tgt := 23) hx hb ze_S_readFactor_14 (by decide) (fun c3 => ?_) (fun c3 => ?_)
    · replace h := z_it_t c3 h
      exact zk_S_readFactor_23 C0 hK hA hX hrf x1 r1 S_characters S_length S_at_1 S_code S_codeLength S_firstUses _ _ _ hP hD hS (lv_sub hl [1, 2, 0] rfl) h
    · replace h := z_it_f c3 h
      refine lv_aload_n hx hb ze_S_readFactor_17 rfl (lv_at hl 1 rfl) ?_
      refine lv_iload_n hx hb ze_S_readFactor_18 rfl (lv_at hl 0 rfl) ?_
      obtain ⟨r4, S_at_4, S_code_4, S_codeLength_4, S_firstUses_4, q4, h⟩ := z_b5_some h
      have hPc := hP.sub (ws' := (zd_S cC cI cJ h_S h_S_characters h_S_names h_S_code h_S_ends h_S_firstUses S_characters S_length S_at_1 S_names S_count S_code S_codeLength S_ends S_firstUses)) [0, 1, 2, 3, 4, 5] rfl
      have hDc := hD.sub (ws' := (zd_S cC cI cJ h_S h_S_characters h_S_names h_S_code h_S_ends h_S_firstUses S_characters S_length S_at_1 S_names S_count S_code S_codeLength S_ends S_firstUses)) [0, 1, 2, 3, 4, 5] (by decide) rfl
      have hFc := va_free (wc := (zd_S cC cI cJ h_S h_S_characters h_S_names h_S_code h_S_ends h_S_firstUses S_characters S_length S_at_1 S_names S_count S_code S_codeLength S_ends S_firstUses)) hD hS hA [0, 1, 2, 3, 4, 5] rfl
      -- CALL S_readLeaf
      refine va_calli (va_runV (As := [.int r1]) (rest := []) ⟨hx, hb, hml, hown, ht⟩ (zc_S_readLeaf l dC dI cC cI cJ tp h_S h_S_characters h_S_names h_S_code h_S_ends h_S_firstUses H.size S_characters S_length S_at_1 S_names S_count S_code S_codeLength S_ends S_firstUses r1 r4 S_at_4 S_code_4 S_codeLength_4 S_firstUses_4 q4) (cwV 1 ht (z_gV zw_310 zw_312 zw_7 zw_56 zw_313) rfl rfl rfl ⟨rfl, zh_S_readLeaf⟩ ⟨by dsimp only [headSpec, rm_S_readFactor, rm_S_readLeaf]; omega, by dsimp only [headSpec, rm_S_readFactor, rm_S_readLeaf]; omega⟩) ⟨fun a U g mk q => by obtain ⟨z0, z1, zP, zK, zD, zX⟩ := q; exact ⟨z0, z1, zP, va_K.moved (u := U) (U := U.calling g mk a) (Vm.Alike.refl U.vm) zK, zD, z_X.same rfl rfl zX⟩, va_recv hK hP (ci := 0) (q0 := 0) rfl rfl, fun U hU hW => ⟨rfl, by rw [hU], by rw [hU]; exact hPc, va_K.moved hW.alike hK, hDc.weaken (fun _ _ _ _ => trivial), hX.warm hS hFc hU hW⟩⟩ rfl rfl hl.1 rfl (lv_room (Nat.le_of_ble_eq_true rfl)) ze_S_readFactor_19 ⟨Nat.zero_le _, Nat.zero_le _⟩) hS (fun q _ h => hFc q h) hFc (fun rv u t H1 locs ht9 hvm hw hB hz1 hk1 hS => ?_)
      obtain ⟨hP1, hD1⟩ := hB
      rw [ht9] at hP1
      have hw' : r4 = rv := Eq.symm hw
      subst hw'
      obtain ⟨hP, hD⟩ := va_join (wr := []) (w1 := (zd_S cC cI cJ h_S h_S_characters h_S_names h_S_code h_S_ends h_S_firstUses S_characters S_length S_at_4 S_names S_count S_code_4 S_codeLength_4 S_ends S_firstUses_4)) hP hD [0, 1, 2, 3, 4, 5] [] rfl rfl (by decide) (by decide) hk1 hFc hP1 hD1
      generalize H1 = H at hP hS ⊢
      replace hP := hP.sub (ws' := (zd_S cC cI cJ h_S h_S_characters h_S_names h_S_code h_S_ends h_S_firstUses S_characters S_length S_at_4 S_names S_count S_code_4 S_codeLength_4 S_ends S_firstUses_4)) [0, 1, 2, 3, 4, 5] rfl
      replace hD := hD.sub (ws' := (zd_S cC cI cJ h_S h_S_characters h_S_names h_S_code h_S_ends h_S_firstUses S_characters S_length S_at_4 S_names S_count S_code_4 S_codeLength_4 S_ends S_firstUses_4)) [0, 1, 2, 3, 4, 5] (by decide) rfl
      obtain ⟨hn, h⟩ := z_gb_some h
      cases h
      exact W.zret hx hb hr hn (fun t ht9 hW => ⟨⟨_, (), rfl, rfl, by rw [ht9]; exact hP, hD⟩, hS.F ht9⟩) hS.2.2 ze_S_readFactor_22
set_option maxHeartbeats 4000000 in
set_option maxRecDepth 100000 in
theorem zc_S_readRule (l : Launch) (dC : Nat → ClassId) (dI : Nat → Nat → Nat) (cC : ClassId) (cI : ClassId) (cJ : ClassId) (tp : Nat) (h_S : Nat) (h_S_characters : Nat) (h_S_names : Nat) (h_S_code : Nat) (h_S_ends : Nat) (h_S_firstUses : Nat) (sz : Nat) (S_characters : Nat → Int32) (S_length : Int32) (S_at : Int32) (S_names : Nat → Int32) (S_count : Int32) (S_code : Nat → Int32) (S_codeLength : Int32) (S_ends : Nat → Int32) (S_firstUses : Nat → Int32) (o_r : Int32) (o_S_at : Int32) (o_S_names : Nat → Int32) (o_S_count : Int32) (o_S_code : Nat → Int32) (o_S_codeLength : Int32) (o_S_ends : Nat → Int32) (o_S_firstUses : Nat → Int32) (h : zf_S_readRule S_characters S_length S_at S_names S_count S_code S_codeLength S_ends S_firstUses = some (o_r, o_S_at, o_S_names, o_S_count, o_S_code, o_S_codeLength, o_S_ends, o_S_firstUses)) : Met l zy_S_readRule zs_S_readRule (rm_S_readRule) (va_Pc [.ref h_S] (fun U => U.heap.size = sz ∧ va_P (dC, dI) vwCl (zd_S cC cI cJ h_S h_S_characters h_S_names h_S_code h_S_ends h_S_firstUses S_characters S_length S_at S_names S_count S_code S_codeLength S_ends S_firstUses) U.heap ∧ va_K (dC, dI) vwCl (z_tys cC cI cJ) U ∧ va_D (fun _ => True) (zd_S cC cI cJ h_S h_S_characters h_S_names h_S_code h_S_ends h_S_firstUses S_characters S_length S_at S_names S_count S_code S_codeLength S_ends S_firstUses) ∧ z_X tp (va_A (zd_S cC cI cJ h_S h_S_characters h_S_names h_S_code h_S_ends h_S_firstUses S_characters S_length S_at S_names S_count S_code S_codeLength S_ends S_firstUses) sz) U)) (zq_S_readRule dC dI cC cI cJ h_S h_S_characters h_S_names h_S_code h_S_ends h_S_firstUses S_characters S_length o_r o_S_at o_S_names o_S_count o_S_code o_S_codeLength o_S_ends o_S_firstUses (va_A (zd_S cC cI cJ h_S h_S_characters h_S_names h_S_code h_S_ends h_S_firstUses S_characters S_length S_at S_names S_count S_code S_codeLength S_ends S_firstUses) sz)) 0 0 (va_A (zd_S cC cI cJ h_S h_S_characters h_S_names h_S_code h_S_ends h_S_firstUses S_characters S_length S_at S_names S_count S_code S_codeLength S_ends S_firstUses) sz) := by
  refine Met.ofW (cc := zb_S_readRule) (maxL := 2) (ret := (some .boolean)) (by decide) rfl ?_
  intro p e s m args below meth c s₁ B hml hv
  obtain ⟨rfl, hsz, hP, hK, hD0, hX⟩ := hv
  have hx := B.exec
  have hb := B.bytes
  have hr := B.returns
  have hts := atoms_spec (ws := zs_S_readRule) B.pre
  have ht : ∀ w ∈ z_W, w.before _ s = true := fun w h => hts w (List.mem_cons_of_mem _ h)
  have hown : s.vm.findClass "RuleNetwork$Script" = some m.cls := findClass_of_methodNamed B.named
  have hlocks := B.notSynchronized
  have C0 : z_kx p s m _ meth c "RuleNetwork$Script" zb_S_readRule 2 (some .boolean) := ⟨hx, hb, hr, hml, hown, ht, hlocks⟩
  subst hsz
  have hD := hD0.self (sz := s.heap.size)
  generalize hAe : va_A (zd_S cC cI cJ h_S h_S_characters h_S_names h_S_code h_S_ends h_S_firstUses S_characters S_length S_at S_names S_count S_code S_codeLength S_ends S_firstUses) s.heap.size = A at hD hX ⊢
  have hA : ∀ q : Nat, s.heap.size ≤ q → A q := fun q h => by rw [← hAe]; exact Or.inr h
  have hS : va_S A s.heap s.heap [] := va_S.rf
  have hl := lv_entry ([.ref h_S]) (n := 2) (Nat.le_of_ble_eq_true rfl)
  rw [lg_entry_eq]
  generalize (lg_sl ([.ref h_S]) ++ List.replicate (2 - (lg_sl ([.ref h_S])).length) Slot.unset).toArray = ls at hl ⊢
  have hl : lv_has ls 2 [(0, .ref h_S)] := hl
  rw [zf_S_readRule] at h
  refine lv_aload_n hx hb ze_S_readRule_0 rfl (lv_at hl 0 rfl) ?_
  obtain ⟨r1, S_at_1, q1, h⟩ := z_b2_some h
  have hPc := hP.sub (ws' := (zd_S cC cI cJ h_S h_S_characters h_S_names h_S_code h_S_ends h_S_firstUses S_characters S_length S_at S_names S_count S_code S_codeLength S_ends S_firstUses)) [0, 1, 2, 3, 4, 5] rfl
  have hDc := hD.sub (ws' := (zd_S cC cI cJ h_S h_S_characters h_S_names h_S_code h_S_ends h_S_firstUses S_characters S_length S_at S_names S_count S_code S_codeLength S_ends S_firstUses)) [0, 1, 2, 3, 4, 5] (by decide) rfl
  have hFc := va_free (wc := (zd_S cC cI cJ h_S h_S_characters h_S_names h_S_code h_S_ends h_S_firstUses S_characters S_length S_at S_names S_count S_code S_codeLength S_ends S_firstUses)) hD hS hA [0, 1, 2, 3, 4, 5] rfl
  -- CALL S_ahead
  refine va_calli (va_runV (As := []) (rest := []) ⟨hx, hb, hml, hown, ht⟩ (zc_S_ahead l dC dI cC cI cJ tp h_S h_S_characters h_S_names h_S_code h_S_ends h_S_firstUses s.heap.size S_characters S_length S_at S_names S_count S_code S_codeLength S_ends S_firstUses r1 S_at_1 q1) (cwV 0 ht (z_gV zw_284 zw_286 zw_2 zw_56 zw_287) rfl rfl rfl ⟨rfl, zh_S_ahead⟩ ⟨Nat.le_of_ble_eq_true rfl, Nat.le_of_ble_eq_true rfl⟩) ⟨fun a U g mk q => by obtain ⟨z0, z1, zP, zK, zD, zX⟩ := q; exact ⟨z0, z1, zP, va_K.moved (u := U) (U := U.calling g mk a) (Vm.Alike.refl U.vm) zK, zD, z_X.same rfl rfl zX⟩, va_recv hK hP (ci := 0) (q0 := 0) rfl rfl, fun U hU hW => ⟨rfl, by rw [hU], by rw [hU]; exact hPc, va_K.moved hW.alike hK, hDc.weaken (fun _ _ _ _ => trivial), hX.warm hS hFc hU hW⟩⟩ rfl rfl hl.1 rfl (lv_room (Nat.le_of_ble_eq_true rfl)) ze_S_readRule_1 ⟨Nat.zero_le _, Nat.zero_le _⟩) hS (fun q _ h => hFc q h) hFc (fun rv u t H1 locs ht9 hvm hw hB hz1 hk1 hS => ?_)
  obtain ⟨hP1, hD1⟩ := hB
  rw [ht9] at hP1
  have hw' : r1 = rv := Eq.symm hw
  subst hw'
  obtain ⟨hP, hD⟩ := va_join (wr := []) (w1 := (zd_S cC cI cJ h_S h_S_characters h_S_names h_S_code h_S_ends h_S_firstUses S_characters S_length S_at_1 S_names S_count S_code S_codeLength S_ends S_firstUses)) hP hD [0, 1, 2, 3, 4, 5] [] rfl rfl (by decide) (by decide) hk1 hFc hP1 hD1
  generalize H1 = H at hP hS ⊢
  replace hP := hP.sub (ws' := (zd_S cC cI cJ h_S h_S_characters h_S_names h_S_code h_S_ends h_S_firstUses S_characters S_length S_at_1 S_names S_count S_code S_codeLength S_ends S_firstUses)) [0, 1, 2, 3, 4, 5] rfl
  replace hD := hD.sub (ws' := (zd_S cC cI cJ h_S h_S_characters h_S_names h_S_code h_S_ends h_S_firstUses S_characters S_length S_at_1 S_names S_count S_code S_codeLength S_ends S_firstUses)) [0, 1, 2, 3, 4, 5] (by decide) rfl
  refine lv_istore_n (lv' := [(1, .int r1), (0, .ref h_S)]) hx hb ze_S_readRule_4 rfl hl (by decide) rfl (fun ls hl => ?_)
  refine lv_iload_n hx hb ze_S_readRule_5 rfl (lv_at hl 0 rfl) ?_
  obtain ⟨r2, q2, h⟩ := z_b1_some h
  have hPc := hP.sub (ws' := (zd_ cC cI cJ)) [] rfl
  have hDc := hD.sub (ws' := (zd_ cC cI cJ)) [] (by decide) rfl
  have hFc := va_free (wc := (zd_ cC cI cJ)) hD hS hA [] rfl
  -- CALL S_isName
  refine va_calli (va_runS (As := [.int r1]) (rest := []) ⟨hx, hb, hml, hown, ht⟩ (zc_S_isName l dC dI cC cI cJ tp H.size r1 r2 q2) (va_cwS 1 ht (z_gS zw_288 zw_289 zw_56 zw_290) rfl rfl rfl zh_S_isName ⟨Nat.le_of_ble_eq_true rfl, Nat.le_of_ble_eq_true rfl⟩) ⟨fun a U g mk q => by obtain ⟨z0, z1, zP, zK, zD, zX⟩ := q; exact ⟨z0, z1, zP, va_K.moved (u := U) (U := U.calling g mk a) (Vm.Alike.refl U.vm) zK, zD, z_X.same rfl rfl zX⟩, fun U hU hW => ⟨rfl, by rw [hU], by rw [hU]; exact hPc, va_K.moved hW.alike hK, hDc.weaken (fun _ _ _ _ => trivial), hX.warm hS hFc hU hW⟩⟩ rfl rfl hl.1 rfl (lv_room (Nat.le_of_ble_eq_true rfl)) ze_S_readRule_6 ⟨Nat.zero_le _, Nat.zero_le _⟩) hS (fun q _ h => hFc q h) hFc (fun rv u t H1 locs ht9 hvm hw hB hz1 hk1 hS => ?_)
  obtain ⟨hP1, hD1⟩ := hB
  rw [ht9] at hP1
  have hw' : r2 = rv := Eq.symm hw
  subst hw'
  obtain ⟨hP, hD⟩ := va_join (wr := [(h_S, .inr (0, [.ref h_S_characters, .int S_length, .int S_at_1, .ref h_S_names, .int S_count, .ref h_S_code, .int S_codeLength, .ref h_S_ends, .ref h_S_firstUses])), (h_S_characters, .inl (cC, 240, .inl S_characters)), (h_S_names, .inl (cC, 7, .inl S_names)), (h_S_code, .inl (cC, 240, .inl S_code)), (h_S_ends, .inl (cI, 7, .inl S_ends)), (h_S_firstUses, .inl (cI, 26, .inl S_firstUses))]) (w1 := (zd_ cC cI cJ)) hP hD [] [0, 1, 2, 3, 4, 5] rfl rfl (by decide) (by decide) hk1 hFc hP1 hD1
  generalize H1 = H at hP hS ⊢
  replace hP := hP.sub (ws' := (zd_S cC cI cJ h_S h_S_characters h_S_names h_S_code h_S_ends h_S_firstUses S_characters S_length S_at_1 S_names S_count S_code S_codeLength S_ends S_firstUses)) [0, 1, 2, 3, 4, 5] rfl
  replace hD := hD.sub (ws' := (zd_S cC cI cJ h_S h_S_characters h_S_names h_S_code h_S_ends h_S_firstUses S_characters S_length S_at_1 S_names S_count S_code S_codeLength S_ends S_firstUses)) [0, 1, 2, 3, 4, 5] (by decide) rfl
  refine lv_if_eq (tgt := 37) hx hb ze_S_readRule_9 (by decide) (fun c3 => ?_) (fun c3 => ?_)
  · replace h := z_it_t c3 h
    refine lv_iconst (v := (0 : Int32)) hx hb ze_S_readRule_37 (by decide) ?_
    obtain ⟨hn, h⟩ := z_gb_some h
    cases h
    exact W.zret hx hb hr hn (fun t ht9 hW => ⟨⟨_, (), rfl, rfl, by rw [ht9]; exact hP, hD⟩, hS.F ht9⟩) hS.2.2 ze_S_readRule_38
  · replace h := z_it_f c3 h
    refine lv_aload_n hx hb ze_S_readRule_12 rfl (lv_at hl 1 rfl) ?_
    refine va_get (D := (dC, dI)) (ci := 0) (v := .int S_count) (C := "RuleNetwork$Script") (T := zT_S) (N := 9) hx hb ht zin_S hown hK hP 0 rfl rfl 4 (by decide) (ht _ zw_84) (fun _ h9 => h9) rfl ze_S_readRule_13 ?_
    refine lv_bipush (v := (7 : Int32)) hx hb ze_S_readRule_16 (by decide) ?_
    refine lv_icmp_ge (tgt := 37) hx hb ze_S_readRule_18 (by decide) (fun c4 => ?_) (fun c4 => ?_)
    · replace h := z_it_t c4 h
      refine lv_iconst (v := (0 : Int32)) hx hb ze_S_readRule_37 (by decide) ?_
      obtain ⟨hn, h⟩ := z_gb_some h
      cases h
      exact W.zret hx hb hr hn (fun t ht9 hW => ⟨⟨_, (), rfl, rfl, by rw [ht9]; exact hP, hD⟩, hS.F ht9⟩) hS.2.2 ze_S_readRule_38
    · replace h := z_it_f c4 h
      refine lv_iload_n hx hb ze_S_readRule_21 rfl (lv_at hl 0 rfl) ?_
      refine lv_aload_n hx hb ze_S_readRule_22 rfl (lv_at hl 1 rfl) ?_
      refine va_get (D := (dC, dI)) (ci := 0) (v := .ref h_S_names) (C := "RuleNetwork$Script") (T := zT_S) (N := 9) hx hb ht zin_S hown hK hP 0 rfl rfl 3 (by decide) (ht _ zw_81) (fun _ h9 => h9) rfl ze_S_readRule_23 ?_
      refine lv_aload_n hx hb ze_S_readRule_26 rfl (lv_at hl 1 rfl) ?_
      refine va_get (D := (dC, dI)) (ci := 0) (v := .int S_count) (C := "RuleNetwork$Script") (T := zT_S) (N := 9) hx hb ht zin_S hown hK hP 0 rfl rfl 4 (by decide) (ht _ zw_84) (fun _ h9 => h9) rfl ze_S_readRule_27 ?_
      obtain ⟨r5, q5, h⟩ := z_b1_some h
      have hPc := hP.sub (ws' := (zd_pC cC cI cJ h_S_names 7 S_names)) [2] rfl
      have hDc := hD.sub (ws' := (zd_pC cC cI cJ h_S_names 7 S_names)) [2] (by decide) rfl
      have hFc := va_free (wc := (zd_pC cC cI cJ h_S_names 7 S_names)) hD hS hA [2] rfl
      -- CALL N_indexOf
      refine va_calli (va_runSN (As := [.int r1, .ref h_S_names, .int S_count]) (rest := []) ⟨hx, hb, hml, hown, ht⟩ (zc_N_indexOf l dC dI cC cI cJ tp h_S_names 7 H.size S_names r1 S_count r5 q5) ⟨va_cnB 3 ht (z_gC zw_293) rfl rfl rfl (show va_Nw (.methodLinkNest "RuleNetwork$Script" 65 zy_N_indexOf "RuleNetwork") s from hX.1 _ (List.mem_of_getElem? (i := 5) rfl)) (ht _ zw_55) zh_N_indexOf ⟨Nat.le_of_ble_eq_true rfl, Nat.le_of_ble_eq_true rfl⟩, ht _ zw_292, trivial⟩ ⟨fun a U g mk q => by obtain ⟨z0, z1, zP, zK, zD, zX⟩ := q; exact ⟨z0, z1, zP, va_K.moved (u := U) (U := U.calling g mk a) (Vm.Alike.refl U.vm) zK, zD, z_X.same rfl rfl zX⟩, fun U hU hW => ⟨rfl, by rw [hU], by rw [hU]; exact hPc, va_K.moved hW.alike hK, hDc.weaken (fun _ _ _ _ => trivial), hX.warm hS hFc hU hW⟩⟩ rfl rfl hl.1 rfl (lv_room (Nat.le_of_ble_eq_true rfl)) ze_S_readRule_30 ⟨Nat.zero_le _, Nat.zero_le _⟩) hS (fun q _ h => hFc q h) hFc (fun rv u t H1 locs ht9 hvm hw hB hz1 hk1 hS => ?_)
      obtain ⟨hP1, hD1⟩ := hB
      rw [ht9] at hP1
      have hw' : r5 = rv := Eq.symm hw
      subst hw'
      obtain ⟨hP, hD⟩ := va_join (wr := [(h_S, .inr (0, [.ref h_S_characters, .int S_length, .int S_at_1, .ref h_S_names, .int S_count, .ref h_S_code, .int S_codeLength, .ref h_S_ends, .ref h_S_firstUses])), (h_S_characters, .inl (cC, 240, .inl S_characters)), (h_S_code, .inl (cC, 240, .inl S_code)), (h_S_ends, .inl (cI, 7, .inl S_ends)), (h_S_firstUses, .inl (cI, 26, .inl S_firstUses))]) (w1 := (zd_pC cC cI cJ h_S_names 7 S_names)) hP hD [2] [0, 1, 3, 4, 5] rfl rfl (by decide) (by decide) hk1 hFc hP1 hD1
      generalize H1 = H at hP hS ⊢
      replace hP := hP.sub (ws' := (zd_S cC cI cJ h_S h_S_characters h_S_names h_S_code h_S_ends h_S_firstUses S_characters S_length S_at_1 S_names S_count S_code S_codeLength S_ends S_firstUses)) [0, 1, 5, 2, 3, 4] rfl
      replace hD := hD.sub (ws' := (zd_S cC cI cJ h_S h_S_characters h_S_names h_S_code h_S_ends h_S_firstUses S_characters S_length S_at_1 S_names S_count S_code S_codeLength S_ends S_firstUses)) [0, 1, 5, 2, 3, 4] (by decide) rfl
      refine lv_iconst (v := (-1 : Int32)) hx hb ze_S_readRule_33 (by decide) ?_
      refine lv_icmp_eq (tgt := 39) hx hb ze_S_readRule_34 (by decide) (fun c6 => ?_) (fun c6 => ?_)
      · replace h := z_it_t c6 h
        refine lv_aload_n hx hb ze_S_readRule_39 rfl (lv_at hl 1 rfl) ?_
        refine lv_dup hx hb ze_S_readRule_40 rfl ?_
        refine va_get (D := (dC, dI)) (ci := 0) (v := .int S_at_1) (C := "RuleNetwork$Script") (T := zT_S) (N := 9) hx hb ht zin_S hown hK hP 0 rfl rfl 2 (by decide) (ht _ zw_80) (fun _ h9 => h9) rfl ze_S_readRule_41 ?_
        refine lv_iconst (v := (1 : Int32)) hx hb ze_S_readRule_44 (by decide) ?_
        refine lv_iadd hx hb ze_S_readRule_45 ?_
        refine va_put (D := (dC, dI)) (ci := 0) (v := .int (S_at_1 + (1 : Int32))) (ty := .int) (C := "RuleNetwork$Script") (T := zT_S) (N := 9) hx hb ht zin_S zty_S zty_S_ok znm_S hown hK hP hD hS 0 rfl rfl 2 (by decide) (ht _ zw_80) (fun _ h9 => h9) rfl (zty_S_ok 2 (by decide)) rfl rfl (Nat.le_of_ble_eq_true rfl) ze_S_readRule_46 (fun H locs hP hD hS => ?_)
        have hP : va_P (dC, dI) vwCl (zd_S cC cI cJ h_S h_S_characters h_S_names h_S_code h_S_ends h_S_firstUses S_characters S_length (S_at_1 + (1 : Int32)) S_names S_count S_code S_codeLength S_ends S_firstUses) H := hP
        have hD : va_D A (zd_S cC cI cJ h_S h_S_characters h_S_names h_S_code h_S_ends h_S_firstUses S_characters S_length (S_at_1 + (1 : Int32)) S_names S_count S_code S_codeLength S_ends S_firstUses) := hD
        refine lv_aload_n hx hb ze_S_readRule_49 rfl (lv_at hl 1 rfl) ?_
        refine lv_bipush (v := (44 : Int32)) hx hb ze_S_readRule_50 (by decide) ?_
        obtain ⟨r7, S_at_7, q7, h⟩ := z_b2_some h
        have hPc := hP.sub (ws' := (zd_S cC cI cJ h_S h_S_characters h_S_names h_S_code h_S_ends h_S_firstUses S_characters S_length (S_at_1 + (1 : Int32)) S_names S_count S_code S_codeLength S_ends S_firstUses)) [0, 1, 2, 3, 4, 5] rfl
        have hDc := hD.sub (ws' := (zd_S cC cI cJ h_S h_S_characters h_S_names h_S_code h_S_ends h_S_firstUses S_characters S_length (S_at_1 + (1 : Int32)) S_names S_count S_code S_codeLength S_ends S_firstUses)) [0, 1, 2, 3, 4, 5] (by decide) rfl
        have hFc := va_free (wc := (zd_S cC cI cJ h_S h_S_characters h_S_names h_S_code h_S_ends h_S_firstUses S_characters S_length (S_at_1 + (1 : Int32)) S_names S_count S_code S_codeLength S_ends S_firstUses)) hD hS hA [0, 1, 2, 3, 4, 5] rfl
        -- CALL S_readMark
        refine va_calli (va_runV (As := [.int (44 : Int32)]) (rest := []) ⟨hx, hb, hml, hown, ht⟩ (zc_S_readMark l dC dI cC cI cJ tp h_S h_S_characters h_S_names h_S_code h_S_ends h_S_firstUses H.size S_characters S_length (S_at_1 + (1 : Int32)) S_names S_count S_code S_codeLength S_ends S_firstUses (44 : Int32) r7 S_at_7 q7) (cwV 1 ht (z_gV zw_294 zw_296 zw_3 zw_56 zw_297) rfl rfl rfl ⟨rfl, zh_S_readMark⟩ ⟨Nat.le_of_ble_eq_true rfl, Nat.le_of_ble_eq_true rfl⟩) ⟨fun a U g mk q => by obtain ⟨z0, z1, zP, zK, zD, zX⟩ := q; exact ⟨z0, z1, zP, va_K.moved (u := U) (U := U.calling g mk a) (Vm.Alike.refl U.vm) zK, zD, z_X.same rfl rfl zX⟩, va_recv hK hP (ci := 0) (q0 := 0) rfl rfl, fun U hU hW => ⟨rfl, by rw [hU], by rw [hU]; exact hPc, va_K.moved hW.alike hK, hDc.weaken (fun _ _ _ _ => trivial), hX.warm hS hFc hU hW⟩⟩ rfl rfl hl.1 rfl (lv_room (Nat.le_of_ble_eq_true rfl)) ze_S_readRule_52 ⟨Nat.zero_le _, Nat.zero_le _⟩) hS (fun q _ h => hFc q h) hFc (fun rv u t H1 locs ht9 hvm hw hB hz1 hk1 hS => ?_)
        obtain ⟨hP1, hD1⟩ := hB
        rw [ht9] at hP1
        have hw' : r7 = rv := Eq.symm hw
        subst hw'
        obtain ⟨hP, hD⟩ := va_join (wr := []) (w1 := (zd_S cC cI cJ h_S h_S_characters h_S_names h_S_code h_S_ends h_S_firstUses S_characters S_length S_at_7 S_names S_count S_code S_codeLength S_ends S_firstUses)) hP hD [0, 1, 2, 3, 4, 5] [] rfl rfl (by decide) (by decide) hk1 hFc hP1 hD1
        generalize H1 = H at hP hS ⊢
        replace hP := hP.sub (ws' := (zd_S cC cI cJ h_S h_S_characters h_S_names h_S_code h_S_ends h_S_firstUses S_characters S_length S_at_7 S_names S_count S_code S_codeLength S_ends S_firstUses)) [0, 1, 2, 3, 4, 5] rfl
        replace hD := hD.sub (ws' := (zd_S cC cI cJ h_S h_S_characters h_S_names h_S_code h_S_ends h_S_firstUses S_characters S_length S_at_7 S_names S_count S_code S_codeLength S_ends S_firstUses)) [0, 1, 2, 3, 4, 5] (by decide) rfl
        refine lv_if_eq (tgt := 66) hx hb ze_S_readRule_55 (by decide) (fun c8 => ?_) (fun c8 => ?_)
        · replace h := z_it_t c8 h
          refine lv_iconst (v := (0 : Int32)) hx hb ze_S_readRule_66 (by decide) ?_
          obtain ⟨hn, h⟩ := z_gb_some h
          cases h
          exact W.zret hx hb hr hn (fun t ht9 hW => ⟨⟨_, (), rfl, rfl, by rw [ht9]; exact hP, hD⟩, hS.F ht9⟩) hS.2.2 ze_S_readRule_67
        · replace h := z_it_f c8 h
          refine lv_aload_n hx hb ze_S_readRule_58 rfl (lv_at hl 1 rfl) ?_
          refine lv_iconst (v := (0 : Int32)) hx hb ze_S_readRule_59 (by decide) ?_
          obtain ⟨r9, S_at_9, S_code_9, S_codeLength_9, S_firstUses_9, q9, h⟩ := z_b5_some h
          have hPc := hP.sub (ws' := (zd_S cC cI cJ h_S h_S_characters h_S_names h_S_code h_S_ends h_S_firstUses S_characters S_length S_at_7 S_names S_count S_code S_codeLength S_ends S_firstUses)) [0, 1, 2, 3, 4, 5] rfl
          have hDc := hD.sub (ws' := (zd_S cC cI cJ h_S h_S_characters h_S_names h_S_code h_S_ends h_S_firstUses S_characters S_length S_at_7 S_names S_count S_code S_codeLength S_ends S_firstUses)) [0, 1, 2, 3, 4, 5] (by decide) rfl
          have hFc := va_free (wc := (zd_S cC cI cJ h_S h_S_characters h_S_names h_S_code h_S_ends h_S_firstUses S_characters S_length S_at_7 S_names S_count S_code S_codeLength S_ends S_firstUses)) hD hS hA [0, 1, 2, 3, 4, 5] rfl
          -- CALL S_readSum
          refine va_calli (va_runV (As := [.int (0 : Int32)]) (rest := []) ⟨hx, hb, hml, hown, ht⟩ (zc_S_readSum l (zc_S_readFactor l z_DEP) dC dI cC cI cJ tp h_S h_S_characters h_S_names h_S_code h_S_ends h_S_firstUses H.size S_characters S_length S_at_7 S_names S_count S_code S_codeLength S_ends S_firstUses (0 : Int32) r9 S_at_9 S_code_9 S_codeLength_9 S_firstUses_9 q9) (cwV 1 ht (z_gV zw_298 zw_300 zw_4 zw_56 zw_301) rfl rfl rfl ⟨rfl, zh_S_readSum⟩ ⟨Nat.le_of_ble_eq_true rfl, Nat.le_of_ble_eq_true rfl⟩) ⟨fun a U g mk q => by obtain ⟨z0, z1, zP, zK, zD, zX⟩ := q; exact ⟨z0, z1, zP, va_K.moved (u := U) (U := U.calling g mk a) (Vm.Alike.refl U.vm) zK, zD, z_X.same rfl rfl zX⟩, va_recv hK hP (ci := 0) (q0 := 0) rfl rfl, fun U hU hW => ⟨rfl, by rw [hU], by rw [hU]; exact hPc, va_K.moved hW.alike hK, hDc.weaken (fun _ _ _ _ => trivial), hX.warm hS hFc hU hW⟩⟩ rfl rfl hl.1 rfl (lv_room (Nat.le_of_ble_eq_true rfl)) ze_S_readRule_60 ⟨Nat.zero_le _, Nat.zero_le _⟩) hS (fun q _ h => hFc q h) hFc (fun rv u t H1 locs ht9 hvm hw hB hz1 hk1 hS => ?_)
          obtain ⟨hP1, hD1⟩ := hB
          rw [ht9] at hP1
          have hw' : r9 = rv := Eq.symm hw
          subst hw'
          obtain ⟨hP, hD⟩ := va_join (wr := []) (w1 := (zd_S cC cI cJ h_S h_S_characters h_S_names h_S_code h_S_ends h_S_firstUses S_characters S_length S_at_9 S_names S_count S_code_9 S_codeLength_9 S_ends S_firstUses_9)) hP hD [0, 1, 2, 3, 4, 5] [] rfl rfl (by decide) (by decide) hk1 hFc hP1 hD1
          generalize H1 = H at hP hS ⊢
          replace hP := hP.sub (ws' := (zd_S cC cI cJ h_S h_S_characters h_S_names h_S_code h_S_ends h_S_firstUses S_characters S_length S_at_9 S_names S_count S_code_9 S_codeLength_9 S_ends S_firstUses_9)) [0, 1, 2, 3, 4, 5] rfl
          replace hD := hD.sub (ws' := (zd_S cC cI cJ h_S h_S_characters h_S_names h_S_code h_S_ends h_S_firstUses S_characters S_length S_at_9 S_names S_count S_code_9 S_codeLength_9 S_ends S_firstUses_9)) [0, 1, 2, 3, 4, 5] (by decide) rfl
          refine lv_if_ne (tgt := 68) hx hb ze_S_readRule_63 (by decide) (fun c10 => ?_) (fun c10 => ?_)
          · replace h := z_it_f c10 h
            refine lv_aload_n hx hb ze_S_readRule_68 rfl (lv_at hl 1 rfl) ?_
            refine va_get (D := (dC, dI)) (ci := 0) (v := .ref h_S_names) (C := "RuleNetwork$Script") (T := zT_S) (N := 9) hx hb ht zin_S hown hK hP 0 rfl rfl 3 (by decide) (ht _ zw_81) (fun _ h9 => h9) rfl ze_S_readRule_69 ?_
            refine lv_aload_n hx hb ze_S_readRule_72 rfl (lv_at hl 1 rfl) ?_
            refine va_get (D := (dC, dI)) (ci := 0) (v := .int S_count) (C := "RuleNetwork$Script") (T := zT_S) (N := 9) hx hb ht zin_S hown hK hP 0 rfl rfl 4 (by decide) (ht _ zw_84) (fun _ h9 => h9) rfl ze_S_readRule_73 ?_
            refine lv_iload_n hx hb ze_S_readRule_76 rfl (lv_at hl 0 rfl) ?_
            obtain ⟨g11, h⟩ := z_gd_some h
            refine va_cast hx hb hK hP hD hS 2 0 rfl rfl g11 ze_S_readRule_77 (fun H locs hP hD hS => ?_)
            have hP : va_P (dC, dI) vwCl (zd_S cC cI cJ h_S h_S_characters h_S_names h_S_code h_S_ends h_S_firstUses S_characters S_length S_at_9 (upd S_names S_count.toNatClampNeg (vp_nar .char r1)) S_count S_code_9 S_codeLength_9 S_ends S_firstUses_9) H := hP
            have hD : va_D A (zd_S cC cI cJ h_S h_S_characters h_S_names h_S_code h_S_ends h_S_firstUses S_characters S_length S_at_9 (upd S_names S_count.toNatClampNeg (vp_nar .char r1)) S_count S_code_9 S_codeLength_9 S_ends S_firstUses_9) := hD
            refine lv_aload_n hx hb ze_S_readRule_78 rfl (lv_at hl 1 rfl) ?_
            refine va_get (D := (dC, dI)) (ci := 0) (v := .ref h_S_ends) (C := "RuleNetwork$Script") (T := zT_S) (N := 9) hx hb ht zin_S hown hK hP 0 rfl rfl 7 (by decide) (ht _ zw_88) (fun _ h9 => h9) rfl ze_S_readRule_79 ?_
            refine lv_aload_n hx hb ze_S_readRule_82 rfl (lv_at hl 1 rfl) ?_
            refine va_get (D := (dC, dI)) (ci := 0) (v := .int S_count) (C := "RuleNetwork$Script") (T := zT_S) (N := 9) hx hb ht zin_S hown hK hP 0 rfl rfl 4 (by decide) (ht _ zw_84) (fun _ h9 => h9) rfl ze_S_readRule_83 ?_
            refine lv_aload_n hx hb ze_S_readRule_86 rfl (lv_at hl 1 rfl) ?_
            refine va_get (D := (dC, dI)) (ci := 0) (v := .int S_codeLength_9) (C := "RuleNetwork$Script") (T := zT_S) (N := 9) hx hb ht zin_S hown hK hP 0 rfl rfl 6 (by decide) (ht _ zw_87) (fun _ h9 => h9) rfl ze_S_readRule_87 ?_
            obtain ⟨g12, h⟩ := z_gd_some h
            refine va_iast hx hb hK hP hD hS 4 1 rfl rfl g12 ze_S_readRule_90 (fun H locs hP hD hS => ?_)
            have hP : va_P (dC, dI) vwCl (zd_S cC cI cJ h_S h_S_characters h_S_names h_S_code h_S_ends h_S_firstUses S_characters S_length S_at_9 (upd S_names S_count.toNatClampNeg (vp_nar .char r1)) S_count S_code_9 S_codeLength_9 (upd S_ends S_count.toNatClampNeg S_codeLength_9) S_firstUses_9) H := hP
            have hD : va_D A (zd_S cC cI cJ h_S h_S_characters h_S_names h_S_code h_S_ends h_S_firstUses S_characters S_length S_at_9 (upd S_names S_count.toNatClampNeg (vp_nar .char r1)) S_count S_code_9 S_codeLength_9 (upd S_ends S_count.toNatClampNeg S_codeLength_9) S_firstUses_9) := hD
            refine lv_aload_n hx hb ze_S_readRule_91 rfl (lv_at hl 1 rfl) ?_
            refine lv_dup hx hb ze_S_readRule_92 rfl ?_
            refine va_get (D := (dC, dI)) (ci := 0) (v := .int S_count) (C := "RuleNetwork$Script") (T := zT_S) (N := 9) hx hb ht zin_S hown hK hP 0 rfl rfl 4 (by decide) (ht _ zw_84) (fun _ h9 => h9) rfl ze_S_readRule_93 ?_
            refine lv_iconst (v := (1 : Int32)) hx hb ze_S_readRule_96 (by decide) ?_
            refine lv_iadd hx hb ze_S_readRule_97 ?_
            refine va_put (D := (dC, dI)) (ci := 0) (v := .int (S_count + (1 : Int32))) (ty := .int) (C := "RuleNetwork$Script") (T := zT_S) (N := 9) hx hb ht zin_S zty_S zty_S_ok znm_S hown hK hP hD hS 0 rfl rfl 4 (by decide) (ht _ zw_84) (fun _ h9 => h9) rfl (zty_S_ok 4 (by decide)) rfl rfl (Nat.le_of_ble_eq_true rfl) ze_S_readRule_98 (fun H locs hP hD hS => ?_)
            have hP : va_P (dC, dI) vwCl (zd_S cC cI cJ h_S h_S_characters h_S_names h_S_code h_S_ends h_S_firstUses S_characters S_length S_at_9 (upd S_names S_count.toNatClampNeg (vp_nar .char r1)) (S_count + (1 : Int32)) S_code_9 S_codeLength_9 (upd S_ends S_count.toNatClampNeg S_codeLength_9) S_firstUses_9) H := hP
            have hD : va_D A (zd_S cC cI cJ h_S h_S_characters h_S_names h_S_code h_S_ends h_S_firstUses S_characters S_length S_at_9 (upd S_names S_count.toNatClampNeg (vp_nar .char r1)) (S_count + (1 : Int32)) S_code_9 S_codeLength_9 (upd S_ends S_count.toNatClampNeg S_codeLength_9) S_firstUses_9) := hD
            refine lv_iconst (v := (1 : Int32)) hx hb ze_S_readRule_101 (by decide) ?_
            obtain ⟨hn, h⟩ := z_gb_some h
            cases h
            exact W.zret hx hb hr hn (fun t ht9 hW => ⟨⟨_, (), rfl, rfl, by rw [ht9]; exact hP, hD⟩, hS.F ht9⟩) hS.2.2 ze_S_readRule_102
          · replace h := z_it_t c10 h
            refine lv_iconst (v := (0 : Int32)) hx hb ze_S_readRule_66 (by decide) ?_
            obtain ⟨hn, h⟩ := z_gb_some h
            cases h
            exact W.zret hx hb hr hn (fun t ht9 hW => ⟨⟨_, (), rfl, rfl, by rw [ht9]; exact hP, hD⟩, hS.F ht9⟩) hS.2.2 ze_S_readRule_67
      · replace h := z_it_f c6 h
        refine lv_iconst (v := (0 : Int32)) hx hb ze_S_readRule_37 (by decide) ?_
        obtain ⟨hn, h⟩ := z_gb_some h
        cases h
        exact W.zret hx hb hr hn (fun t ht9 hW => ⟨⟨_, (), rfl, rfl, by rw [ht9]; exact hP, hD⟩, hS.F ht9⟩) hS.2.2 ze_S_readRule_38
set_option maxHeartbeats 4000000 in
set_option maxRecDepth 100000 in
theorem zk_S_readRules_52 {p : Program} {l : Launch} {e : Env} {s : State} {m : MethodId} {args : Array Value} {below : List Frame} {meth : Method} {c : Code} {dC : Nat → ClassId} {dI : Nat → Nat → Nat} {cC cI cJ : ClassId} {A : Nat → Prop} {tp : Nat} {h_S h_S_characters h_S_names h_S_code h_S_ends h_S_firstUses : Nat} {o_r : Int32} {o_S_at : Int32} {o_S_names : Nat → Int32} {o_S_count : Int32} {o_S_code : Nat → Int32} {o_S_codeLength : Int32} {o_S_ends : Nat → Int32} {o_S_firstUses : Nat → Int32} (C0 : z_kx p s m args meth c "RuleNetwork$Script" zb_S_readRules 2 (some .boolean)) (hK : va_K (dC, dI) vwCl (z_tys cC cI cJ) s) (hA : ∀ q : Nat, s.heap.size ≤ q → A q) (hX : z_X tp A s) :
    ∀ (S_characters : Nat → Int32) (S_length : Int32) (S_at : Int32) (S_names : Nat → Int32) (S_count : Int32) (S_code : Nat → Int32) (S_codeLength : Int32) (S_ends : Nat → Int32) (S_firstUses : Nat → Int32) (H : Heap) (locs : List Loc) (ls : Array Slot), va_P (dC, dI) vwCl (zd_S cC cI cJ h_S h_S_characters h_S_names h_S_code h_S_ends h_S_firstUses S_characters S_length S_at S_names S_count S_code S_codeLength S_ends S_firstUses) H → va_D A (zd_S cC cI cJ h_S h_S_characters h_S_names h_S_code h_S_ends h_S_firstUses S_characters S_length S_at S_names S_count S_code S_codeLength S_ends S_firstUses) → va_S A s.heap H locs → lv_has ls 2 [(0, .ref h_S)] → zf_S_readRules_52 S_characters S_length S_at S_names S_count S_code S_codeLength S_ends S_firstUses = some (o_r, o_S_at, o_S_names, o_S_count, o_S_code, o_S_codeLength, o_S_ends, o_S_firstUses) → W p l e (headSpec zs_S_readRules rm_S_readRules).room s m args below meth c H locs 0 0 (MQ below (zq_S_readRules dC dI cC cI cJ h_S h_S_characters h_S_names h_S_code h_S_ends h_S_firstUses S_characters S_length o_r o_S_at o_S_names o_S_count o_S_code o_S_codeLength o_S_ends o_S_firstUses A) args s 0 0 A) (F0 m 52 ls []) := by
  obtain ⟨hx, hb, hr, hml, hown, ht, hlocks⟩ := id C0
  intro S_characters S_length S_at S_names S_count S_code S_codeLength S_ends S_firstUses H locs ls hP hD hS hl h
  rw [zf_S_readRules_52] at h
  refine lv_aload_n hx hb ze_S_readRules_52 rfl (lv_at hl 0 rfl) ?_
  obtain ⟨r1, S_at_1, q1, h⟩ := z_b2_some h
  have hPc := hP.sub (ws' := (zd_S cC cI cJ h_S h_S_characters h_S_names h_S_code h_S_ends h_S_firstUses S_characters S_length S_at S_names S_count S_code S_codeLength S_ends S_firstUses)) [0, 1, 2, 3, 4, 5] rfl
  have hDc := hD.sub (ws' := (zd_S cC cI cJ h_S h_S_characters h_S_names h_S_code h_S_ends h_S_firstUses S_characters S_length S_at S_names S_count S_code S_codeLength S_ends S_firstUses)) [0, 1, 2, 3, 4, 5] (by decide) rfl
  have hFc := va_free (wc := (zd_S cC cI cJ h_S h_S_characters h_S_names h_S_code h_S_ends h_S_firstUses S_characters S_length S_at S_names S_count S_code S_codeLength S_ends S_firstUses)) hD hS hA [0, 1, 2, 3, 4, 5] rfl
  -- CALL S_ahead
  refine va_calli (va_runV (As := []) (rest := []) ⟨hx, hb, hml, hown, ht⟩ (zc_S_ahead l dC dI cC cI cJ tp h_S h_S_characters h_S_names h_S_code h_S_ends h_S_firstUses H.size S_characters S_length S_at S_names S_count S_code S_codeLength S_ends S_firstUses r1 S_at_1 q1) (cwV 0 ht (z_gV zw_284 zw_286 zw_2 zw_56 zw_287) rfl rfl rfl ⟨rfl, zh_S_ahead⟩ ⟨Nat.le_of_ble_eq_true rfl, Nat.le_of_ble_eq_true rfl⟩) ⟨fun a U g mk q => by obtain ⟨z0, z1, zP, zK, zD, zX⟩ := q; exact ⟨z0, z1, zP, va_K.moved (u := U) (U := U.calling g mk a) (Vm.Alike.refl U.vm) zK, zD, z_X.same rfl rfl zX⟩, va_recv hK hP (ci := 0) (q0 := 0) rfl rfl, fun U hU hW => ⟨rfl, by rw [hU], by rw [hU]; exact hPc, va_K.moved hW.alike hK, hDc.weaken (fun _ _ _ _ => trivial), hX.warm hS hFc hU hW⟩⟩ rfl rfl hl.1 rfl (lv_room (Nat.le_of_ble_eq_true rfl)) ze_S_readRules_53 ⟨Nat.zero_le _, Nat.zero_le _⟩) hS (fun q _ h => hFc q h) hFc (fun rv u t H1 locs ht9 hvm hw hB hz1 hk1 hS => ?_)
  obtain ⟨hP1, hD1⟩ := hB
  rw [ht9] at hP1
  have hw' : r1 = rv := Eq.symm hw
  subst hw'
  obtain ⟨hP, hD⟩ := va_join (wr := []) (w1 := (zd_S cC cI cJ h_S h_S_characters h_S_names h_S_code h_S_ends h_S_firstUses S_characters S_length S_at_1 S_names S_count S_code S_codeLength S_ends S_firstUses)) hP hD [0, 1, 2, 3, 4, 5] [] rfl rfl (by decide) (by decide) hk1 hFc hP1 hD1
  generalize H1 = H at hP hS ⊢
  replace hP := hP.sub (ws' := (zd_S cC cI cJ h_S h_S_characters h_S_names h_S_code h_S_ends h_S_firstUses S_characters S_length S_at_1 S_names S_count S_code S_codeLength S_ends S_firstUses)) [0, 1, 2, 3, 4, 5] rfl
  replace hD := hD.sub (ws' := (zd_S cC cI cJ h_S h_S_characters h_S_names h_S_code h_S_ends h_S_firstUses S_characters S_length S_at_1 S_names S_count S_code S_codeLength S_ends S_firstUses)) [0, 1, 2, 3, 4, 5] (by decide) rfl
  refine lv_if_ne (tgt := 63) hx hb ze_S_readRules_56 (by decide) (fun c2 => ?_) (fun c2 => ?_)
  · replace h := z_it_f c2 h
    refine lv_iconst (v := (0 : Int32)) hx hb ze_S_readRules_63 (by decide) ?_
    obtain ⟨hn, h⟩ := z_gb_some h
    cases h
    exact W.zret hx hb hr hn (fun t ht9 hW => ⟨⟨_, (), rfl, rfl, by rw [ht9]; exact hP, hD⟩, hS.F ht9⟩) hS.2.2 ze_S_readRules_64
  · replace h := z_it_t c2 h
    refine lv_iconst (v := (1 : Int32)) hx hb ze_S_readRules_59 (by decide) ?_
    refine lv_goto (tgt := 64) hx hb ze_S_readRules_60 (by decide) ?_
    obtain ⟨hn, h⟩ := z_gb_some h
    cases h
    exact W.zret hx hb hr hn (fun t ht9 hW => ⟨⟨_, (), rfl, rfl, by rw [ht9]; exact hP, hD⟩, hS.F ht9⟩) hS.2.2 ze_S_readRules_64
set_option maxHeartbeats 4000000 in
set_option maxRecDepth 100000 in
theorem zk_S_readRules_11 {p : Program} {l : Launch} {e : Env} {s : State} {m : MethodId} {args : Array Value} {below : List Frame} {meth : Method} {c : Code} {dC : Nat → ClassId} {dI : Nat → Nat → Nat} {cC cI cJ : ClassId} {A : Nat → Prop} {tp : Nat} {h_S h_S_characters h_S_names h_S_code h_S_ends h_S_firstUses : Nat} {o_r : Int32} {o_S_at : Int32} {o_S_names : Nat → Int32} {o_S_count : Int32} {o_S_code : Nat → Int32} {o_S_codeLength : Int32} {o_S_ends : Nat → Int32} {o_S_firstUses : Nat → Int32} (C0 : z_kx p s m args meth c "RuleNetwork$Script" zb_S_readRules 2 (some .boolean)) (hK : va_K (dC, dI) vwCl (z_tys cC cI cJ) s) (hA : ∀ q : Nat, s.heap.size ≤ q → A q) (hX : z_X tp A s) :
    ∀ n : Nat, ∀ (x1 : Int32) (S_characters : Nat → Int32) (S_length : Int32) (S_at : Int32) (S_names : Nat → Int32) (S_count : Int32) (S_code : Nat → Int32) (S_codeLength : Int32) (S_ends : Nat → Int32) (S_firstUses : Nat → Int32) (H : Heap) (locs : List Loc) (ls : Array Slot), va_P (dC, dI) vwCl (zd_S cC cI cJ h_S h_S_characters h_S_names h_S_code h_S_ends h_S_firstUses S_characters S_length S_at S_names S_count S_code S_codeLength S_ends S_firstUses) H → va_D A (zd_S cC cI cJ h_S h_S_characters h_S_names h_S_code h_S_ends h_S_firstUses S_characters S_length S_at S_names S_count S_code S_codeLength S_ends S_firstUses) → va_S A s.heap H locs → lv_has ls 2 [(0, .ref h_S), (1, .int x1)] → zf_S_readRules_11 n x1 S_characters S_length S_at S_names S_count S_code S_codeLength S_ends S_firstUses = some (o_r, o_S_at, o_S_names, o_S_count, o_S_code, o_S_codeLength, o_S_ends, o_S_firstUses) → W p l e (headSpec zs_S_readRules rm_S_readRules).room s m args below meth c H locs 0 0 (MQ below (zq_S_readRules dC dI cC cI cJ h_S h_S_characters h_S_names h_S_code h_S_ends h_S_firstUses S_characters S_length o_r o_S_at o_S_names o_S_count o_S_code o_S_codeLength o_S_ends o_S_firstUses A) args s 0 0 A) (F0 m 11 ls []) := by
  obtain ⟨hx, hb, hr, hml, hown, ht, hlocks⟩ := id C0
  intro n
  induction n with
  | zero =>
    intro x1 S_characters S_length S_at S_names S_count S_code S_codeLength S_ends S_firstUses H locs ls hP hD hS hl h
    cases (show none = some _ from h)
  | succ n ih =>
    intro x1 S_characters S_length S_at S_names S_count S_code S_codeLength S_ends S_firstUses H locs ls hP hD hS hl h
    rw [zf_S_readRules_11] at h
    refine lv_iload_n hx hb ze_S_readRules_11 rfl (lv_at hl 1 rfl) ?_
    refine lv_sipush (v := (240 : Int32)) hx hb ze_S_readRules_12 (by decide) ?_
    refine lv_icmp_ge (tgt := 52) hx hb ze_S_readRules_15 (by decide) (fun c1 => ?_) (fun c1 => ?_)
    · replace h := z_it_t c1 h
      exact zk_S_readRules_52 C0 hK hA hX S_characters S_length S_at S_names S_count S_code S_codeLength S_ends S_firstUses _ _ _ hP hD hS (lv_sub hl [0] rfl) h
    · replace h := z_it_f c1 h
      refine lv_aload_n hx hb ze_S_readRules_18 rfl (lv_at hl 0 rfl) ?_
      obtain ⟨r2, S_at_2, q2, h⟩ := z_b2_some h
      have hPc := hP.sub (ws' := (zd_S cC cI cJ h_S h_S_characters h_S_names h_S_code h_S_ends h_S_firstUses S_characters S_length S_at S_names S_count S_code S_codeLength S_ends S_firstUses)) [0, 1, 2, 3, 4, 5] rfl
      have hDc := hD.sub (ws' := (zd_S cC cI cJ h_S h_S_characters h_S_names h_S_code h_S_ends h_S_firstUses S_characters S_length S_at S_names S_count S_code S_codeLength S_ends S_firstUses)) [0, 1, 2, 3, 4, 5] (by decide) rfl
      have hFc := va_free (wc := (zd_S cC cI cJ h_S h_S_characters h_S_names h_S_code h_S_ends h_S_firstUses S_characters S_length S_at S_names S_count S_code S_codeLength S_ends S_firstUses)) hD hS hA [0, 1, 2, 3, 4, 5] rfl
      -- CALL S_ahead
      refine va_calli (va_runV (As := []) (rest := []) ⟨hx, hb, hml, hown, ht⟩ (zc_S_ahead l dC dI cC cI cJ tp h_S h_S_characters h_S_names h_S_code h_S_ends h_S_firstUses H.size S_characters S_length S_at S_names S_count S_code S_codeLength S_ends S_firstUses r2 S_at_2 q2) (cwV 0 ht (z_gV zw_284 zw_286 zw_2 zw_56 zw_287) rfl rfl rfl ⟨rfl, zh_S_ahead⟩ ⟨Nat.le_of_ble_eq_true rfl, Nat.le_of_ble_eq_true rfl⟩) ⟨fun a U g mk q => by obtain ⟨z0, z1, zP, zK, zD, zX⟩ := q; exact ⟨z0, z1, zP, va_K.moved (u := U) (U := U.calling g mk a) (Vm.Alike.refl U.vm) zK, zD, z_X.same rfl rfl zX⟩, va_recv hK hP (ci := 0) (q0 := 0) rfl rfl, fun U hU hW => ⟨rfl, by rw [hU], by rw [hU]; exact hPc, va_K.moved hW.alike hK, hDc.weaken (fun _ _ _ _ => trivial), hX.warm hS hFc hU hW⟩⟩ rfl rfl hl.1 rfl (lv_room (Nat.le_of_ble_eq_true rfl)) ze_S_readRules_19 ⟨Nat.zero_le _, Nat.zero_le _⟩) hS (fun q _ h => hFc q h) hFc (fun rv u t H1 locs ht9 hvm hw hB hz1 hk1 hS => ?_)
      obtain ⟨hP1, hD1⟩ := hB
      rw [ht9] at hP1
      have hw' : r2 = rv := Eq.symm hw
      subst hw'
      obtain ⟨hP, hD⟩ := va_join (wr := []) (w1 := (zd_S cC cI cJ h_S h_S_characters h_S_names h_S_code h_S_ends h_S_firstUses S_characters S_length S_at_2 S_names S_count S_code S_codeLength S_ends S_firstUses)) hP hD [0, 1, 2, 3, 4, 5] [] rfl rfl (by decide) (by decide) hk1 hFc hP1 hD1
      generalize H1 = H at hP hS ⊢
      replace hP := hP.sub (ws' := (zd_S cC cI cJ h_S h_S_characters h_S_names h_S_code h_S_ends h_S_firstUses S_characters S_length S_at_2 S_names S_count S_code S_codeLength S_ends S_firstUses)) [0, 1, 2, 3, 4, 5] rfl
      replace hD := hD.sub (ws' := (zd_S cC cI cJ h_S h_S_characters h_S_names h_S_code h_S_ends h_S_firstUses S_characters S_length S_at_2 S_names S_count S_code S_codeLength S_ends S_firstUses)) [0, 1, 2, 3, 4, 5] (by decide) rfl
      refine lv_bipush (v := (59 : Int32)) hx hb ze_S_readRules_22 (by decide) ?_
      refine lv_icmp_ne (tgt := 52) hx hb ze_S_readRules_24 (by decide) (fun c3 => ?_) (fun c3 => ?_)
      · replace h := z_it_f c3 h
        exact zk_S_readRules_52 C0 hK hA hX S_characters S_length S_at_2 S_names S_count S_code S_codeLength S_ends S_firstUses _ _ _ hP hD hS (lv_sub hl [0] rfl) h
      · replace h := z_it_t c3 h
        refine lv_aload_n hx hb ze_S_readRules_27 rfl (lv_at hl 0 rfl) ?_
        refine lv_dup hx hb ze_S_readRules_28 rfl ?_
        refine va_get (D := (dC, dI)) (ci := 0) (v := .int S_at_2) (C := "RuleNetwork$Script") (T := zT_S) (N := 9) hx hb ht zin_S hown hK hP 0 rfl rfl 2 (by decide) (ht _ zw_80) (fun _ h9 => h9) rfl ze_S_readRules_29 ?_
        refine lv_iconst (v := (1 : Int32)) hx hb ze_S_readRules_32 (by decide) ?_
        refine lv_iadd hx hb ze_S_readRules_33 ?_
        refine va_put (D := (dC, dI)) (ci := 0) (v := .int (S_at_2 + (1 : Int32))) (ty := .int) (C := "RuleNetwork$Script") (T := zT_S) (N := 9) hx hb ht zin_S zty_S zty_S_ok znm_S hown hK hP hD hS 0 rfl rfl 2 (by decide) (ht _ zw_80) (fun _ h9 => h9) rfl (zty_S_ok 2 (by decide)) rfl rfl (Nat.le_of_ble_eq_true rfl) ze_S_readRules_34 (fun H locs hP hD hS => ?_)
        have hP : va_P (dC, dI) vwCl (zd_S cC cI cJ h_S h_S_characters h_S_names h_S_code h_S_ends h_S_firstUses S_characters S_length (S_at_2 + (1 : Int32)) S_names S_count S_code S_codeLength S_ends S_firstUses) H := hP
        have hD : va_D A (zd_S cC cI cJ h_S h_S_characters h_S_names h_S_code h_S_ends h_S_firstUses S_characters S_length (S_at_2 + (1 : Int32)) S_names S_count S_code S_codeLength S_ends S_firstUses) := hD
        refine lv_aload_n hx hb ze_S_readRules_37 rfl (lv_at hl 0 rfl) ?_
        obtain ⟨r4, S_at_4, S_names_4, S_count_4, S_code_4, S_codeLength_4, S_ends_4, S_firstUses_4, q4, h⟩ := z_b8_some h
        have hPc := hP.sub (ws' := (zd_S cC cI cJ h_S h_S_characters h_S_names h_S_code h_S_ends h_S_firstUses S_characters S_length (S_at_2 + (1 : Int32)) S_names S_count S_code S_codeLength S_ends S_firstUses)) [0, 1, 2, 3, 4, 5] rfl
        have hDc := hD.sub (ws' := (zd_S cC cI cJ h_S h_S_characters h_S_names h_S_code h_S_ends h_S_firstUses S_characters S_length (S_at_2 + (1 : Int32)) S_names S_count S_code S_codeLength S_ends S_firstUses)) [0, 1, 2, 3, 4, 5] (by decide) rfl
        have hFc := va_free (wc := (zd_S cC cI cJ h_S h_S_characters h_S_names h_S_code h_S_ends h_S_firstUses S_characters S_length (S_at_2 + (1 : Int32)) S_names S_count S_code S_codeLength S_ends S_firstUses)) hD hS hA [0, 1, 2, 3, 4, 5] rfl
        -- CALL S_readRule
        refine va_calli (va_runV (As := []) (rest := []) ⟨hx, hb, hml, hown, ht⟩ (zc_S_readRule l dC dI cC cI cJ tp h_S h_S_characters h_S_names h_S_code h_S_ends h_S_firstUses H.size S_characters S_length (S_at_2 + (1 : Int32)) S_names S_count S_code S_codeLength S_ends S_firstUses r4 S_at_4 S_names_4 S_count_4 S_code_4 S_codeLength_4 S_ends_4 S_firstUses_4 q4) (cwV 0 ht (z_gV zw_280 zw_282 zw_1 zw_56 zw_283) rfl rfl rfl ⟨rfl, zh_S_readRule⟩ ⟨Nat.le_of_ble_eq_true rfl, Nat.le_of_ble_eq_true rfl⟩) ⟨fun a U g mk q => by obtain ⟨z0, z1, zP, zK, zD, zX⟩ := q; exact ⟨z0, z1, zP, va_K.moved (u := U) (U := U.calling g mk a) (Vm.Alike.refl U.vm) zK, zD, z_X.same rfl rfl zX⟩, va_recv hK hP (ci := 0) (q0 := 0) rfl rfl, fun U hU hW => ⟨rfl, by rw [hU], by rw [hU]; exact hPc, va_K.moved hW.alike hK, hDc.weaken (fun _ _ _ _ => trivial), hX.warm hS hFc hU hW⟩⟩ rfl rfl hl.1 rfl (lv_room (Nat.le_of_ble_eq_true rfl)) ze_S_readRules_38 ⟨Nat.zero_le _, Nat.zero_le _⟩) hS (fun q _ h => hFc q h) hFc (fun rv u t H1 locs ht9 hvm hw hB hz1 hk1 hS => ?_)
        obtain ⟨hP1, hD1⟩ := hB
        rw [ht9] at hP1
        have hw' : r4 = rv := Eq.symm hw
        subst hw'
        obtain ⟨hP, hD⟩ := va_join (wr := []) (w1 := (zd_S cC cI cJ h_S h_S_characters h_S_names h_S_code h_S_ends h_S_firstUses S_characters S_length S_at_4 S_names_4 S_count_4 S_code_4 S_codeLength_4 S_ends_4 S_firstUses_4)) hP hD [0, 1, 2, 3, 4, 5] [] rfl rfl (by decide) (by decide) hk1 hFc hP1 hD1
        generalize H1 = H at hP hS ⊢
        replace hP := hP.sub (ws' := (zd_S cC cI cJ h_S h_S_characters h_S_names h_S_code h_S_ends h_S_firstUses S_characters S_length S_at_4 S_names_4 S_count_4 S_code_4 S_codeLength_4 S_ends_4 S_firstUses_4)) [0, 1, 2, 3, 4, 5] rfl
        replace hD := hD.sub (ws' := (zd_S cC cI cJ h_S h_S_characters h_S_names h_S_code h_S_ends h_S_firstUses S_characters S_length S_at_4 S_names_4 S_count_4 S_code_4 S_codeLength_4 S_ends_4 S_firstUses_4)) [0, 1, 2, 3, 4, 5] (by decide) rfl
        refine lv_if_ne (tgt := 46) hx hb ze_S_readRules_41 (by decide) (fun c5 => ?_) (fun c5 => ?_)
        · replace h := z_it_f c5 h
          refine lv_iinc (v := (x1 + (1 : Int32))) (lv' := [(1, .int (x1 + (1 : Int32))), (0, .ref h_S)]) hx hb ze_S_readRules_46 hl (k := 1) rfl rfl (by decide) rfl (fun ls hl => ?_)
          refine lv_goto (tgt := 11) hx hb ze_S_readRules_49 (by decide) ?_
          exact ih (x1 + (1 : Int32)) S_characters S_length S_at_4 S_names_4 S_count_4 S_code_4 S_codeLength_4 S_ends_4 S_firstUses_4 _ _ _ hP hD hS (lv_sub hl [1, 0] rfl) h
        · replace h := z_it_t c5 h
          refine lv_iconst (v := (0 : Int32)) hx hb ze_S_readRules_44 (by decide) ?_
          obtain ⟨hn, h⟩ := z_gb_some h
          cases h
          exact W.zret hx hb hr hn (fun t ht9 hW => ⟨⟨_, (), rfl, rfl, by rw [ht9]; exact hP, hD⟩, hS.F ht9⟩) hS.2.2 ze_S_readRules_45
set_option maxHeartbeats 4000000 in
set_option maxRecDepth 100000 in
theorem zc_S_readRules (l : Launch) (dC : Nat → ClassId) (dI : Nat → Nat → Nat) (cC : ClassId) (cI : ClassId) (cJ : ClassId) (tp : Nat) (h_S : Nat) (h_S_characters : Nat) (h_S_names : Nat) (h_S_code : Nat) (h_S_ends : Nat) (h_S_firstUses : Nat) (sz : Nat) (S_characters : Nat → Int32) (S_length : Int32) (S_at : Int32) (S_names : Nat → Int32) (S_count : Int32) (S_code : Nat → Int32) (S_codeLength : Int32) (S_ends : Nat → Int32) (S_firstUses : Nat → Int32) (o_r : Int32) (o_S_at : Int32) (o_S_names : Nat → Int32) (o_S_count : Int32) (o_S_code : Nat → Int32) (o_S_codeLength : Int32) (o_S_ends : Nat → Int32) (o_S_firstUses : Nat → Int32) (h : zf_S_readRules S_characters S_length S_at S_names S_count S_code S_codeLength S_ends S_firstUses = some (o_r, o_S_at, o_S_names, o_S_count, o_S_code, o_S_codeLength, o_S_ends, o_S_firstUses)) : Met l zy_S_readRules zs_S_readRules (rm_S_readRules) (va_Pc [.ref h_S] (fun U => U.heap.size = sz ∧ va_P (dC, dI) vwCl (zd_S cC cI cJ h_S h_S_characters h_S_names h_S_code h_S_ends h_S_firstUses S_characters S_length S_at S_names S_count S_code S_codeLength S_ends S_firstUses) U.heap ∧ va_K (dC, dI) vwCl (z_tys cC cI cJ) U ∧ va_D (fun _ => True) (zd_S cC cI cJ h_S h_S_characters h_S_names h_S_code h_S_ends h_S_firstUses S_characters S_length S_at S_names S_count S_code S_codeLength S_ends S_firstUses) ∧ z_X tp (va_A (zd_S cC cI cJ h_S h_S_characters h_S_names h_S_code h_S_ends h_S_firstUses S_characters S_length S_at S_names S_count S_code S_codeLength S_ends S_firstUses) sz) U)) (zq_S_readRules dC dI cC cI cJ h_S h_S_characters h_S_names h_S_code h_S_ends h_S_firstUses S_characters S_length o_r o_S_at o_S_names o_S_count o_S_code o_S_codeLength o_S_ends o_S_firstUses (va_A (zd_S cC cI cJ h_S h_S_characters h_S_names h_S_code h_S_ends h_S_firstUses S_characters S_length S_at S_names S_count S_code S_codeLength S_ends S_firstUses) sz)) 0 0 (va_A (zd_S cC cI cJ h_S h_S_characters h_S_names h_S_code h_S_ends h_S_firstUses S_characters S_length S_at S_names S_count S_code S_codeLength S_ends S_firstUses) sz) := by
  refine Met.ofW (cc := zb_S_readRules) (maxL := 2) (ret := (some .boolean)) (by decide) rfl ?_
  intro p e s m args below meth c s₁ B hml hv
  obtain ⟨rfl, hsz, hP, hK, hD0, hX⟩ := hv
  have hx := B.exec
  have hb := B.bytes
  have hr := B.returns
  have hts := atoms_spec (ws := zs_S_readRules) B.pre
  have ht : ∀ w ∈ z_W, w.before _ s = true := fun w h => hts w (List.mem_cons_of_mem _ h)
  have hown : s.vm.findClass "RuleNetwork$Script" = some m.cls := findClass_of_methodNamed B.named
  have hlocks := B.notSynchronized
  have C0 : z_kx p s m _ meth c "RuleNetwork$Script" zb_S_readRules 2 (some .boolean) := ⟨hx, hb, hr, hml, hown, ht, hlocks⟩
  subst hsz
  have hD := hD0.self (sz := s.heap.size)
  generalize hAe : va_A (zd_S cC cI cJ h_S h_S_characters h_S_names h_S_code h_S_ends h_S_firstUses S_characters S_length S_at S_names S_count S_code S_codeLength S_ends S_firstUses) s.heap.size = A at hD hX ⊢
  have hA : ∀ q : Nat, s.heap.size ≤ q → A q := fun q h => by rw [← hAe]; exact Or.inr h
  have hS : va_S A s.heap s.heap [] := va_S.rf
  have hl := lv_entry ([.ref h_S]) (n := 2) (Nat.le_of_ble_eq_true rfl)
  rw [lg_entry_eq]
  generalize (lg_sl ([.ref h_S]) ++ List.replicate (2 - (lg_sl ([.ref h_S])).length) Slot.unset).toArray = ls at hl ⊢
  have hl : lv_has ls 2 [(0, .ref h_S)] := hl
  rw [zf_S_readRules] at h
  refine lv_aload_n hx hb ze_S_readRules_0 rfl (lv_at hl 0 rfl) ?_
  obtain ⟨r1, S_at_1, S_names_1, S_count_1, S_code_1, S_codeLength_1, S_ends_1, S_firstUses_1, q1, h⟩ := z_b8_some h
  have hPc := hP.sub (ws' := (zd_S cC cI cJ h_S h_S_characters h_S_names h_S_code h_S_ends h_S_firstUses S_characters S_length S_at S_names S_count S_code S_codeLength S_ends S_firstUses)) [0, 1, 2, 3, 4, 5] rfl
  have hDc := hD.sub (ws' := (zd_S cC cI cJ h_S h_S_characters h_S_names h_S_code h_S_ends h_S_firstUses S_characters S_length S_at S_names S_count S_code S_codeLength S_ends S_firstUses)) [0, 1, 2, 3, 4, 5] (by decide) rfl
  have hFc := va_free (wc := (zd_S cC cI cJ h_S h_S_characters h_S_names h_S_code h_S_ends h_S_firstUses S_characters S_length S_at S_names S_count S_code S_codeLength S_ends S_firstUses)) hD hS hA [0, 1, 2, 3, 4, 5] rfl
  -- CALL S_readRule
  refine va_calli (va_runV (As := []) (rest := []) ⟨hx, hb, hml, hown, ht⟩ (zc_S_readRule l dC dI cC cI cJ tp h_S h_S_characters h_S_names h_S_code h_S_ends h_S_firstUses s.heap.size S_characters S_length S_at S_names S_count S_code S_codeLength S_ends S_firstUses r1 S_at_1 S_names_1 S_count_1 S_code_1 S_codeLength_1 S_ends_1 S_firstUses_1 q1) (cwV 0 ht (z_gV zw_280 zw_282 zw_1 zw_56 zw_283) rfl rfl rfl ⟨rfl, zh_S_readRule⟩ ⟨Nat.le_of_ble_eq_true rfl, Nat.le_of_ble_eq_true rfl⟩) ⟨fun a U g mk q => by obtain ⟨z0, z1, zP, zK, zD, zX⟩ := q; exact ⟨z0, z1, zP, va_K.moved (u := U) (U := U.calling g mk a) (Vm.Alike.refl U.vm) zK, zD, z_X.same rfl rfl zX⟩, va_recv hK hP (ci := 0) (q0 := 0) rfl rfl, fun U hU hW => ⟨rfl, by rw [hU], by rw [hU]; exact hPc, va_K.moved hW.alike hK, hDc.weaken (fun _ _ _ _ => trivial), hX.warm hS hFc hU hW⟩⟩ rfl rfl hl.1 rfl (lv_room (Nat.le_of_ble_eq_true rfl)) ze_S_readRules_1 ⟨Nat.zero_le _, Nat.zero_le _⟩) hS (fun q _ h => hFc q h) hFc (fun rv u t H1 locs ht9 hvm hw hB hz1 hk1 hS => ?_)
  obtain ⟨hP1, hD1⟩ := hB
  rw [ht9] at hP1
  have hw' : r1 = rv := Eq.symm hw
  subst hw'
  obtain ⟨hP, hD⟩ := va_join (wr := []) (w1 := (zd_S cC cI cJ h_S h_S_characters h_S_names h_S_code h_S_ends h_S_firstUses S_characters S_length S_at_1 S_names_1 S_count_1 S_code_1 S_codeLength_1 S_ends_1 S_firstUses_1)) hP hD [0, 1, 2, 3, 4, 5] [] rfl rfl (by decide) (by decide) hk1 hFc hP1 hD1
  generalize H1 = H at hP hS ⊢
  replace hP := hP.sub (ws' := (zd_S cC cI cJ h_S h_S_characters h_S_names h_S_code h_S_ends h_S_firstUses S_characters S_length S_at_1 S_names_1 S_count_1 S_code_1 S_codeLength_1 S_ends_1 S_firstUses_1)) [0, 1, 2, 3, 4, 5] rfl
  replace hD := hD.sub (ws' := (zd_S cC cI cJ h_S h_S_characters h_S_names h_S_code h_S_ends h_S_firstUses S_characters S_length S_at_1 S_names_1 S_count_1 S_code_1 S_codeLength_1 S_ends_1 S_firstUses_1)) [0, 1, 2, 3, 4, 5] (by decide) rfl
  refine lv_if_ne (tgt := 9) hx hb ze_S_readRules_4 (by decide) (fun c2 => ?_) (fun c2 => ?_)
  · replace h := z_it_f c2 h
    refine lv_iconst (v := (0 : Int32)) hx hb ze_S_readRules_9 (by decide) ?_
    refine lv_istore_n (lv' := [(1, .int (0 : Int32)), (0, .ref h_S)]) hx hb ze_S_readRules_10 rfl hl (by decide) rfl (fun ls hl => ?_)
    exact zk_S_readRules_11 C0 hK hA hX z_FU (0 : Int32) S_characters S_length S_at_1 S_names_1 S_count_1 S_code_1 S_codeLength_1 S_ends_1 S_firstUses_1 _ _ _ hP hD hS (lv_sub hl [1, 0] rfl) h
  · replace h := z_it_t c2 h
    refine lv_iconst (v := (0 : Int32)) hx hb ze_S_readRules_7 (by decide) ?_
    obtain ⟨hn, h⟩ := z_gb_some h
    cases h
    exact W.zret hx hb hr hn (fun t ht9 hW => ⟨⟨_, (), rfl, rfl, by rw [ht9]; exact hP, hD⟩, hS.F ht9⟩) hS.2.2 ze_S_readRules_8
set_option maxHeartbeats 4000000 in
set_option maxRecDepth 100000 in
theorem zk_S_findStranger_62 {p : Program} {l : Launch} {e : Env} {s : State} {m : MethodId} {args : Array Value} {below : List Frame} {meth : Method} {c : Code} {dC : Nat → ClassId} {dI : Nat → Nat → Nat} {cC cI cJ : ClassId} {A : Nat → Prop} {tp : Nat} {h_S h_S_characters h_S_names h_S_code h_S_ends h_S_firstUses : Nat} {S_characters : Nat → Int32} {S_length : Int32} {S_at : Int32} {S_code : Nat → Int32} {S_codeLength : Int32} {S_ends : Nat → Int32} {o_r : Int32} {k4 : Int32 → Int32 → (Nat → Int32) → Int32 → (Nat → Int32) → Option (Int32)} (C0 : z_kx p s m args meth c "RuleNetwork$Script" zb_S_findStranger 5 (some .int)) (hK : va_K (dC, dI) vwCl (z_tys cC cI cJ) s) (hA : ∀ q : Nat, s.heap.size ≤ q → A q) (hX : z_X tp A s) (hk4 : ∀ (x1 : Int32) (x2 : Int32) (S_names : Nat → Int32) (S_count : Int32) (S_firstUses : Nat → Int32) (H : Heap) (locs : List Loc) (ls : Array Slot), va_P (dC, dI) vwCl (zd_S cC cI cJ h_S h_S_characters h_S_names h_S_code h_S_ends h_S_firstUses S_characters S_length S_at S_names S_count S_code S_codeLength S_ends S_firstUses) H → va_D A (zd_S cC cI cJ h_S h_S_characters h_S_names h_S_code h_S_ends h_S_firstUses S_characters S_length S_at S_names S_count S_code S_codeLength S_ends S_firstUses) → va_S A s.heap H locs → lv_has ls 5 [(0, .ref h_S), (1, .int x1), (2, .int x2)] → k4 x1 x2 S_names S_count S_firstUses = some (o_r) → W p l e (headSpec zs_S_findStranger rm_S_findStranger).room s m args below meth c H locs 0 0 (MQ below (zq_S_findStranger dC dI cC cI cJ h_S h_S_characters h_S_names h_S_code h_S_ends h_S_firstUses S_characters S_length S_at S_names S_count S_code S_codeLength S_ends S_firstUses o_r A) args s 0 0 A) (F0 m 4 ls [])) :
    ∀ (x2 : Int32) (x3 : Int32) (S_names : Nat → Int32) (S_count : Int32) (S_firstUses : Nat → Int32) (H : Heap) (locs : List Loc) (ls : Array Slot), va_P (dC, dI) vwCl (zd_S cC cI cJ h_S h_S_characters h_S_names h_S_code h_S_ends h_S_firstUses S_characters S_length S_at S_names S_count S_code S_codeLength S_ends S_firstUses) H → va_D A (zd_S cC cI cJ h_S h_S_characters h_S_names h_S_code h_S_ends h_S_firstUses S_characters S_length S_at S_names S_count S_code S_codeLength S_ends S_firstUses) → va_S A s.heap H locs → lv_has ls 5 [(0, .ref h_S), (2, .int x2), (3, .int x3)] → zf_S_findStranger_62 k4 x2 x3 S_names S_count S_firstUses = some (o_r) → W p l e (headSpec zs_S_findStranger rm_S_findStranger).room s m args below meth c H locs 0 0 (MQ below (zq_S_findStranger dC dI cC cI cJ h_S h_S_characters h_S_names h_S_code h_S_ends h_S_firstUses S_characters S_length S_at S_names S_count S_code S_codeLength S_ends S_firstUses o_r A) args s 0 0 A) (F0 m 62 ls []) := by
  obtain ⟨hx, hb, hr, hml, hown, ht, hlocks⟩ := id C0
  intro x2 x3 S_names S_count S_firstUses H locs ls hP hD hS hl h
  rw [zf_S_findStranger_62] at h
  refine lv_iload_n hx hb ze_S_findStranger_62 rfl (lv_at hl 2 rfl) ?_
  refine lv_istore_n (lv' := [(1, .int x3), (0, .ref h_S), (2, .int x2), (3, .int x3)]) hx hb ze_S_findStranger_63 rfl hl (by decide) rfl (fun ls hl => ?_)
  refine lv_iinc (v := (x2 + (1 : Int32))) (lv' := [(2, .int (x2 + (1 : Int32))), (1, .int x3), (0, .ref h_S), (3, .int x3)]) hx hb ze_S_findStranger_64 hl (k := 2) rfl rfl (by decide) rfl (fun ls hl => ?_)
  refine lv_goto (tgt := 4) hx hb ze_S_findStranger_67 (by decide) ?_
  exact hk4 x3 (x2 + (1 : Int32)) S_names S_count S_firstUses _ _ _ hP hD hS (lv_sub hl [2, 1, 0] rfl) h
set_option maxHeartbeats 4000000 in
set_option maxRecDepth 100000 in
theorem zk_S_findStranger_46 {p : Program} {l : Launch} {e : Env} {s : State} {m : MethodId} {args : Array Value} {below : List Frame} {meth : Method} {c : Code} {dC : Nat → ClassId} {dI : Nat → Nat → Nat} {cC cI cJ : ClassId} {A : Nat → Prop} {tp : Nat} {h_S h_S_characters h_S_names h_S_code h_S_ends h_S_firstUses : Nat} {S_characters : Nat → Int32} {S_length : Int32} {S_at : Int32} {S_code : Nat → Int32} {S_codeLength : Int32} {S_ends : Nat → Int32} {o_r : Int32} {k4 : Int32 → Int32 → (Nat → Int32) → Int32 → (Nat → Int32) → Option (Int32)} (C0 : z_kx p s m args meth c "RuleNetwork$Script" zb_S_findStranger 5 (some .int)) (hK : va_K (dC, dI) vwCl (z_tys cC cI cJ) s) (hA : ∀ q : Nat, s.heap.size ≤ q → A q) (hX : z_X tp A s) (hk4 : ∀ (x1 : Int32) (x2 : Int32) (S_names : Nat → Int32) (S_count : Int32) (S_firstUses : Nat → Int32) (H : Heap) (locs : List Loc) (ls : Array Slot), va_P (dC, dI) vwCl (zd_S cC cI cJ h_S h_S_characters h_S_names h_S_code h_S_ends h_S_firstUses S_characters S_length S_at S_names S_count S_code S_codeLength S_ends S_firstUses) H → va_D A (zd_S cC cI cJ h_S h_S_characters h_S_names h_S_code h_S_ends h_S_firstUses S_characters S_length S_at S_names S_count S_code S_codeLength S_ends S_firstUses) → va_S A s.heap H locs → lv_has ls 5 [(0, .ref h_S), (1, .int x1), (2, .int x2)] → k4 x1 x2 S_names S_count S_firstUses = some (o_r) → W p l e (headSpec zs_S_findStranger rm_S_findStranger).room s m args below meth c H locs 0 0 (MQ below (zq_S_findStranger dC dI cC cI cJ h_S h_S_characters h_S_names h_S_code h_S_ends h_S_firstUses S_characters S_length S_at S_names S_count S_code S_codeLength S_ends S_firstUses o_r A) args s 0 0 A) (F0 m 4 ls [])) :
    ∀ (x1 : Int32) (x2 : Int32) (x3 : Int32) (t0 : Int32) (S_names : Nat → Int32) (S_count : Int32) (S_firstUses : Nat → Int32) (H : Heap) (locs : List Loc) (ls : Array Slot), va_P (dC, dI) vwCl (zd_S cC cI cJ h_S h_S_characters h_S_names h_S_code h_S_ends h_S_firstUses S_characters S_length S_at S_names S_count S_code S_codeLength S_ends S_firstUses) H → va_D A (zd_S cC cI cJ h_S h_S_characters h_S_names h_S_code h_S_ends h_S_firstUses S_characters S_length S_at S_names S_count S_code S_codeLength S_ends S_firstUses) → va_S A s.heap H locs → lv_has ls 5 [(0, .ref h_S), (1, .int x1), (2, .int x2), (3, .int x3)] → zf_S_findStranger_46 k4 x1 x2 x3 t0 S_names S_count S_firstUses = some (o_r) → W p l e (headSpec zs_S_findStranger rm_S_findStranger).room s m args below meth c H locs 0 0 (MQ below (zq_S_findStranger dC dI cC cI cJ h_S h_S_characters h_S_names h_S_code h_S_ends h_S_firstUses S_characters S_length S_at S_names S_count S_code S_codeLength S_ends S_firstUses o_r A) args s 0 0 A) (F0 m 46 ls [.int t0]) := by
  obtain ⟨hx, hb, hr, hml, hown, ht, hlocks⟩ := id C0
  intro x1 x2 x3 t0 S_names S_count S_firstUses H locs ls hP hD hS hl h
  rw [zf_S_findStranger_46] at h
  refine lv_istore (lv' := [(4, .int t0), (0, .ref h_S), (1, .int x1), (2, .int x2), (3, .int x3)]) hx hb ze_S_findStranger_46 hl (by decide) rfl (fun ls hl => ?_)
  refine lv_iload hx hb ze_S_findStranger_48 (lv_at hl 0 rfl) ?_
  refine lv_if_eq (tgt := 64) hx hb ze_S_findStranger_50 (by decide) (fun c1 => ?_) (fun c1 => ?_)
  · replace h := z_it_t c1 h
    refine lv_iinc (v := (x2 + (1 : Int32))) (lv' := [(2, .int (x2 + (1 : Int32))), (4, .int t0), (0, .ref h_S), (1, .int x1), (3, .int x3)]) hx hb ze_S_findStranger_64 hl (k := 3) rfl rfl (by decide) rfl (fun ls hl => ?_)
    refine lv_goto (tgt := 4) hx hb ze_S_findStranger_67 (by decide) ?_
    exact hk4 x1 (x2 + (1 : Int32)) S_names S_count S_firstUses _ _ _ hP hD hS (lv_sub hl [2, 3, 0] rfl) h
  · replace h := z_it_f c1 h
    refine lv_iload_n hx hb ze_S_findStranger_53 rfl (lv_at hl 2 rfl) ?_
    refine lv_if_eq (tgt := 62) hx hb ze_S_findStranger_54 (by decide) (fun c2 => ?_) (fun c2 => ?_)
    · replace h := z_it_t c2 h
      exact zk_S_findStranger_62 C0 hK hA hX hk4 x2 x3 S_names S_count S_firstUses _ _ _ hP hD hS (lv_sub hl [1, 3, 4] rfl) h
    · replace h := z_it_f c2 h
      refine lv_iload_n hx hb ze_S_findStranger_57 rfl (lv_at hl 4 rfl) ?_
      refine lv_iload_n hx hb ze_S_findStranger_58 rfl (lv_at hl 2 rfl) ?_
      refine lv_icmp_ge (tgt := 64) hx hb ze_S_findStranger_59 (by decide) (fun c3 => ?_) (fun c3 => ?_)
      · replace h := z_it_t c3 h
        refine lv_iinc (v := (x2 + (1 : Int32))) (lv' := [(2, .int (x2 + (1 : Int32))), (4, .int t0), (0, .ref h_S), (1, .int x1), (3, .int x3)]) hx hb ze_S_findStranger_64 hl (k := 3) rfl rfl (by decide) rfl (fun ls hl => ?_)
        refine lv_goto (tgt := 4) hx hb ze_S_findStranger_67 (by decide) ?_
        exact hk4 x1 (x2 + (1 : Int32)) S_names S_count S_firstUses _ _ _ hP hD hS (lv_sub hl [2, 3, 0] rfl) h
      · replace h := z_it_f c3 h
        exact zk_S_findStranger_62 C0 hK hA hX hk4 x2 x3 S_names S_count S_firstUses _ _ _ hP hD hS (lv_sub hl [1, 3, 4] rfl) h
set_option maxHeartbeats 4000000 in
set_option maxRecDepth 100000 in
theorem zk_S_findStranger_45 {p : Program} {l : Launch} {e : Env} {s : State} {m : MethodId} {args : Array Value} {below : List Frame} {meth : Method} {c : Code} {dC : Nat → ClassId} {dI : Nat → Nat → Nat} {cC cI cJ : ClassId} {A : Nat → Prop} {tp : Nat} {h_S h_S_characters h_S_names h_S_code h_S_ends h_S_firstUses : Nat} {S_characters : Nat → Int32} {S_length : Int32} {S_at : Int32} {S_code : Nat → Int32} {S_codeLength : Int32} {S_ends : Nat → Int32} {o_r : Int32} {k4 : Int32 → Int32 → (Nat → Int32) → Int32 → (Nat → Int32) → Option (Int32)} (C0 : z_kx p s m args meth c "RuleNetwork$Script" zb_S_findStranger 5 (some .int)) (hK : va_K (dC, dI) vwCl (z_tys cC cI cJ) s) (hA : ∀ q : Nat, s.heap.size ≤ q → A q) (hX : z_X tp A s) (hk4 : ∀ (x1 : Int32) (x2 : Int32) (S_names : Nat → Int32) (S_count : Int32) (S_firstUses : Nat → Int32) (H : Heap) (locs : List Loc) (ls : Array Slot), va_P (dC, dI) vwCl (zd_S cC cI cJ h_S h_S_characters h_S_names h_S_code h_S_ends h_S_firstUses S_characters S_length S_at S_names S_count S_code S_codeLength S_ends S_firstUses) H → va_D A (zd_S cC cI cJ h_S h_S_characters h_S_names h_S_code h_S_ends h_S_firstUses S_characters S_length S_at S_names S_count S_code S_codeLength S_ends S_firstUses) → va_S A s.heap H locs → lv_has ls 5 [(0, .ref h_S), (1, .int x1), (2, .int x2)] → k4 x1 x2 S_names S_count S_firstUses = some (o_r) → W p l e (headSpec zs_S_findStranger rm_S_findStranger).room s m args below meth c H locs 0 0 (MQ below (zq_S_findStranger dC dI cC cI cJ h_S h_S_characters h_S_names h_S_code h_S_ends h_S_firstUses S_characters S_length S_at S_names S_count S_code S_codeLength S_ends S_firstUses o_r A) args s 0 0 A) (F0 m 4 ls [])) :
    ∀ (x1 : Int32) (x2 : Int32) (x3 : Int32) (S_names : Nat → Int32) (S_count : Int32) (S_firstUses : Nat → Int32) (H : Heap) (locs : List Loc) (ls : Array Slot), va_P (dC, dI) vwCl (zd_S cC cI cJ h_S h_S_characters h_S_names h_S_code h_S_ends h_S_firstUses S_characters S_length S_at S_names S_count S_code S_codeLength S_ends S_firstUses) H → va_D A (zd_S cC cI cJ h_S h_S_characters h_S_names h_S_code h_S_ends h_S_firstUses S_characters S_length S_at S_names S_count S_code S_codeLength S_ends S_firstUses) → va_S A s.heap H locs → lv_has ls 5 [(0, .ref h_S), (1, .int x1), (2, .int x2), (3, .int x3)] → zf_S_findStranger_45 k4 x1 x2 x3 S_names S_count S_firstUses = some (o_r) → W p l e (headSpec zs_S_findStranger rm_S_findStranger).room s m args below meth c H locs 0 0 (MQ below (zq_S_findStranger dC dI cC cI cJ h_S h_S_characters h_S_names h_S_code h_S_ends h_S_firstUses S_characters S_length S_at S_names S_count S_code S_codeLength S_ends S_firstUses o_r A) args s 0 0 A) (F0 m 45 ls []) := by
  obtain ⟨hx, hb, hr, hml, hown, ht, hlocks⟩ := id C0
  intro x1 x2 x3 S_names S_count S_firstUses H locs ls hP hD hS hl h
  rw [zf_S_findStranger_45] at h
  refine lv_iconst (v := (0 : Int32)) hx hb ze_S_findStranger_45 (by decide) ?_
  exact zk_S_findStranger_46 C0 hK hA hX hk4 x1 x2 x3 (0 : Int32) S_names S_count S_firstUses _ _ _ hP hD hS (lv_sub hl [0, 1, 2, 3] rfl) h
set_option maxHeartbeats 4000000 in
set_option maxRecDepth 100000 in
theorem zk_S_findStranger_4 {p : Program} {l : Launch} {e : Env} {s : State} {m : MethodId} {args : Array Value} {below : List Frame} {meth : Method} {c : Code} {dC : Nat → ClassId} {dI : Nat → Nat → Nat} {cC cI cJ : ClassId} {A : Nat → Prop} {tp : Nat} {h_S h_S_characters h_S_names h_S_code h_S_ends h_S_firstUses : Nat} {S_characters : Nat → Int32} {S_length : Int32} {S_at : Int32} {S_code : Nat → Int32} {S_codeLength : Int32} {S_ends : Nat → Int32} {o_r : Int32} (C0 : z_kx p s m args meth c "RuleNetwork$Script" zb_S_findStranger 5 (some .int)) (hK : va_K (dC, dI) vwCl (z_tys cC cI cJ) s) (hA : ∀ q : Nat, s.heap.size ≤ q → A q) (hX : z_X tp A s) :
    ∀ n : Nat, ∀ (x1 : Int32) (x2 : Int32) (S_names : Nat → Int32) (S_count : Int32) (S_firstUses : Nat → Int32) (H : Heap) (locs : List Loc) (ls : Array Slot), va_P (dC, dI) vwCl (zd_S cC cI cJ h_S h_S_characters h_S_names h_S_code h_S_ends h_S_firstUses S_characters S_length S_at S_names S_count S_code S_codeLength S_ends S_firstUses) H → va_D A (zd_S cC cI cJ h_S h_S_characters h_S_names h_S_code h_S_ends h_S_firstUses S_characters S_length S_at S_names S_count S_code S_codeLength S_ends S_firstUses) → va_S A s.heap H locs → lv_has ls 5 [(0, .ref h_S), (1, .int x1), (2, .int x2)] → zf_S_findStranger_4 n x1 x2 S_names S_count S_firstUses = some (o_r) → W p l e (headSpec zs_S_findStranger rm_S_findStranger).room s m args below meth c H locs 0 0 (MQ below (zq_S_findStranger dC dI cC cI cJ h_S h_S_characters h_S_names h_S_code h_S_ends h_S_firstUses S_characters S_length S_at S_names S_count S_code S_codeLength S_ends S_firstUses o_r A) args s 0 0 A) (F0 m 4 ls []) := by
  obtain ⟨hx, hb, hr, hml, hown, ht, hlocks⟩ := id C0
  intro n
  induction n with
  | zero =>
    intro x1 x2 S_names S_count S_firstUses H locs ls hP hD hS hl h
    cases (show none = some _ from h)
  | succ n ih =>
    intro x1 x2 S_names S_count S_firstUses H locs ls hP hD hS hl h
    rw [zf_S_findStranger_4] at h
    refine lv_iload_n hx hb ze_S_findStranger_4 rfl (lv_at hl 2 rfl) ?_
    refine lv_bipush (v := (26 : Int32)) hx hb ze_S_findStranger_5 (by decide) ?_
    refine lv_icmp_ge (tgt := 70) hx hb ze_S_findStranger_7 (by decide) (fun c1 => ?_) (fun c1 => ?_)
    · replace h := z_it_t c1 h
      refine lv_iload_n hx hb ze_S_findStranger_70 rfl (lv_at hl 1 rfl) ?_
      cases h
      exact W.iret hx hb hr (fun t ht9 hW => ⟨⟨_, (), rfl, rfl, by rw [ht9]; exact hP, hD⟩, hS.F ht9⟩) hS.2.2 ze_S_findStranger_71
    · replace h := z_it_f c1 h
      refine lv_aload_n hx hb ze_S_findStranger_10 rfl (lv_at hl 0 rfl) ?_
      refine va_get (D := (dC, dI)) (ci := 0) (v := .ref h_S_firstUses) (C := "RuleNetwork$Script") (T := zT_S) (N := 9) hx hb ht zin_S hown hK hP 0 rfl rfl 8 (by decide) (ht _ zw_90) (fun _ h9 => h9) rfl ze_S_findStranger_11 ?_
      refine lv_iload_n hx hb ze_S_findStranger_14 rfl (lv_at hl 2 rfl) ?_
      obtain ⟨g2, h⟩ := z_gd_some h
      refine va_iald hx hb hK hP 5 1 rfl rfl g2 ze_S_findStranger_15 ?_
      refine lv_istore_n (lv' := [(3, .int (S_firstUses x2.toNatClampNeg)), (0, .ref h_S), (1, .int x1), (2, .int x2)]) hx hb ze_S_findStranger_16 rfl hl (by decide) rfl (fun ls hl => ?_)
      refine lv_iload_n hx hb ze_S_findStranger_17 rfl (lv_at hl 0 rfl) ?_
      refine lv_if_eq (tgt := 45) hx hb ze_S_findStranger_18 (by decide) (fun c3 => ?_) (fun c3 => ?_)
      · replace h := z_it_t c3 h
        exact zk_S_findStranger_45 C0 hK hA hX ih x1 x2 (S_firstUses x2.toNatClampNeg) S_names S_count S_firstUses _ _ _ hP hD hS (lv_sub hl [1, 2, 3, 0] rfl) h
      · replace h := z_it_f c3 h
        refine lv_bipush (v := (97 : Int32)) hx hb ze_S_findStranger_21 (by decide) ?_
        refine lv_iload_n hx hb ze_S_findStranger_23 rfl (lv_at hl 3 rfl) ?_
        refine lv_iadd hx hb ze_S_findStranger_24 ?_
        refine lv_i2c hx hb ze_S_findStranger_25 rfl ?_
        refine lv_aload_n hx hb ze_S_findStranger_26 rfl (lv_at hl 1 rfl) ?_
        refine va_get (D := (dC, dI)) (ci := 0) (v := .ref h_S_names) (C := "RuleNetwork$Script") (T := zT_S) (N := 9) hx hb ht zin_S hown hK hP 0 rfl rfl 3 (by decide) (ht _ zw_81) (fun _ h9 => h9) rfl ze_S_findStranger_27 ?_
        refine lv_aload_n hx hb ze_S_findStranger_30 rfl (lv_at hl 1 rfl) ?_
        refine va_get (D := (dC, dI)) (ci := 0) (v := .int S_count) (C := "RuleNetwork$Script") (T := zT_S) (N := 9) hx hb ht zin_S hown hK hP 0 rfl rfl 4 (by decide) (ht _ zw_84) (fun _ h9 => h9) rfl ze_S_findStranger_31 ?_
        obtain ⟨r4, q4, h⟩ := z_b1_some h
        have hPc := hP.sub (ws' := (zd_pC cC cI cJ h_S_names 7 S_names)) [2] rfl
        have hDc := hD.sub (ws' := (zd_pC cC cI cJ h_S_names 7 S_names)) [2] (by decide) rfl
        have hFc := va_free (wc := (zd_pC cC cI cJ h_S_names 7 S_names)) hD hS hA [2] rfl
        -- CALL N_indexOf
        refine va_calli (va_runSN (As := [.int (((97 : Int32) + x2).toUInt32 % 65536).toInt32, .ref h_S_names, .int S_count]) (rest := []) ⟨hx, hb, hml, hown, ht⟩ (zc_N_indexOf l dC dI cC cI cJ tp h_S_names 7 H.size S_names ((((97 : Int32) + x2).toUInt32 % 65536).toInt32) S_count r4 q4) ⟨va_cnB 3 ht (z_gC zw_293) rfl rfl rfl (show va_Nw (.methodLinkNest "RuleNetwork$Script" 65 zy_N_indexOf "RuleNetwork") s from hX.1 _ (List.mem_of_getElem? (i := 5) rfl)) (ht _ zw_55) zh_N_indexOf ⟨Nat.le_of_ble_eq_true rfl, Nat.le_of_ble_eq_true rfl⟩, ht _ zw_292, trivial⟩ ⟨fun a U g mk q => by obtain ⟨z0, z1, zP, zK, zD, zX⟩ := q; exact ⟨z0, z1, zP, va_K.moved (u := U) (U := U.calling g mk a) (Vm.Alike.refl U.vm) zK, zD, z_X.same rfl rfl zX⟩, fun U hU hW => ⟨rfl, by rw [hU], by rw [hU]; exact hPc, va_K.moved hW.alike hK, hDc.weaken (fun _ _ _ _ => trivial), hX.warm hS hFc hU hW⟩⟩ rfl rfl hl.1 rfl (lv_room (Nat.le_of_ble_eq_true rfl)) ze_S_findStranger_34 ⟨Nat.zero_le _, Nat.zero_le _⟩) hS (fun q _ h => hFc q h) hFc (fun rv u t H1 locs ht9 hvm hw hB hz1 hk1 hS => ?_)
        obtain ⟨hP1, hD1⟩ := hB
        rw [ht9] at hP1
        have hw' : r4 = rv := Eq.symm hw
        subst hw'
        obtain ⟨hP, hD⟩ := va_join (wr := [(h_S, .inr (0, [.ref h_S_characters, .int S_length, .int S_at, .ref h_S_names, .int S_count, .ref h_S_code, .int S_codeLength, .ref h_S_ends, .ref h_S_firstUses])), (h_S_characters, .inl (cC, 240, .inl S_characters)), (h_S_code, .inl (cC, 240, .inl S_code)), (h_S_ends, .inl (cI, 7, .inl S_ends)), (h_S_firstUses, .inl (cI, 26, .inl S_firstUses))]) (w1 := (zd_pC cC cI cJ h_S_names 7 S_names)) hP hD [2] [0, 1, 3, 4, 5] rfl rfl (by decide) (by decide) hk1 hFc hP1 hD1
        generalize H1 = H at hP hS ⊢
        replace hP := hP.sub (ws' := (zd_S cC cI cJ h_S h_S_characters h_S_names h_S_code h_S_ends h_S_firstUses S_characters S_length S_at S_names S_count S_code S_codeLength S_ends S_firstUses)) [0, 1, 5, 2, 3, 4] rfl
        replace hD := hD.sub (ws' := (zd_S cC cI cJ h_S h_S_characters h_S_names h_S_code h_S_ends h_S_firstUses S_characters S_length S_at S_names S_count S_code S_codeLength S_ends S_firstUses)) [0, 1, 5, 2, 3, 4] (by decide) rfl
        refine lv_iconst (v := (-1 : Int32)) hx hb ze_S_findStranger_37 (by decide) ?_
        refine lv_icmp_ne (tgt := 45) hx hb ze_S_findStranger_38 (by decide) (fun c5 => ?_) (fun c5 => ?_)
        · replace h := z_it_f c5 h
          exact zk_S_findStranger_45 C0 hK hA hX ih x1 x2 (S_firstUses x2.toNatClampNeg) S_names S_count S_firstUses _ _ _ hP hD hS (lv_sub hl [1, 2, 3, 0] rfl) h
        · replace h := z_it_t c5 h
          refine lv_iconst (v := (1 : Int32)) hx hb ze_S_findStranger_41 (by decide) ?_
          refine lv_goto (tgt := 46) hx hb ze_S_findStranger_42 (by decide) ?_
          exact zk_S_findStranger_46 C0 hK hA hX ih x1 x2 (S_firstUses x2.toNatClampNeg) (1 : Int32) S_names S_count S_firstUses _ _ _ hP hD hS (lv_sub hl [1, 2, 3, 0] rfl) h
set_option maxHeartbeats 4000000 in
set_option maxRecDepth 100000 in
theorem zc_S_findStranger (l : Launch) (dC : Nat → ClassId) (dI : Nat → Nat → Nat) (cC : ClassId) (cI : ClassId) (cJ : ClassId) (tp : Nat) (h_S : Nat) (h_S_characters : Nat) (h_S_names : Nat) (h_S_code : Nat) (h_S_ends : Nat) (h_S_firstUses : Nat) (sz : Nat) (S_characters : Nat → Int32) (S_length : Int32) (S_at : Int32) (S_names : Nat → Int32) (S_count : Int32) (S_code : Nat → Int32) (S_codeLength : Int32) (S_ends : Nat → Int32) (S_firstUses : Nat → Int32) (o_r : Int32) (h : zf_S_findStranger S_names S_count S_firstUses = some (o_r)) : Met l zy_S_findStranger zs_S_findStranger (rm_S_findStranger) (va_Pc [.ref h_S] (fun U => U.heap.size = sz ∧ va_P (dC, dI) vwCl (zd_S cC cI cJ h_S h_S_characters h_S_names h_S_code h_S_ends h_S_firstUses S_characters S_length S_at S_names S_count S_code S_codeLength S_ends S_firstUses) U.heap ∧ va_K (dC, dI) vwCl (z_tys cC cI cJ) U ∧ va_D (fun _ => True) (zd_S cC cI cJ h_S h_S_characters h_S_names h_S_code h_S_ends h_S_firstUses S_characters S_length S_at S_names S_count S_code S_codeLength S_ends S_firstUses) ∧ z_X tp (va_A (zd_S cC cI cJ h_S h_S_characters h_S_names h_S_code h_S_ends h_S_firstUses S_characters S_length S_at S_names S_count S_code S_codeLength S_ends S_firstUses) sz) U)) (zq_S_findStranger dC dI cC cI cJ h_S h_S_characters h_S_names h_S_code h_S_ends h_S_firstUses S_characters S_length S_at S_names S_count S_code S_codeLength S_ends S_firstUses o_r (va_A (zd_S cC cI cJ h_S h_S_characters h_S_names h_S_code h_S_ends h_S_firstUses S_characters S_length S_at S_names S_count S_code S_codeLength S_ends S_firstUses) sz)) 0 0 (va_A (zd_S cC cI cJ h_S h_S_characters h_S_names h_S_code h_S_ends h_S_firstUses S_characters S_length S_at S_names S_count S_code S_codeLength S_ends S_firstUses) sz) := by
  refine Met.ofW (cc := zb_S_findStranger) (maxL := 5) (ret := (some .int)) (by decide) rfl ?_
  intro p e s m args below meth c s₁ B hml hv
  obtain ⟨rfl, hsz, hP, hK, hD0, hX⟩ := hv
  have hx := B.exec
  have hb := B.bytes
  have hr := B.returns
  have hts := atoms_spec (ws := zs_S_findStranger) B.pre
  have ht : ∀ w ∈ z_W, w.before _ s = true := fun w h => hts w (List.mem_cons_of_mem _ h)
  have hown : s.vm.findClass "RuleNetwork$Script" = some m.cls := findClass_of_methodNamed B.named
  have hlocks := B.notSynchronized
  have C0 : z_kx p s m _ meth c "RuleNetwork$Script" zb_S_findStranger 5 (some .int) := ⟨hx, hb, hr, hml, hown, ht, hlocks⟩
  subst hsz
  have hD := hD0.self (sz := s.heap.size)
  generalize hAe : va_A (zd_S cC cI cJ h_S h_S_characters h_S_names h_S_code h_S_ends h_S_firstUses S_characters S_length S_at S_names S_count S_code S_codeLength S_ends S_firstUses) s.heap.size = A at hD hX ⊢
  have hA : ∀ q : Nat, s.heap.size ≤ q → A q := fun q h => by rw [← hAe]; exact Or.inr h
  have hS : va_S A s.heap s.heap [] := va_S.rf
  have hl := lv_entry ([.ref h_S]) (n := 5) (Nat.le_of_ble_eq_true rfl)
  rw [lg_entry_eq]
  generalize (lg_sl ([.ref h_S]) ++ List.replicate (5 - (lg_sl ([.ref h_S])).length) Slot.unset).toArray = ls at hl ⊢
  have hl : lv_has ls 5 [(0, .ref h_S)] := hl
  rw [zf_S_findStranger] at h
  refine lv_iconst (v := (0 : Int32)) hx hb ze_S_findStranger_0 (by decide) ?_
  refine lv_istore_n (lv' := [(1, .int (0 : Int32)), (0, .ref h_S)]) hx hb ze_S_findStranger_1 rfl hl (by decide) rfl (fun ls hl => ?_)
  refine lv_iconst (v := (0 : Int32)) hx hb ze_S_findStranger_2 (by decide) ?_
  refine lv_istore_n (lv' := [(2, .int (0 : Int32)), (1, .int (0 : Int32)), (0, .ref h_S)]) hx hb ze_S_findStranger_3 rfl hl (by decide) rfl (fun ls hl => ?_)
  exact zk_S_findStranger_4 C0 hK hA hX z_FU (0 : Int32) (0 : Int32) S_names S_count S_firstUses _ _ _ hP hD hS (lv_sub hl [2, 1, 0] rfl) h
set_option maxHeartbeats 4000000 in
set_option maxRecDepth 100000 in
theorem zc_S_findFault (l : Launch) (dC : Nat → ClassId) (dI : Nat → Nat → Nat) (cC : ClassId) (cI : ClassId) (cJ : ClassId) (tp : Nat) (h_S : Nat) (h_S_characters : Nat) (h_S_names : Nat) (h_S_code : Nat) (h_S_ends : Nat) (h_S_firstUses : Nat) (sz : Nat) (S_characters : Nat → Int32) (S_length : Int32) (S_at : Int32) (S_names : Nat → Int32) (S_count : Int32) (S_code : Nat → Int32) (S_codeLength : Int32) (S_ends : Nat → Int32) (S_firstUses : Nat → Int32) (o_r : Int32) (o_S_at : Int32) (o_S_names : Nat → Int32) (o_S_count : Int32) (o_S_code : Nat → Int32) (o_S_codeLength : Int32) (o_S_ends : Nat → Int32) (o_S_firstUses : Nat → Int32) (h : zf_S_findFault S_characters S_length S_at S_names S_count S_code S_codeLength S_ends S_firstUses = some (o_r, o_S_at, o_S_names, o_S_count, o_S_code, o_S_codeLength, o_S_ends, o_S_firstUses)) : Met l zy_S_findFault zs_S_findFault (rm_S_findFault) (va_Pc [.ref h_S] (fun U => U.heap.size = sz ∧ va_P (dC, dI) vwCl (zd_S cC cI cJ h_S h_S_characters h_S_names h_S_code h_S_ends h_S_firstUses S_characters S_length S_at S_names S_count S_code S_codeLength S_ends S_firstUses) U.heap ∧ va_K (dC, dI) vwCl (z_tys cC cI cJ) U ∧ va_D (fun _ => True) (zd_S cC cI cJ h_S h_S_characters h_S_names h_S_code h_S_ends h_S_firstUses S_characters S_length S_at S_names S_count S_code S_codeLength S_ends S_firstUses) ∧ z_X tp (va_A (zd_S cC cI cJ h_S h_S_characters h_S_names h_S_code h_S_ends h_S_firstUses S_characters S_length S_at S_names S_count S_code S_codeLength S_ends S_firstUses) sz) U)) (zq_S_findFault dC dI cC cI cJ h_S h_S_characters h_S_names h_S_code h_S_ends h_S_firstUses S_characters S_length o_r o_S_at o_S_names o_S_count o_S_code o_S_codeLength o_S_ends o_S_firstUses (va_A (zd_S cC cI cJ h_S h_S_characters h_S_names h_S_code h_S_ends h_S_firstUses S_characters S_length S_at S_names S_count S_code S_codeLength S_ends S_firstUses) sz)) 0 0 (va_A (zd_S cC cI cJ h_S h_S_characters h_S_names h_S_code h_S_ends h_S_firstUses S_characters S_length S_at S_names S_count S_code S_codeLength S_ends S_firstUses) sz) := by
  refine Met.ofW (cc := zb_S_findFault) (maxL := 1) (ret := (some .int)) (by decide) rfl ?_
  intro p e s m args below meth c s₁ B hml hv
  obtain ⟨rfl, hsz, hP, hK, hD0, hX⟩ := hv
  have hx := B.exec
  have hb := B.bytes
  have hr := B.returns
  have hts := atoms_spec (ws := zs_S_findFault) B.pre
  have ht : ∀ w ∈ z_W, w.before _ s = true := fun w h => hts w (List.mem_cons_of_mem _ h)
  have hown : s.vm.findClass "RuleNetwork$Script" = some m.cls := findClass_of_methodNamed B.named
  have hlocks := B.notSynchronized
  have C0 : z_kx p s m _ meth c "RuleNetwork$Script" zb_S_findFault 1 (some .int) := ⟨hx, hb, hr, hml, hown, ht, hlocks⟩
  subst hsz
  have hD := hD0.self (sz := s.heap.size)
  generalize hAe : va_A (zd_S cC cI cJ h_S h_S_characters h_S_names h_S_code h_S_ends h_S_firstUses S_characters S_length S_at S_names S_count S_code S_codeLength S_ends S_firstUses) s.heap.size = A at hD hX ⊢
  have hA : ∀ q : Nat, s.heap.size ≤ q → A q := fun q h => by rw [← hAe]; exact Or.inr h
  have hS : va_S A s.heap s.heap [] := va_S.rf
  have hl := lv_entry ([.ref h_S]) (n := 1) (Nat.le_of_ble_eq_true rfl)
  rw [lg_entry_eq]
  generalize (lg_sl ([.ref h_S]) ++ List.replicate (1 - (lg_sl ([.ref h_S])).length) Slot.unset).toArray = ls at hl ⊢
  have hl : lv_has ls 1 [(0, .ref h_S)] := hl
  rw [zf_S_findFault] at h
  refine lv_aload_n hx hb ze_S_findFault_0 rfl (lv_at hl 0 rfl) ?_
  refine lv_iconst (v := (0 : Int32)) hx hb ze_S_findFault_1 (by decide) ?_
  refine va_put (D := (dC, dI)) (ci := 0) (v := .int (0 : Int32)) (ty := .int) (C := "RuleNetwork$Script") (T := zT_S) (N := 9) hx hb ht zin_S zty_S zty_S_ok znm_S hown hK hP hD hS 0 rfl rfl 2 (by decide) (ht _ zw_80) (fun _ h9 => h9) rfl (zty_S_ok 2 (by decide)) rfl rfl (Nat.le_of_ble_eq_true rfl) ze_S_findFault_2 (fun H locs hP hD hS => ?_)
  have hP : va_P (dC, dI) vwCl (zd_S cC cI cJ h_S h_S_characters h_S_names h_S_code h_S_ends h_S_firstUses S_characters S_length (0 : Int32) S_names S_count S_code S_codeLength S_ends S_firstUses) H := hP
  have hD : va_D A (zd_S cC cI cJ h_S h_S_characters h_S_names h_S_code h_S_ends h_S_firstUses S_characters S_length (0 : Int32) S_names S_count S_code S_codeLength S_ends S_firstUses) := hD
  refine lv_aload_n hx hb ze_S_findFault_5 rfl (lv_at hl 0 rfl) ?_
  refine lv_iconst (v := (0 : Int32)) hx hb ze_S_findFault_6 (by decide) ?_
  refine va_put (D := (dC, dI)) (ci := 0) (v := .int (0 : Int32)) (ty := .int) (C := "RuleNetwork$Script") (T := zT_S) (N := 9) hx hb ht zin_S zty_S zty_S_ok znm_S hown hK hP hD hS 0 rfl rfl 4 (by decide) (ht _ zw_84) (fun _ h9 => h9) rfl (zty_S_ok 4 (by decide)) rfl rfl (Nat.le_of_ble_eq_true rfl) ze_S_findFault_7 (fun H locs hP hD hS => ?_)
  have hP : va_P (dC, dI) vwCl (zd_S cC cI cJ h_S h_S_characters h_S_names h_S_code h_S_ends h_S_firstUses S_characters S_length (0 : Int32) S_names (0 : Int32) S_code S_codeLength S_ends S_firstUses) H := hP
  have hD : va_D A (zd_S cC cI cJ h_S h_S_characters h_S_names h_S_code h_S_ends h_S_firstUses S_characters S_length (0 : Int32) S_names (0 : Int32) S_code S_codeLength S_ends S_firstUses) := hD
  refine lv_aload_n hx hb ze_S_findFault_10 rfl (lv_at hl 0 rfl) ?_
  refine lv_iconst (v := (0 : Int32)) hx hb ze_S_findFault_11 (by decide) ?_
  refine va_put (D := (dC, dI)) (ci := 0) (v := .int (0 : Int32)) (ty := .int) (C := "RuleNetwork$Script") (T := zT_S) (N := 9) hx hb ht zin_S zty_S zty_S_ok znm_S hown hK hP hD hS 0 rfl rfl 6 (by decide) (ht _ zw_87) (fun _ h9 => h9) rfl (zty_S_ok 6 (by decide)) rfl rfl (Nat.le_of_ble_eq_true rfl) ze_S_findFault_12 (fun H locs hP hD hS => ?_)
  have hP : va_P (dC, dI) vwCl (zd_S cC cI cJ h_S h_S_characters h_S_names h_S_code h_S_ends h_S_firstUses S_characters S_length (0 : Int32) S_names (0 : Int32) S_code (0 : Int32) S_ends S_firstUses) H := hP
  have hD : va_D A (zd_S cC cI cJ h_S h_S_characters h_S_names h_S_code h_S_ends h_S_firstUses S_characters S_length (0 : Int32) S_names (0 : Int32) S_code (0 : Int32) S_ends S_firstUses) := hD
  refine lv_aload_n hx hb ze_S_findFault_15 rfl (lv_at hl 0 rfl) ?_
  refine va_get (D := (dC, dI)) (ci := 0) (v := .ref h_S_firstUses) (C := "RuleNetwork$Script") (T := zT_S) (N := 9) hx hb ht zin_S hown hK hP 0 rfl rfl 8 (by decide) (ht _ zw_90) (fun _ h9 => h9) rfl ze_S_findFault_16 ?_
  refine lv_iconst (v := (0 : Int32)) hx hb ze_S_findFault_19 (by decide) ?_
  obtain ⟨S_firstUses_1, q1, h⟩ := z_b1_some h
  have hPc := hP.sub (ws' := (zd_pI cC cI cJ h_S_firstUses 26 S_firstUses)) [5] rfl
  have hDc := hD.sub (ws' := (zd_pI cC cI cJ h_S_firstUses 26 S_firstUses)) [5] (by decide) rfl
  have hFc := va_free (wc := (zd_pI cC cI cJ h_S_firstUses 26 S_firstUses)) hD hS hA [5] rfl
  -- CALL JA_fill
  refine va_callv (va_runS (As := [.ref h_S_firstUses, .int (0 : Int32)]) (rest := []) ⟨hx, hb, hml, hown, ht⟩ (zc_JA_fill l dC dI cC cI cJ tp h_S_firstUses 26 H.size S_firstUses (0 : Int32) S_firstUses_1 q1) (va_cwS 2 ht (z_gS zw_273 zw_274 zw_62 zw_275) rfl rfl rfl zh_JA_fill ⟨Nat.le_of_ble_eq_true rfl, Nat.le_of_ble_eq_true rfl⟩) ⟨fun a U g mk q => by obtain ⟨z0, z1, zP, zK, zD, zX⟩ := q; exact ⟨z0, z1, zP, va_K.moved (u := U) (U := U.calling g mk a) (Vm.Alike.refl U.vm) zK, zD, z_X.same rfl rfl zX⟩, fun U hU hW => ⟨rfl, by rw [hU], by rw [hU]; exact hPc, va_K.moved hW.alike hK, hDc.weaken (fun _ _ _ _ => trivial), hX.warm hS hFc hU hW⟩⟩ rfl rfl hl.1 rfl (lv_room (Nat.le_of_ble_eq_true rfl)) ze_S_findFault_20 ⟨Nat.zero_le _, Nat.zero_le _⟩) hS (fun q _ h => hFc q h) hFc (fun u t H1 locs ht9 hvm hw hB hz1 hk1 hS => ?_)
  obtain ⟨hP1, hD1⟩ := hB
  rw [ht9] at hP1
  obtain ⟨hP, hD⟩ := va_join (wr := [(h_S, .inr (0, [.ref h_S_characters, .int S_length, .int (0 : Int32), .ref h_S_names, .int (0 : Int32), .ref h_S_code, .int (0 : Int32), .ref h_S_ends, .ref h_S_firstUses])), (h_S_characters, .inl (cC, 240, .inl S_characters)), (h_S_names, .inl (cC, 7, .inl S_names)), (h_S_code, .inl (cC, 240, .inl S_code)), (h_S_ends, .inl (cI, 7, .inl S_ends))]) (w1 := (zd_pI cC cI cJ h_S_firstUses 26 S_firstUses_1)) hP hD [5] [0, 1, 2, 3, 4] rfl rfl (by decide) (by decide) hk1 hFc hP1 hD1
  generalize H1 = H at hP hS ⊢
  replace hP := hP.sub (ws' := (zd_S cC cI cJ h_S h_S_characters h_S_names h_S_code h_S_ends h_S_firstUses S_characters S_length (0 : Int32) S_names (0 : Int32) S_code (0 : Int32) S_ends S_firstUses_1)) [0, 1, 2, 3, 4, 5] rfl
  replace hD := hD.sub (ws' := (zd_S cC cI cJ h_S h_S_characters h_S_names h_S_code h_S_ends h_S_firstUses S_characters S_length (0 : Int32) S_names (0 : Int32) S_code (0 : Int32) S_ends S_firstUses_1)) [0, 1, 2, 3, 4, 5] (by decide) rfl
  refine lv_aload_n hx hb ze_S_findFault_23 rfl (lv_at hl 0 rfl) ?_
  obtain ⟨r2, S_at_2, S_names_2, S_count_2, S_code_2, S_codeLength_2, S_ends_2, S_firstUses_2, q2, h⟩ := z_b8_some h
  have hPc := hP.sub (ws' := (zd_S cC cI cJ h_S h_S_characters h_S_names h_S_code h_S_ends h_S_firstUses S_characters S_length (0 : Int32) S_names (0 : Int32) S_code (0 : Int32) S_ends S_firstUses_1)) [0, 1, 2, 3, 4, 5] rfl
  have hDc := hD.sub (ws' := (zd_S cC cI cJ h_S h_S_characters h_S_names h_S_code h_S_ends h_S_firstUses S_characters S_length (0 : Int32) S_names (0 : Int32) S_code (0 : Int32) S_ends S_firstUses_1)) [0, 1, 2, 3, 4, 5] (by decide) rfl
  have hFc := va_free (wc := (zd_S cC cI cJ h_S h_S_characters h_S_names h_S_code h_S_ends h_S_firstUses S_characters S_length (0 : Int32) S_names (0 : Int32) S_code (0 : Int32) S_ends S_firstUses_1)) hD hS hA [0, 1, 2, 3, 4, 5] rfl
  -- CALL S_readRules
  refine va_calli (va_runV (As := []) (rest := []) ⟨hx, hb, hml, hown, ht⟩ (zc_S_readRules l dC dI cC cI cJ tp h_S h_S_characters h_S_names h_S_code h_S_ends h_S_firstUses H.size S_characters S_length (0 : Int32) S_names (0 : Int32) S_code (0 : Int32) S_ends S_firstUses_1 r2 S_at_2 S_names_2 S_count_2 S_code_2 S_codeLength_2 S_ends_2 S_firstUses_2 q2) (cwV 0 ht (z_gV zw_276 zw_278 zw_0 zw_56 zw_279) rfl rfl rfl ⟨rfl, zh_S_readRules⟩ ⟨Nat.le_of_ble_eq_true rfl, Nat.le_of_ble_eq_true rfl⟩) ⟨fun a U g mk q => by obtain ⟨z0, z1, zP, zK, zD, zX⟩ := q; exact ⟨z0, z1, zP, va_K.moved (u := U) (U := U.calling g mk a) (Vm.Alike.refl U.vm) zK, zD, z_X.same rfl rfl zX⟩, va_recv hK hP (ci := 0) (q0 := 0) rfl rfl, fun U hU hW => ⟨rfl, by rw [hU], by rw [hU]; exact hPc, va_K.moved hW.alike hK, hDc.weaken (fun _ _ _ _ => trivial), hX.warm hS hFc hU hW⟩⟩ rfl rfl hl.1 rfl (lv_room (Nat.le_of_ble_eq_true rfl)) ze_S_findFault_24 ⟨Nat.zero_le _, Nat.zero_le _⟩) hS (fun q _ h => hFc q h) hFc (fun rv u t H1 locs ht9 hvm hw hB hz1 hk1 hS => ?_)
  obtain ⟨hP1, hD1⟩ := hB
  rw [ht9] at hP1
  have hw' : r2 = rv := Eq.symm hw
  subst hw'
  obtain ⟨hP, hD⟩ := va_join (wr := []) (w1 := (zd_S cC cI cJ h_S h_S_characters h_S_names h_S_code h_S_ends h_S_firstUses S_characters S_length S_at_2 S_names_2 S_count_2 S_code_2 S_codeLength_2 S_ends_2 S_firstUses_2)) hP hD [0, 1, 2, 3, 4, 5] [] rfl rfl (by decide) (by decide) hk1 hFc hP1 hD1
  generalize H1 = H at hP hS ⊢
  replace hP := hP.sub (ws' := (zd_S cC cI cJ h_S h_S_characters h_S_names h_S_code h_S_ends h_S_firstUses S_characters S_length S_at_2 S_names_2 S_count_2 S_code_2 S_codeLength_2 S_ends_2 S_firstUses_2)) [0, 1, 2, 3, 4, 5] rfl
  replace hD := hD.sub (ws' := (zd_S cC cI cJ h_S h_S_characters h_S_names h_S_code h_S_ends h_S_firstUses S_characters S_length S_at_2 S_names_2 S_count_2 S_code_2 S_codeLength_2 S_ends_2 S_firstUses_2)) [0, 1, 2, 3, 4, 5] (by decide) rfl
  refine lv_if_eq (tgt := 37) hx hb ze_S_findFault_27 (by decide) (fun c3 => ?_) (fun c3 => ?_)
  · replace h := z_it_t c3 h
    refine lv_aload_n hx hb ze_S_findFault_37 rfl (lv_at hl 0 rfl) ?_
    refine va_get (D := (dC, dI)) (ci := 0) (v := .int S_at_2) (C := "RuleNetwork$Script") (T := zT_S) (N := 9) hx hb ht zin_S hown hK hP 0 rfl rfl 2 (by decide) (ht _ zw_80) (fun _ h9 => h9) rfl ze_S_findFault_38 ?_
    refine lv_iconst (v := (1 : Int32)) hx hb ze_S_findFault_41 (by decide) ?_
    refine lv_iadd hx hb ze_S_findFault_42 ?_
    cases h
    exact W.iret hx hb hr (fun t ht9 hW => ⟨⟨_, (), rfl, rfl, by rw [ht9]; exact hP, hD⟩, hS.F ht9⟩) hS.2.2 ze_S_findFault_43
  · replace h := z_it_f c3 h
    refine lv_aload_n hx hb ze_S_findFault_30 rfl (lv_at hl 0 rfl) ?_
    obtain ⟨r4, q4, h⟩ := z_b1_some h
    have hPc := hP.sub (ws' := (zd_S cC cI cJ h_S h_S_characters h_S_names h_S_code h_S_ends h_S_firstUses S_characters S_length S_at_2 S_names_2 S_count_2 S_code_2 S_codeLength_2 S_ends_2 S_firstUses_2)) [0, 1, 2, 3, 4, 5] rfl
    have hDc := hD.sub (ws' := (zd_S cC cI cJ h_S h_S_characters h_S_names h_S_code h_S_ends h_S_firstUses S_characters S_length S_at_2 S_names_2 S_count_2 S_code_2 S_codeLength_2 S_ends_2 S_firstUses_2)) [0, 1, 2, 3, 4, 5] (by decide) rfl
    have hFc := va_free (wc := (zd_S cC cI cJ h_S h_S_characters h_S_names h_S_code h_S_ends h_S_firstUses S_characters S_length S_at_2 S_names_2 S_count_2 S_code_2 S_codeLength_2 S_ends_2 S_firstUses_2)) hD hS hA [0, 1, 2, 3, 4, 5] rfl
    -- CALL S_findStranger
    refine va_calli (va_runV (As := []) (rest := []) ⟨hx, hb, hml, hown, ht⟩ (zc_S_findStranger l dC dI cC cI cJ tp h_S h_S_characters h_S_names h_S_code h_S_ends h_S_firstUses H.size S_characters S_length S_at_2 S_names_2 S_count_2 S_code_2 S_codeLength_2 S_ends_2 S_firstUses_2 r4 q4) (cwV 0 ht (z_gV zw_318 zw_320 zw_9 zw_56 zw_321) rfl rfl rfl ⟨rfl, zh_S_findStranger⟩ ⟨Nat.le_of_ble_eq_true rfl, Nat.le_of_ble_eq_true rfl⟩) ⟨fun a U g mk q => by obtain ⟨z0, z1, zP, zK, zD, zX⟩ := q; exact ⟨z0, z1, zP, va_K.moved (u := U) (U := U.calling g mk a) (Vm.Alike.refl U.vm) zK, zD, z_X.same rfl rfl zX⟩, va_recv hK hP (ci := 0) (q0 := 0) rfl rfl, fun U hU hW => ⟨rfl, by rw [hU], by rw [hU]; exact hPc, va_K.moved hW.alike hK, hDc.weaken (fun _ _ _ _ => trivial), hX.warm hS hFc hU hW⟩⟩ rfl rfl hl.1 rfl (lv_room (Nat.le_of_ble_eq_true rfl)) ze_S_findFault_31 ⟨Nat.zero_le _, Nat.zero_le _⟩) hS (fun q _ h => hFc q h) hFc (fun rv u t H1 locs ht9 hvm hw hB hz1 hk1 hS => ?_)
    obtain ⟨hP1, hD1⟩ := hB
    rw [ht9] at hP1
    have hw' : r4 = rv := Eq.symm hw
    subst hw'
    obtain ⟨hP, hD⟩ := va_join (wr := []) (w1 := (zd_S cC cI cJ h_S h_S_characters h_S_names h_S_code h_S_ends h_S_firstUses S_characters S_length S_at_2 S_names_2 S_count_2 S_code_2 S_codeLength_2 S_ends_2 S_firstUses_2)) hP hD [0, 1, 2, 3, 4, 5] [] rfl rfl (by decide) (by decide) hk1 hFc hP1 hD1
    generalize H1 = H at hP hS ⊢
    replace hP := hP.sub (ws' := (zd_S cC cI cJ h_S h_S_characters h_S_names h_S_code h_S_ends h_S_firstUses S_characters S_length S_at_2 S_names_2 S_count_2 S_code_2 S_codeLength_2 S_ends_2 S_firstUses_2)) [0, 1, 2, 3, 4, 5] rfl
    replace hD := hD.sub (ws' := (zd_S cC cI cJ h_S h_S_characters h_S_names h_S_code h_S_ends h_S_firstUses S_characters S_length S_at_2 S_names_2 S_count_2 S_code_2 S_codeLength_2 S_ends_2 S_firstUses_2)) [0, 1, 2, 3, 4, 5] (by decide) rfl
    refine lv_goto (tgt := 43) hx hb ze_S_findFault_34 (by decide) ?_
    cases h
    exact W.iret hx hb hr (fun t ht9 hW => ⟨⟨_, (), rfl, rfl, by rw [ht9]; exact hP, hD⟩, hS.F ht9⟩) hS.2.2 ze_S_findFault_43
