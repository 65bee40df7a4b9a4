set_option maxHeartbeats 4000000 in
set_option maxRecDepth 100000 in
theorem zc_M_clear (l : Launch) (dC : Nat → ClassId) (dI : Nat → Nat → Nat) (cC : ClassId) (cI : ClassId) (cJ : ClassId) (tp : Nat) (h_M : Nat) (h_M_made : Nat) (sz : Nat) (M_made : Nat → Int32) (M_count : Int32) (M_genes : Int32) (M_low : Int64) (M_high : Int64) (o_M_count : Int32) (h : zf_M_clear M_count = some (o_M_count)) : Met l zy_M_clear zs_M_clear (rm_M_clear) (va_Pc [.ref h_M] (fun U => U.heap.size = sz ∧ va_P (dC, dI) vwCl (zd_M cC cI cJ h_M h_M_made M_made M_count M_genes M_low M_high) U.heap ∧ va_K (dC, dI) vwCl (z_tys cC cI cJ) U ∧ va_D (fun _ => True) (zd_M cC cI cJ h_M h_M_made M_made M_count M_genes M_low M_high) ∧ z_X tp (va_A (zd_M cC cI cJ h_M h_M_made M_made M_count M_genes M_low M_high) sz) U)) (zq_M_clear dC dI cC cI cJ h_M h_M_made M_made M_genes M_low M_high o_M_count (va_A (zd_M cC cI cJ h_M h_M_made M_made M_count M_genes M_low M_high) sz)) 0 0 (va_A (zd_M cC cI cJ h_M h_M_made M_made M_count M_genes M_low M_high) sz) := by
  refine Met.ofW (cc := zb_M_clear) (maxL := 1) (ret := none) (by decide) rfl ?_
  intro p e s m args below meth c s₁ B hml hv
  obtain ⟨rfl, hsz, hP, hK, hD0, hX⟩ := hv
  have hx := B.exec
  have hb := B.bytes
  have hr := B.returns
  have hts := atoms_spec (ws := zs_M_clear) B.pre
  have ht : ∀ w ∈ z_W, w.before _ s = true := fun w h => hts w (List.mem_cons_of_mem _ h)
  have hown : s.vm.findClass "RuleNetwork$CubeMaker" = some m.cls := findClass_of_methodNamed B.named
  have hlocks := B.notSynchronized
  have C0 : z_kx p s m _ meth c "RuleNetwork$CubeMaker" zb_M_clear 1 none := ⟨hx, hb, hr, hml, hown, ht, hlocks⟩
  subst hsz
  have hD := hD0.self (sz := s.heap.size)
  generalize hAe : va_A (zd_M cC cI cJ h_M h_M_made M_made M_count M_genes M_low M_high) s.heap.size = A at hD hX ⊢
  have hA : ∀ q : Nat, s.heap.size ≤ q → A q := fun q h => by rw [← hAe]; exact Or.inr h
  have hS : va_S A s.heap s.heap [] := va_S.rf
  have hl := lv_entry ([.ref h_M]) (n := 1) (Nat.le_of_ble_eq_true rfl)
  rw [lg_entry_eq]
  generalize (lg_sl ([.ref h_M]) ++ List.replicate (1 - (lg_sl ([.ref h_M])).length) Slot.unset).toArray = ls at hl ⊢
  have hl : lv_has ls 1 [(0, .ref h_M)] := hl
  rw [zf_M_clear] at h
  refine lv_aload_n hx hb ze_M_clear_0 rfl (lv_at hl 0 rfl) ?_
  refine lv_iconst (v := (0 : Int32)) hx hb ze_M_clear_1 (by decide) ?_
  refine va_put (D := (dC, dI)) (ci := 4) (v := .int (0 : Int32)) (ty := .int) (C := "RuleNetwork$CubeMaker") (T := zT_M) (N := 5) hx hb ht zin_M zty_M zty_M_ok znm_M hown hK hP hD hS 0 rfl rfl 1 (by decide) (ht _ zw_210) (fun _ h9 => h9) rfl (zty_M_ok 1 (by decide)) rfl rfl (Nat.le_of_ble_eq_true rfl) ze_M_clear_2 (fun H locs hP hD hS => ?_)
  have hP : va_P (dC, dI) vwCl (zd_M cC cI cJ h_M h_M_made M_made (0 : Int32) M_genes M_low M_high) H := hP
  have hD : va_D A (zd_M cC cI cJ h_M h_M_made M_made (0 : Int32) M_genes M_low M_high) := hD
  cases h
  exact W.vret hx hb hr (fun t ht9 hW => ⟨⟨(), rfl, trivial, by rw [ht9]; exact hP, hD⟩, hS.F ht9⟩) hS.2.2 ze_M_clear_5
set_option maxHeartbeats 4000000 in
set_option maxRecDepth 100000 in
theorem zk_M_countInside_5 {p : Program} {l : Launch} {e : Env} {s : State} {m : MethodId} {args : Array Value} {below : List Frame} {meth : Method} {c : Code} {dC : Nat → ClassId} {dI : Nat → Nat → Nat} {cC cI cJ : ClassId} {A : Nat → Prop} {tp : Nat} {h_M h_M_made : Nat} {M_made : Nat → Int32} {M_count : Int32} {o_r : Int32} (C0 : z_kx p s m args meth c "RuleNetwork$CubeMaker" zb_M_countInside 5 (some .int)) (hK : va_K (dC, dI) vwCl (z_tys cC cI cJ) s) (hA : ∀ q : Nat, s.heap.size ≤ q → A q) (hX : z_X tp A s) :
    ∀ n : Nat, ∀ (x1 : Int32) (x3 : Int32) (x4 : Int32) (M_genes : Int32) (M_low : Int64) (M_high : Int64) (H : Heap) (locs : List Loc) (ls : Array Slot), va_P (dC, dI) vwCl (zd_M cC cI cJ h_M h_M_made M_made M_count M_genes M_low M_high) H → va_D A (zd_M cC cI cJ h_M h_M_made M_made M_count M_genes M_low M_high) → va_S A s.heap H locs → lv_has ls 5 [(0, .ref h_M), (1, .int x1), (3, .int x3), (4, .int x4)] → zf_M_countInside_5 n x1 x3 x4 M_genes M_low M_high = some (o_r) → W p l e (headSpec zs_M_countInside rm_M_countInside).room s m args below meth c H locs 0 0 (MQ below (zq_M_countInside dC dI cC cI cJ h_M h_M_made M_made M_count M_genes M_low M_high o_r A) args s 0 0 A) (F0 m 5 ls []) := by
  obtain ⟨hx, hb, hr, hml, hown, ht, hlocks⟩ := id C0
  intro n
  induction n with
  | zero =>
    intro x1 x3 x4 M_genes M_low M_high H locs ls hP hD hS hl h
    cases (show none = some _ from h)
  | succ n ih =>
    intro x1 x3 x4 M_genes M_low M_high H locs ls hP hD hS hl h
    rw [zf_M_countInside_5] at h
    refine lv_iload hx hb ze_M_countInside_5 (lv_at hl 3 rfl) ?_
    refine lv_iconst (v := (1 : Int32)) hx hb ze_M_countInside_7 (by decide) ?_
    refine lv_aload_n hx hb ze_M_countInside_8 rfl (lv_at hl 0 rfl) ?_
    refine va_get (D := (dC, dI)) (ci := 4) (v := .int M_genes) (C := "RuleNetwork$CubeMaker") (T := zT_M) (N := 5) hx hb ht zin_M hown hK hP 0 rfl rfl 2 (by decide) (ht _ zw_212) (fun _ h9 => h9) rfl ze_M_countInside_9 ?_
    refine lv_ishl hx hb ze_M_countInside_12 ?_
    refine lv_icmp_ge (tgt := 43) hx hb ze_M_countInside_13 (by decide) (fun c1 => ?_) (fun c1 => ?_)
    · replace h := z_it_t c1 h
      refine lv_iload_n hx hb ze_M_countInside_43 rfl (lv_at hl 2 rfl) ?_
      cases h
      exact W.iret hx hb hr (fun t ht9 hW => ⟨⟨_, (), rfl, rfl, by rw [ht9]; exact hP, hD⟩, hS.F ht9⟩) hS.2.2 ze_M_countInside_44
    · replace h := z_it_f c1 h
      refine lv_iload_n hx hb ze_M_countInside_16 rfl (lv_at hl 2 rfl) ?_
      refine lv_aload_n hx hb ze_M_countInside_17 rfl (lv_at hl 0 rfl) ?_
      refine va_get (D := (dC, dI)) (ci := 4) (v := .long M_low) (C := "RuleNetwork$CubeMaker") (T := zT_M) (N := 5) hx hb ht zin_M hown hK hP 0 rfl rfl 3 (by decide) (ht _ zw_213) (fun _ h9 => h9) rfl ze_M_countInside_18 ?_
      refine lv_aload_n hx hb ze_M_countInside_21 rfl (lv_at hl 0 rfl) ?_
      refine va_get (D := (dC, dI)) (ci := 4) (v := .long M_high) (C := "RuleNetwork$CubeMaker") (T := zT_M) (N := 5) hx hb ht zin_M hown hK hP 0 rfl rfl 4 (by decide) (ht _ zw_214) (fun _ h9 => h9) rfl ze_M_countInside_22 ?_
      refine lv_iload hx hb ze_M_countInside_25 (lv_at hl 3 rfl) ?_
      obtain ⟨r2, q2, h⟩ := z_b1_some h
      have hPc := hP.sub (ws' := (zd_ cC cI cJ)) [] rfl
      have hDc := hD.sub (ws' := (zd_ cC cI cJ)) [] (by decide) rfl
      have hFc := va_free (wc := (zd_ cC cI cJ)) hD hS hA [] rfl
      -- CALL N_bitOf
      refine va_calli (va_runSN (As := [.long M_low, .long M_high, .int x4]) (rest := [.int x3]) ⟨hx, hb, hml, hown, ht⟩ (zc_N_bitOf l dC dI cC cI cJ tp H.size M_low M_high x4 r2 q2) ⟨va_cnB 3 ht (z_gC zw_372) rfl rfl rfl (show va_Nw (.methodLinkNest "RuleNetwork$CubeMaker" 48 zy_N_bitOf "RuleNetwork") s from hX.1 _ (List.mem_of_getElem? (i := 9) rfl)) (ht _ zw_55) zh_N_bitOf ⟨Nat.le_of_ble_eq_true rfl, Nat.le_of_ble_eq_true rfl⟩, ht _ zw_371, trivial⟩ ⟨fun a U g mk q => by obtain ⟨z0, z1, zP, zK, zD, zX⟩ := q; exact ⟨z0, z1, zP, va_K.moved (u := U) (U := U.calling g mk a) (Vm.Alike.refl U.vm) zK, zD, z_X.same rfl rfl zX⟩, fun U hU hW => ⟨rfl, by rw [hU], by rw [hU]; exact hPc, va_K.moved hW.alike hK, hDc.weaken (fun _ _ _ _ => trivial), hX.warm hS hFc hU hW⟩⟩ rfl rfl hl.1 rfl (lv_room (Nat.le_of_ble_eq_true rfl)) ze_M_countInside_27 ⟨Nat.zero_le _, Nat.zero_le _⟩) hS (fun q _ h => hFc q h) hFc (fun rv u t H1 locs ht9 hvm hw hB hz1 hk1 hS => ?_)
      obtain ⟨hP1, hD1⟩ := hB
      rw [ht9] at hP1
      have hw' : r2 = rv := Eq.symm hw
      subst hw'
      obtain ⟨hP, hD⟩ := va_join (wr := [(h_M, .inr (4, [.ref h_M_made, .int M_count, .int M_genes, .long M_low, .long M_high])), (h_M_made, .inl (cI, 128, .inl M_made))]) (w1 := (zd_ cC cI cJ)) hP hD [] [0, 1] rfl rfl (by decide) (by decide) hk1 hFc hP1 hD1
      generalize H1 = H at hP hS ⊢
      replace hP := hP.sub (ws' := (zd_M cC cI cJ h_M h_M_made M_made M_count M_genes M_low M_high)) [0, 1] rfl
      replace hD := hD.sub (ws' := (zd_M cC cI cJ h_M h_M_made M_made M_count M_genes M_low M_high)) [0, 1] (by decide) rfl
      refine lv_iadd hx hb ze_M_countInside_30 ?_
      refine lv_istore_n (lv' := [(3, .int (x3 + r2)), (0, .ref h_M), (1, .int x1), (4, .int x4)]) hx hb ze_M_countInside_31 rfl hl (by decide) rfl (fun ls hl => ?_)
      refine lv_iload hx hb ze_M_countInside_32 (lv_at hl 3 rfl) ?_
      refine lv_iconst (v := (1 : Int32)) hx hb ze_M_countInside_34 (by decide) ?_
      refine lv_iload_n hx hb ze_M_countInside_35 rfl (lv_at hl 2 rfl) ?_
      refine lv_ishl hx hb ze_M_countInside_36 ?_
      refine lv_iadd hx hb ze_M_countInside_37 ?_
      refine lv_istore (lv' := [(4, .int (x4 + ((1 : Int32) <<< (x1 &&& 31)))), (3, .int (x3 + r2)), (0, .ref h_M), (1, .int x1)]) hx hb ze_M_countInside_38 hl (by decide) rfl (fun ls hl => ?_)
      refine lv_goto (tgt := 5) hx hb ze_M_countInside_40 (by decide) ?_
      exact ih x1 (x3 + r2) (x4 + ((1 : Int32) <<< (x1 &&& 31))) M_genes M_low M_high _ _ _ hP hD hS (lv_sub hl [2, 3, 1, 0] rfl) h
set_option maxHeartbeats 4000000 in
set_option maxRecDepth 100000 in
theorem zc_M_countInside (l : Launch) (dC : Nat → ClassId) (dI : Nat → Nat → Nat) (cC : ClassId) (cI : ClassId) (cJ : ClassId) (tp : Nat) (h_M : Nat) (h_M_made : Nat) (sz : Nat) (M_made : Nat → Int32) (M_count : Int32) (M_genes : Int32) (M_low : Int64) (M_high : Int64) (x1 : Int32) (x2 : Int32) (o_r : Int32) (h : zf_M_countInside x1 x2 M_genes M_low M_high = some (o_r)) : Met l zy_M_countInside zs_M_countInside (rm_M_countInside) (va_Pc [.ref h_M, .int x1, .int x2] (fun U => U.heap.size = sz ∧ va_P (dC, dI) vwCl (zd_M cC cI cJ h_M h_M_made M_made M_count M_genes M_low M_high) U.heap ∧ va_K (dC, dI) vwCl (z_tys cC cI cJ) U ∧ va_D (fun _ => True) (zd_M cC cI cJ h_M h_M_made M_made M_count M_genes M_low M_high) ∧ z_X tp (va_A (zd_M cC cI cJ h_M h_M_made M_made M_count M_genes M_low M_high) sz) U)) (zq_M_countInside dC dI cC cI cJ h_M h_M_made M_made M_count M_genes M_low M_high o_r (va_A (zd_M cC cI cJ h_M h_M_made M_made M_count M_genes M_low M_high) sz)) 0 0 (va_A (zd_M cC cI cJ h_M h_M_made M_made M_count M_genes M_low M_high) sz) := by
  refine Met.ofW (cc := zb_M_countInside) (maxL := 5) (ret := (some .int)) (by decide) rfl ?_
  intro p e s m args below meth c s₁ B hml hv
  obtain ⟨rfl, hsz, hP, hK, hD0, hX⟩ := hv
  have hx := B.exec
  have hb := B.bytes
  have hr := B.returns
  have hts := atoms_spec (ws := zs_M_countInside) B.pre
  have ht : ∀ w ∈ z_W, w.before _ s = true := fun w h => hts w (List.mem_cons_of_mem _ h)
  have hown : s.vm.findClass "RuleNetwork$CubeMaker" = some m.cls := findClass_of_methodNamed B.named
  have hlocks := B.notSynchronized
  have C0 : z_kx p s m _ meth c "RuleNetwork$CubeMaker" zb_M_countInside 5 (some .int) := ⟨hx, hb, hr, hml, hown, ht, hlocks⟩
  subst hsz
  have hD := hD0.self (sz := s.heap.size)
  generalize hAe : va_A (zd_M cC cI cJ h_M h_M_made M_made M_count M_genes M_low M_high) s.heap.size = A at hD hX ⊢
  have hA : ∀ q : Nat, s.heap.size ≤ q → A q := fun q h => by rw [← hAe]; exact Or.inr h
  have hS : va_S A s.heap s.heap [] := va_S.rf
  have hl := lv_entry ([.ref h_M, .int x1, .int x2]) (n := 5) (Nat.le_of_ble_eq_true rfl)
  rw [lg_entry_eq]
  generalize (lg_sl ([.ref h_M, .int x1, .int x2]) ++ List.replicate (5 - (lg_sl ([.ref h_M, .int x1, .int x2])).length) Slot.unset).toArray = ls at hl ⊢
  have hl : lv_has ls 5 [(0, .ref h_M), (1, .int x1), (2, .int x2)] := hl
  rw [zf_M_countInside] at h
  refine lv_iconst (v := (0 : Int32)) hx hb ze_M_countInside_0 (by decide) ?_
  refine lv_istore_n (lv' := [(3, .int (0 : Int32)), (0, .ref h_M), (1, .int x1), (2, .int x2)]) hx hb ze_M_countInside_1 rfl hl (by decide) rfl (fun ls hl => ?_)
  refine lv_iload_n hx hb ze_M_countInside_2 rfl (lv_at hl 3 rfl) ?_
  refine lv_istore (lv' := [(4, .int x2), (3, .int (0 : Int32)), (0, .ref h_M), (1, .int x1), (2, .int x2)]) hx hb ze_M_countInside_3 hl (by decide) rfl (fun ls hl => ?_)
  exact zk_M_countInside_5 C0 hK hA hX z_FU x1 (0 : Int32) x2 M_genes M_low M_high _ _ _ hP hD hS (lv_sub hl [2, 3, 1, 0] rfl) h
set_option maxHeartbeats 4000000 in
set_option maxRecDepth 100000 in
theorem zk_M_makesDifference_7 {p : Program} {l : Launch} {e : Env} {s : State} {m : MethodId} {args : Array Value} {below : List Frame} {meth : Method} {c : Code} {dC : Nat → ClassId} {dI : Nat → Nat → Nat} {cC cI cJ : ClassId} {A : Nat → Prop} {tp : Nat} {h_M h_M_made : Nat} {M_made : Nat → Int32} {M_count : Int32} {o_r : Int32} (C0 : z_kx p s m args meth c "RuleNetwork$CubeMaker" zb_M_makesDifference 5 (some .boolean)) (hK : va_K (dC, dI) vwCl (z_tys cC cI cJ) s) (hA : ∀ q : Nat, s.heap.size ≤ q → A q) (hX : z_X tp A s) :
    ∀ n : Nat, ∀ (x3 : Int32) (x4 : Int32) (M_genes : Int32) (M_low : Int64) (M_high : Int64) (H : Heap) (locs : List Loc) (ls : Array Slot), va_P (dC, dI) vwCl (zd_M cC cI cJ h_M h_M_made M_made M_count M_genes M_low M_high) H → va_D A (zd_M cC cI cJ h_M h_M_made M_made M_count M_genes M_low M_high) → va_S A s.heap H locs → lv_has ls 5 [(0, .ref h_M), (3, .int x3), (4, .int x4)] → zf_M_makesDifference_7 n x3 x4 M_genes M_low M_high = some (o_r) → W p l e (headSpec zs_M_makesDifference rm_M_makesDifference).room s m args below meth c H locs 0 0 (MQ below (zq_M_makesDifference dC dI cC cI cJ h_M h_M_made M_made M_count M_genes M_low M_high o_r A) args s 0 0 A) (F0 m 7 ls []) := by
  obtain ⟨hx, hb, hr, hml, hown, ht, hlocks⟩ := id C0
  intro n
  induction n with
  | zero =>
    intro x3 x4 M_genes M_low M_high H locs ls hP hD hS hl h
    cases (show none = some _ from h)
  | succ n ih =>
    intro x3 x4 M_genes M_low M_high H locs ls hP hD hS hl h
    rw [zf_M_makesDifference_7] at h
    refine lv_iload hx hb ze_M_makesDifference_7 (lv_at hl 2 rfl) ?_
    refine lv_iconst (v := (1 : Int32)) hx hb ze_M_makesDifference_9 (by decide) ?_
    refine lv_aload_n hx hb ze_M_makesDifference_10 rfl (lv_at hl 0 rfl) ?_
    refine va_get (D := (dC, dI)) (ci := 4) (v := .int M_genes) (C := "RuleNetwork$CubeMaker") (T := zT_M) (N := 5) hx hb ht zin_M hown hK hP 0 rfl rfl 2 (by decide) (ht _ zw_212) (fun _ h9 => h9) rfl ze_M_makesDifference_11 ?_
    refine lv_ishl hx hb ze_M_makesDifference_14 ?_
    refine lv_icmp_ge (tgt := 62) hx hb ze_M_makesDifference_15 (by decide) (fun c1 => ?_) (fun c1 => ?_)
    · replace h := z_it_t c1 h
      refine lv_iconst (v := (0 : Int32)) hx hb ze_M_makesDifference_62 (by decide) ?_
      obtain ⟨hn, h⟩ := z_gb_some h
      cases h
      exact W.zret hx hb hr hn (fun t ht9 hW => ⟨⟨_, (), rfl, rfl, by rw [ht9]; exact hP, hD⟩, hS.F ht9⟩) hS.2.2 ze_M_makesDifference_63
    · replace h := z_it_f c1 h
      refine lv_aload_n hx hb ze_M_makesDifference_18 rfl (lv_at hl 0 rfl) ?_
      refine va_get (D := (dC, dI)) (ci := 4) (v := .long M_low) (C := "RuleNetwork$CubeMaker") (T := zT_M) (N := 5) hx hb ht zin_M hown hK hP 0 rfl rfl 3 (by decide) (ht _ zw_213) (fun _ h9 => h9) rfl ze_M_makesDifference_19 ?_
      refine lv_aload_n hx hb ze_M_makesDifference_22 rfl (lv_at hl 0 rfl) ?_
      refine va_get (D := (dC, dI)) (ci := 4) (v := .long M_high) (C := "RuleNetwork$CubeMaker") (T := zT_M) (N := 5) hx hb ht zin_M hown hK hP 0 rfl rfl 4 (by decide) (ht _ zw_214) (fun _ h9 => h9) rfl ze_M_makesDifference_23 ?_
      refine lv_iload hx hb ze_M_makesDifference_26 (lv_at hl 2 rfl) ?_
      obtain ⟨r2, q2, h⟩ := z_b1_some h
      have hPc := hP.sub (ws' := (zd_ cC cI cJ)) [] rfl
      have hDc := hD.sub (ws' := (zd_ cC cI cJ)) [] (by decide) rfl
      have hFc := va_free (wc := (zd_ cC cI cJ)) hD hS hA [] rfl
      -- CALL N_bitOf
      refine va_calli (va_runSN (As := [.long M_low, .long M_high, .int x4]) (rest := []) ⟨hx, hb, hml, hown, ht⟩ (zc_N_bitOf l dC dI cC cI cJ tp H.size M_low M_high x4 r2 q2) ⟨va_cnB 3 ht (z_gC zw_372) rfl rfl rfl (show va_Nw (.methodLinkNest "RuleNetwork$CubeMaker" 48 zy_N_bitOf "RuleNetwork") s from hX.1 _ (List.mem_of_getElem? (i := 9) rfl)) (ht _ zw_55) zh_N_bitOf ⟨Nat.le_of_ble_eq_true rfl, Nat.le_of_ble_eq_true rfl⟩, ht _ zw_371, trivial⟩ ⟨fun a U g mk q => by obtain ⟨z0, z1, zP, zK, zD, zX⟩ := q; exact ⟨z0, z1, zP, va_K.moved (u := U) (U := U.calling g mk a) (Vm.Alike.refl U.vm) zK, zD, z_X.same rfl rfl zX⟩, fun U hU hW => ⟨rfl, by rw [hU], by rw [hU]; exact hPc, va_K.moved hW.alike hK, hDc.weaken (fun _ _ _ _ => trivial), hX.warm hS hFc hU hW⟩⟩ rfl rfl hl.1 rfl (lv_room (Nat.le_of_ble_eq_true rfl)) ze_M_makesDifference_28 ⟨Nat.zero_le _, Nat.zero_le _⟩) hS (fun q _ h => hFc q h) hFc (fun rv u t H1 locs ht9 hvm hw hB hz1 hk1 hS => ?_)
      obtain ⟨hP1, hD1⟩ := hB
      rw [ht9] at hP1
      have hw' : r2 = rv := Eq.symm hw
      subst hw'
      obtain ⟨hP, hD⟩ := va_join (wr := [(h_M, .inr (4, [.ref h_M_made, .int M_count, .int M_genes, .long M_low, .long M_high])), (h_M_made, .inl (cI, 128, .inl M_made))]) (w1 := (zd_ cC cI cJ)) hP hD [] [0, 1] rfl rfl (by decide) (by decide) hk1 hFc hP1 hD1
      generalize H1 = H at hP hS ⊢
      replace hP := hP.sub (ws' := (zd_M cC cI cJ h_M h_M_made M_made M_count M_genes M_low M_high)) [0, 1] rfl
      replace hD := hD.sub (ws' := (zd_M cC cI cJ h_M h_M_made M_made M_count M_genes M_low M_high)) [0, 1] (by decide) rfl
      refine lv_aload_n hx hb ze_M_makesDifference_31 rfl (lv_at hl 0 rfl) ?_
      refine va_get (D := (dC, dI)) (ci := 4) (v := .long M_low) (C := "RuleNetwork$CubeMaker") (T := zT_M) (N := 5) hx hb ht zin_M hown hK hP 0 rfl rfl 3 (by decide) (ht _ zw_213) (fun _ h9 => h9) rfl ze_M_makesDifference_32 ?_
      refine lv_aload_n hx hb ze_M_makesDifference_35 rfl (lv_at hl 0 rfl) ?_
      refine va_get (D := (dC, dI)) (ci := 4) (v := .long M_high) (C := "RuleNetwork$CubeMaker") (T := zT_M) (N := 5) hx hb ht zin_M hown hK hP 0 rfl rfl 4 (by decide) (ht _ zw_214) (fun _ h9 => h9) rfl ze_M_makesDifference_36 ?_
      refine lv_iload hx hb ze_M_makesDifference_39 (lv_at hl 2 rfl) ?_
      refine lv_iload_n hx hb ze_M_makesDifference_41 rfl (lv_at hl 1 rfl) ?_
      refine lv_iadd hx hb ze_M_makesDifference_42 ?_
      obtain ⟨r3, q3, h⟩ := z_b1_some h
      have hPc := hP.sub (ws' := (zd_ cC cI cJ)) [] rfl
      have hDc := hD.sub (ws' := (zd_ cC cI cJ)) [] (by decide) rfl
      have hFc := va_free (wc := (zd_ cC cI cJ)) hD hS hA [] rfl
      -- CALL N_bitOf
      refine va_calli (va_runSN (As := [.long M_low, .long M_high, .int (x4 + x3)]) (rest := [.int r2]) ⟨hx, hb, hml, hown, ht⟩ (zc_N_bitOf l dC dI cC cI cJ tp H.size M_low M_high (x4 + x3) r3 q3) ⟨va_cnB 3 ht (z_gC zw_372) rfl rfl rfl (show va_Nw (.methodLinkNest "RuleNetwork$CubeMaker" 48 zy_N_bitOf "RuleNetwork") s from hX.1 _ (List.mem_of_getElem? (i := 9) rfl)) (ht _ zw_55) zh_N_bitOf ⟨Nat.le_of_ble_eq_true rfl, Nat.le_of_ble_eq_true rfl⟩, ht _ zw_371, trivial⟩ ⟨fun a U g mk q => by obtain ⟨z0, z1, zP, zK, zD, zX⟩ := q; exact ⟨z0, z1, zP, va_K.moved (u := U) (U := U.calling g mk a) (Vm.Alike.refl U.vm) zK, zD, z_X.same rfl rfl zX⟩, fun U hU hW => ⟨rfl, by rw [hU], by rw [hU]; exact hPc, va_K.moved hW.alike hK, hDc.weaken (fun _ _ _ _ => trivial), hX.warm hS hFc hU hW⟩⟩ rfl rfl hl.1 rfl (lv_room (Nat.le_of_ble_eq_true rfl)) ze_M_makesDifference_43 ⟨Nat.zero_le _, Nat.zero_le _⟩) hS (fun q _ h => hFc q h) hFc (fun rv u t H1 locs ht9 hvm hw hB hz1 hk1 hS => ?_)
      obtain ⟨hP1, hD1⟩ := hB
      rw [ht9] at hP1
      have hw' : r3 = rv := Eq.symm hw
      subst hw'
      obtain ⟨hP, hD⟩ := va_join (wr := [(h_M, .inr (4, [.ref h_M_made, .int M_count, .int M_genes, .long M_low, .long M_high])), (h_M_made, .inl (cI, 128, .inl M_made))]) (w1 := (zd_ cC cI cJ)) hP hD [] [0, 1] rfl rfl (by decide) (by decide) hk1 hFc hP1 hD1
      generalize H1 = H at hP hS ⊢
      replace hP := hP.sub (ws' := (zd_M cC cI cJ h_M h_M_made M_made M_count M_genes M_low M_high)) [0, 1] rfl
      replace hD := hD.sub (ws' := (zd_M cC cI cJ h_M h_M_made M_made M_count M_genes M_low M_high)) [0, 1] (by decide) rfl
      refine lv_icmp_eq (tgt := 51) hx hb ze_M_makesDifference_46 (by decide) (fun c4 => ?_) (fun c4 => ?_)
      · replace h := z_it_t c4 h
        refine lv_iload hx hb ze_M_makesDifference_51 (lv_at hl 2 rfl) ?_
        refine lv_iconst (v := (2 : Int32)) hx hb ze_M_makesDifference_53 (by decide) ?_
        refine lv_iload_n hx hb ze_M_makesDifference_54 rfl (lv_at hl 1 rfl) ?_
        refine lv_imul hx hb ze_M_makesDifference_55 ?_
        refine lv_iadd hx hb ze_M_makesDifference_56 ?_
        refine lv_istore (lv' := [(4, .int (x4 + ((2 : Int32) * x3))), (0, .ref h_M), (3, .int x3)]) hx hb ze_M_makesDifference_57 hl (by decide) rfl (fun ls hl => ?_)
        refine lv_goto (tgt := 7) hx hb ze_M_makesDifference_59 (by decide) ?_
        exact ih x3 (x4 + ((2 : Int32) * x3)) M_genes M_low M_high _ _ _ hP hD hS (lv_sub hl [1, 2, 0] rfl) h
      · replace h := z_it_f c4 h
        refine lv_iconst (v := (1 : Int32)) hx hb ze_M_makesDifference_49 (by decide) ?_
        obtain ⟨hn, h⟩ := z_gb_some h
        cases h
        exact W.zret hx hb hr hn (fun t ht9 hW => ⟨⟨_, (), rfl, rfl, by rw [ht9]; exact hP, hD⟩, hS.F ht9⟩) hS.2.2 ze_M_makesDifference_50
set_option maxHeartbeats 4000000 in
set_option maxRecDepth 100000 in
theorem zc_M_makesDifference (l : Launch) (dC : Nat → ClassId) (dI : Nat → Nat → Nat) (cC : ClassId) (cI : ClassId) (cJ : ClassId) (tp : Nat) (h_M : Nat) (h_M_made : Nat) (sz : Nat) (M_made : Nat → Int32) (M_count : Int32) (M_genes : Int32) (M_low : Int64) (M_high : Int64) (x1 : Int32) (x2 : Int32) (o_r : Int32) (h : zf_M_makesDifference x1 x2 M_genes M_low M_high = some (o_r)) : Met l zy_M_makesDifference zs_M_makesDifference (rm_M_makesDifference) (va_Pc [.ref h_M, .int x1, .int x2] (fun U => U.heap.size = sz ∧ va_P (dC, dI) vwCl (zd_M cC cI cJ h_M h_M_made M_made M_count M_genes M_low M_high) U.heap ∧ va_K (dC, dI) vwCl (z_tys cC cI cJ) U ∧ va_D (fun _ => True) (zd_M cC cI cJ h_M h_M_made M_made M_count M_genes M_low M_high) ∧ z_X tp (va_A (zd_M cC cI cJ h_M h_M_made M_made M_count M_genes M_low M_high) sz) U)) (zq_M_makesDifference dC dI cC cI cJ h_M h_M_made M_made M_count M_genes M_low M_high o_r (va_A (zd_M cC cI cJ h_M h_M_made M_made M_count M_genes M_low M_high) sz)) 0 0 (va_A (zd_M cC cI cJ h_M h_M_made M_made M_count M_genes M_low M_high) sz) := by
  refine Met.ofW (cc := zb_M_makesDifference) (maxL := 5) (ret := (some .boolean)) (by decide) rfl ?_
  intro p e s m args below meth c s₁ B hml hv
  obtain ⟨rfl, hsz, hP, hK, hD0, hX⟩ := hv
  have hx := B.exec
  have hb := B.bytes
  have hr := B.returns
  have hts := atoms_spec (ws := zs_M_makesDifference) B.pre
  have ht : ∀ w ∈ z_W, w.before _ s = true := fun w h => hts w (List.mem_cons_of_mem _ h)
  have hown : s.vm.findClass "RuleNetwork$CubeMaker" = some m.cls := findClass_of_methodNamed B.named
  have hlocks := B.notSynchronized
  have C0 : z_kx p s m _ meth c "RuleNetwork$CubeMaker" zb_M_makesDifference 5 (some .boolean) := ⟨hx, hb, hr, hml, hown, ht, hlocks⟩
  subst hsz
  have hD := hD0.self (sz := s.heap.size)
  generalize hAe : va_A (zd_M cC cI cJ h_M h_M_made M_made M_count M_genes M_low M_high) s.heap.size = A at hD hX ⊢
  have hA : ∀ q : Nat, s.heap.size ≤ q → A q := fun q h => by rw [← hAe]; exact Or.inr h
  have hS : va_S A s.heap s.heap [] := va_S.rf
  have hl := lv_entry ([.ref h_M, .int x1, .int x2]) (n := 5) (Nat.le_of_ble_eq_true rfl)
  rw [lg_entry_eq]
  generalize (lg_sl ([.ref h_M, .int x1, .int x2]) ++ List.replicate (5 - (lg_sl ([.ref h_M, .int x1, .int x2])).length) Slot.unset).toArray = ls at hl ⊢
  have hl : lv_has ls 5 [(0, .ref h_M), (1, .int x1), (2, .int x2)] := hl
  rw [zf_M_makesDifference] at h
  refine lv_iconst (v := (1 : Int32)) hx hb ze_M_makesDifference_0 (by decide) ?_
  refine lv_iload_n hx hb ze_M_makesDifference_1 rfl (lv_at hl 1 rfl) ?_
  refine lv_ishl hx hb ze_M_makesDifference_2 ?_
  refine lv_istore_n (lv' := [(3, .int ((1 : Int32) <<< (x1 &&& 31))), (0, .ref h_M), (1, .int x1), (2, .int x2)]) hx hb ze_M_makesDifference_3 rfl hl (by decide) rfl (fun ls hl => ?_)
  refine lv_iload_n hx hb ze_M_makesDifference_4 rfl (lv_at hl 3 rfl) ?_
  refine lv_istore (lv' := [(4, .int x2), (3, .int ((1 : Int32) <<< (x1 &&& 31))), (0, .ref h_M), (1, .int x1), (2, .int x2)]) hx hb ze_M_makesDifference_5 hl (by decide) rfl (fun ls hl => ?_)
  exact zk_M_makesDifference_7 C0 hK hA hX z_FU ((1 : Int32) <<< (x1 &&& 31)) x2 M_genes M_low M_high _ _ _ hP hD hS (lv_sub hl [2, 1, 0] rfl) h
set_option maxHeartbeats 4000000 in
set_option maxRecDepth 100000 in
theorem zc_M_given (l : Launch) (dC : Nat → ClassId) (dI : Nat → Nat → Nat) (cC : ClassId) (cI : ClassId) (cJ : ClassId) (tp : Nat) (sz : Nat) (x0 : Int32) (x1 : Int32) (o_r : Int32) (h : zf_M_given x0 x1 = some (o_r)) : Met l zy_M_given zs_M_given (rm_M_given) (va_Pc [.int x0, .int x1] (fun U => U.heap.size = sz ∧ va_P (dC, dI) vwCl (zd_ cC cI cJ) U.heap ∧ va_K (dC, dI) vwCl (z_tys cC cI cJ) U ∧ va_D (fun _ => True) (zd_ cC cI cJ) ∧ z_X tp (va_A (zd_ cC cI cJ) sz) U)) (zq_M_given dC dI cC cI cJ o_r (va_A (zd_ cC cI cJ) sz)) 0 0 (va_A (zd_ cC cI cJ) sz) := by
  refine Met.ofW (cc := zb_M_given) (maxL := 2) (ret := (some .int)) (by decide) rfl ?_
  intro p e s m args below meth c s₁ B hml hv
  obtain ⟨rfl, hsz, hP, hK, hD0, hX⟩ := hv
  have hx := B.exec
  have hb := B.bytes
  have hr := B.returns
  have hts := atoms_spec (ws := zs_M_given) B.pre
  have ht : ∀ w ∈ z_W, w.before _ s = true := fun w h => hts w (List.mem_cons_of_mem _ h)
  have hown : s.vm.findClass "RuleNetwork$CubeMaker" = some m.cls := findClass_of_methodNamed B.named
  have hlocks := B.notSynchronized
  have C0 : z_kx p s m _ meth c "RuleNetwork$CubeMaker" zb_M_given 2 (some .int) := ⟨hx, hb, hr, hml, hown, ht, hlocks⟩
  subst hsz
  have hD := hD0.self (sz := s.heap.size)
  generalize hAe : va_A (zd_ cC cI cJ) s.heap.size = A at hD hX ⊢
  have hA : ∀ q : Nat, s.heap.size ≤ q → A q := fun q h => by rw [← hAe]; exact Or.inr h
  have hS : va_S A s.heap s.heap [] := va_S.rf
  have hl := lv_entry ([.int x0, .int x1]) (n := 2) (Nat.le_of_ble_eq_true rfl)
  rw [lg_entry_eq]
  generalize (lg_sl ([.int x0, .int x1]) ++ List.replicate (2 - (lg_sl ([.int x0, .int x1])).length) Slot.unset).toArray = ls at hl ⊢
  have hl : lv_has ls 2 [(0, .int x0), (1, .int x1)] := hl
  rw [zf_M_given] at h
  refine lv_iload_n hx hb ze_M_given_0 rfl (lv_at hl 1 rfl) ?_
  refine lv_iconst (v := (2 : Int32)) hx hb ze_M_given_1 (by decide) ?_
  refine lv_iload_n hx hb ze_M_given_2 rfl (lv_at hl 0 rfl) ?_
  refine lv_imul hx hb ze_M_given_3 ?_
  refine lv_ishl hx hb ze_M_given_4 ?_
  cases h
  exact W.iret hx hb hr (fun t ht9 hW => ⟨⟨_, (), rfl, rfl, by rw [ht9]; exact hP, hD⟩, hS.F ht9⟩) hS.2.2 ze_M_given_5
set_option maxHeartbeats 4000000 in
set_option maxRecDepth 100000 in
theorem zk_M_anyFrom_4 {p : Program} {l : Launch} {e : Env} {s : State} {m : MethodId} {args : Array Value} {below : List Frame} {meth : Method} {c : Code} {dC : Nat → ClassId} {dI : Nat → Nat → Nat} {cC cI cJ : ClassId} {A : Nat → Prop} {tp : Nat} {h_M h_M_made : Nat} {M_made : Nat → Int32} {M_count : Int32} {M_low : Int64} {M_high : Int64} {o_r : Int32} (C0 : z_kx p s m args meth c "RuleNetwork$CubeMaker" zb_M_anyFrom 4 (some .int)) (hK : va_K (dC, dI) vwCl (z_tys cC cI cJ) s) (hA : ∀ q : Nat, s.heap.size ≤ q → A q) (hX : z_X tp A s) :
    ∀ n : Nat, ∀ (x2 : Int32) (x3 : Int32) (M_genes : Int32) (H : Heap) (locs : List Loc) (ls : Array Slot), va_P (dC, dI) vwCl (zd_M cC cI cJ h_M h_M_made M_made M_count M_genes M_low M_high) H → va_D A (zd_M cC cI cJ h_M h_M_made M_made M_count M_genes M_low M_high) → va_S A s.heap H locs → lv_has ls 4 [(0, .ref h_M), (2, .int x2), (3, .int x3)] → zf_M_anyFrom_4 n x2 x3 M_genes = some (o_r) → W p l e (headSpec zs_M_anyFrom rm_M_anyFrom).room s m args below meth c H locs 0 0 (MQ below (zq_M_anyFrom dC dI cC cI cJ h_M h_M_made M_made M_count M_genes M_low M_high o_r A) args s 0 0 A) (F0 m 4 ls []) := by
  obtain ⟨hx, hb, hr, hml, hown, ht, hlocks⟩ := id C0
  intro n
  induction n with
  | zero =>
    intro x2 x3 M_genes H locs ls hP hD hS hl h
    cases (show none = some _ from h)
  | succ n ih =>
    intro x2 x3 M_genes H locs ls hP hD hS hl h
    rw [zf_M_anyFrom_4] at h
    refine lv_iload_n hx hb ze_M_anyFrom_4 rfl (lv_at hl 2 rfl) ?_
    refine lv_aload_n hx hb ze_M_anyFrom_5 rfl (lv_at hl 0 rfl) ?_
    refine va_get (D := (dC, dI)) (ci := 4) (v := .int M_genes) (C := "RuleNetwork$CubeMaker") (T := zT_M) (N := 5) hx hb ht zin_M hown hK hP 0 rfl rfl 2 (by decide) (ht _ zw_212) (fun _ h9 => h9) rfl ze_M_anyFrom_6 ?_
    refine lv_icmp_ge (tgt := 26) hx hb ze_M_anyFrom_9 (by decide) (fun c1 => ?_) (fun c1 => ?_)
    · replace h := z_it_t c1 h
      refine lv_iload_n hx hb ze_M_anyFrom_26 rfl (lv_at hl 1 rfl) ?_
      cases h
      exact W.iret hx hb hr (fun t ht9 hW => ⟨⟨_, (), rfl, rfl, by rw [ht9]; exact hP, hD⟩, hS.F ht9⟩) hS.2.2 ze_M_anyFrom_27
    · replace h := z_it_f c1 h
      refine lv_iload_n hx hb ze_M_anyFrom_12 rfl (lv_at hl 1 rfl) ?_
      refine lv_iload_n hx hb ze_M_anyFrom_13 rfl (lv_at hl 2 rfl) ?_
      refine lv_iconst (v := (2 : Int32)) hx hb ze_M_anyFrom_14 (by decide) ?_
      obtain ⟨r2, q2, h⟩ := z_b1_some h
      have hPc := hP.sub (ws' := (zd_ cC cI cJ)) [] rfl
      have hDc := hD.sub (ws' := (zd_ cC cI cJ)) [] (by decide) rfl
      have hFc := va_free (wc := (zd_ cC cI cJ)) hD hS hA [] rfl
      -- CALL M_given
      refine va_calli (va_runS (As := [.int x3, .int (2 : Int32)]) (rest := [.int x2]) ⟨hx, hb, hml, hown, ht⟩ (zc_M_given l dC dI cC cI cJ tp H.size x3 (2 : Int32) r2 q2) (va_cwS 2 ht (z_gS zw_513 zw_514 zw_60 zw_515) rfl rfl rfl zh_M_given ⟨Nat.le_of_ble_eq_true rfl, Nat.le_of_ble_eq_true rfl⟩) ⟨fun a U g mk q => by obtain ⟨z0, z1, zP, zK, zD, zX⟩ := q; exact ⟨z0, z1, zP, va_K.moved (u := U) (U := U.calling g mk a) (Vm.Alike.refl U.vm) zK, zD, z_X.same rfl rfl zX⟩, fun U hU hW => ⟨rfl, by rw [hU], by rw [hU]; exact hPc, va_K.moved hW.alike hK, hDc.weaken (fun _ _ _ _ => trivial), hX.warm hS hFc hU hW⟩⟩ rfl rfl hl.1 rfl (lv_room (Nat.le_of_ble_eq_true rfl)) ze_M_anyFrom_15 ⟨Nat.zero_le _, Nat.zero_le _⟩) hS (fun q _ h => hFc q h) hFc (fun rv u t H1 locs ht9 hvm hw hB hz1 hk1 hS => ?_)
      obtain ⟨hP1, hD1⟩ := hB
      rw [ht9] at hP1
      have hw' : r2 = rv := Eq.symm hw
      subst hw'
      obtain ⟨hP, hD⟩ := va_join (wr := [(h_M, .inr (4, [.ref h_M_made, .int M_count, .int M_genes, .long M_low, .long M_high])), (h_M_made, .inl (cI, 128, .inl M_made))]) (w1 := (zd_ cC cI cJ)) hP hD [] [0, 1] rfl rfl (by decide) (by decide) hk1 hFc hP1 hD1
      generalize H1 = H at hP hS ⊢
      replace hP := hP.sub (ws' := (zd_M cC cI cJ h_M h_M_made M_made M_count M_genes M_low M_high)) [0, 1] rfl
      replace hD := hD.sub (ws' := (zd_M cC cI cJ h_M h_M_made M_made M_count M_genes M_low M_high)) [0, 1] (by decide) rfl
      refine lv_iadd hx hb ze_M_anyFrom_18 ?_
      refine lv_istore_n (lv' := [(2, .int (x2 + r2)), (0, .ref h_M), (3, .int x3)]) hx hb ze_M_anyFrom_19 rfl hl (by decide) rfl (fun ls hl => ?_)
      refine lv_iinc (v := (x3 + (1 : Int32))) (lv' := [(3, .int (x3 + (1 : Int32))), (2, .int (x2 + r2)), (0, .ref h_M)]) hx hb ze_M_anyFrom_20 hl (k := 2) rfl rfl (by decide) rfl (fun ls hl => ?_)
      refine lv_goto (tgt := 4) hx hb ze_M_anyFrom_23 (by decide) ?_
      exact ih (x2 + r2) (x3 + (1 : Int32)) M_genes _ _ _ hP hD hS (lv_sub hl [2, 1, 0] rfl) h
set_option maxHeartbeats 4000000 in
set_option maxRecDepth 100000 in
theorem zc_M_anyFrom (l : Launch) (dC : Nat → ClassId) (dI : Nat → Nat → Nat) (cC : ClassId) (cI : ClassId) (cJ : ClassId) (tp : Nat) (h_M : Nat) (h_M_made : Nat) (sz : Nat) (M_made : Nat → Int32) (M_count : Int32) (M_genes : Int32) (M_low : Int64) (M_high : Int64) (x1 : Int32) (o_r : Int32) (h : zf_M_anyFrom x1 M_genes = some (o_r)) : Met l zy_M_anyFrom zs_M_anyFrom (rm_M_anyFrom) (va_Pc [.ref h_M, .int x1] (fun U => U.heap.size = sz ∧ va_P (dC, dI) vwCl (zd_M cC cI cJ h_M h_M_made M_made M_count M_genes M_low M_high) U.heap ∧ va_K (dC, dI) vwCl (z_tys cC cI cJ) U ∧ va_D (fun _ => True) (zd_M cC cI cJ h_M h_M_made M_made M_count M_genes M_low M_high) ∧ z_X tp (va_A (zd_M cC cI cJ h_M h_M_made M_made M_count M_genes M_low M_high) sz) U)) (zq_M_anyFrom dC dI cC cI cJ h_M h_M_made M_made M_count M_genes M_low M_high o_r (va_A (zd_M cC cI cJ h_M h_M_made M_made M_count M_genes M_low M_high) sz)) 0 0 (va_A (zd_M cC cI cJ h_M h_M_made M_made M_count M_genes M_low M_high) sz) := by
  refine Met.ofW (cc := zb_M_anyFrom) (maxL := 4) (ret := (some .int)) (by decide) rfl ?_
  intro p e s m args below meth c s₁ B hml hv
  obtain ⟨rfl, hsz, hP, hK, hD0, hX⟩ := hv
  have hx := B.exec
  have hb := B.bytes
  have hr := B.returns
  have hts := atoms_spec (ws := zs_M_anyFrom) B.pre
  have ht : ∀ w ∈ z_W, w.before _ s = true := fun w h => hts w (List.mem_cons_of_mem _ h)
  have hown : s.vm.findClass "RuleNetwork$CubeMaker" = some m.cls := findClass_of_methodNamed B.named
  have hlocks := B.notSynchronized
  have C0 : z_kx p s m _ meth c "RuleNetwork$CubeMaker" zb_M_anyFrom 4 (some .int) := ⟨hx, hb, hr, hml, hown, ht, hlocks⟩
  subst hsz
  have hD := hD0.self (sz := s.heap.size)
  generalize hAe : va_A (zd_M cC cI cJ h_M h_M_made M_made M_count M_genes M_low M_high) s.heap.size = A at hD hX ⊢
  have hA : ∀ q : Nat, s.heap.size ≤ q → A q := fun q h => by rw [← hAe]; exact Or.inr h
  have hS : va_S A s.heap s.heap [] := va_S.rf
  have hl := lv_entry ([.ref h_M, .int x1]) (n := 4) (Nat.le_of_ble_eq_true rfl)
  rw [lg_entry_eq]
  generalize (lg_sl ([.ref h_M, .int x1]) ++ List.replicate (4 - (lg_sl ([.ref h_M, .int x1])).length) Slot.unset).toArray = ls at hl ⊢
  have hl : lv_has ls 4 [(0, .ref h_M), (1, .int x1)] := hl
  rw [zf_M_anyFrom] at h
  refine lv_iconst (v := (0 : Int32)) hx hb ze_M_anyFrom_0 (by decide) ?_
  refine lv_istore_n (lv' := [(2, .int (0 : Int32)), (0, .ref h_M), (1, .int x1)]) hx hb ze_M_anyFrom_1 rfl hl (by decide) rfl (fun ls hl => ?_)
  refine lv_iload_n hx hb ze_M_anyFrom_2 rfl (lv_at hl 2 rfl) ?_
  refine lv_istore_n (lv' := [(3, .int x1), (2, .int (0 : Int32)), (0, .ref h_M), (1, .int x1)]) hx hb ze_M_anyFrom_3 rfl hl (by decide) rfl (fun ls hl => ?_)
  exact zk_M_anyFrom_4 C0 hK hA hX z_FU (0 : Int32) x1 M_genes _ _ _ hP hD hS (lv_sub hl [2, 1, 0] rfl) h
set_option maxHeartbeats 4000000 in
set_option maxRecDepth 100000 in
theorem zc_M_split (l : Launch) : ∀ dd : Nat, zC_M_split l (rm_M_split dd) (zf_M_split dd) := by
  intro dd
  induction dd with
  | zero =>
    intro dC dI cC cI cJ tp h_M h_M_made sz M_made M_count M_genes M_low M_high x1 x2 x3 o_M_made o_M_count h
    cases (show none = some _ from h)
  | succ dd hrf =>
  intro dC dI cC cI cJ tp h_M h_M_made sz M_made M_count M_genes M_low M_high x1 x2 x3 o_M_made o_M_count h
  refine Met.ofW (cc := zb_M_split) (maxL := 5) (ret := none) (by decide) rfl ?_
  intro p e s m args below meth c s₁ B hml hv
  obtain ⟨rfl, hsz, hP, hK, hD0, hX⟩ := hv
  have hx := B.exec
  have hb := B.bytes
  have hr := B.returns
  have hts := atoms_spec (ws := zs_M_split) B.pre
  have ht : ∀ w ∈ z_W, w.before _ s = true := fun w h => hts w (List.mem_cons_of_mem _ h)
  have hown : s.vm.findClass "RuleNetwork$CubeMaker" = some m.cls := findClass_of_methodNamed B.named
  have hlocks := B.notSynchronized
  have C0 : z_kx p s m _ meth c "RuleNetwork$CubeMaker" zb_M_split 5 none := ⟨hx, hb, hr, hml, hown, ht, hlocks⟩
  subst hsz
  have hD := hD0.self (sz := s.heap.size)
  generalize hAe : va_A (zd_M cC cI cJ h_M h_M_made M_made M_count M_genes M_low M_high) s.heap.size = A at hD hX ⊢
  have hA : ∀ q : Nat, s.heap.size ≤ q → A q := fun q h => by rw [← hAe]; exact Or.inr h
  have hS : va_S A s.heap s.heap [] := va_S.rf
  have hl := lv_entry ([.ref h_M, .int x1, .int x2, .int x3]) (n := 5) (Nat.le_of_ble_eq_true rfl)
  rw [lg_entry_eq]
  generalize (lg_sl ([.ref h_M, .int x1, .int x2, .int x3]) ++ List.replicate (5 - (lg_sl ([.ref h_M, .int x1, .int x2, .int x3])).length) Slot.unset).toArray = ls at hl ⊢
  have hl : lv_has ls 5 [(0, .ref h_M), (1, .int x1), (2, .int x2), (3, .int x3)] := hl
  rw [zf_M_split, zf_M_split_b] at h
  refine lv_aload_n hx hb ze_M_split_0 rfl (lv_at hl 0 rfl) ?_
  refine lv_iload_n hx hb ze_M_split_1 rfl (lv_at hl 1 rfl) ?_
  refine lv_iload_n hx hb ze_M_split_2 rfl (lv_at hl 2 rfl) ?_
  obtain ⟨r1, q1, h⟩ := z_b1_some h
  have hPc := hP.sub (ws' := (zd_M cC cI cJ h_M h_M_made M_made M_count M_genes M_low M_high)) [0, 1] rfl
  have hDc := hD.sub (ws' := (zd_M cC cI cJ h_M h_M_made M_made M_count M_genes M_low M_high)) [0, 1] (by decide) rfl
  have hFc := va_free (wc := (zd_M cC cI cJ h_M h_M_made M_made M_count M_genes M_low M_high)) hD hS hA [0, 1] rfl
  -- CALL M_countInside
  refine va_calli (va_runV (As := [.int x1, .int x2]) (rest := []) ⟨hx, hb, hml, hown, ht⟩ (zc_M_countInside l dC dI cC cI cJ tp h_M h_M_made s.heap.size M_made M_count M_genes M_low M_high x1 x2 r1 q1) (cwV 2 ht (z_gV zw_504 zw_506 zw_23 zw_60 zw_507) rfl rfl rfl ⟨rfl, zh_M_countInside⟩ ⟨by dsimp only [headSpec, rm_M_split, rm_M_countInside]; omega, by dsimp only [headSpec, rm_M_split, rm_M_countInside]; omega⟩) ⟨fun a U g mk q => by obtain ⟨z0, z1, zP, zK, zD, zX⟩ := q; exact ⟨z0, z1, zP, va_K.moved (u := U) (U := U.calling g mk a) (Vm.Alike.refl U.vm) zK, zD, z_X.same rfl rfl zX⟩, va_recv hK hP (ci := 4) (q0 := 0) rfl rfl, fun U hU hW => ⟨rfl, by rw [hU], by rw [hU]; exact hPc, va_K.moved hW.alike hK, hDc.weaken (fun _ _ _ _ => trivial), hX.warm hS hFc hU hW⟩⟩ rfl rfl hl.1 rfl (lv_room (Nat.le_of_ble_eq_true rfl)) ze_M_split_3 ⟨Nat.zero_le _, Nat.zero_le _⟩) hS (fun q _ h => hFc q h) hFc (fun rv u t H1 locs ht9 hvm hw hB hz1 hk1 hS => ?_)
  obtain ⟨hP1, hD1⟩ := hB
  rw [ht9] at hP1
  have hw' : r1 = rv := Eq.symm hw
  subst hw'
  obtain ⟨hP, hD⟩ := va_join (wr := []) (w1 := (zd_M cC cI cJ h_M h_M_made M_made M_count M_genes M_low M_high)) hP hD [0, 1] [] rfl rfl (by decide) (by decide) hk1 hFc hP1 hD1
  generalize H1 = H at hP hS ⊢
  replace hP := hP.sub (ws' := (zd_M cC cI cJ h_M h_M_made M_made M_count M_genes M_low M_high)) [0, 1] rfl
  replace hD := hD.sub (ws' := (zd_M cC cI cJ h_M h_M_made M_made M_count M_genes M_low M_high)) [0, 1] (by decide) rfl
  refine lv_istore (lv' := [(4, .int r1), (0, .ref h_M), (1, .int x1), (2, .int x2), (3, .int x3)]) hx hb ze_M_split_6 hl (by decide) rfl (fun ls hl => ?_)
  refine lv_iload hx hb ze_M_split_8 (lv_at hl 0 rfl) ?_
  refine lv_iconst (v := (1 : Int32)) hx hb ze_M_split_10 (by decide) ?_
  refine lv_aload_n hx hb ze_M_split_11 rfl (lv_at hl 1 rfl) ?_
  refine va_get (D := (dC, dI)) (ci := 4) (v := .int M_genes) (C := "RuleNetwork$CubeMaker") (T := zT_M) (N := 5) hx hb ht zin_M hown hK hP 0 rfl rfl 2 (by decide) (ht _ zw_212) (fun _ h9 => h9) rfl ze_M_split_12 ?_
  refine lv_iload_n hx hb ze_M_split_15 rfl (lv_at hl 2 rfl) ?_
  refine lv_isub hx hb ze_M_split_16 ?_
  refine lv_ishl hx hb ze_M_split_17 ?_
  refine lv_icmp_ne (tgt := 50) hx hb ze_M_split_18 (by decide) (fun c2 => ?_) (fun c2 => ?_)
  · replace h := z_it_f c2 h
    refine lv_iload hx hb ze_M_split_50 (lv_at hl 0 rfl) ?_
    refine lv_if_le (tgt := 118) hx hb ze_M_split_52 (by decide) (fun c3 => ?_) (fun c3 => ?_)
    · replace h := z_it_t c3 h
      cases h
      exact W.vret hx hb hr (fun t ht9 hW => ⟨⟨(), rfl, trivial, by rw [ht9]; exact hP, hD⟩, hS.F ht9⟩) hS.2.2 ze_M_split_118
    · replace h := z_it_f c3 h
      refine lv_iload_n hx hb ze_M_split_55 rfl (lv_at hl 2 rfl) ?_
      refine lv_aload_n hx hb ze_M_split_56 rfl (lv_at hl 1 rfl) ?_
      refine va_get (D := (dC, dI)) (ci := 4) (v := .int M_genes) (C := "RuleNetwork$CubeMaker") (T := zT_M) (N := 5) hx hb ht zin_M hown hK hP 0 rfl rfl 2 (by decide) (ht _ zw_212) (fun _ h9 => h9) rfl ze_M_split_57 ?_
      refine lv_icmp_ge (tgt := 118) hx hb ze_M_split_60 (by decide) (fun c4 => ?_) (fun c4 => ?_)
      · replace h := z_it_t c4 h
        cases h
        exact W.vret hx hb hr (fun t ht9 hW => ⟨⟨(), rfl, trivial, by rw [ht9]; exact hP, hD⟩, hS.F ht9⟩) hS.2.2 ze_M_split_118
      · replace h := z_it_f c4 h
        refine lv_aload_n hx hb ze_M_split_63 rfl (lv_at hl 1 rfl) ?_
        refine lv_iload_n hx hb ze_M_split_64 rfl (lv_at hl 2 rfl) ?_
        refine lv_iload_n hx hb ze_M_split_65 rfl (lv_at hl 3 rfl) ?_
        obtain ⟨r5, q5, h⟩ := z_b1_some h
        have hPc := hP.sub (ws' := (zd_M cC cI cJ h_M h_M_made M_made M_count M_genes M_low M_high)) [0, 1] rfl
        have hDc := hD.sub (ws' := (zd_M cC cI cJ h_M h_M_made M_made M_count M_genes M_low M_high)) [0, 1] (by decide) rfl
        have hFc := va_free (wc := (zd_M cC cI cJ h_M h_M_made M_made M_count M_genes M_low M_high)) hD hS hA [0, 1] rfl
        -- CALL M_makesDifference
        refine va_calli (va_runV (As := [.int x1, .int x2]) (rest := []) ⟨hx, hb, hml, hown, ht⟩ (zc_M_makesDifference l dC dI cC cI cJ tp h_M h_M_made H.size M_made M_count M_genes M_low M_high x1 x2 r5 q5) (cwV 2 ht (z_gV zw_516 zw_518 zw_25 zw_60 zw_519) rfl rfl rfl ⟨rfl, zh_M_makesDifference⟩ ⟨by dsimp only [headSpec, rm_M_split, rm_M_makesDifference]; omega, by dsimp only [headSpec, rm_M_split, rm_M_makesDifference]; omega⟩) ⟨fun a U g mk q => by obtain ⟨z0, z1, zP, zK, zD, zX⟩ := q; exact ⟨z0, z1, zP, va_K.moved (u := U) (U := U.calling g mk a) (Vm.Alike.refl U.vm) zK, zD, z_X.same rfl rfl zX⟩, va_recv hK hP (ci := 4) (q0 := 0) rfl rfl, fun U hU hW => ⟨rfl, by rw [hU], by rw [hU]; exact hPc, va_K.moved hW.alike hK, hDc.weaken (fun _ _ _ _ => trivial), hX.warm hS hFc hU hW⟩⟩ rfl rfl hl.1 rfl (lv_room (Nat.le_of_ble_eq_true rfl)) ze_M_split_66 ⟨Nat.zero_le _, Nat.zero_le _⟩) hS (fun q _ h => hFc q h) hFc (fun rv u t H1 locs ht9 hvm hw hB hz1 hk1 hS => ?_)
        obtain ⟨hP1, hD1⟩ := hB
        rw [ht9] at hP1
        have hw' : r5 = rv := Eq.symm hw
        subst hw'
        obtain ⟨hP, hD⟩ := va_join (wr := []) (w1 := (zd_M cC cI cJ h_M h_M_made M_made M_count M_genes M_low M_high)) hP hD [0, 1] [] rfl rfl (by decide) (by decide) hk1 hFc hP1 hD1
        generalize H1 = H at hP hS ⊢
        replace hP := hP.sub (ws' := (zd_M cC cI cJ h_M h_M_made M_made M_count M_genes M_low M_high)) [0, 1] rfl
        replace hD := hD.sub (ws' := (zd_M cC cI cJ h_M h_M_made M_made M_count M_genes M_low M_high)) [0, 1] (by decide) rfl
        refine lv_if_eq (tgt := 103) hx hb ze_M_split_69 (by decide) (fun c6 => ?_) (fun c6 => ?_)
        · replace h := z_it_t c6 h
          refine lv_aload_n hx hb ze_M_split_103 rfl (lv_at hl 1 rfl) ?_
          refine lv_iload_n hx hb ze_M_split_104 rfl (lv_at hl 2 rfl) ?_
          refine lv_iconst (v := (1 : Int32)) hx hb ze_M_split_105 (by decide) ?_
          refine lv_iadd hx hb ze_M_split_106 ?_
          refine lv_iload_n hx hb ze_M_split_107 rfl (lv_at hl 3 rfl) ?_
          refine lv_iload_n hx hb ze_M_split_108 rfl (lv_at hl 4 rfl) ?_
          refine lv_iload_n hx hb ze_M_split_109 rfl (lv_at hl 2 rfl) ?_
          refine lv_iconst (v := (2 : Int32)) hx hb ze_M_split_110 (by decide) ?_
          obtain ⟨r7, q7, h⟩ := z_b1_some h
          have hPc := hP.sub (ws' := (zd_ cC cI cJ)) [] rfl
          have hDc := hD.sub (ws' := (zd_ cC cI cJ)) [] (by decide) rfl
          have hFc := va_free (wc := (zd_ cC cI cJ)) hD hS hA [] rfl
          -- CALL M_given
          refine va_calli (va_runS (As := [.int x1, .int (2 : Int32)]) (rest := [.int x3, .int x2, .int (x1 + (1 : Int32)), .ref h_M]) ⟨hx, hb, hml, hown, ht⟩ (zc_M_given l dC dI cC cI cJ tp H.size x1 (2 : Int32) r7 q7) (va_cwS 2 ht (z_gS zw_513 zw_514 zw_60 zw_515) rfl rfl rfl zh_M_given ⟨by dsimp only [headSpec, rm_M_split, rm_M_given]; omega, by dsimp only [headSpec, rm_M_split, rm_M_given]; omega⟩) ⟨fun a U g mk q => by obtain ⟨z0, z1, zP, zK, zD, zX⟩ := q; exact ⟨z0, z1, zP, va_K.moved (u := U) (U := U.calling g mk a) (Vm.Alike.refl U.vm) zK, zD, z_X.same rfl rfl zX⟩, fun U hU hW => ⟨rfl, by rw [hU], by rw [hU]; exact hPc, va_K.moved hW.alike hK, hDc.weaken (fun _ _ _ _ => trivial), hX.warm hS hFc hU hW⟩⟩ rfl rfl hl.1 rfl (lv_room (Nat.le_of_ble_eq_true rfl)) ze_M_split_111 ⟨Nat.zero_le _, Nat.zero_le _⟩) hS (fun q _ h => hFc q h) hFc (fun rv u t H1 locs ht9 hvm hw hB hz1 hk1 hS => ?_)
          obtain ⟨hP1, hD1⟩ := hB
          rw [ht9] at hP1
          have hw' : r7 = rv := Eq.symm hw
          subst hw'
          obtain ⟨hP, hD⟩ := va_join (wr := [(h_M, .inr (4, [.ref h_M_made, .int M_count, .int M_genes, .long M_low, .long M_high])), (h_M_made, .inl (cI, 128, .inl M_made))]) (w1 := (zd_ cC cI cJ)) hP hD [] [0, 1] rfl rfl (by decide) (by decide) hk1 hFc hP1 hD1
          generalize H1 = H at hP hS ⊢
          replace hP := hP.sub (ws' := (zd_M cC cI cJ h_M h_M_made M_made M_count M_genes M_low M_high)) [0, 1] rfl
          replace hD := hD.sub (ws' := (zd_M cC cI cJ h_M h_M_made M_made M_count M_genes M_low M_high)) [0, 1] (by decide) rfl
          refine lv_iadd hx hb ze_M_split_114 ?_
          obtain ⟨M_made_8, M_count_8, q8, h⟩ := z_b2_some h
          have hPc := hP.sub (ws' := (zd_M cC cI cJ h_M h_M_made M_made M_count M_genes M_low M_high)) [0, 1] rfl
          have hDc := hD.sub (ws' := (zd_M cC cI cJ h_M h_M_made M_made M_count M_genes M_low M_high)) [0, 1] (by decide) rfl
          have hFc := va_free (wc := (zd_M cC cI cJ h_M h_M_made M_made M_count M_genes M_low M_high)) hD hS hA [0, 1] rfl
          -- CALL M_split
          refine va_callv (va_runV (As := [.int (x1 + (1 : Int32)), .int x2, .int (x3 + r7)]) (rest := []) ⟨hx, hb, hml, hown, ht⟩ (hrf dC dI cC cI cJ tp h_M h_M_made H.size M_made M_count M_genes M_low M_high (x1 + (1 : Int32)) x2 (x3 + r7) M_made_8 M_count_8 q8) (cwV 3 ht (z_gV zw_500 zw_502 zw_22 zw_60 zw_503) rfl rfl rfl ⟨rfl, zh_M_split⟩ ⟨by dsimp only [headSpec, rm_M_split, rm_M_split]; omega, by dsimp only [headSpec, rm_M_split, rm_M_split]; omega⟩) ⟨fun a U g mk q => by obtain ⟨z0, z1, zP, zK, zD, zX⟩ := q; exact ⟨z0, z1, zP, va_K.moved (u := U) (U := U.calling g mk a) (Vm.Alike.refl U.vm) zK, zD, z_X.same rfl rfl zX⟩, va_recv hK hP (ci := 4) (q0 := 0) rfl rfl, fun U hU hW => ⟨rfl, by rw [hU], by rw [hU]; exact hPc, va_K.moved hW.alike hK, hDc.weaken (fun _ _ _ _ => trivial), hX.warm hS hFc hU hW⟩⟩ rfl rfl hl.1 rfl (lv_room (Nat.le_of_ble_eq_true rfl)) ze_M_split_115 ⟨Nat.zero_le _, Nat.zero_le _⟩) hS (fun q _ h => hFc q h) hFc (fun u t H1 locs ht9 hvm hw hB hz1 hk1 hS => ?_)
          obtain ⟨hP1, hD1⟩ := hB
          rw [ht9] at hP1
          obtain ⟨hP, hD⟩ := va_join (wr := []) (w1 := (zd_M cC cI cJ h_M h_M_made M_made_8 M_count_8 M_genes M_low M_high)) hP hD [0, 1] [] rfl rfl (by decide) (by decide) hk1 hFc hP1 hD1
          generalize H1 = H at hP hS ⊢
          replace hP := hP.sub (ws' := (zd_M cC cI cJ h_M h_M_made M_made_8 M_count_8 M_genes M_low M_high)) [0, 1] rfl
          replace hD := hD.sub (ws' := (zd_M cC cI cJ h_M h_M_made M_made_8 M_count_8 M_genes M_low M_high)) [0, 1] (by decide) rfl
          cases h
          exact W.vret hx hb hr (fun t ht9 hW => ⟨⟨(), rfl, trivial, by rw [ht9]; exact hP, hD⟩, hS.F ht9⟩) hS.2.2 ze_M_split_118
        · replace h := z_it_f c6 h
          refine lv_aload_n hx hb ze_M_split_72 rfl (lv_at hl 1 rfl) ?_
          refine lv_iload_n hx hb ze_M_split_73 rfl (lv_at hl 2 rfl) ?_
          refine lv_iconst (v := (1 : Int32)) hx hb ze_M_split_74 (by decide) ?_
          refine lv_iadd hx hb ze_M_split_75 ?_
          refine lv_iload_n hx hb ze_M_split_76 rfl (lv_at hl 3 rfl) ?_
          refine lv_iload_n hx hb ze_M_split_77 rfl (lv_at hl 4 rfl) ?_
          obtain ⟨M_made_9, M_count_9, q9, h⟩ := z_b2_some h
          have hPc := hP.sub (ws' := (zd_M cC cI cJ h_M h_M_made M_made M_count M_genes M_low M_high)) [0, 1] rfl
          have hDc := hD.sub (ws' := (zd_M cC cI cJ h_M h_M_made M_made M_count M_genes M_low M_high)) [0, 1] (by decide) rfl
          have hFc := va_free (wc := (zd_M cC cI cJ h_M h_M_made M_made M_count M_genes M_low M_high)) hD hS hA [0, 1] rfl
          -- CALL M_split
          refine va_callv (va_runV (As := [.int (x1 + (1 : Int32)), .int x2, .int x3]) (rest := []) ⟨hx, hb, hml, hown, ht⟩ (hrf dC dI cC cI cJ tp h_M h_M_made H.size M_made M_count M_genes M_low M_high (x1 + (1 : Int32)) x2 x3 M_made_9 M_count_9 q9) (cwV 3 ht (z_gV zw_500 zw_502 zw_22 zw_60 zw_503) rfl rfl rfl ⟨rfl, zh_M_split⟩ ⟨by dsimp only [headSpec, rm_M_split, rm_M_split]; omega, by dsimp only [headSpec, rm_M_split, rm_M_split]; omega⟩) ⟨fun a U g mk q => by obtain ⟨z0, z1, zP, zK, zD, zX⟩ := q; exact ⟨z0, z1, zP, va_K.moved (u := U) (U := U.calling g mk a) (Vm.Alike.refl U.vm) zK, zD, z_X.same rfl rfl zX⟩, va_recv hK hP (ci := 4) (q0 := 0) rfl rfl, fun U hU hW => ⟨rfl, by rw [hU], by rw [hU]; exact hPc, va_K.moved hW.alike hK, hDc.weaken (fun _ _ _ _ => trivial), hX.warm hS hFc hU hW⟩⟩ rfl rfl hl.1 rfl (lv_room (Nat.le_of_ble_eq_true rfl)) ze_M_split_78 ⟨Nat.zero_le _, Nat.zero_le _⟩) hS (fun q _ h => hFc q h) hFc (fun u t H1 locs ht9 hvm hw hB hz1 hk1 hS => ?_)
          obtain ⟨hP1, hD1⟩ := hB
          rw [ht9] at hP1
          obtain ⟨hP, hD⟩ := va_join (wr := []) (w1 := (zd_M cC cI cJ h_M h_M_made M_made_9 M_count_9 M_genes M_low M_high)) hP hD [0, 1] [] rfl rfl (by decide) (by decide) hk1 hFc hP1 hD1
          generalize H1 = H at hP hS ⊢
          replace hP := hP.sub (ws' := (zd_M cC cI cJ h_M h_M_made M_made_9 M_count_9 M_genes M_low M_high)) [0, 1] rfl
          replace hD := hD.sub (ws' := (zd_M cC cI cJ h_M h_M_made M_made_9 M_count_9 M_genes M_low M_high)) [0, 1] (by decide) rfl
          refine lv_aload_n hx hb ze_M_split_81 rfl (lv_at hl 1 rfl) ?_
          refine lv_iload_n hx hb ze_M_split_82 rfl (lv_at hl 2 rfl) ?_
          refine lv_iconst (v := (1 : Int32)) hx hb ze_M_split_83 (by decide) ?_
          refine lv_iadd hx hb ze_M_split_84 ?_
          refine lv_iload_n hx hb ze_M_split_85 rfl (lv_at hl 3 rfl) ?_
          refine lv_iconst (v := (1 : Int32)) hx hb ze_M_split_86 (by decide) ?_
          refine lv_iload_n hx hb ze_M_split_87 rfl (lv_at hl 2 rfl) ?_
          refine lv_ishl hx hb ze_M_split_88 ?_
          refine lv_iadd hx hb ze_M_split_89 ?_
          refine lv_iload_n hx hb ze_M_split_90 rfl (lv_at hl 4 rfl) ?_
          refine lv_iload_n hx hb ze_M_split_91 rfl (lv_at hl 2 rfl) ?_
          refine lv_iconst (v := (1 : Int32)) hx hb ze_M_split_92 (by decide) ?_
          obtain ⟨r10, q10, h⟩ := z_b1_some h
          have hPc := hP.sub (ws' := (zd_ cC cI cJ)) [] rfl
          have hDc := hD.sub (ws' := (zd_ cC cI cJ)) [] (by decide) rfl
          have hFc := va_free (wc := (zd_ cC cI cJ)) hD hS hA [] rfl
          -- CALL M_given
          refine va_calli (va_runS (As := [.int x1, .int (1 : Int32)]) (rest := [.int x3, .int (x2 + ((1 : Int32) <<< (x1 &&& 31))), .int (x1 + (1 : Int32)), .ref h_M]) ⟨hx, hb, hml, hown, ht⟩ (zc_M_given l dC dI cC cI cJ tp H.size x1 (1 : Int32) r10 q10) (va_cwS 2 ht (z_gS zw_513 zw_514 zw_60 zw_515) rfl rfl rfl zh_M_given ⟨by dsimp only [headSpec, rm_M_split, rm_M_given]; omega, by dsimp only [headSpec, rm_M_split, rm_M_given]; omega⟩) ⟨fun a U g mk q => by obtain ⟨z0, z1, zP, zK, zD, zX⟩ := q; exact ⟨z0, z1, zP, va_K.moved (u := U) (U := U.calling g mk a) (Vm.Alike.refl U.vm) zK, zD, z_X.same rfl rfl zX⟩, fun U hU hW => ⟨rfl, by rw [hU], by rw [hU]; exact hPc, va_K.moved hW.alike hK, hDc.weaken (fun _ _ _ _ => trivial), hX.warm hS hFc hU hW⟩⟩ rfl rfl hl.1 rfl (lv_room (Nat.le_of_ble_eq_true rfl)) ze_M_split_93 ⟨Nat.zero_le _, Nat.zero_le _⟩) hS (fun q _ h => hFc q h) hFc (fun rv u t H1 locs ht9 hvm hw hB hz1 hk1 hS => ?_)
          obtain ⟨hP1, hD1⟩ := hB
          rw [ht9] at hP1
          have hw' : r10 = rv := Eq.symm hw
          subst hw'
          obtain ⟨hP, hD⟩ := va_join (wr := [(h_M, .inr (4, [.ref h_M_made, .int M_count_9, .int M_genes, .long M_low, .long M_high])), (h_M_made, .inl (cI, 128, .inl M_made_9))]) (w1 := (zd_ cC cI cJ)) hP hD [] [0, 1] rfl rfl (by decide) (by decide) hk1 hFc hP1 hD1
          generalize H1 = H at hP hS ⊢
          replace hP := hP.sub (ws' := (zd_M cC cI cJ h_M h_M_made M_made_9 M_count_9 M_genes M_low M_high)) [0, 1] rfl
          replace hD := hD.sub (ws' := (zd_M cC cI cJ h_M h_M_made M_made_9 M_count_9 M_genes M_low M_high)) [0, 1] (by decide) rfl
          refine lv_iadd hx hb ze_M_split_96 ?_
          obtain ⟨M_made_11, M_count_11, q11, h⟩ := z_b2_some h
          have hPc := hP.sub (ws' := (zd_M cC cI cJ h_M h_M_made M_made_9 M_count_9 M_genes M_low M_high)) [0, 1] rfl
          have hDc := hD.sub (ws' := (zd_M cC cI cJ h_M h_M_made M_made_9 M_count_9 M_genes M_low M_high)) [0, 1] (by decide) rfl
          have hFc := va_free (wc := (zd_M cC cI cJ h_M h_M_made M_made_9 M_count_9 M_genes M_low M_high)) hD hS hA [0, 1] rfl
          -- CALL M_split
          refine va_callv (va_runV (As := [.int (x1 + (1 : Int32)), .int (x2 + ((1 : Int32) <<< (x1 &&& 31))), .int (x3 + r10)]) (rest := []) ⟨hx, hb, hml, hown, ht⟩ (hrf dC dI cC cI cJ tp h_M h_M_made H.size M_made_9 M_count_9 M_genes M_low M_high (x1 + (1 : Int32)) (x2 + ((1 : Int32) <<< (x1 &&& 31))) (x3 + r10) M_made_11 M_count_11 q11) (cwV 3 ht (z_gV zw_500 zw_502 zw_22 zw_60 zw_503) rfl rfl rfl ⟨rfl, zh_M_split⟩ ⟨by dsimp only [headSpec, rm_M_split, rm_M_split]; omega, by dsimp only [headSpec, rm_M_split, rm_M_split]; omega⟩) ⟨fun a U g mk q => by obtain ⟨z0, z1, zP, zK, zD, zX⟩ := q; exact ⟨z0, z1, zP, va_K.moved (u := U) (U := U.calling g mk a) (Vm.Alike.refl U.vm) zK, zD, z_X.same rfl rfl zX⟩, va_recv hK hP (ci := 4) (q0 := 0) rfl rfl, fun U hU hW => ⟨rfl, by rw [hU], by rw [hU]; exact hPc, va_K.moved hW.alike hK, hDc.weaken (fun _ _ _ _ => trivial), hX.warm hS hFc hU hW⟩⟩ rfl rfl hl.1 rfl (lv_room (Nat.le_of_ble_eq_true rfl)) ze_M_split_97 ⟨Nat.zero_le _, Nat.zero_le _⟩) hS (fun q _ h => hFc q h) hFc (fun u t H1 locs ht9 hvm hw hB hz1 hk1 hS => ?_)
          obtain ⟨hP1, hD1⟩ := hB
          rw [ht9] at hP1
          obtain ⟨hP, hD⟩ := va_join (wr := []) (w1 := (zd_M cC cI cJ h_M h_M_made M_made_11 M_count_11 M_genes M_low M_high)) hP hD [0, 1] [] rfl rfl (by decide) (by decide) hk1 hFc hP1 hD1
          generalize H1 = H at hP hS ⊢
          replace hP := hP.sub (ws' := (zd_M cC cI cJ h_M h_M_made M_made_11 M_count_11 M_genes M_low M_high)) [0, 1] rfl
          replace hD := hD.sub (ws' := (zd_M cC cI cJ h_M h_M_made M_made_11 M_count_11 M_genes M_low M_high)) [0, 1] (by decide) rfl
          refine lv_goto (tgt := 118) hx hb ze_M_split_100 (by decide) ?_
          cases h
          exact W.vret hx hb hr (fun t ht9 hW => ⟨⟨(), rfl, trivial, by rw [ht9]; exact hP, hD⟩, hS.F ht9⟩) hS.2.2 ze_M_split_118
  · replace h := z_it_t c2 h
    refine lv_aload_n hx hb ze_M_split_21 rfl (lv_at hl 1 rfl) ?_
    refine va_get (D := (dC, dI)) (ci := 4) (v := .ref h_M_made) (C := "RuleNetwork$CubeMaker") (T := zT_M) (N := 5) hx hb ht zin_M hown hK hP 0 rfl rfl 0 (by decide) (ht _ zw_208) (fun _ h9 => h9) rfl ze_M_split_22 ?_
    refine lv_aload_n hx hb ze_M_split_25 rfl (lv_at hl 1 rfl) ?_
    refine va_get (D := (dC, dI)) (ci := 4) (v := .int M_count) (C := "RuleNetwork$CubeMaker") (T := zT_M) (N := 5) hx hb ht zin_M hown hK hP 0 rfl rfl 1 (by decide) (ht _ zw_210) (fun _ h9 => h9) rfl ze_M_split_26 ?_
    refine lv_iload_n hx hb ze_M_split_29 rfl (lv_at hl 4 rfl) ?_
    refine lv_aload_n hx hb ze_M_split_30 rfl (lv_at hl 1 rfl) ?_
    refine lv_iload_n hx hb ze_M_split_31 rfl (lv_at hl 2 rfl) ?_
    obtain ⟨r12, q12, h⟩ := z_b1_some h
    have hPc := hP.sub (ws' := (zd_M cC cI cJ h_M h_M_made M_made M_count M_genes M_low M_high)) [0, 1] rfl
    have hDc := hD.sub (ws' := (zd_M cC cI cJ h_M h_M_made M_made M_count M_genes M_low M_high)) [0, 1] (by decide) rfl
    have hFc := va_free (wc := (zd_M cC cI cJ h_M h_M_made M_made M_count M_genes M_low M_high)) hD hS hA [0, 1] rfl
    -- CALL M_anyFrom
    refine va_calli (va_runV (As := [.int x1]) (rest := [.int x3, .int M_count, .ref h_M_made]) ⟨hx, hb, hml, hown, ht⟩ (zc_M_anyFrom l dC dI cC cI cJ tp h_M h_M_made H.size M_made M_count M_genes M_low M_high x1 r12 q12) (cwV 1 ht (z_gV zw_509 zw_511 zw_24 zw_60 zw_512) rfl rfl rfl ⟨rfl, zh_M_anyFrom⟩ ⟨by dsimp only [headSpec, rm_M_split, rm_M_anyFrom]; omega, by dsimp only [headSpec, rm_M_split, rm_M_anyFrom]; omega⟩) ⟨fun a U g mk q => by obtain ⟨z0, z1, zP, zK, zD, zX⟩ := q; exact ⟨z0, z1, zP, va_K.moved (u := U) (U := U.calling g mk a) (Vm.Alike.refl U.vm) zK, zD, z_X.same rfl rfl zX⟩, va_recv hK hP (ci := 4) (q0 := 0) rfl rfl, fun U hU hW => ⟨rfl, by rw [hU], by rw [hU]; exact hPc, va_K.moved hW.alike hK, hDc.weaken (fun _ _ _ _ => trivial), hX.warm hS hFc hU hW⟩⟩ rfl rfl hl.1 rfl (lv_room (Nat.le_of_ble_eq_true rfl)) ze_M_split_32 ⟨Nat.zero_le _, Nat.zero_le _⟩) hS (fun q _ h => hFc q h) hFc (fun rv u t H1 locs ht9 hvm hw hB hz1 hk1 hS => ?_)
    obtain ⟨hP1, hD1⟩ := hB
    rw [ht9] at hP1
    have hw' : r12 = rv := Eq.symm hw
    subst hw'
    obtain ⟨hP, hD⟩ := va_join (wr := []) (w1 := (zd_M cC cI cJ h_M h_M_made M_made M_count M_genes M_low M_high)) hP hD [0, 1] [] rfl rfl (by decide) (by decide) hk1 hFc hP1 hD1
    generalize H1 = H at hP hS ⊢
    replace hP := hP.sub (ws' := (zd_M cC cI cJ h_M h_M_made M_made M_count M_genes M_low M_high)) [0, 1] rfl
    replace hD := hD.sub (ws' := (zd_M cC cI cJ h_M h_M_made M_made M_count M_genes M_low M_high)) [0, 1] (by decide) rfl
    refine lv_iadd hx hb ze_M_split_35 ?_
    obtain ⟨g13, h⟩ := z_gd_some h
    refine va_iast hx hb hK hP hD hS 1 1 rfl rfl g13 ze_M_split_36 (fun H locs hP hD hS => ?_)
    have hP : va_P (dC, dI) vwCl (zd_M cC cI cJ h_M h_M_made (upd M_made M_count.toNatClampNeg (x3 + r12)) M_count M_genes M_low M_high) H := hP
    have hD : va_D A (zd_M cC cI cJ h_M h_M_made (upd M_made M_count.toNatClampNeg (x3 + r12)) M_count M_genes M_low M_high) := hD
    refine lv_aload_n hx hb ze_M_split_37 rfl (lv_at hl 1 rfl) ?_
    refine lv_dup hx hb ze_M_split_38 rfl ?_
    refine va_get (D := (dC, dI)) (ci := 4) (v := .int M_count) (C := "RuleNetwork$CubeMaker") (T := zT_M) (N := 5) hx hb ht zin_M hown hK hP 0 rfl rfl 1 (by decide) (ht _ zw_210) (fun _ h9 => h9) rfl ze_M_split_39 ?_
    refine lv_iconst (v := (1 : Int32)) hx hb ze_M_split_42 (by decide) ?_
    refine lv_iadd hx hb ze_M_split_43 ?_
    refine va_put (D := (dC, dI)) (ci := 4) (v := .int (M_count + (1 : Int32))) (ty := .int) (C := "RuleNetwork$CubeMaker") (T := zT_M) (N := 5) hx hb ht zin_M zty_M zty_M_ok znm_M hown hK hP hD hS 0 rfl rfl 1 (by decide) (ht _ zw_210) (fun _ h9 => h9) rfl (zty_M_ok 1 (by decide)) rfl rfl (Nat.le_of_ble_eq_true rfl) ze_M_split_44 (fun H locs hP hD hS => ?_)
    have hP : va_P (dC, dI) vwCl (zd_M cC cI cJ h_M h_M_made (upd M_made M_count.toNatClampNeg (x3 + r12)) (M_count + (1 : Int32)) M_genes M_low M_high) H := hP
    have hD : va_D A (zd_M cC cI cJ h_M h_M_made (upd M_made M_count.toNatClampNeg (x3 + r12)) (M_count + (1 : Int32)) M_genes M_low M_high) := hD
    refine lv_goto (tgt := 118) hx hb ze_M_split_47 (by decide) ?_
    cases h
    exact W.vret hx hb hr (fun t ht9 hW => ⟨⟨(), rfl, trivial, by rw [ht9]; exact hP, hD⟩, hS.F ht9⟩) hS.2.2 ze_M_split_118
set_option maxHeartbeats 4000000 in
set_option maxRecDepth 100000 in
theorem zc_M_make (l : Launch) (dC : Nat → ClassId) (dI : Nat → Nat → Nat) (cC : ClassId) (cI : ClassId) (cJ : ClassId) (tp : Nat) (h_M : Nat) (h_M_made : Nat) (sz : Nat) (M_made : Nat → Int32) (M_count : Int32) (M_genes : Int32) (M_low : Int64) (M_high : Int64) (x1 : Int32) (x2 : Int64) (x4 : Int64) (o_M_made : Nat → Int32) (o_M_count : Int32) (o_M_genes : Int32) (o_M_low : Int64) (o_M_high : Int64) (h : zf_M_make x1 x2 x4 M_made M_count M_genes M_low M_high = some (o_M_made, o_M_count, o_M_genes, o_M_low, o_M_high)) : Met l zy_M_make zs_M_make (rm_M_make) (va_Pc [.ref h_M, .int x1, .long x2, .long x4] (fun U => U.heap.size = sz ∧ va_P (dC, dI) vwCl (zd_M cC cI cJ h_M h_M_made M_made M_count M_genes M_low M_high) U.heap ∧ va_K (dC, dI) vwCl (z_tys cC cI cJ) U ∧ va_D (fun _ => True) (zd_M cC cI cJ h_M h_M_made M_made M_count M_genes M_low M_high) ∧ z_X tp (va_A (zd_M cC cI cJ h_M h_M_made M_made M_count M_genes M_low M_high) sz) U)) (zq_M_make dC dI cC cI cJ h_M h_M_made o_M_made o_M_count o_M_genes o_M_low o_M_high (va_A (zd_M cC cI cJ h_M h_M_made M_made M_count M_genes M_low M_high) sz)) 0 0 (va_A (zd_M cC cI cJ h_M h_M_made M_made M_count M_genes M_low M_high) sz) := by
  refine Met.ofW (cc := zb_M_make) (maxL := 6) (ret := none) (by decide) rfl ?_
  intro p e s m args below meth c s₁ B hml hv
  obtain ⟨rfl, hsz, hP, hK, hD0, hX⟩ := hv
  have hx := B.exec
  have hb := B.bytes
  have hr := B.returns
  have hts := atoms_spec (ws := zs_M_make) B.pre
  have ht : ∀ w ∈ z_W, w.before _ s = true := fun w h => hts w (List.mem_cons_of_mem _ h)
  have hown : s.vm.findClass "RuleNetwork$CubeMaker" = some m.cls := findClass_of_methodNamed B.named
  have hlocks := B.notSynchronized
  have C0 : z_kx p s m _ meth c "RuleNetwork$CubeMaker" zb_M_make 6 none := ⟨hx, hb, hr, hml, hown, ht, hlocks⟩
  subst hsz
  have hD := hD0.self (sz := s.heap.size)
  generalize hAe : va_A (zd_M cC cI cJ h_M h_M_made M_made M_count M_genes M_low M_high) s.heap.size = A at hD hX ⊢
  have hA : ∀ q : Nat, s.heap.size ≤ q → A q := fun q h => by rw [← hAe]; exact Or.inr h
  have hS : va_S A s.heap s.heap [] := va_S.rf
  have hl := lv_entry ([.ref h_M, .int x1, .long x2, .long x4]) (n := 6) (Nat.le_of_ble_eq_true rfl)
  rw [lg_entry_eq]
  generalize (lg_sl ([.ref h_M, .int x1, .long x2, .long x4]) ++ List.replicate (6 - (lg_sl ([.ref h_M, .int x1, .long x2, .long x4])).length) Slot.unset).toArray = ls at hl ⊢
  have hl : lv_has ls 6 [(0, .ref h_M), (1, .int x1), (2, .long x2), (4, .long x4)] := hl
  rw [zf_M_make] at h
  refine lv_aload_n hx hb ze_M_make_0 rfl (lv_at hl 0 rfl) ?_
  refine lv_iload_n hx hb ze_M_make_1 rfl (lv_at hl 1 rfl) ?_
  refine va_put (D := (dC, dI)) (ci := 4) (v := .int x1) (ty := .int) (C := "RuleNetwork$CubeMaker") (T := zT_M) (N := 5) hx hb ht zin_M zty_M zty_M_ok znm_M hown hK hP hD hS 0 rfl rfl 2 (by decide) (ht _ zw_212) (fun _ h9 => h9) rfl (zty_M_ok 2 (by decide)) rfl rfl (Nat.le_of_ble_eq_true rfl) ze_M_make_2 (fun H locs hP hD hS => ?_)
  have hP : va_P (dC, dI) vwCl (zd_M cC cI cJ h_M h_M_made M_made M_count x1 M_low M_high) H := hP
  have hD : va_D A (zd_M cC cI cJ h_M h_M_made M_made M_count x1 M_low M_high) := hD
  refine lv_aload_n hx hb ze_M_make_5 rfl (lv_at hl 0 rfl) ?_
  refine lv_lload_n hx hb ze_M_make_6 rfl (lv_at hl 2 rfl) ?_
  refine va_put (D := (dC, dI)) (ci := 4) (v := .long x2) (ty := .long) (C := "RuleNetwork$CubeMaker") (T := zT_M) (N := 5) hx hb ht zin_M zty_M zty_M_ok znm_M hown hK hP hD hS 0 rfl rfl 3 (by decide) (ht _ zw_213) (fun _ h9 => h9) rfl (zty_M_ok 3 (by decide)) rfl rfl (Nat.le_of_ble_eq_true rfl) ze_M_make_7 (fun H locs hP hD hS => ?_)
  have hP : va_P (dC, dI) vwCl (zd_M cC cI cJ h_M h_M_made M_made M_count x1 x2 M_high) H := hP
  have hD : va_D A (zd_M cC cI cJ h_M h_M_made M_made M_count x1 x2 M_high) := hD
  refine lv_aload_n hx hb ze_M_make_10 rfl (lv_at hl 0 rfl) ?_
  refine lv_lload hx hb ze_M_make_11 (lv_at hl 3 rfl) ?_
  refine va_put (D := (dC, dI)) (ci := 4) (v := .long x4) (ty := .long) (C := "RuleNetwork$CubeMaker") (T := zT_M) (N := 5) hx hb ht zin_M zty_M zty_M_ok znm_M hown hK hP hD hS 0 rfl rfl 4 (by decide) (ht _ zw_214) (fun _ h9 => h9) rfl (zty_M_ok 4 (by decide)) rfl rfl (Nat.le_of_ble_eq_true rfl) ze_M_make_13 (fun H locs hP hD hS => ?_)
  have hP : va_P (dC, dI) vwCl (zd_M cC cI cJ h_M h_M_made M_made M_count x1 x2 x4) H := hP
  have hD : va_D A (zd_M cC cI cJ h_M h_M_made M_made M_count x1 x2 x4) := hD
  refine lv_aload_n hx hb ze_M_make_16 rfl (lv_at hl 0 rfl) ?_
  refine lv_iconst (v := (0 : Int32)) hx hb ze_M_make_17 (by decide) ?_
  refine va_put (D := (dC, dI)) (ci := 4) (v := .int (0 : Int32)) (ty := .int) (C := "RuleNetwork$CubeMaker") (T := zT_M) (N := 5) hx hb ht zin_M zty_M zty_M_ok znm_M hown hK hP hD hS 0 rfl rfl 1 (by decide) (ht _ zw_210) (fun _ h9 => h9) rfl (zty_M_ok 1 (by decide)) rfl rfl (Nat.le_of_ble_eq_true rfl) ze_M_make_18 (fun H locs hP hD hS => ?_)
  have hP : va_P (dC, dI) vwCl (zd_M cC cI cJ h_M h_M_made M_made (0 : Int32) x1 x2 x4) H := hP
  have hD : va_D A (zd_M cC cI cJ h_M h_M_made M_made (0 : Int32) x1 x2 x4) := hD
  refine lv_aload_n hx hb ze_M_make_21 rfl (lv_at hl 0 rfl) ?_
  refine lv_iconst (v := (0 : Int32)) hx hb ze_M_make_22 (by decide) ?_
  refine lv_iconst (v := (0 : Int32)) hx hb ze_M_make_23 (by decide) ?_
  refine lv_iconst (v := (0 : Int32)) hx hb ze_M_make_24 (by decide) ?_
  obtain ⟨M_made_1, M_count_1, q1, h⟩ := z_b2_some h
  have hPc := hP.sub (ws' := (zd_M cC cI cJ h_M h_M_made M_made (0 : Int32) x1 x2 x4)) [0, 1] rfl
  have hDc := hD.sub (ws' := (zd_M cC cI cJ h_M h_M_made M_made (0 : Int32) x1 x2 x4)) [0, 1] (by decide) rfl
  have hFc := va_free (wc := (zd_M cC cI cJ h_M h_M_made M_made (0 : Int32) x1 x2 x4)) hD hS hA [0, 1] rfl
  -- CALL M_split
  refine va_callv (va_runV (As := [.int (0 : Int32), .int (0 : Int32), .int (0 : Int32)]) (rest := []) ⟨hx, hb, hml, hown, ht⟩ (zc_M_split l z_DEP dC dI cC cI cJ tp h_M h_M_made H.size M_made (0 : Int32) x1 x2 x4 (0 : Int32) (0 : Int32) (0 : Int32) M_made_1 M_count_1 q1) (cwV 3 ht (z_gV zw_500 zw_502 zw_22 zw_60 zw_503) rfl rfl rfl ⟨rfl, zh_M_split⟩ ⟨Nat.le_of_ble_eq_true rfl, Nat.le_of_ble_eq_true rfl⟩) ⟨fun a U g mk q => by obtain ⟨z0, z1, zP, zK, zD, zX⟩ := q; exact ⟨z0, z1, zP, va_K.moved (u := U) (U := U.calling g mk a) (Vm.Alike.refl U.vm) zK, zD, z_X.same rfl rfl zX⟩, va_recv hK hP (ci := 4) (q0 := 0) rfl rfl, fun U hU hW => ⟨rfl, by rw [hU], by rw [hU]; exact hPc, va_K.moved hW.alike hK, hDc.weaken (fun _ _ _ _ => trivial), hX.warm hS hFc hU hW⟩⟩ rfl rfl hl.1 rfl (lv_room (Nat.le_of_ble_eq_true rfl)) ze_M_make_25 ⟨Nat.zero_le _, Nat.zero_le _⟩) hS (fun q _ h => hFc q h) hFc (fun u t H1 locs ht9 hvm hw hB hz1 hk1 hS => ?_)
  obtain ⟨hP1, hD1⟩ := hB
  rw [ht9] at hP1
  obtain ⟨hP, hD⟩ := va_join (wr := []) (w1 := (zd_M cC cI cJ h_M h_M_made M_made_1 M_count_1 x1 x2 x4)) hP hD [0, 1] [] rfl rfl (by decide) (by decide) hk1 hFc hP1 hD1
  generalize H1 = H at hP hS ⊢
  replace hP := hP.sub (ws' := (zd_M cC cI cJ h_M h_M_made M_made_1 M_count_1 x1 x2 x4)) [0, 1] rfl
  replace hD := hD.sub (ws' := (zd_M cC cI cJ h_M h_M_made M_made_1 M_count_1 x1 x2 x4)) [0, 1] (by decide) rfl
  cases h
  exact W.vret hx hb hr (fun t ht9 hW => ⟨⟨(), rfl, trivial, by rw [ht9]; exact hP, hD⟩, hS.F ht9⟩) hS.2.2 ze_M_make_28
