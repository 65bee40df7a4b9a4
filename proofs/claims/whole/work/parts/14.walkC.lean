set_option maxHeartbeats 4000000 in
set_option maxRecDepth 100000 in
theorem zk_C_numberOf_10 {p : Program} {l : Launch} {e : Env} {s : State} {m : MethodId} {args : Array Value} {below : List Frame} {meth : Method} {c : Code} {dC : Nat → ClassId} {dI : Nat → Nat → Nat} {cC cI cJ : ClassId} {A : Nat → Prop} {tp : Nat} {h_C h_C_numbers h_C_zeros h_C_ones : Nat} {C_numbers : Nat → Int32} {o_r : Int32} {o_C_zeros : Nat → Int32} {o_C_ones : Nat → Int32} {o_C_nodes : Int32} (C0 : z_kx p s m args meth c "RuleNetwork$NodeCounter" zb_C_numberOf 5 (some .int)) (hK : va_K (dC, dI) vwCl (z_tys cC cI cJ) s) (hA : ∀ q : Nat, s.heap.size ≤ q → A q) (hX : z_X tp A s) :
    ∀ n : Nat, ∀ (x1 : Int32) (x2 : Int32) (x4 : Int32) (C_zeros : Nat → Int32) (C_ones : Nat → Int32) (C_nodes : Int32) (H : Heap) (locs : List Loc) (ls : Array Slot), va_P (dC, dI) vwCl (zd_C cC cI cJ h_C h_C_numbers h_C_zeros h_C_ones C_numbers C_zeros C_ones C_nodes) H → va_D A (zd_C cC cI cJ h_C h_C_numbers h_C_zeros h_C_ones C_numbers C_zeros C_ones C_nodes) → va_S A s.heap H locs → lv_has ls 5 [(0, .ref h_C), (1, .int x1), (2, .int x2), (4, .int x4)] → zf_C_numberOf_10 n x1 x2 x4 C_zeros C_ones C_nodes = some (o_r, o_C_zeros, o_C_ones, o_C_nodes) → W p l e (headSpec zs_C_numberOf rm_C_numberOf).room s m args below meth c H locs 0 0 (MQ below (zq_C_numberOf dC dI cC cI cJ h_C h_C_numbers h_C_zeros h_C_ones C_numbers o_r o_C_zeros o_C_ones o_C_nodes A) args s 0 0 A) (F0 m 10 ls []) := by
  obtain ⟨hx, hb, hr, hml, hown, ht, hlocks⟩ := id C0
  intro n
  induction n with
  | zero =>
    intro x1 x2 x4 C_zeros C_ones C_nodes H locs ls hP hD hS hl h
    cases (show none = some _ from h)
  | succ n ih =>
    intro x1 x2 x4 C_zeros C_ones C_nodes H locs ls hP hD hS hl h
    rw [zf_C_numberOf_10] at h
    refine lv_iload hx hb ze_C_numberOf_10 (lv_at hl 3 rfl) ?_
    refine lv_aload_n hx hb ze_C_numberOf_12 rfl (lv_at hl 0 rfl) ?_
    refine va_get (D := (dC, dI)) (ci := 3) (v := .int C_nodes) (C := "RuleNetwork$NodeCounter") (T := zT_C) (N := 4) hx hb ht zin_C hown hK hP 0 rfl rfl 3 (by decide) (ht _ zw_192) (fun _ h9 => h9) rfl ze_C_numberOf_13 ?_
    refine lv_icmp_ge (tgt := 52) hx hb ze_C_numberOf_16 (by decide) (fun c1 => ?_) (fun c1 => ?_)
    · replace h := z_it_t c1 h
      refine lv_aload_n hx hb ze_C_numberOf_52 rfl (lv_at hl 0 rfl) ?_
      refine va_get (D := (dC, dI)) (ci := 3) (v := .ref h_C_zeros) (C := "RuleNetwork$NodeCounter") (T := zT_C) (N := 4) hx hb ht zin_C hown hK hP 0 rfl rfl 1 (by decide) (ht _ zw_190) (fun _ h9 => h9) rfl ze_C_numberOf_53 ?_
      refine lv_aload_n hx hb ze_C_numberOf_56 rfl (lv_at hl 0 rfl) ?_
      refine va_get (D := (dC, dI)) (ci := 3) (v := .int C_nodes) (C := "RuleNetwork$NodeCounter") (T := zT_C) (N := 4) hx hb ht zin_C hown hK hP 0 rfl rfl 3 (by decide) (ht _ zw_192) (fun _ h9 => h9) rfl ze_C_numberOf_57 ?_
      refine lv_iload_n hx hb ze_C_numberOf_60 rfl (lv_at hl 1 rfl) ?_
      obtain ⟨g2, h⟩ := z_gd_some h
      refine va_iast hx hb hK hP hD hS 2 1 rfl rfl g2 ze_C_numberOf_61 (fun H locs hP hD hS => ?_)
      have hP : va_P (dC, dI) vwCl (zd_C cC cI cJ h_C h_C_numbers h_C_zeros h_C_ones C_numbers (upd C_zeros C_nodes.toNatClampNeg x1) C_ones C_nodes) H := hP
      have hD : va_D A (zd_C cC cI cJ h_C h_C_numbers h_C_zeros h_C_ones C_numbers (upd C_zeros C_nodes.toNatClampNeg x1) C_ones C_nodes) := hD
      refine lv_aload_n hx hb ze_C_numberOf_62 rfl (lv_at hl 0 rfl) ?_
      refine va_get (D := (dC, dI)) (ci := 3) (v := .ref h_C_ones) (C := "RuleNetwork$NodeCounter") (T := zT_C) (N := 4) hx hb ht zin_C hown hK hP 0 rfl rfl 2 (by decide) (ht _ zw_191) (fun _ h9 => h9) rfl ze_C_numberOf_63 ?_
      refine lv_aload_n hx hb ze_C_numberOf_66 rfl (lv_at hl 0 rfl) ?_
      refine va_get (D := (dC, dI)) (ci := 3) (v := .int C_nodes) (C := "RuleNetwork$NodeCounter") (T := zT_C) (N := 4) hx hb ht zin_C hown hK hP 0 rfl rfl 3 (by decide) (ht _ zw_192) (fun _ h9 => h9) rfl ze_C_numberOf_67 ?_
      refine lv_iload_n hx hb ze_C_numberOf_70 rfl (lv_at hl 2 rfl) ?_
      obtain ⟨g3, h⟩ := z_gd_some h
      refine va_iast hx hb hK hP hD hS 3 1 rfl rfl g3 ze_C_numberOf_71 (fun H locs hP hD hS => ?_)
      have hP : va_P (dC, dI) vwCl (zd_C cC cI cJ h_C h_C_numbers h_C_zeros h_C_ones C_numbers (upd C_zeros C_nodes.toNatClampNeg x1) (upd C_ones C_nodes.toNatClampNeg x2) C_nodes) H := hP
      have hD : va_D A (zd_C cC cI cJ h_C h_C_numbers h_C_zeros h_C_ones C_numbers (upd C_zeros C_nodes.toNatClampNeg x1) (upd C_ones C_nodes.toNatClampNeg x2) C_nodes) := hD
      refine lv_aload_n hx hb ze_C_numberOf_72 rfl (lv_at hl 0 rfl) ?_
      refine lv_dup hx hb ze_C_numberOf_73 rfl ?_
      refine va_get (D := (dC, dI)) (ci := 3) (v := .int C_nodes) (C := "RuleNetwork$NodeCounter") (T := zT_C) (N := 4) hx hb ht zin_C hown hK hP 0 rfl rfl 3 (by decide) (ht _ zw_192) (fun _ h9 => h9) rfl ze_C_numberOf_74 ?_
      refine lv_iconst (v := (1 : Int32)) hx hb ze_C_numberOf_77 (by decide) ?_
      refine lv_iadd hx hb ze_C_numberOf_78 ?_
      refine va_put (D := (dC, dI)) (ci := 3) (v := .int (C_nodes + (1 : Int32))) (ty := .int) (C := "RuleNetwork$NodeCounter") (T := zT_C) (N := 4) hx hb ht zin_C zty_C zty_C_ok znm_C hown hK hP hD hS 0 rfl rfl 3 (by decide) (ht _ zw_192) (fun _ h9 => h9) rfl (zty_C_ok 3 (by decide)) rfl rfl (Nat.le_of_ble_eq_true rfl) ze_C_numberOf_79 (fun H locs hP hD hS => ?_)
      have hP : va_P (dC, dI) vwCl (zd_C cC cI cJ h_C h_C_numbers h_C_zeros h_C_ones C_numbers (upd C_zeros C_nodes.toNatClampNeg x1) (upd C_ones C_nodes.toNatClampNeg x2) (C_nodes + (1 : Int32))) H := hP
      have hD : va_D A (zd_C cC cI cJ h_C h_C_numbers h_C_zeros h_C_ones C_numbers (upd C_zeros C_nodes.toNatClampNeg x1) (upd C_ones C_nodes.toNatClampNeg x2) (C_nodes + (1 : Int32))) := hD
      refine lv_aload_n hx hb ze_C_numberOf_82 rfl (lv_at hl 0 rfl) ?_
      refine va_get (D := (dC, dI)) (ci := 3) (v := .int (C_nodes + (1 : Int32))) (C := "RuleNetwork$NodeCounter") (T := zT_C) (N := 4) hx hb ht zin_C hown hK hP 0 rfl rfl 3 (by decide) (ht _ zw_192) (fun _ h9 => h9) rfl ze_C_numberOf_83 ?_
      refine lv_iconst (v := (1 : Int32)) hx hb ze_C_numberOf_86 (by decide) ?_
      refine lv_iadd hx hb ze_C_numberOf_87 ?_
      cases h
      exact W.iret hx hb hr (fun t ht9 hW => ⟨⟨_, (), rfl, rfl, by rw [ht9]; exact hP, hD⟩, hS.F ht9⟩) hS.2.2 ze_C_numberOf_88
    · replace h := z_it_f c1 h
      refine lv_aload_n hx hb ze_C_numberOf_19 rfl (lv_at hl 0 rfl) ?_
      refine va_get (D := (dC, dI)) (ci := 3) (v := .ref h_C_zeros) (C := "RuleNetwork$NodeCounter") (T := zT_C) (N := 4) hx hb ht zin_C hown hK hP 0 rfl rfl 1 (by decide) (ht _ zw_190) (fun _ h9 => h9) rfl ze_C_numberOf_20 ?_
      refine lv_iload hx hb ze_C_numberOf_23 (lv_at hl 3 rfl) ?_
      obtain ⟨g4, h⟩ := z_gd_some h
      refine va_iald hx hb hK hP 2 1 rfl rfl g4 ze_C_numberOf_25 ?_
      refine lv_iload_n hx hb ze_C_numberOf_26 rfl (lv_at hl 1 rfl) ?_
      refine lv_icmp_ne (tgt := 46) hx hb ze_C_numberOf_27 (by decide) (fun c5 => ?_) (fun c5 => ?_)
      · replace h := z_it_f c5 h
        refine lv_iinc (v := (x4 + (1 : Int32))) (lv' := [(4, .int (x4 + (1 : Int32))), (0, .ref h_C), (1, .int x1), (2, .int x2)]) hx hb ze_C_numberOf_46 hl (k := 3) rfl rfl (by decide) rfl (fun ls hl => ?_)
        refine lv_goto (tgt := 10) hx hb ze_C_numberOf_49 (by decide) ?_
        exact ih x1 x2 (x4 + (1 : Int32)) C_zeros C_ones C_nodes _ _ _ hP hD hS (lv_sub hl [1, 2, 3, 0] rfl) h
      · replace h := z_it_t c5 h
        refine lv_aload_n hx hb ze_C_numberOf_30 rfl (lv_at hl 0 rfl) ?_
        refine va_get (D := (dC, dI)) (ci := 3) (v := .ref h_C_ones) (C := "RuleNetwork$NodeCounter") (T := zT_C) (N := 4) hx hb ht zin_C hown hK hP 0 rfl rfl 2 (by decide) (ht _ zw_191) (fun _ h9 => h9) rfl ze_C_numberOf_31 ?_
        refine lv_iload hx hb ze_C_numberOf_34 (lv_at hl 3 rfl) ?_
        obtain ⟨g6, h⟩ := z_gd_some h
        refine va_iald hx hb hK hP 3 1 rfl rfl g6 ze_C_numberOf_36 ?_
        refine lv_iload_n hx hb ze_C_numberOf_37 rfl (lv_at hl 2 rfl) ?_
        refine lv_icmp_ne (tgt := 46) hx hb ze_C_numberOf_38 (by decide) (fun c7 => ?_) (fun c7 => ?_)
        · replace h := z_it_f c7 h
          refine lv_iinc (v := (x4 + (1 : Int32))) (lv' := [(4, .int (x4 + (1 : Int32))), (0, .ref h_C), (1, .int x1), (2, .int x2)]) hx hb ze_C_numberOf_46 hl (k := 3) rfl rfl (by decide) rfl (fun ls hl => ?_)
          refine lv_goto (tgt := 10) hx hb ze_C_numberOf_49 (by decide) ?_
          exact ih x1 x2 (x4 + (1 : Int32)) C_zeros C_ones C_nodes _ _ _ hP hD hS (lv_sub hl [1, 2, 3, 0] rfl) h
        · replace h := z_it_t c7 h
          refine lv_iload hx hb ze_C_numberOf_41 (lv_at hl 3 rfl) ?_
          refine lv_iconst (v := (2 : Int32)) hx hb ze_C_numberOf_43 (by decide) ?_
          refine lv_iadd hx hb ze_C_numberOf_44 ?_
          cases h
          exact W.iret hx hb hr (fun t ht9 hW => ⟨⟨_, (), rfl, rfl, by rw [ht9]; exact hP, hD⟩, hS.F ht9⟩) hS.2.2 ze_C_numberOf_45
set_option maxHeartbeats 4000000 in
set_option maxRecDepth 100000 in
theorem zc_C_numberOf (l : Launch) (dC : Nat → ClassId) (dI : Nat → Nat → Nat) (cC : ClassId) (cI : ClassId) (cJ : ClassId) (tp : Nat) (h_C : Nat) (h_C_numbers : Nat) (h_C_zeros : Nat) (h_C_ones : Nat) (sz : Nat) (C_numbers : Nat → Int32) (C_zeros : Nat → Int32) (C_ones : Nat → Int32) (C_nodes : Int32) (x1 : Int32) (x2 : Int32) (x3 : Int32) (o_r : Int32) (o_C_zeros : Nat → Int32) (o_C_ones : Nat → Int32) (o_C_nodes : Int32) (h : zf_C_numberOf x1 x2 x3 C_zeros C_ones C_nodes = some (o_r, o_C_zeros, o_C_ones, o_C_nodes)) : Met l zy_C_numberOf zs_C_numberOf (rm_C_numberOf) (va_Pc [.ref h_C, .int x1, .int x2, .int x3] (fun U => U.heap.size = sz ∧ va_P (dC, dI) vwCl (zd_C cC cI cJ h_C h_C_numbers h_C_zeros h_C_ones C_numbers C_zeros C_ones C_nodes) U.heap ∧ va_K (dC, dI) vwCl (z_tys cC cI cJ) U ∧ va_D (fun _ => True) (zd_C cC cI cJ h_C h_C_numbers h_C_zeros h_C_ones C_numbers C_zeros C_ones C_nodes) ∧ z_X tp (va_A (zd_C cC cI cJ h_C h_C_numbers h_C_zeros h_C_ones C_numbers C_zeros C_ones C_nodes) sz) U)) (zq_C_numberOf dC dI cC cI cJ h_C h_C_numbers h_C_zeros h_C_ones C_numbers o_r o_C_zeros o_C_ones o_C_nodes (va_A (zd_C cC cI cJ h_C h_C_numbers h_C_zeros h_C_ones C_numbers C_zeros C_ones C_nodes) sz)) 0 0 (va_A (zd_C cC cI cJ h_C h_C_numbers h_C_zeros h_C_ones C_numbers C_zeros C_ones C_nodes) sz) := by
  refine Met.ofW (cc := zb_C_numberOf) (maxL := 5) (ret := (some .int)) (by decide) rfl ?_
  intro p e s m args below meth c s₁ B hml hv
  obtain ⟨rfl, hsz, hP, hK, hD0, hX⟩ := hv
  have hx := B.exec
  have hb := B.bytes
  have hr := B.returns
  have hts := atoms_spec (ws := zs_C_numberOf) B.pre
  have ht : ∀ w ∈ z_W, w.before _ s = true := fun w h => hts w (List.mem_cons_of_mem _ h)
  have hown : s.vm.findClass "RuleNetwork$NodeCounter" = some m.cls := findClass_of_methodNamed B.named
  have hlocks := B.notSynchronized
  have C0 : z_kx p s m _ meth c "RuleNetwork$NodeCounter" zb_C_numberOf 5 (some .int) := ⟨hx, hb, hr, hml, hown, ht, hlocks⟩
  subst hsz
  have hD := hD0.self (sz := s.heap.size)
  generalize hAe : va_A (zd_C cC cI cJ h_C h_C_numbers h_C_zeros h_C_ones C_numbers C_zeros C_ones C_nodes) s.heap.size = A at hD hX ⊢
  have hA : ∀ q : Nat, s.heap.size ≤ q → A q := fun q h => by rw [← hAe]; exact Or.inr h
  have hS : va_S A s.heap s.heap [] := va_S.rf
  have hl := lv_entry ([.ref h_C, .int x1, .int x2, .int x3]) (n := 5) (Nat.le_of_ble_eq_true rfl)
  rw [lg_entry_eq]
  generalize (lg_sl ([.ref h_C, .int x1, .int x2, .int x3]) ++ List.replicate (5 - (lg_sl ([.ref h_C, .int x1, .int x2, .int x3])).length) Slot.unset).toArray = ls at hl ⊢
  have hl : lv_has ls 5 [(0, .ref h_C), (1, .int x1), (2, .int x2), (3, .int x3)] := hl
  rw [zf_C_numberOf] at h
  refine lv_iload_n hx hb ze_C_numberOf_0 rfl (lv_at hl 1 rfl) ?_
  refine lv_iload_n hx hb ze_C_numberOf_1 rfl (lv_at hl 2 rfl) ?_
  refine lv_icmp_ne (tgt := 7) hx hb ze_C_numberOf_2 (by decide) (fun c1 => ?_) (fun c1 => ?_)
  · replace h := z_it_f c1 h
    refine lv_iload_n hx hb ze_C_numberOf_7 rfl (lv_at hl 3 rfl) ?_
    refine lv_istore (lv' := [(4, .int x3), (0, .ref h_C), (1, .int x1), (2, .int x2), (3, .int x3)]) hx hb ze_C_numberOf_8 hl (by decide) rfl (fun ls hl => ?_)
    exact zk_C_numberOf_10 C0 hK hA hX z_FU x1 x2 x3 C_zeros C_ones C_nodes _ _ _ hP hD hS (lv_sub hl [1, 2, 3, 0] rfl) h
  · replace h := z_it_t c1 h
    refine lv_iload_n hx hb ze_C_numberOf_5 rfl (lv_at hl 1 rfl) ?_
    cases h
    exact W.iret hx hb hr (fun t ht9 hW => ⟨⟨_, (), rfl, rfl, by rw [ht9]; exact hP, hD⟩, hS.F ht9⟩) hS.2.2 ze_C_numberOf_6
set_option maxHeartbeats 4000000 in
set_option maxRecDepth 100000 in
theorem zk_C_joinAt_12 {p : Program} {l : Launch} {e : Env} {s : State} {m : MethodId} {args : Array Value} {below : List Frame} {meth : Method} {c : Code} {dC : Nat → ClassId} {dI : Nat → Nat → Nat} {cC cI cJ : ClassId} {A : Nat → Prop} {tp : Nat} {h_C h_C_numbers h_C_zeros h_C_ones : Nat} {o_C_numbers : Nat → Int32} {o_C_zeros : Nat → Int32} {o_C_ones : Nat → Int32} {o_C_nodes : Int32} (C0 : z_kx p s m args meth c "RuleNetwork$NodeCounter" zb_C_joinAt 5 none) (hK : va_K (dC, dI) vwCl (z_tys cC cI cJ) s) (hA : ∀ q : Nat, s.heap.size ≤ q → A q) (hX : z_X tp A s) :
    ∀ n : Nat, ∀ (x2 : Int32) (x3 : Int32) (x4 : Int32) (C_numbers : Nat → Int32) (C_zeros : Nat → Int32) (C_ones : Nat → Int32) (C_nodes : Int32) (H : Heap) (locs : List Loc) (ls : Array Slot), va_P (dC, dI) vwCl (zd_C cC cI cJ h_C h_C_numbers h_C_zeros h_C_ones C_numbers C_zeros C_ones C_nodes) H → va_D A (zd_C cC cI cJ h_C h_C_numbers h_C_zeros h_C_ones C_numbers C_zeros C_ones C_nodes) → va_S A s.heap H locs → lv_has ls 5 [(0, .ref h_C), (2, .int x2), (3, .int x3), (4, .int x4)] → zf_C_joinAt_12 n x2 x3 x4 C_numbers C_zeros C_ones C_nodes = some (o_C_numbers, o_C_zeros, o_C_ones, o_C_nodes) → W p l e (headSpec zs_C_joinAt rm_C_joinAt).room s m args below meth c H locs 0 0 (MQ below (zq_C_joinAt dC dI cC cI cJ h_C h_C_numbers h_C_zeros h_C_ones o_C_numbers o_C_zeros o_C_ones o_C_nodes A) args s 0 0 A) (F0 m 12 ls []) := by
  obtain ⟨hx, hb, hr, hml, hown, ht, hlocks⟩ := id C0
  intro n
  induction n with
  | zero =>
    intro x2 x3 x4 C_numbers C_zeros C_ones C_nodes H locs ls hP hD hS hl h
    cases (show none = some _ from h)
  | succ n ih =>
    intro x2 x3 x4 C_numbers C_zeros C_ones C_nodes H locs ls hP hD hS hl h
    rw [zf_C_joinAt_12] at h
    refine lv_iload hx hb ze_C_joinAt_12 (lv_at hl 3 rfl) ?_
    refine lv_iload_n hx hb ze_C_joinAt_14 rfl (lv_at hl 2 rfl) ?_
    refine lv_icmp_ge (tgt := 52) hx hb ze_C_joinAt_15 (by decide) (fun c1 => ?_) (fun c1 => ?_)
    · replace h := z_it_t c1 h
      cases h
      exact W.vret hx hb hr (fun t ht9 hW => ⟨⟨(), rfl, trivial, by rw [ht9]; exact hP, hD⟩, hS.F ht9⟩) hS.2.2 ze_C_joinAt_52
    · replace h := z_it_f c1 h
      refine lv_aload_n hx hb ze_C_joinAt_18 rfl (lv_at hl 0 rfl) ?_
      refine va_get (D := (dC, dI)) (ci := 3) (v := .ref h_C_numbers) (C := "RuleNetwork$NodeCounter") (T := zT_C) (N := 4) hx hb ht zin_C hown hK hP 0 rfl rfl 0 (by decide) (ht _ zw_189) (fun _ h9 => h9) rfl ze_C_joinAt_19 ?_
      refine lv_iload hx hb ze_C_joinAt_22 (lv_at hl 3 rfl) ?_
      refine lv_aload_n hx hb ze_C_joinAt_24 rfl (lv_at hl 0 rfl) ?_
      refine lv_aload_n hx hb ze_C_joinAt_25 rfl (lv_at hl 0 rfl) ?_
      refine va_get (D := (dC, dI)) (ci := 3) (v := .ref h_C_numbers) (C := "RuleNetwork$NodeCounter") (T := zT_C) (N := 4) hx hb ht zin_C hown hK hP 0 rfl rfl 0 (by decide) (ht _ zw_189) (fun _ h9 => h9) rfl ze_C_joinAt_26 ?_
      refine lv_iload hx hb ze_C_joinAt_29 (lv_at hl 3 rfl) ?_
      obtain ⟨g2, h⟩ := z_gd_some h
      refine va_iald hx hb hK hP 1 1 rfl rfl g2 ze_C_joinAt_31 ?_
      refine lv_aload_n hx hb ze_C_joinAt_32 rfl (lv_at hl 0 rfl) ?_
      refine va_get (D := (dC, dI)) (ci := 3) (v := .ref h_C_numbers) (C := "RuleNetwork$NodeCounter") (T := zT_C) (N := 4) hx hb ht zin_C hown hK hP 0 rfl rfl 0 (by decide) (ht _ zw_189) (fun _ h9 => h9) rfl ze_C_joinAt_33 ?_
      refine lv_iload hx hb ze_C_joinAt_36 (lv_at hl 3 rfl) ?_
      refine lv_iload_n hx hb ze_C_joinAt_38 rfl (lv_at hl 2 rfl) ?_
      refine lv_iadd hx hb ze_C_joinAt_39 ?_
      obtain ⟨g3, h⟩ := z_gd_some h
      refine va_iald hx hb hK hP 1 1 rfl rfl g3 ze_C_joinAt_40 ?_
      refine lv_iload_n hx hb ze_C_joinAt_41 rfl (lv_at hl 1 rfl) ?_
      obtain ⟨r4, C_zeros_4, C_ones_4, C_nodes_4, q4, h⟩ := z_b4_some h
      have hPc := hP.sub (ws' := (zd_C cC cI cJ h_C h_C_numbers h_C_zeros h_C_ones C_numbers C_zeros C_ones C_nodes)) [0, 1, 2, 3] rfl
      have hDc := hD.sub (ws' := (zd_C cC cI cJ h_C h_C_numbers h_C_zeros h_C_ones C_numbers C_zeros C_ones C_nodes)) [0, 1, 2, 3] (by decide) rfl
      have hFc := va_free (wc := (zd_C cC cI cJ h_C h_C_numbers h_C_zeros h_C_ones C_numbers C_zeros C_ones C_nodes)) hD hS hA [0, 1, 2, 3] rfl
      -- CALL C_numberOf
      refine va_calli (va_runV (As := [.int (C_numbers x4.toNatClampNeg), .int (C_numbers (x4 + x3).toNatClampNeg), .int x2]) (rest := [.int x4, .ref h_C_numbers]) ⟨hx, hb, hml, hown, ht⟩ (zc_C_numberOf l dC dI cC cI cJ tp h_C h_C_numbers h_C_zeros h_C_ones H.size C_numbers C_zeros C_ones C_nodes (C_numbers x4.toNatClampNeg) (C_numbers (x4 + x3).toNatClampNeg) x2 r4 C_zeros_4 C_ones_4 C_nodes_4 q4) (cwV 3 ht (z_gV zw_395 zw_397 zw_12 zw_59 zw_398) rfl rfl rfl ⟨rfl, zh_C_numberOf⟩ ⟨Nat.le_of_ble_eq_true rfl, Nat.le_of_ble_eq_true rfl⟩) ⟨fun a U g mk q => by obtain ⟨z0, z1, zP, zK, zD, zX⟩ := q; exact ⟨z0, z1, zP, va_K.moved (u := U) (U := U.calling g mk a) (Vm.Alike.refl U.vm) zK, zD, z_X.same rfl rfl zX⟩, va_recv hK hP (ci := 3) (q0 := 0) rfl rfl, fun U hU hW => ⟨rfl, by rw [hU], by rw [hU]; exact hPc, va_K.moved hW.alike hK, hDc.weaken (fun _ _ _ _ => trivial), hX.warm hS hFc hU hW⟩⟩ rfl rfl hl.1 rfl (lv_room (Nat.le_of_ble_eq_true rfl)) ze_C_joinAt_42 ⟨Nat.zero_le _, Nat.zero_le _⟩) hS (fun q _ h => hFc q h) hFc (fun rv u t H1 locs ht9 hvm hw hB hz1 hk1 hS => ?_)
      obtain ⟨hP1, hD1⟩ := hB
      rw [ht9] at hP1
      have hw' : r4 = rv := Eq.symm hw
      subst hw'
      obtain ⟨hP, hD⟩ := va_join (wr := []) (w1 := (zd_C cC cI cJ h_C h_C_numbers h_C_zeros h_C_ones C_numbers C_zeros_4 C_ones_4 C_nodes_4)) hP hD [0, 1, 2, 3] [] rfl rfl (by decide) (by decide) hk1 hFc hP1 hD1
      generalize H1 = H at hP hS ⊢
      replace hP := hP.sub (ws' := (zd_C cC cI cJ h_C h_C_numbers h_C_zeros h_C_ones C_numbers C_zeros_4 C_ones_4 C_nodes_4)) [0, 1, 2, 3] rfl
      replace hD := hD.sub (ws' := (zd_C cC cI cJ h_C h_C_numbers h_C_zeros h_C_ones C_numbers C_zeros_4 C_ones_4 C_nodes_4)) [0, 1, 2, 3] (by decide) rfl
      obtain ⟨g5, h⟩ := z_gd_some h
      refine va_iast hx hb hK hP hD hS 1 1 rfl rfl g5 ze_C_joinAt_45 (fun H locs hP hD hS => ?_)
      have hP : va_P (dC, dI) vwCl (zd_C cC cI cJ h_C h_C_numbers h_C_zeros h_C_ones (upd C_numbers x4.toNatClampNeg r4) C_zeros_4 C_ones_4 C_nodes_4) H := hP
      have hD : va_D A (zd_C cC cI cJ h_C h_C_numbers h_C_zeros h_C_ones (upd C_numbers x4.toNatClampNeg r4) C_zeros_4 C_ones_4 C_nodes_4) := hD
      refine lv_iinc (v := (x4 + (1 : Int32))) (lv' := [(4, .int (x4 + (1 : Int32))), (0, .ref h_C), (2, .int x2), (3, .int x3)]) hx hb ze_C_joinAt_46 hl (k := 3) rfl rfl (by decide) rfl (fun ls hl => ?_)
      refine lv_goto (tgt := 12) hx hb ze_C_joinAt_49 (by decide) ?_
      exact ih x2 x3 (x4 + (1 : Int32)) (upd C_numbers x4.toNatClampNeg r4) C_zeros_4 C_ones_4 C_nodes_4 _ _ _ hP hD hS (lv_sub hl [1, 2, 3, 0] rfl) h
set_option maxHeartbeats 4000000 in
set_option maxRecDepth 100000 in
theorem zc_C_joinAt (l : Launch) (dC : Nat → ClassId) (dI : Nat → Nat → Nat) (cC : ClassId) (cI : ClassId) (cJ : ClassId) (tp : Nat) (h_C : Nat) (h_C_numbers : Nat) (h_C_zeros : Nat) (h_C_ones : Nat) (sz : Nat) (C_numbers : Nat → Int32) (C_zeros : Nat → Int32) (C_ones : Nat → Int32) (C_nodes : Int32) (x1 : Int32) (o_C_numbers : Nat → Int32) (o_C_zeros : Nat → Int32) (o_C_ones : Nat → Int32) (o_C_nodes : Int32) (h : zf_C_joinAt x1 C_numbers C_zeros C_ones C_nodes = some (o_C_numbers, o_C_zeros, o_C_ones, o_C_nodes)) : Met l zy_C_joinAt zs_C_joinAt (rm_C_joinAt) (va_Pc [.ref h_C, .int x1] (fun U => U.heap.size = sz ∧ va_P (dC, dI) vwCl (zd_C cC cI cJ h_C h_C_numbers h_C_zeros h_C_ones C_numbers C_zeros C_ones C_nodes) U.heap ∧ va_K (dC, dI) vwCl (z_tys cC cI cJ) U ∧ va_D (fun _ => True) (zd_C cC cI cJ h_C h_C_numbers h_C_zeros h_C_ones C_numbers C_zeros C_ones C_nodes) ∧ z_X tp (va_A (zd_C cC cI cJ h_C h_C_numbers h_C_zeros h_C_ones C_numbers C_zeros C_ones C_nodes) sz) U)) (zq_C_joinAt dC dI cC cI cJ h_C h_C_numbers h_C_zeros h_C_ones o_C_numbers o_C_zeros o_C_ones o_C_nodes (va_A (zd_C cC cI cJ h_C h_C_numbers h_C_zeros h_C_ones C_numbers C_zeros C_ones C_nodes) sz)) 0 0 (va_A (zd_C cC cI cJ h_C h_C_numbers h_C_zeros h_C_ones C_numbers C_zeros C_ones C_nodes) sz) := by
  refine Met.ofW (cc := zb_C_joinAt) (maxL := 5) (ret := none) (by decide) rfl ?_
  intro p e s m args below meth c s₁ B hml hv
  obtain ⟨rfl, hsz, hP, hK, hD0, hX⟩ := hv
  have hx := B.exec
  have hb := B.bytes
  have hr := B.returns
  have hts := atoms_spec (ws := zs_C_joinAt) B.pre
  have ht : ∀ w ∈ z_W, w.before _ s = true := fun w h => hts w (List.mem_cons_of_mem _ h)
  have hown : s.vm.findClass "RuleNetwork$NodeCounter" = some m.cls := findClass_of_methodNamed B.named
  have hlocks := B.notSynchronized
  have C0 : z_kx p s m _ meth c "RuleNetwork$NodeCounter" zb_C_joinAt 5 none := ⟨hx, hb, hr, hml, hown, ht, hlocks⟩
  subst hsz
  have hD := hD0.self (sz := s.heap.size)
  generalize hAe : va_A (zd_C cC cI cJ h_C h_C_numbers h_C_zeros h_C_ones C_numbers C_zeros C_ones C_nodes) s.heap.size = A at hD hX ⊢
  have hA : ∀ q : Nat, s.heap.size ≤ q → A q := fun q h => by rw [← hAe]; exact Or.inr h
  have hS : va_S A s.heap s.heap [] := va_S.rf
  have hl := lv_entry ([.ref h_C, .int x1]) (n := 5) (Nat.le_of_ble_eq_true rfl)
  rw [lg_entry_eq]
  generalize (lg_sl ([.ref h_C, .int x1]) ++ List.replicate (5 - (lg_sl ([.ref h_C, .int x1])).length) Slot.unset).toArray = ls at hl ⊢
  have hl : lv_has ls 5 [(0, .ref h_C), (1, .int x1)] := hl
  rw [zf_C_joinAt] at h
  refine lv_aload_n hx hb ze_C_joinAt_0 rfl (lv_at hl 0 rfl) ?_
  refine va_get (D := (dC, dI)) (ci := 3) (v := .int C_nodes) (C := "RuleNetwork$NodeCounter") (T := zT_C) (N := 4) hx hb ht zin_C hown hK hP 0 rfl rfl 3 (by decide) (ht _ zw_192) (fun _ h9 => h9) rfl ze_C_joinAt_1 ?_
  refine lv_istore_n (lv' := [(2, .int C_nodes), (0, .ref h_C), (1, .int x1)]) hx hb ze_C_joinAt_4 rfl hl (by decide) rfl (fun ls hl => ?_)
  refine lv_iconst (v := (1 : Int32)) hx hb ze_C_joinAt_5 (by decide) ?_
  refine lv_iload_n hx hb ze_C_joinAt_6 rfl (lv_at hl 2 rfl) ?_
  refine lv_ishl hx hb ze_C_joinAt_7 ?_
  refine lv_istore_n (lv' := [(3, .int ((1 : Int32) <<< (x1 &&& 31))), (2, .int C_nodes), (0, .ref h_C), (1, .int x1)]) hx hb ze_C_joinAt_8 rfl hl (by decide) rfl (fun ls hl => ?_)
  refine lv_iconst (v := (0 : Int32)) hx hb ze_C_joinAt_9 (by decide) ?_
  refine lv_istore (lv' := [(4, .int (0 : Int32)), (3, .int ((1 : Int32) <<< (x1 &&& 31))), (2, .int C_nodes), (0, .ref h_C), (1, .int x1)]) hx hb ze_C_joinAt_10 hl (by decide) rfl (fun ls hl => ?_)
  exact zk_C_joinAt_12 C0 hK hA hX z_FU C_nodes ((1 : Int32) <<< (x1 &&& 31)) (0 : Int32) C_numbers C_zeros C_ones C_nodes _ _ _ hP hD hS (lv_sub hl [3, 2, 1, 0] rfl) h
set_option maxHeartbeats 4000000 in
set_option maxRecDepth 100000 in
theorem zk_C_countNodes_42 {p : Program} {l : Launch} {e : Env} {s : State} {m : MethodId} {args : Array Value} {below : List Frame} {meth : Method} {c : Code} {dC : Nat → ClassId} {dI : Nat → Nat → Nat} {cC cI cJ : ClassId} {A : Nat → Prop} {tp : Nat} {h_C h_C_numbers h_C_zeros h_C_ones h_R h_R_names h_R_fixed h_R_low h_R_high h_R_stack : Nat} {R_names : Nat → Int32} {R_stack : Nat → Int64} {o_r : Int32} {o_C_numbers : Nat → Int32} {o_C_zeros : Nat → Int32} {o_C_ones : Nat → Int32} {o_C_nodes : Int32} (C0 : z_kx p s m args meth c "RuleNetwork$NodeCounter" zb_C_countNodes 4 (some .int)) (hK : va_K (dC, dI) vwCl (z_tys cC cI cJ) s) (hA : ∀ q : Nat, s.heap.size ≤ q → A q) (hX : z_X tp A s) :
    ∀ n : Nat, ∀ (x3 : Int32) (R_count : Int32) (R_fixed : Nat → Int32) (R_low : Nat → Int64) (R_high : Nat → Int64) (C_numbers : Nat → Int32) (C_zeros : Nat → Int32) (C_ones : Nat → Int32) (C_nodes : Int32) (H : Heap) (locs : List Loc) (ls : Array Slot), va_P (dC, dI) vwCl (zd_CR cC cI cJ h_C h_C_numbers h_C_zeros h_C_ones h_R h_R_names h_R_fixed h_R_low h_R_high h_R_stack C_numbers C_zeros C_ones C_nodes R_count R_names R_fixed R_low R_high R_stack) H → va_D A (zd_CR cC cI cJ h_C h_C_numbers h_C_zeros h_C_ones h_R h_R_names h_R_fixed h_R_low h_R_high h_R_stack C_numbers C_zeros C_ones C_nodes R_count R_names R_fixed R_low R_high R_stack) → va_S A s.heap H locs → lv_has ls 4 [(0, .ref h_C), (3, .int x3)] → zf_C_countNodes_42 n x3 R_count R_fixed R_low R_high C_numbers C_zeros C_ones C_nodes = some (o_r, o_C_numbers, o_C_zeros, o_C_ones, o_C_nodes) → W p l e (headSpec zs_C_countNodes rm_C_countNodes).room s m args below meth c H locs 0 0 (MQ below (zq_C_countNodes dC dI cC cI cJ h_C h_C_numbers h_C_zeros h_C_ones h_R h_R_names h_R_fixed h_R_low h_R_high h_R_stack R_count R_names R_fixed R_low R_high R_stack o_r o_C_numbers o_C_zeros o_C_ones o_C_nodes A) args s 0 0 A) (F0 m 42 ls []) := by
  obtain ⟨hx, hb, hr, hml, hown, ht, hlocks⟩ := id C0
  intro n
  induction n with
  | zero =>
    intro x3 R_count R_fixed R_low R_high C_numbers C_zeros C_ones C_nodes H locs ls hP hD hS hl h
    cases (show none = some _ from h)
  | succ n ih =>
    intro x3 R_count R_fixed R_low R_high C_numbers C_zeros C_ones C_nodes H locs ls hP hD hS hl h
    rw [zf_C_countNodes_42] at h
    refine lv_iload_n hx hb ze_C_countNodes_42 rfl (lv_at hl 1 rfl) ?_
    refine lv_if_lt (tgt := 57) hx hb ze_C_countNodes_43 (by decide) (fun c1 => ?_) (fun c1 => ?_)
    · replace h := z_it_t c1 h
      refine lv_aload_n hx hb ze_C_countNodes_57 rfl (lv_at hl 0 rfl) ?_
      refine va_get (D := (dC, dI)) (ci := 3) (v := .int C_nodes) (C := "RuleNetwork$NodeCounter") (T := zT_C) (N := 4) hx hb ht zin_C hown hK hP 0 rfl rfl 3 (by decide) (ht _ zw_192) (fun _ h9 => h9) rfl ze_C_countNodes_58 ?_
      cases h
      exact W.iret hx hb hr (fun t ht9 hW => ⟨⟨_, (), rfl, rfl, by rw [ht9]; exact hP, hD⟩, hS.F ht9⟩) hS.2.2 ze_C_countNodes_61
    · replace h := z_it_f c1 h
      refine lv_aload_n hx hb ze_C_countNodes_46 rfl (lv_at hl 0 rfl) ?_
      refine lv_iload_n hx hb ze_C_countNodes_47 rfl (lv_at hl 1 rfl) ?_
      obtain ⟨C_numbers_2, C_zeros_2, C_ones_2, C_nodes_2, q2, h⟩ := z_b4_some h
      have hPc := hP.sub (ws' := (zd_C cC cI cJ h_C h_C_numbers h_C_zeros h_C_ones C_numbers C_zeros C_ones C_nodes)) [0, 1, 2, 3] rfl
      have hDc := hD.sub (ws' := (zd_C cC cI cJ h_C h_C_numbers h_C_zeros h_C_ones C_numbers C_zeros C_ones C_nodes)) [0, 1, 2, 3] (by decide) rfl
      have hFc := va_free (wc := (zd_C cC cI cJ h_C h_C_numbers h_C_zeros h_C_ones C_numbers C_zeros C_ones C_nodes)) hD hS hA [0, 1, 2, 3] rfl
      -- CALL C_joinAt
      refine va_callv (va_runV (As := [.int x3]) (rest := []) ⟨hx, hb, hml, hown, ht⟩ (zc_C_joinAt l dC dI cC cI cJ tp h_C h_C_numbers h_C_zeros h_C_ones H.size C_numbers C_zeros C_ones C_nodes x3 C_numbers_2 C_zeros_2 C_ones_2 C_nodes_2 q2) (cwV 1 ht (z_gV zw_391 zw_393 zw_11 zw_59 zw_394) rfl rfl rfl ⟨rfl, zh_C_joinAt⟩ ⟨Nat.le_of_ble_eq_true rfl, Nat.le_of_ble_eq_true rfl⟩) ⟨fun a U g mk q => by obtain ⟨z0, z1, zP, zK, zD, zX⟩ := q; exact ⟨z0, z1, zP, va_K.moved (u := U) (U := U.calling g mk a) (Vm.Alike.refl U.vm) zK, zD, z_X.same rfl rfl zX⟩, va_recv hK hP (ci := 3) (q0 := 0) rfl rfl, fun U hU hW => ⟨rfl, by rw [hU], by rw [hU]; exact hPc, va_K.moved hW.alike hK, hDc.weaken (fun _ _ _ _ => trivial), hX.warm hS hFc hU hW⟩⟩ rfl rfl hl.1 rfl (lv_room (Nat.le_of_ble_eq_true rfl)) ze_C_countNodes_48 ⟨Nat.zero_le _, Nat.zero_le _⟩) hS (fun q _ h => hFc q h) hFc (fun u t H1 locs ht9 hvm hw hB hz1 hk1 hS => ?_)
      obtain ⟨hP1, hD1⟩ := hB
      rw [ht9] at hP1
      obtain ⟨hP, hD⟩ := va_join (wr := [(h_R, .inr (1, [.int R_count, .ref h_R_names, .ref h_R_fixed, .ref h_R_low, .ref h_R_high, .ref h_R_stack])), (h_R_names, .inl (cC, 7, .inl R_names)), (h_R_fixed, .inl (cI, 7, .inl R_fixed)), (h_R_low, .inl (cJ, 7, .inr (.inl R_low))), (h_R_high, .inl (cJ, 7, .inr (.inl R_high))), (h_R_stack, .inl (cJ, 240, .inr (.inl R_stack)))]) (w1 := (zd_C cC cI cJ h_C h_C_numbers h_C_zeros h_C_ones C_numbers_2 C_zeros_2 C_ones_2 C_nodes_2)) hP hD [0, 1, 2, 3] [4, 5, 6, 7, 8, 9] rfl rfl (by decide) (by decide) hk1 hFc hP1 hD1
      generalize H1 = H at hP hS ⊢
      replace hP := hP.sub (ws' := (zd_CR cC cI cJ h_C h_C_numbers h_C_zeros h_C_ones h_R h_R_names h_R_fixed h_R_low h_R_high h_R_stack C_numbers_2 C_zeros_2 C_ones_2 C_nodes_2 R_count R_names R_fixed R_low R_high R_stack)) [6, 7, 8, 9, 0, 1, 2, 3, 4, 5] rfl
      replace hD := hD.sub (ws' := (zd_CR cC cI cJ h_C h_C_numbers h_C_zeros h_C_ones h_R h_R_names h_R_fixed h_R_low h_R_high h_R_stack C_numbers_2 C_zeros_2 C_ones_2 C_nodes_2 R_count R_names R_fixed R_low R_high R_stack)) [6, 7, 8, 9, 0, 1, 2, 3, 4, 5] (by decide) rfl
      refine lv_iinc (v := (x3 + (-1 : Int32))) (lv' := [(3, .int (x3 + (-1 : Int32))), (0, .ref h_C)]) hx hb ze_C_countNodes_51 hl (k := 1) rfl rfl (by decide) rfl (fun ls hl => ?_)
      refine lv_goto (tgt := 42) hx hb ze_C_countNodes_54 (by decide) ?_
      exact ih (x3 + (-1 : Int32)) R_count R_fixed R_low R_high C_numbers_2 C_zeros_2 C_ones_2 C_nodes_2 _ _ _ hP hD hS (lv_sub hl [1, 0] rfl) h
set_option maxHeartbeats 4000000 in
set_option maxRecDepth 100000 in
theorem zk_C_countNodes_7 {p : Program} {l : Launch} {e : Env} {s : State} {m : MethodId} {args : Array Value} {below : List Frame} {meth : Method} {c : Code} {dC : Nat → ClassId} {dI : Nat → Nat → Nat} {cC cI cJ : ClassId} {A : Nat → Prop} {tp : Nat} {h_C h_C_numbers h_C_zeros h_C_ones h_R h_R_names h_R_fixed h_R_low h_R_high h_R_stack : Nat} {R_names : Nat → Int32} {R_stack : Nat → Int64} {o_r : Int32} {o_C_numbers : Nat → Int32} {o_C_zeros : Nat → Int32} {o_C_ones : Nat → Int32} {o_C_nodes : Int32} (C0 : z_kx p s m args meth c "RuleNetwork$NodeCounter" zb_C_countNodes 4 (some .int)) (hK : va_K (dC, dI) vwCl (z_tys cC cI cJ) s) (hA : ∀ q : Nat, s.heap.size ≤ q → A q) (hX : z_X tp A s) :
    ∀ n : Nat, ∀ (x2 : Int32) (x3 : Int32) (R_count : Int32) (R_fixed : Nat → Int32) (R_low : Nat → Int64) (R_high : Nat → Int64) (C_numbers : Nat → Int32) (C_zeros : Nat → Int32) (C_ones : Nat → Int32) (C_nodes : Int32) (H : Heap) (locs : List Loc) (ls : Array Slot), va_P (dC, dI) vwCl (zd_CR cC cI cJ h_C h_C_numbers h_C_zeros h_C_ones h_R h_R_names h_R_fixed h_R_low h_R_high h_R_stack C_numbers C_zeros C_ones C_nodes R_count R_names R_fixed R_low R_high R_stack) H → va_D A (zd_CR cC cI cJ h_C h_C_numbers h_C_zeros h_C_ones h_R h_R_names h_R_fixed h_R_low h_R_high h_R_stack C_numbers C_zeros C_ones C_nodes R_count R_names R_fixed R_low R_high R_stack) → va_S A s.heap H locs → lv_has ls 4 [(0, .ref h_C), (1, .ref h_R), (2, .int x2), (3, .int x3)] → zf_C_countNodes_7 n x2 x3 R_count R_fixed R_low R_high C_numbers C_zeros C_ones C_nodes = some (o_r, o_C_numbers, o_C_zeros, o_C_ones, o_C_nodes) → W p l e (headSpec zs_C_countNodes rm_C_countNodes).room s m args below meth c H locs 0 0 (MQ below (zq_C_countNodes dC dI cC cI cJ h_C h_C_numbers h_C_zeros h_C_ones h_R h_R_names h_R_fixed h_R_low h_R_high h_R_stack R_count R_names R_fixed R_low R_high R_stack o_r o_C_numbers o_C_zeros o_C_ones o_C_nodes A) args s 0 0 A) (F0 m 7 ls []) := by
  obtain ⟨hx, hb, hr, hml, hown, ht, hlocks⟩ := id C0
  intro n
  induction n with
  | zero =>
    intro x2 x3 R_count R_fixed R_low R_high C_numbers C_zeros C_ones C_nodes H locs ls hP hD hS hl h
    cases (show none = some _ from h)
  | succ n ih =>
    intro x2 x3 R_count R_fixed R_low R_high C_numbers C_zeros C_ones C_nodes H locs ls hP hD hS hl h
    rw [zf_C_countNodes_7] at h
    refine lv_iload_n hx hb ze_C_countNodes_7 rfl (lv_at hl 3 rfl) ?_
    refine lv_iconst (v := (1 : Int32)) hx hb ze_C_countNodes_8 (by decide) ?_
    refine lv_aload_n hx hb ze_C_countNodes_9 rfl (lv_at hl 1 rfl) ?_
    refine va_get (D := (dC, dI)) (ci := 1) (v := .int R_count) (C := "RuleNetwork$Rules") (T := zT_R) (N := 6) hx hb ht zin_R hown hK hP 4 rfl rfl 0 (by decide) (ht _ zw_119) (fun _ h9 => h9) rfl ze_C_countNodes_10 ?_
    refine lv_ishl hx hb ze_C_countNodes_13 ?_
    refine lv_icmp_ge (tgt := 35) hx hb ze_C_countNodes_14 (by decide) (fun c1 => ?_) (fun c1 => ?_)
    · replace h := z_it_t c1 h
      refine lv_aload_n hx hb ze_C_countNodes_35 rfl (lv_at hl 1 rfl) ?_
      refine va_get (D := (dC, dI)) (ci := 1) (v := .int R_count) (C := "RuleNetwork$Rules") (T := zT_R) (N := 6) hx hb ht zin_R hown hK hP 4 rfl rfl 0 (by decide) (ht _ zw_119) (fun _ h9 => h9) rfl ze_C_countNodes_36 ?_
      refine lv_iconst (v := (1 : Int32)) hx hb ze_C_countNodes_39 (by decide) ?_
      refine lv_isub hx hb ze_C_countNodes_40 ?_
      refine lv_istore_n (lv' := [(3, .int (R_count - (1 : Int32))), (0, .ref h_C), (1, .ref h_R), (2, .int x2)]) hx hb ze_C_countNodes_41 rfl hl (by decide) rfl (fun ls hl => ?_)
      exact zk_C_countNodes_42 C0 hK hA hX z_FU (R_count - (1 : Int32)) R_count R_fixed R_low R_high C_numbers C_zeros C_ones C_nodes _ _ _ hP hD hS (lv_sub hl [1, 0] rfl) h
    · replace h := z_it_f c1 h
      refine lv_aload_n hx hb ze_C_countNodes_17 rfl (lv_at hl 0 rfl) ?_
      refine va_get (D := (dC, dI)) (ci := 3) (v := .ref h_C_numbers) (C := "RuleNetwork$NodeCounter") (T := zT_C) (N := 4) hx hb ht zin_C hown hK hP 0 rfl rfl 0 (by decide) (ht _ zw_189) (fun _ h9 => h9) rfl ze_C_countNodes_18 ?_
      refine lv_iload_n hx hb ze_C_countNodes_21 rfl (lv_at hl 3 rfl) ?_
      refine lv_aload_n hx hb ze_C_countNodes_22 rfl (lv_at hl 1 rfl) ?_
      refine lv_iload_n hx hb ze_C_countNodes_23 rfl (lv_at hl 2 rfl) ?_
      refine lv_iload_n hx hb ze_C_countNodes_24 rfl (lv_at hl 3 rfl) ?_
      obtain ⟨r2, q2, h⟩ := z_b1_some h
      have hPc := hP.sub (ws' := (zd_R cC cI cJ h_R h_R_names h_R_fixed h_R_low h_R_high h_R_stack R_count R_names R_fixed R_low R_high R_stack)) [4, 5, 6, 7, 8, 9] rfl
      have hDc := hD.sub (ws' := (zd_R cC cI cJ h_R h_R_names h_R_fixed h_R_low h_R_high h_R_stack R_count R_names R_fixed R_low R_high R_stack)) [4, 5, 6, 7, 8, 9] (by decide) rfl
      have hFc := va_free (wc := (zd_R cC cI cJ h_R h_R_names h_R_fixed h_R_low h_R_high h_R_stack R_count R_names R_fixed R_low R_high R_stack)) hD hS hA [4, 5, 6, 7, 8, 9] rfl
      -- CALL R_valueOf
      refine va_calli (va_runV (As := [.int x2, .int x3]) (rest := [.int x3, .ref h_C_numbers]) ⟨hx, hb, hml, hown, ht⟩ (zc_R_valueOf l dC dI cC cI cJ tp h_R h_R_names h_R_fixed h_R_low h_R_high h_R_stack H.size R_count R_names R_fixed R_low R_high R_stack x2 x3 r2 q2) (cwV 2 ht (z_gV zw_390 zw_367 zw_368 zw_57 zw_369) rfl rfl rfl ⟨rfl, zh_R_valueOf⟩ ⟨Nat.le_of_ble_eq_true rfl, Nat.le_of_ble_eq_true rfl⟩) ⟨fun a U g mk q => by obtain ⟨z0, z1, zP, zK, zD, zX⟩ := q; exact ⟨z0, z1, zP, va_K.moved (u := U) (U := U.calling g mk a) (Vm.Alike.refl U.vm) zK, zD, z_X.same rfl rfl zX⟩, va_recv hK hP (ci := 1) (q0 := 4) rfl rfl, fun U hU hW => ⟨rfl, by rw [hU], by rw [hU]; exact hPc, va_K.moved hW.alike hK, hDc.weaken (fun _ _ _ _ => trivial), hX.warm hS hFc hU hW⟩⟩ rfl rfl hl.1 rfl (lv_room (Nat.le_of_ble_eq_true rfl)) ze_C_countNodes_25 ⟨Nat.zero_le _, Nat.zero_le _⟩) hS (fun q _ h => hFc q h) hFc (fun rv u t H1 locs ht9 hvm hw hB hz1 hk1 hS => ?_)
      obtain ⟨hP1, hD1⟩ := hB
      rw [ht9] at hP1
      have hw' : r2 = rv := Eq.symm hw
      subst hw'
      obtain ⟨hP, hD⟩ := va_join (wr := [(h_C, .inr (3, [.ref h_C_numbers, .ref h_C_zeros, .ref h_C_ones, .int C_nodes])), (h_C_numbers, .inl (cI, 128, .inl C_numbers)), (h_C_zeros, .inl (cI, 128, .inl C_zeros)), (h_C_ones, .inl (cI, 128, .inl C_ones))]) (w1 := (zd_R cC cI cJ h_R h_R_names h_R_fixed h_R_low h_R_high h_R_stack R_count R_names R_fixed R_low R_high R_stack)) hP hD [4, 5, 6, 7, 8, 9] [0, 1, 2, 3] rfl rfl (by decide) (by decide) hk1 hFc hP1 hD1
      generalize H1 = H at hP hS ⊢
      replace hP := hP.sub (ws' := (zd_CR cC cI cJ h_C h_C_numbers h_C_zeros h_C_ones h_R h_R_names h_R_fixed h_R_low h_R_high h_R_stack C_numbers C_zeros C_ones C_nodes R_count R_names R_fixed R_low R_high R_stack)) [0, 1, 2, 3, 4, 5, 6, 7, 8, 9] rfl
      replace hD := hD.sub (ws' := (zd_CR cC cI cJ h_C h_C_numbers h_C_zeros h_C_ones h_R h_R_names h_R_fixed h_R_low h_R_high h_R_stack C_numbers C_zeros C_ones C_nodes R_count R_names R_fixed R_low R_high R_stack)) [0, 1, 2, 3, 4, 5, 6, 7, 8, 9] (by decide) rfl
      obtain ⟨g3, h⟩ := z_gd_some h
      refine va_iast hx hb hK hP hD hS 1 1 rfl rfl g3 ze_C_countNodes_28 (fun H locs hP hD hS => ?_)
      have hP : va_P (dC, dI) vwCl (zd_CR cC cI cJ h_C h_C_numbers h_C_zeros h_C_ones h_R h_R_names h_R_fixed h_R_low h_R_high h_R_stack (upd C_numbers x3.toNatClampNeg r2) C_zeros C_ones C_nodes R_count R_names R_fixed R_low R_high R_stack) H := hP
      have hD : va_D A (zd_CR cC cI cJ h_C h_C_numbers h_C_zeros h_C_ones h_R h_R_names h_R_fixed h_R_low h_R_high h_R_stack (upd C_numbers x3.toNatClampNeg r2) C_zeros C_ones C_nodes R_count R_names R_fixed R_low R_high R_stack) := hD
      refine lv_iinc (v := (x3 + (1 : Int32))) (lv' := [(3, .int (x3 + (1 : Int32))), (0, .ref h_C), (1, .ref h_R), (2, .int x2)]) hx hb ze_C_countNodes_29 hl (k := 3) rfl rfl (by decide) rfl (fun ls hl => ?_)
      refine lv_goto (tgt := 7) hx hb ze_C_countNodes_32 (by decide) ?_
      exact ih x2 (x3 + (1 : Int32)) R_count R_fixed R_low R_high (upd C_numbers x3.toNatClampNeg r2) C_zeros C_ones C_nodes _ _ _ hP hD hS (lv_sub hl [1, 2, 3, 0] rfl) h
set_option maxHeartbeats 4000000 in
set_option maxRecDepth 100000 in
theorem zc_C_countNodes (l : Launch) (dC : Nat → ClassId) (dI : Nat → Nat → Nat) (cC : ClassId) (cI : ClassId) (cJ : ClassId) (tp : Nat) (h_C : Nat) (h_C_numbers : Nat) (h_C_zeros : Nat) (h_C_ones : Nat) (h_R : Nat) (h_R_names : Nat) (h_R_fixed : Nat) (h_R_low : Nat) (h_R_high : Nat) (h_R_stack : Nat) (sz : Nat) (C_numbers : Nat → Int32) (C_zeros : Nat → Int32) (C_ones : Nat → Int32) (C_nodes : Int32) (R_count : Int32) (R_names : Nat → Int32) (R_fixed : Nat → Int32) (R_low : Nat → Int64) (R_high : Nat → Int64) (R_stack : Nat → Int64) (x2 : Int32) (o_r : Int32) (o_C_numbers : Nat → Int32) (o_C_zeros : Nat → Int32) (o_C_ones : Nat → Int32) (o_C_nodes : Int32) (h : zf_C_countNodes x2 R_count R_fixed R_low R_high C_numbers C_zeros C_ones C_nodes = some (o_r, o_C_numbers, o_C_zeros, o_C_ones, o_C_nodes)) : Met l zy_C_countNodes zs_C_countNodes (rm_C_countNodes) (va_Pc [.ref h_C, .ref h_R, .int x2] (fun U => U.heap.size = sz ∧ va_P (dC, dI) vwCl (zd_CR cC cI cJ h_C h_C_numbers h_C_zeros h_C_ones h_R h_R_names h_R_fixed h_R_low h_R_high h_R_stack C_numbers C_zeros C_ones C_nodes R_count R_names R_fixed R_low R_high R_stack) U.heap ∧ va_K (dC, dI) vwCl (z_tys cC cI cJ) U ∧ va_D (fun _ => True) (zd_CR cC cI cJ h_C h_C_numbers h_C_zeros h_C_ones h_R h_R_names h_R_fixed h_R_low h_R_high h_R_stack C_numbers C_zeros C_ones C_nodes R_count R_names R_fixed R_low R_high R_stack) ∧ z_X tp (va_A (zd_CR cC cI cJ h_C h_C_numbers h_C_zeros h_C_ones h_R h_R_names h_R_fixed h_R_low h_R_high h_R_stack C_numbers C_zeros C_ones C_nodes R_count R_names R_fixed R_low R_high R_stack) sz) U)) (zq_C_countNodes dC dI cC cI cJ h_C h_C_numbers h_C_zeros h_C_ones h_R h_R_names h_R_fixed h_R_low h_R_high h_R_stack R_count R_names R_fixed R_low R_high R_stack o_r o_C_numbers o_C_zeros o_C_ones o_C_nodes (va_A (zd_CR cC cI cJ h_C h_C_numbers h_C_zeros h_C_ones h_R h_R_names h_R_fixed h_R_low h_R_high h_R_stack C_numbers C_zeros C_ones C_nodes R_count R_names R_fixed R_low R_high R_stack) sz)) 0 0 (va_A (zd_CR cC cI cJ h_C h_C_numbers h_C_zeros h_C_ones h_R h_R_names h_R_fixed h_R_low h_R_high h_R_stack C_numbers C_zeros C_ones C_nodes R_count R_names R_fixed R_low R_high R_stack) sz) := by
  refine Met.ofW (cc := zb_C_countNodes) (maxL := 4) (ret := (some .int)) (by decide) rfl ?_
  intro p e s m args below meth c s₁ B hml hv
  obtain ⟨rfl, hsz, hP, hK, hD0, hX⟩ := hv
  have hx := B.exec
  have hb := B.bytes
  have hr := B.returns
  have hts := atoms_spec (ws := zs_C_countNodes) B.pre
  have ht : ∀ w ∈ z_W, w.before _ s = true := fun w h => hts w (List.mem_cons_of_mem _ h)
  have hown : s.vm.findClass "RuleNetwork$NodeCounter" = some m.cls := findClass_of_methodNamed B.named
  have hlocks := B.notSynchronized
  have C0 : z_kx p s m _ meth c "RuleNetwork$NodeCounter" zb_C_countNodes 4 (some .int) := ⟨hx, hb, hr, hml, hown, ht, hlocks⟩
  subst hsz
  have hD := hD0.self (sz := s.heap.size)
  generalize hAe : va_A (zd_CR cC cI cJ h_C h_C_numbers h_C_zeros h_C_ones h_R h_R_names h_R_fixed h_R_low h_R_high h_R_stack C_numbers C_zeros C_ones C_nodes R_count R_names R_fixed R_low R_high R_stack) s.heap.size = A at hD hX ⊢
  have hA : ∀ q : Nat, s.heap.size ≤ q → A q := fun q h => by rw [← hAe]; exact Or.inr h
  have hS : va_S A s.heap s.heap [] := va_S.rf
  have hl := lv_entry ([.ref h_C, .ref h_R, .int x2]) (n := 4) (Nat.le_of_ble_eq_true rfl)
  rw [lg_entry_eq]
  generalize (lg_sl ([.ref h_C, .ref h_R, .int x2]) ++ List.replicate (4 - (lg_sl ([.ref h_C, .ref h_R, .int x2])).length) Slot.unset).toArray = ls at hl ⊢
  have hl : lv_has ls 4 [(0, .ref h_C), (1, .ref h_R), (2, .int x2)] := hl
  rw [zf_C_countNodes] at h
  refine lv_aload_n hx hb ze_C_countNodes_0 rfl (lv_at hl 0 rfl) ?_
  refine lv_iconst (v := (0 : Int32)) hx hb ze_C_countNodes_1 (by decide) ?_
  refine va_put (D := (dC, dI)) (ci := 3) (v := .int (0 : Int32)) (ty := .int) (C := "RuleNetwork$NodeCounter") (T := zT_C) (N := 4) hx hb ht zin_C zty_C zty_C_ok znm_C hown hK hP hD hS 0 rfl rfl 3 (by decide) (ht _ zw_192) (fun _ h9 => h9) rfl (zty_C_ok 3 (by decide)) rfl rfl (Nat.le_of_ble_eq_true rfl) ze_C_countNodes_2 (fun H locs hP hD hS => ?_)
  have hP : va_P (dC, dI) vwCl (zd_CR cC cI cJ h_C h_C_numbers h_C_zeros h_C_ones h_R h_R_names h_R_fixed h_R_low h_R_high h_R_stack C_numbers C_zeros C_ones (0 : Int32) R_count R_names R_fixed R_low R_high R_stack) H := hP
  have hD : va_D A (zd_CR cC cI cJ h_C h_C_numbers h_C_zeros h_C_ones h_R h_R_names h_R_fixed h_R_low h_R_high h_R_stack C_numbers C_zeros C_ones (0 : Int32) R_count R_names R_fixed R_low R_high R_stack) := hD
  refine lv_iconst (v := (0 : Int32)) hx hb ze_C_countNodes_5 (by decide) ?_
  refine lv_istore_n (lv' := [(3, .int (0 : Int32)), (0, .ref h_C), (1, .ref h_R), (2, .int x2)]) hx hb ze_C_countNodes_6 rfl hl (by decide) rfl (fun ls hl => ?_)
  exact zk_C_countNodes_7 C0 hK hA hX z_FU x2 (0 : Int32) R_count R_fixed R_low R_high C_numbers C_zeros C_ones (0 : Int32) _ _ _ hP hD hS (lv_sub hl [1, 2, 3, 0] rfl) h
