/-- the cells Sp, Mk, parts -/
abbrev wd29 (cyI cyJ cyZ : ClassId) (q_Sp : Nat) (q_Mk : Nat) (q_parts : Nat) (q_Pr : Nat) (q_prime : Nat) (q_times : Nat) (q_Sc : Nat) (sp_unlike : Int32) (sp_number : Int64) (sp_partsKept : Int32) (sp_partsNumber : Int64) (a_parts : Nat → Int64) : va_W := [(q_Sp, .inr (6, [.ref q_Pr, .ref q_prime, .ref q_times, .int sp_unlike, .long sp_number, .ref q_parts, .int sp_partsKept, .long sp_partsNumber])), (q_Mk, .inr (1, [.ref q_Sp, .ref q_Sc])), (q_parts, .inl (cyJ, 2304, .inr (.inl a_parts)))]
abbrev rm_X1_sumOfParts : Room := { frames := 0, cells := 0, slots := 0, locals := 0 }
theorem hd_X1_sumOfParts : yX1_sumOfParts.cls ≠ "java/lang/invoke/MethodHandle" ∧ yX1_sumOfParts.cls ≠ "java/lang/invoke/VarHandle" ∧ (parseMethodDescriptor yX1_sumOfParts.desc).map (fun d => d.parameters.length) = some 0 := by decide +kernel
theorem iw_X1_sumOfParts_X6 : ∀ w ∈ wsX60, w ∈ wsX1_sumOfParts := List.forall_mem_cons.mpr ⟨List.mem_of_getElem? (i := 4) rfl, List.forall_mem_cons.mpr ⟨List.mem_of_getElem? (i := 5) rfl, List.forall_mem_cons.mpr ⟨List.mem_of_getElem? (i := 6) rfl, List.forall_mem_cons.mpr ⟨List.mem_of_getElem? (i := 7) rfl, List.forall_mem_cons.mpr ⟨List.mem_of_getElem? (i := 8) rfl, List.forall_mem_cons.mpr ⟨List.mem_of_getElem? (i := 9) rfl, List.forall_mem_cons.mpr ⟨List.mem_of_getElem? (i := 10) rfl, List.forall_mem_cons.mpr ⟨List.mem_of_getElem? (i := 11) rfl, fun _ h => absurd h List.not_mem_nil⟩⟩⟩⟩⟩⟩⟩⟩
theorem iw_X1_sumOfParts_X1 : ∀ w ∈ wsX10, w ∈ wsX1_sumOfParts := List.forall_mem_cons.mpr ⟨List.mem_of_getElem? (i := 2) rfl, List.forall_mem_cons.mpr ⟨List.mem_of_getElem? (i := 3) rfl, fun _ h => absurd h List.not_mem_nil⟩⟩
def s_X1_sumOfParts_4 (N : Nat) (sp_partsKept : Int32) (a_parts : Nat → Int64) (k_4 : (Int64 × Int32) → Option (Int32)) (v1 : Int64) (v3 : Int32) : Option (Int32) :=
  if (sp_partsKept - (1 : Int32)) ≤ v3 then
    some v1.toInt32
  else
    if (2304 : Int32) ≤ v3 then
      some v1.toInt32
    else
      if v3 < 0 ∨ 2304 ≤ v3.toNatClampNeg then
        none
      else
        xl (v1 + (a_parts v3.toNatClampNeg)) fun y4z =>
        xl (v3 + (1 : Int32)) fun y5z =>
        k_4 (y4z, y5z)
def l_X1_sumOfParts_4 (N : Nat) (sp_partsKept : Int32) (a_parts : Nat → Int64) (n : Nat) (z : Int64 × Int32) : Option (Int32) := lp (fun k z => s_X1_sumOfParts_4 N sp_partsKept a_parts k z.1 z.2) n z
set_option maxRecDepth 100000 in
set_option maxHeartbeats 4000000 in
theorem k_X1_sumOfParts_4 {p : Program} {l : Launch} {e : Env} {s : State} {m : MethodId} {args : Array Value} {below : List Frame} {meth : Method} {c : Code} {dC : Nat → ClassId} {dI : Nat → Nat → Nat} {cyI cyJ cyZ : ClassId} {A : Nat → Prop} (C0 : mC p s m meth c args cX1_sumOfParts (some .int) 4 RX1 wsX1_sumOfParts (gK dC dI cyI cyJ cyZ) A) (N : Nat) (res : Int32) (q_Sp : Nat) (q_Mk : Nat) (q_parts : Nat) (q_Pr : Nat) (q_prime : Nat) (q_times : Nat) (q_Sc : Nat) (sp_unlike : Int32) (sp_number : Int64) (sp_partsKept : Int32) (sp_partsNumber : Int64) (a_parts : Nat → Int64) : ∀ (n : Nat) (v1 : Int64) (v3 : Int32), l_X1_sumOfParts_4 N sp_partsKept a_parts n (v1, v3) = some res → ∀ (H : Heap) (locs : List Loc), va_P (dC, dI) vwCl (wd29 cyI cyJ cyZ q_Sp q_Mk q_parts q_Pr q_prime q_times q_Sc sp_unlike sp_number sp_partsKept sp_partsNumber a_parts) H → va_D A (wd29 cyI cyJ cyZ q_Sp q_Mk q_parts q_Pr q_prime q_times q_Sc sp_unlike sp_number sp_partsKept sp_partsNumber a_parts) → va_S A s.heap H locs → ∀ (ls : Array Slot), lv_has ls 4 [(0, .ref q_Mk), (1, .long v1), (3, .int v3)] → W p l e (headSpec wsX1_sumOfParts rm_X1_sumOfParts).room s m args below meth c H locs 0 0 (MQ below (va_Qi (fun (r : Int32) (_ : Unit) => r = res) (bW dC dI (fun (u : Unit) => (wd29 cyI cyJ cyZ q_Sp q_Mk q_parts q_Pr q_prime q_times q_Sc sp_unlike sp_number sp_partsKept sp_partsNumber a_parts)) A) A) args s 0 0 A) (F0 m 4 ls []) := by
  obtain ⟨hx, hb, hr, hml, hown, hts, hlocks, hG, hA⟩ := id C0
  have hK := hG.1
  intro n
  induction n with
  | zero =>
    intro v1 v3 h
    cases h
  | succ n ih =>
    intro v1 v3 h H locs hP hD hS ls hl
    have h : s_X1_sumOfParts_4 N sp_partsKept a_parts (l_X1_sumOfParts_4 N sp_partsKept a_parts n) v1 v3 = some res := h
    unfold s_X1_sumOfParts_4 at h
    refine lv_iload_n hx hb dX1_sumOfParts_4 rfl (lv_at hl 2 rfl) ?_
    refine lv_aload_n hx hb dX1_sumOfParts_5 rfl (lv_at hl 0 rfl) ?_
    refine va_get (D := (dC, dI)) (ci := 1) (v := .ref q_Sp) (C := RX1) (T := TX1) (N := 2) hx hb hts iw_X1_sumOfParts_X1 hown hK hP 1 rfl rfl 0 (by decide) (hts (.fieldLink RX1 9 "GoesInto$Maker" "split" "LGoesInto$Split;") (List.mem_of_getElem? (i := 1) rfl)) (fun _ h9 => h9) rfl dX1_sumOfParts_6 ?_
    refine va_getN (D := (dC, dI)) (ci := 6) (v := .int sp_partsKept) (C := RX6) (T := TX6) (N := 8) (host := "GoesInto") hx hb hts iw_X1_sumOfParts_X6 hown hK hP 0 rfl rfl 6 (by decide) (va_Nw.use rfl hG.2.2.2.2.2.2.2.1) (fun _ h9 => h9) rfl dX1_sumOfParts_9 ?_
    refine lv_iconst (v := (1 : Int32)) hx hb dX1_sumOfParts_12 (by decide) ?_
    refine lv_isub hx hb dX1_sumOfParts_13 ?_
    refine lv_icmp_ge (tgt := 47) hx hb dX1_sumOfParts_14 (by decide) (fun c1z => ?_) (fun c1z => ?_)
    · have h := xt h c1z
      refine lv_lload_n hx hb dX1_sumOfParts_47 rfl (lv_at hl 1 rfl) ?_
      refine lv_l2i (v := v1.toInt32) hx hb dX1_sumOfParts_48 rfl ?_
      obtain rfl := Option.some.inj h
      exact W.iret (v := v1.toInt32) hx hb hr (fun t ht hW => ⟨⟨_, (), rfl, rfl, by rw [ht]; exact hP, hD⟩, hS.F ht⟩) hS.2.2 dX1_sumOfParts_49 hlocks
    · have h := xf h c1z
      refine lv_iload_n hx hb dX1_sumOfParts_17 rfl (lv_at hl 2 rfl) ?_
      refine lv_aload_n hx hb dX1_sumOfParts_18 rfl (lv_at hl 0 rfl) ?_
      refine va_get (D := (dC, dI)) (ci := 1) (v := .ref q_Sp) (C := RX1) (T := TX1) (N := 2) hx hb hts iw_X1_sumOfParts_X1 hown hK hP 1 rfl rfl 0 (by decide) (hts (.fieldLink RX1 9 "GoesInto$Maker" "split" "LGoesInto$Split;") (List.mem_of_getElem? (i := 1) rfl)) (fun _ h9 => h9) rfl dX1_sumOfParts_19 ?_
      refine va_getN (D := (dC, dI)) (ci := 6) (v := .ref q_parts) (C := RX6) (T := TX6) (N := 8) (host := "GoesInto") hx hb hts iw_X1_sumOfParts_X6 hown hK hP 0 rfl rfl 5 (by decide) (va_Nw.use rfl hG.2.2.2.2.2.2.2.2.1) (fun _ h9 => h9) rfl dX1_sumOfParts_22 ?_
      refine va_alen (v := (2304 : Int32)) hx hb hK hP 2 1 rfl rfl rfl dX1_sumOfParts_25 ?_
      refine lv_icmp_ge (tgt := 47) hx hb dX1_sumOfParts_26 (by decide) (fun c2z => ?_) (fun c2z => ?_)
      · have h := xt h c2z
        refine lv_lload_n hx hb dX1_sumOfParts_47 rfl (lv_at hl 1 rfl) ?_
        refine lv_l2i (v := v1.toInt32) hx hb dX1_sumOfParts_48 rfl ?_
        obtain rfl := Option.some.inj h
        exact W.iret (v := v1.toInt32) hx hb hr (fun t ht hW => ⟨⟨_, (), rfl, rfl, by rw [ht]; exact hP, hD⟩, hS.F ht⟩) hS.2.2 dX1_sumOfParts_49 hlocks
      · have h := xf h c2z
        refine lv_lload_n hx hb dX1_sumOfParts_29 rfl (lv_at hl 1 rfl) ?_
        refine lv_aload_n hx hb dX1_sumOfParts_30 rfl (lv_at hl 0 rfl) ?_
        refine va_get (D := (dC, dI)) (ci := 1) (v := .ref q_Sp) (C := RX1) (T := TX1) (N := 2) hx hb hts iw_X1_sumOfParts_X1 hown hK hP 1 rfl rfl 0 (by decide) (hts (.fieldLink RX1 9 "GoesInto$Maker" "split" "LGoesInto$Split;") (List.mem_of_getElem? (i := 1) rfl)) (fun _ h9 => h9) rfl dX1_sumOfParts_31 ?_
        refine va_getN (D := (dC, dI)) (ci := 6) (v := .ref q_parts) (C := RX6) (T := TX6) (N := 8) (host := "GoesInto") hx hb hts iw_X1_sumOfParts_X6 hown hK hP 0 rfl rfl 5 (by decide) (va_Nw.use rfl hG.2.2.2.2.2.2.2.2.1) (fun _ h9 => h9) rfl dX1_sumOfParts_34 ?_
        refine lv_iload_n hx hb dX1_sumOfParts_37 rfl (lv_at hl 2 rfl) ?_
        obtain ⟨b3z, h⟩ := xn h
        refine va_lald hx hb hK hP 2 1 rfl rfl b3z dX1_sumOfParts_38 ?_
        refine lv_ladd hx hb dX1_sumOfParts_39 ?_
        refine lv_topl (fun y4z ey4z => ?_)
        have h := xl_at h ey4z
        refine lv_lstore_n (lv' := [(1, .long y4z), (0, .ref q_Mk), (3, .int v3)]) hx hb dX1_sumOfParts_40 rfl hl (by decide) rfl (fun ls hl => ?_)
        obtain ⟨y5z, ey5z⟩ : ∃ z : Int32, z = v3 + (1 : Int32) := ⟨_, rfl⟩
        have h := xl_at h ey5z
        refine lv_iinc (v := y5z) (lv' := [(3, .int y5z), (1, .long y4z), (0, .ref q_Mk)]) hx hb dX1_sumOfParts_41 hl (k := 2) rfl (by rw [ey5z]; rfl) (by decide) rfl (fun ls hl => ?_)
        refine lv_goto (tgt := 4) hx hb dX1_sumOfParts_44 (by decide) ?_
        exact ih y4z y5z h _ _ hP hD hS _ (lv_sub hl [2, 1, 0] rfl)
def f_X1_sumOfParts (N : Nat) (sp_partsKept : Int32) (a_parts : Nat → Int64) : Option (Int32) :=
  l_X1_sumOfParts_4 N sp_partsKept a_parts N ((0 : Int64), (0 : Int32))
set_option maxRecDepth 100000 in
set_option maxHeartbeats 4000000 in
theorem k_X1_sumOfParts_0 {p : Program} {l : Launch} {e : Env} {s : State} {m : MethodId} {args : Array Value} {below : List Frame} {meth : Method} {c : Code} {dC : Nat → ClassId} {dI : Nat → Nat → Nat} {cyI cyJ cyZ : ClassId} {A : Nat → Prop} (C0 : mC p s m meth c args cX1_sumOfParts (some .int) 4 RX1 wsX1_sumOfParts (gK dC dI cyI cyJ cyZ) A) (N : Nat) (res : Int32) (q_Sp : Nat) (q_Mk : Nat) (q_parts : Nat) (q_Pr : Nat) (q_prime : Nat) (q_times : Nat) (q_Sc : Nat) (sp_unlike : Int32) (sp_number : Int64) (sp_partsKept : Int32) (sp_partsNumber : Int64) (a_parts : Nat → Int64) (h : f_X1_sumOfParts N sp_partsKept a_parts = some res) : ∀ (H : Heap) (locs : List Loc), va_P (dC, dI) vwCl (wd29 cyI cyJ cyZ q_Sp q_Mk q_parts q_Pr q_prime q_times q_Sc sp_unlike sp_number sp_partsKept sp_partsNumber a_parts) H → va_D A (wd29 cyI cyJ cyZ q_Sp q_Mk q_parts q_Pr q_prime q_times q_Sc sp_unlike sp_number sp_partsKept sp_partsNumber a_parts) → va_S A s.heap H locs → ∀ (ls : Array Slot), lv_has ls 4 [(0, .ref q_Mk)] → W p l e (headSpec wsX1_sumOfParts rm_X1_sumOfParts).room s m args below meth c H locs 0 0 (MQ below (va_Qi (fun (r : Int32) (_ : Unit) => r = res) (bW dC dI (fun (u : Unit) => (wd29 cyI cyJ cyZ q_Sp q_Mk q_parts q_Pr q_prime q_times q_Sc sp_unlike sp_number sp_partsKept sp_partsNumber a_parts)) A) A) args s 0 0 A) (F0 m 0 ls []) := by
  obtain ⟨hx, hb, hr, hml, hown, hts, hlocks, hG, hA⟩ := id C0
  have hK := hG.1
  intro H locs hP hD hS ls hl
  unfold f_X1_sumOfParts at h
  refine lv_lconst (v := (0 : Int64)) hx hb dX1_sumOfParts_0 (by decide) ?_
  refine lv_lstore_n (lv' := [(1, .long (0 : Int64)), (0, .ref q_Mk)]) hx hb dX1_sumOfParts_1 rfl hl (by decide) rfl (fun ls hl => ?_)
  refine lv_iconst (v := (0 : Int32)) hx hb dX1_sumOfParts_2 (by decide) ?_
  refine lv_istore_n (lv' := [(3, .int (0 : Int32)), (1, .long (0 : Int64)), (0, .ref q_Mk)]) hx hb dX1_sumOfParts_3 rfl hl (by decide) rfl (fun ls hl => ?_)
  exact k_X1_sumOfParts_4 C0 N res q_Sp q_Mk q_parts q_Pr q_prime q_times q_Sc sp_unlike sp_number sp_partsKept sp_partsNumber a_parts N (0 : Int64) (0 : Int32) h _ _ hP hD hS _ (lv_sub hl [2, 1, 0] rfl)
set_option maxRecDepth 100000 in
set_option maxHeartbeats 4000000 in
theorem c_X1_sumOfParts (l : Launch) (dC : Nat → ClassId) (dI : Nat → Nat → Nat) (cyI cyJ cyZ : ClassId) (N : Nat) (res : Int32) (sz : Nat) (q_Sp : Nat) (q_Mk : Nat) (q_parts : Nat) (q_Pr : Nat) (q_prime : Nat) (q_times : Nat) (q_Sc : Nat) (sp_unlike : Int32) (sp_number : Int64) (sp_partsKept : Int32) (sp_partsNumber : Int64) (a_parts : Nat → Int64) (h : f_X1_sumOfParts N  sp_partsKept a_parts = some res) : Met l yX1_sumOfParts wsX1_sumOfParts rm_X1_sumOfParts (pC dC dI cyI cyJ cyZ [.ref q_Mk] sz (wd29 cyI cyJ cyZ q_Sp q_Mk q_parts q_Pr q_prime q_times q_Sc sp_unlike sp_number sp_partsKept sp_partsNumber a_parts)) (va_Qi (fun (r : Int32) (_ : Unit) => r = res) (bW dC dI (fun (u : Unit) => (wd29 cyI cyJ cyZ q_Sp q_Mk q_parts q_Pr q_prime q_times q_Sc sp_unlike sp_number sp_partsKept sp_partsNumber a_parts)) (va_A (wd29 cyI cyJ cyZ q_Sp q_Mk q_parts q_Pr q_prime q_times q_Sc sp_unlike sp_number sp_partsKept sp_partsNumber a_parts) sz)) (va_A (wd29 cyI cyJ cyZ q_Sp q_Mk q_parts q_Pr q_prime q_times q_Sc sp_unlike sp_number sp_partsKept sp_partsNumber a_parts) sz)) 0 0 (va_A (wd29 cyI cyJ cyZ q_Sp q_Mk q_parts q_Pr q_prime q_times q_Sc sp_unlike sp_number sp_partsKept sp_partsNumber a_parts) sz) := by
  refine Met.ofW (cc := cX1_sumOfParts) (maxL := 4) (ret := (some .int)) (by decide) rfl ?_
  intro p e s m args below meth c s₁ B hml hv
  obtain ⟨rfl, hsz, hP, hG, hD0⟩ := hv
  have hx := B.exec
  have hb := B.bytes
  have hr := B.returns
  have hts := atoms_spec (ws := wsX1_sumOfParts) B.pre
  have hown : s.vm.findClass RX1 = some m.cls := findClass_of_methodNamed B.named
  have hlocks := B.notSynchronized
  subst hsz
  have hD := hD0.self (sz := s.heap.size)
  generalize hAe : va_A (wd29 cyI cyJ cyZ q_Sp q_Mk q_parts q_Pr q_prime q_times q_Sc sp_unlike sp_number sp_partsKept sp_partsNumber a_parts) s.heap.size = A at hD ⊢
  have hA : ∀ q : Nat, s.heap.size ≤ q → A q := fun q h => by rw [← hAe]; exact Or.inr h
  have hS : va_S A s.heap s.heap [] := va_S.rf
  have hl := lv_entry ([.ref q_Mk]) (n := 4) (Nat.le_of_ble_eq_true rfl)
  rw [lg_entry_eq]
  generalize (lg_sl ([.ref q_Mk]) ++ List.replicate (4 - (lg_sl ([.ref q_Mk])).length) Slot.unset).toArray = ls at hl ⊢
  have hl : lv_has ls 4 [(0, .ref q_Mk)] := hl
  exact k_X1_sumOfParts_0 ⟨hx, hb, hr, hml, hown, hts, hlocks, hG, hA⟩ N res q_Sp q_Mk q_parts q_Pr q_prime q_times q_Sc sp_unlike sp_number sp_partsKept sp_partsNumber a_parts  h _ _ hP hD hS _ hl
/-- the cells Sc, Mk, row -/
abbrev wd30 (cyI cyJ cyZ : ClassId) (q_Sc : Nat) (q_Mk : Nat) (q_row : Nat) (q_Sp : Nat) (n_row : Nat) (a_row : Nat → Int32) : va_W := [(q_Sc, .inr (4, [.ref q_row])), (q_Mk, .inr (1, [.ref q_Sp, .ref q_Sc])), (q_row, .inl (cyI, n_row, .inl a_row))]
abbrev rm_X1_borrowed (MC MS : Nat) : Room := { frames := 1, cells := MC, slots := MS, locals := 20 }
theorem hd_X1_borrowed : yX1_borrowed.cls ≠ "java/lang/invoke/MethodHandle" ∧ yX1_borrowed.cls ≠ "java/lang/invoke/VarHandle" ∧ (parseMethodDescriptor yX1_borrowed.desc).map (fun d => d.parameters.length) = some 1 := by decide +kernel
theorem iw_X1_borrowed_X4 : ∀ w ∈ wsX40, w ∈ wsX1_borrowed := List.forall_mem_cons.mpr ⟨List.mem_of_getElem? (i := 12) rfl, fun _ h => absurd h List.not_mem_nil⟩
theorem iw_X1_borrowed_X1 : ∀ w ∈ wsX10, w ∈ wsX1_borrowed := List.forall_mem_cons.mpr ⟨List.mem_of_getElem? (i := 10) rfl, List.forall_mem_cons.mpr ⟨List.mem_of_getElem? (i := 11) rfl, fun _ h => absurd h List.not_mem_nil⟩⟩
def s_X1_borrowed_10 (N : Nat) (MC : Nat) (MS : Nat) (v1 : Int32) (n_row : Nat) (gc : Nat) (gs : Nat) (k_10 : (Int32 × (Nat → Int32)) → Option (Nat × (Nat → Int32))) (v3 : Int32) (a_row : Nat → Int32) : Option (Nat × (Nat → Int32)) :=
  if v1 < v3 then
    if gc ≤ MC ∧ gs ≤ MS then
      some (n_row, a_row)
    else
      none
  else
    if (nI n_row) ≤ v3 then
      if gc ≤ MC ∧ gs ≤ MS then
        some (n_row, a_row)
      else
        none
    else
      if v3 < 0 ∨ n_row ≤ v3.toNatClampNeg then
        none
      else
        xl (v3 + (1 : Int32)) fun y10z =>
        k_10 (y10z, upd a_row v3.toNatClampNeg (10000 : Int32))
def l_X1_borrowed_10 (N : Nat) (MC : Nat) (MS : Nat) (v1 : Int32) (n_row : Nat) (gc : Nat) (gs : Nat) (n : Nat) (z : Int32 × (Nat → Int32)) : Option (Nat × (Nat → Int32)) := lp (fun k z => s_X1_borrowed_10 N MC MS v1 n_row gc gs k z.1 z.2) n z
set_option maxRecDepth 100000 in
set_option maxHeartbeats 4000000 in
theorem k_X1_borrowed_10 {p : Program} {l : Launch} {e : Env} {s : State} {m : MethodId} {args : Array Value} {below : List Frame} {meth : Method} {c : Code} {dC : Nat → ClassId} {dI : Nat → Nat → Nat} {cyI cyJ cyZ : ClassId} {A : Nat → Prop} (C0 : mC p s m meth c args cX1_borrowed (some (.array .int)) 4 RX1 wsX1_borrowed (gK dC dI cyI cyJ cyZ) A) (N : Nat) (MC MS : Nat) (res : Nat × (Nat → Int32)) (q_Sc : Nat) (q_Mk : Nat) (q_Sp : Nat) (v1 : Int32) (n_row : Nat) (gc : Nat) (gs : Nat) : ∀ (n : Nat) (v3 : Int32) (a_row : Nat → Int32) (q_row : Nat), l_X1_borrowed_10 N MC MS v1 n_row gc gs n (v3, a_row) = some res → ∀ (H : Heap) (locs : List Loc), va_P (dC, dI) vwCl (wd30 cyI cyJ cyZ q_Sc q_Mk q_row q_Sp n_row a_row) H → va_D A (wd30 cyI cyJ cyZ q_Sc q_Mk q_row q_Sp n_row a_row) → va_S A s.heap H locs → ∀ (ls : Array Slot), lv_has ls 4 [(1, .int v1), (2, .ref q_row), (3, .int v3)] → W p l e (headSpec wsX1_borrowed (rm_X1_borrowed MC MS)).room s m args below meth c H locs gc gs (MQ below (va_Qr (fun (_ : Unit) => True) (bR dC dI (fun (u : Unit) (a : Nat) => (wd30 cyI cyJ cyZ q_Sc q_Mk a q_Sp res.1 res.2)) A) A) args s MC MS A) (F0 m 10 ls []) := by
  obtain ⟨hx, hb, hr, hml, hown, hts, hlocks, hG, hA⟩ := id C0
  have hK := hG.1
  intro n
  induction n with
  | zero =>
    intro v3 a_row q_row h
    cases h
  | succ n ih =>
    intro v3 a_row q_row h H locs hP hD hS ls hl
    have h : s_X1_borrowed_10 N MC MS v1 n_row gc gs (l_X1_borrowed_10 N MC MS v1 n_row gc gs n) v3 a_row = some res := h
    unfold s_X1_borrowed_10 at h
    refine lv_iload_n hx hb dX1_borrowed_10 rfl (lv_at hl 2 rfl) ?_
    refine lv_iload_n hx hb dX1_borrowed_11 rfl (lv_at hl 0 rfl) ?_
    refine lv_icmp_gt (tgt := 33) hx hb dX1_borrowed_12 (by decide) (fun c5z => ?_) (fun c5z => ?_)
    · have h := xt h c5z
      refine lv_aload_n hx hb dX1_borrowed_33 rfl (lv_at hl 1 rfl) ?_
      obtain ⟨b6z, h⟩ := xa h
      refine W.widen (k := MC) (n := MS) b6z.1 b6z.2 ?_
      obtain rfl := Option.some.inj h
      exact W.aret hx hb hr (Or.inr ⟨_, rfl⟩) (Or.inr ⟨_, rfl⟩) (fun t ht hW => ⟨⟨(), q_row, rfl, trivial, by rw [ht]; exact hP, hD⟩, hS.F ht⟩) hS.2.2 dX1_borrowed_34 hlocks
    · have h := xf h c5z
      refine lv_iload_n hx hb dX1_borrowed_15 rfl (lv_at hl 2 rfl) ?_
      refine lv_aload_n hx hb dX1_borrowed_16 rfl (lv_at hl 1 rfl) ?_
      refine va_alen (v := nI n_row) hx hb hK hP 2 0 rfl rfl rfl dX1_borrowed_17 ?_
      refine lv_icmp_ge (tgt := 33) hx hb dX1_borrowed_18 (by decide) (fun c7z => ?_) (fun c7z => ?_)
      · have h := xt h c7z
        refine lv_aload_n hx hb dX1_borrowed_33 rfl (lv_at hl 1 rfl) ?_
        obtain ⟨b8z, h⟩ := xa h
        refine W.widen (k := MC) (n := MS) b8z.1 b8z.2 ?_
        obtain rfl := Option.some.inj h
        exact W.aret hx hb hr (Or.inr ⟨_, rfl⟩) (Or.inr ⟨_, rfl⟩) (fun t ht hW => ⟨⟨(), q_row, rfl, trivial, by rw [ht]; exact hP, hD⟩, hS.F ht⟩) hS.2.2 dX1_borrowed_34 hlocks
      · have h := xf h c7z
        refine lv_aload_n hx hb dX1_borrowed_21 rfl (lv_at hl 1 rfl) ?_
        refine lv_iload_n hx hb dX1_borrowed_22 rfl (lv_at hl 2 rfl) ?_
        refine lv_sipush (v := (10000 : Int32)) hx hb dX1_borrowed_23 (by decide) ?_
        obtain ⟨b9z, h⟩ := xn h
        refine va_iast hx hb hK hP hD hS 2 0 rfl rfl b9z dX1_borrowed_26 (fun H locs hP hD hS => ?_)
        have hP : va_P (dC, dI) vwCl (wd30 cyI cyJ cyZ q_Sc q_Mk q_row q_Sp n_row (upd a_row v3.toNatClampNeg (10000 : Int32))) H := hP
        have hD : va_D A (wd30 cyI cyJ cyZ q_Sc q_Mk q_row q_Sp n_row (upd a_row v3.toNatClampNeg (10000 : Int32))) := hD
        obtain ⟨y10z, ey10z⟩ : ∃ z : Int32, z = v3 + (1 : Int32) := ⟨_, rfl⟩
        have h := xl_at h ey10z
        refine lv_iinc (v := y10z) (lv' := [(3, .int y10z), (1, .int v1), (2, .ref q_row)]) hx hb dX1_borrowed_27 hl (k := 2) rfl (by rw [ey10z]; rfl) (by decide) rfl (fun ls hl => ?_)
        refine lv_goto (tgt := 10) hx hb dX1_borrowed_30 (by decide) ?_
        exact ih y10z (upd a_row v3.toNatClampNeg (10000 : Int32)) q_row h _ _ hP hD hS _ (lv_sub hl [1, 2, 0] rfl)
def f_X1_borrowed (N : Nat) (MC : Nat) (MS : Nat) (v1 : Int32) (n_row : Nat) (a_row : Nat → Int32) : Option (Nat × (Nat → Int32)) :=
  if 0 + (if nI n_row = 0 then 1 else 0) ≤ MC ∧ 0 + (if nI n_row = 0 then 50001 else 0) ≤ MS then
    Option.bind (f_X4_borrowed N (if nI n_row = 0 then 1 else 0) (if nI n_row = 0 then 50001 else 0)  n_row a_row) fun r1z =>
    l_X1_borrowed_10 N MC MS v1 r1z.1 (0 + (if nI n_row = 0 then 1 else 0)) (0 + (if nI n_row = 0 then 50001 else 0)) N ((0 : Int32), r1z.2)
  else
    none
set_option maxRecDepth 100000 in
set_option maxHeartbeats 4000000 in
theorem k_X1_borrowed_0 {p : Program} {l : Launch} {e : Env} {s : State} {m : MethodId} {args : Array Value} {below : List Frame} {meth : Method} {c : Code} {dC : Nat → ClassId} {dI : Nat → Nat → Nat} {cyI cyJ cyZ : ClassId} {A : Nat → Prop} (C0 : mC p s m meth c args cX1_borrowed (some (.array .int)) 4 RX1 wsX1_borrowed (gK dC dI cyI cyJ cyZ) A) (N : Nat) (MC MS : Nat) (res : Nat × (Nat → Int32)) (q_Sc : Nat) (q_Mk : Nat) (q_Sp : Nat) (v1 : Int32) (n_row : Nat) (a_row : Nat → Int32) (q_row : Nat) (h : f_X1_borrowed N MC MS v1 n_row a_row = some res) : ∀ (H : Heap) (locs : List Loc), va_P (dC, dI) vwCl (wd30 cyI cyJ cyZ q_Sc q_Mk q_row q_Sp n_row a_row) H → va_D A (wd30 cyI cyJ cyZ q_Sc q_Mk q_row q_Sp n_row a_row) → va_S A s.heap H locs → ∀ (ls : Array Slot), lv_has ls 4 [(0, .ref q_Mk), (1, .int v1)] → W p l e (headSpec wsX1_borrowed (rm_X1_borrowed MC MS)).room s m args below meth c H locs 0 0 (MQ below (va_Qr (fun (_ : Unit) => True) (bR dC dI (fun (u : Unit) (a : Nat) => (wd30 cyI cyJ cyZ q_Sc q_Mk a q_Sp res.1 res.2)) A) A) args s MC MS A) (F0 m 0 ls []) := by
  obtain ⟨hx, hb, hr, hml, hown, hts, hlocks, hG, hA⟩ := id C0
  have hK := hG.1
  intro H locs hP hD hS ls hl
  unfold f_X1_borrowed at h
  refine lv_aload_n hx hb dX1_borrowed_0 rfl (lv_at hl 0 rfl) ?_
  refine va_get (D := (dC, dI)) (ci := 1) (v := .ref q_Sc) (C := RX1) (T := TX1) (N := 2) hx hb hts iw_X1_borrowed_X1 hown hK hP 1 rfl rfl 1 (by decide) (hts (.fieldLink RX1 15 "GoesInto$Maker" "scratch" "LGoesInto$Scratch;") (List.mem_of_getElem? (i := 1) rfl)) (fun _ h9 => h9) rfl dX1_borrowed_1 ?_
  obtain ⟨b2z, h⟩ := xa h
  obtain ⟨r1z, hr1z, h⟩ := xb_at h
  have hPc := hP.sub (ws' := (wd10 cyI cyJ cyZ q_Sc q_row n_row a_row)) [0, 2] rfl
  have hDc := hD.sub (ws' := (wd10 cyI cyJ cyZ q_Sc q_row n_row a_row)) [0, 2] (by decide) rfl
  refine cal_r [0, 2] [1] (va_runV (As := []) (rest := []) ⟨hx, hb, hml, hown, hts⟩ (c_X4_borrowed l dC dI cyI cyJ cyZ N (if nI n_row = 0 then 1 else 0) (if nI n_row = 0 then 50001 else 0) r1z H.size q_Sc q_row  n_row a_row hr1z) (cwV 0 hts gX1_borrowed_X4_borrowed rfl rfl rfl ⟨rfl, hd_X4_borrowed⟩ ⟨Nat.le_of_ble_eq_true rfl, Nat.le_of_ble_eq_true rfl⟩) ⟨pC.blind, va_recv hK hPc (ci := 4) (q0 := 0) rfl rfl, pC.pre hPc hG hDc⟩ rfl rfl hl.1 rfl (lv_room (Nat.le_of_ble_eq_true rfl)) dX1_borrowed_4 ⟨b2z.1, b2z.2⟩) hP hD hS hA rfl rfl rfl (by decide) (fun x4z u3z H locs _ hP hD hS => ?_)
  have hP : va_P (dC, dI) vwCl (wd30 cyI cyJ cyZ q_Sc q_Mk x4z q_Sp r1z.1 r1z.2) H := hP.sub [1, 0, 2] rfl
  have hD : va_D A (wd30 cyI cyJ cyZ q_Sc q_Mk x4z q_Sp r1z.1 r1z.2) := hD.sub [1, 0, 2] (by decide) rfl
  refine lv_astore_n (lv' := [(2, .ref x4z), (0, .ref q_Mk), (1, .int v1)]) hx hb dX1_borrowed_7 rfl hl (by decide) rfl (fun ls hl => ?_)
  refine lv_iconst (v := (0 : Int32)) hx hb dX1_borrowed_8 (by decide) ?_
  refine lv_istore_n (lv' := [(3, .int (0 : Int32)), (2, .ref x4z), (0, .ref q_Mk), (1, .int v1)]) hx hb dX1_borrowed_9 rfl hl (by decide) rfl (fun ls hl => ?_)
  exact k_X1_borrowed_10 C0 N MC MS res q_Sc q_Mk q_Sp v1 r1z.1 (0 + (if nI n_row = 0 then 1 else 0)) (0 + (if nI n_row = 0 then 50001 else 0)) N (0 : Int32) r1z.2 x4z h _ _ hP hD hS _ (lv_sub hl [3, 1, 0] rfl)
set_option maxRecDepth 100000 in
set_option maxHeartbeats 4000000 in
theorem c_X1_borrowed (l : Launch) (dC : Nat → ClassId) (dI : Nat → Nat → Nat) (cyI cyJ cyZ : ClassId) (N : Nat) (MC MS : Nat) (res : Nat × (Nat → Int32)) (sz : Nat) (q_Sc : Nat) (q_Mk : Nat) (q_row : Nat) (q_Sp : Nat) (v1 : Int32) (n_row : Nat) (a_row : Nat → Int32) (h : f_X1_borrowed N MC MS v1 n_row a_row = some res) : Met l yX1_borrowed wsX1_borrowed (rm_X1_borrowed MC MS) (pC dC dI cyI cyJ cyZ [.ref q_Mk, .int v1] sz (wd30 cyI cyJ cyZ q_Sc q_Mk q_row q_Sp n_row a_row)) (va_Qr (fun (_ : Unit) => True) (bR dC dI (fun (u : Unit) (a : Nat) => (wd30 cyI cyJ cyZ q_Sc q_Mk a q_Sp res.1 res.2)) (va_A (wd30 cyI cyJ cyZ q_Sc q_Mk q_row q_Sp n_row a_row) sz)) (va_A (wd30 cyI cyJ cyZ q_Sc q_Mk q_row q_Sp n_row a_row) sz)) MC MS (va_A (wd30 cyI cyJ cyZ q_Sc q_Mk q_row q_Sp n_row a_row) sz) := by
  refine Met.ofW (cc := cX1_borrowed) (maxL := 4) (ret := (some (.array .int))) (by decide) rfl ?_
  intro p e s m args below meth c s₁ B hml hv
  obtain ⟨rfl, hsz, hP, hG, hD0⟩ := hv
  have hx := B.exec
  have hb := B.bytes
  have hr := B.returns
  have hts := atoms_spec (ws := wsX1_borrowed) B.pre
  have hown : s.vm.findClass RX1 = some m.cls := findClass_of_methodNamed B.named
  have hlocks := B.notSynchronized
  subst hsz
  have hD := hD0.self (sz := s.heap.size)
  generalize hAe : va_A (wd30 cyI cyJ cyZ q_Sc q_Mk q_row q_Sp n_row a_row) s.heap.size = A at hD ⊢
  have hA : ∀ q : Nat, s.heap.size ≤ q → A q := fun q h => by rw [← hAe]; exact Or.inr h
  have hS : va_S A s.heap s.heap [] := va_S.rf
  have hl := lv_entry ([.ref q_Mk, .int v1]) (n := 4) (Nat.le_of_ble_eq_true rfl)
  rw [lg_entry_eq]
  generalize (lg_sl ([.ref q_Mk, .int v1]) ++ List.replicate (4 - (lg_sl ([.ref q_Mk, .int v1])).length) Slot.unset).toArray = ls at hl ⊢
  have hl : lv_has ls 4 [(0, .ref q_Mk), (1, .int v1)] := hl
  exact k_X1_borrowed_0 ⟨hx, hb, hr, hml, hown, hts, hlocks, hG, hA⟩ N MC MS res q_Sc q_Mk q_Sp v1 n_row a_row q_row h _ _ hP hD hS _ hl
abbrev rm_X1_addPart : Room := { frames := 0, cells := 0, slots := 0, locals := 0 }
theorem hd_X1_addPart : yX1_addPart.cls ≠ "java/lang/invoke/MethodHandle" ∧ yX1_addPart.cls ≠ "java/lang/invoke/VarHandle" ∧ (parseMethodDescriptor yX1_addPart.desc).map (fun d => d.parameters.length) = some 4 := by decide +kernel
def s_X1_addPart_20 (N : Nat) (v1 : Int32) (v2 : Int32) (n_PaI : Nat) (k_20 : (Int32 × (Nat → Int32)) → Option ((Nat → Int32))) (v4 : Int32) (a_PaI : Nat → Int32) : Option ((Nat → Int32)) :=
  if v4 < v2 then
    some a_PaI
  else
    xl (v4 - v1) fun y5z =>
    if y5z < 0 ∨ n_PaI ≤ y5z.toNatClampNeg then
      none
    else
      xl ((a_PaI y5z.toNatClampNeg) + (1 : Int32)) fun y7z =>
      if v4 < 0 ∨ n_PaI ≤ v4.toNatClampNeg then
        none
      else
        if (a_PaI v4.toNatClampNeg) ≤ y7z then
          xl (v4 + (-1 : Int32)) fun y10z =>
          k_20 (y10z, a_PaI)
        else
          xl (v4 + (-1 : Int32)) fun y11z =>
          k_20 (y11z, upd a_PaI v4.toNatClampNeg y7z)
def l_X1_addPart_20 (N : Nat) (v1 : Int32) (v2 : Int32) (n_PaI : Nat) (n : Nat) (z : Int32 × (Nat → Int32)) : Option ((Nat → Int32)) := lp (fun k z => s_X1_addPart_20 N v1 v2 n_PaI k z.1 z.2) n z
set_option maxRecDepth 100000 in
set_option maxHeartbeats 4000000 in
theorem k_X1_addPart_20 {p : Program} {l : Launch} {e : Env} {s : State} {m : MethodId} {args : Array Value} {below : List Frame} {meth : Method} {c : Code} {dC : Nat → ClassId} {dI : Nat → Nat → Nat} {cyI cyJ cyZ : ClassId} {A : Nat → Prop} (C0 : mC p s m meth c args cX1_addPart none 6 RX1 wsX1_addPart (gK dC dI cyI cyJ cyZ) A) (N : Nat) (res : (Nat → Int32)) (q_PaI : Nat) (v1 : Int32) (v2 : Int32) (n_PaI : Nat) : ∀ (n : Nat) (v4 : Int32) (a_PaI : Nat → Int32), l_X1_addPart_20 N v1 v2 n_PaI n (v4, a_PaI) = some res → ∀ (H : Heap) (locs : List Loc), va_P (dC, dI) vwCl (wd9 cyI cyJ cyZ q_PaI n_PaI a_PaI) H → va_D A (wd9 cyI cyJ cyZ q_PaI n_PaI a_PaI) → va_S A s.heap H locs → ∀ (ls : Array Slot), lv_has ls 6 [(0, .ref q_PaI), (1, .int v1), (2, .int v2), (4, .int v4)] → W p l e (headSpec wsX1_addPart rm_X1_addPart).room s m args below meth c H locs 0 0 (MQ below (va_Qv (fun (_ : Unit) => True) (bW dC dI (fun (u : Unit) => (wd9 cyI cyJ cyZ q_PaI n_PaI res)) A) A) args s 0 0 A) (F0 m 20 ls []) := by
  obtain ⟨hx, hb, hr, hml, hown, hts, hlocks, hG, hA⟩ := id C0
  have hK := hG.1
  intro n
  induction n with
  | zero =>
    intro v4 a_PaI h
    cases h
  | succ n ih =>
    intro v4 a_PaI h H locs hP hD hS ls hl
    have h : s_X1_addPart_20 N v1 v2 n_PaI (l_X1_addPart_20 N v1 v2 n_PaI n) v4 a_PaI = some res := h
    unfold s_X1_addPart_20 at h
    refine lv_iload hx hb dX1_addPart_20 (lv_at hl 3 rfl) ?_
    refine lv_iload_n hx hb dX1_addPart_22 rfl (lv_at hl 2 rfl) ?_
    refine lv_icmp_lt (tgt := 57) hx hb dX1_addPart_23 (by decide) (fun c4z => ?_) (fun c4z => ?_)
    · have h := xt h c4z
      obtain rfl := Option.some.inj h
      exact W.vret hx hb hr (fun t ht hW => ⟨⟨(), rfl, trivial, by rw [ht]; exact hP, hD⟩, hS.F ht⟩) hS.2.2 dX1_addPart_57 hlocks
    · have h := xf h c4z
      refine lv_aload_n hx hb dX1_addPart_26 rfl (lv_at hl 0 rfl) ?_
      refine lv_iload hx hb dX1_addPart_27 (lv_at hl 3 rfl) ?_
      refine lv_iload_n hx hb dX1_addPart_29 rfl (lv_at hl 1 rfl) ?_
      refine lv_isub hx hb dX1_addPart_30 ?_
      refine lv_topi (fun y5z ey5z => ?_)
      have h := xl_at h ey5z
      obtain ⟨b6z, h⟩ := xn h
      refine va_iald hx hb hK hP 0 0 rfl rfl b6z dX1_addPart_31 ?_
      refine lv_iconst (v := (1 : Int32)) hx hb dX1_addPart_32 (by decide) ?_
      refine lv_iadd hx hb dX1_addPart_33 ?_
      refine lv_topi (fun y7z ey7z => ?_)
      have h := xl_at h ey7z
      refine lv_istore (lv' := [(5, .int y7z), (0, .ref q_PaI), (1, .int v1), (2, .int v2), (4, .int v4)]) hx hb dX1_addPart_34 hl (by decide) rfl (fun ls hl => ?_)
      refine lv_iload hx hb dX1_addPart_36 (lv_at hl 0 rfl) ?_
      refine lv_aload_n hx hb dX1_addPart_38 rfl (lv_at hl 1 rfl) ?_
      refine lv_iload hx hb dX1_addPart_39 (lv_at hl 4 rfl) ?_
      obtain ⟨b8z, h⟩ := xn h
      refine va_iald hx hb hK hP 0 0 rfl rfl b8z dX1_addPart_41 ?_
      refine lv_icmp_ge (tgt := 51) hx hb dX1_addPart_42 (by decide) (fun c9z => ?_) (fun c9z => ?_)
      · have h := xt h c9z
        obtain ⟨y10z, ey10z⟩ : ∃ z : Int32, z = v4 + (-1 : Int32) := ⟨_, rfl⟩
        have h := xl_at h ey10z
        refine lv_iinc (v := y10z) (lv' := [(4, .int y10z), (5, .int y7z), (0, .ref q_PaI), (1, .int v1), (2, .int v2)]) hx hb dX1_addPart_51 hl (k := 4) rfl (by rw [ey10z]; rfl) (by decide) rfl (fun ls hl => ?_)
        refine lv_goto (tgt := 20) hx hb dX1_addPart_54 (by decide) ?_
        exact ih y10z a_PaI h _ _ hP hD hS _ (lv_sub hl [2, 3, 4, 0] rfl)
      · have h := xf h c9z
        refine lv_aload_n hx hb dX1_addPart_45 rfl (lv_at hl 1 rfl) ?_
        refine lv_iload hx hb dX1_addPart_46 (lv_at hl 4 rfl) ?_
        refine lv_iload hx hb dX1_addPart_48 (lv_at hl 0 rfl) ?_
        refine va_iast hx hb hK hP hD hS 0 0 rfl rfl b8z dX1_addPart_50 (fun H locs hP hD hS => ?_)
        have hP : va_P (dC, dI) vwCl (wd9 cyI cyJ cyZ q_PaI n_PaI (upd a_PaI v4.toNatClampNeg y7z)) H := hP
        have hD : va_D A (wd9 cyI cyJ cyZ q_PaI n_PaI (upd a_PaI v4.toNatClampNeg y7z)) := hD
        obtain ⟨y11z, ey11z⟩ : ∃ z : Int32, z = v4 + (-1 : Int32) := ⟨_, rfl⟩
        have h := xl_at h ey11z
        refine lv_iinc (v := y11z) (lv' := [(4, .int y11z), (5, .int y7z), (0, .ref q_PaI), (1, .int v1), (2, .int v2)]) hx hb dX1_addPart_51 hl (k := 4) rfl (by rw [ey11z]; rfl) (by decide) rfl (fun ls hl => ?_)
        refine lv_goto (tgt := 20) hx hb dX1_addPart_54 (by decide) ?_
        exact ih y11z (upd a_PaI v4.toNatClampNeg y7z) h _ _ hP hD hS _ (lv_sub hl [2, 3, 4, 0] rfl)
def f_X1_addPart (N : Nat) (v1 : Int32) (v2 : Int32) (v3 : Int32) (n_PaI : Nat) (a_PaI : Nat → Int32) : Option ((Nat → Int32)) :=
  if v1 < (1 : Int32) then
    some a_PaI
  else
    if v2 < v1 then
      some a_PaI
    else
      if v3 < (nI n_PaI) then
        l_X1_addPart_20 N v1 v2 n_PaI N (v3, a_PaI)
      else
        some a_PaI
set_option maxRecDepth 100000 in
set_option maxHeartbeats 4000000 in
theorem k_X1_addPart_0 {p : Program} {l : Launch} {e : Env} {s : State} {m : MethodId} {args : Array Value} {below : List Frame} {meth : Method} {c : Code} {dC : Nat → ClassId} {dI : Nat → Nat → Nat} {cyI cyJ cyZ : ClassId} {A : Nat → Prop} (C0 : mC p s m meth c args cX1_addPart none 6 RX1 wsX1_addPart (gK dC dI cyI cyJ cyZ) A) (N : Nat) (res : (Nat → Int32)) (q_PaI : Nat) (v1 : Int32) (v2 : Int32) (v3 : Int32) (n_PaI : Nat) (a_PaI : Nat → Int32) (h : f_X1_addPart N v1 v2 v3 n_PaI a_PaI = some res) : ∀ (H : Heap) (locs : List Loc), va_P (dC, dI) vwCl (wd9 cyI cyJ cyZ q_PaI n_PaI a_PaI) H → va_D A (wd9 cyI cyJ cyZ q_PaI n_PaI a_PaI) → va_S A s.heap H locs → ∀ (ls : Array Slot), lv_has ls 6 [(0, .ref q_PaI), (1, .int v1), (2, .int v2), (3, .int v3)] → W p l e (headSpec wsX1_addPart rm_X1_addPart).room s m args below meth c H locs 0 0 (MQ below (va_Qv (fun (_ : Unit) => True) (bW dC dI (fun (u : Unit) => (wd9 cyI cyJ cyZ q_PaI n_PaI res)) A) A) args s 0 0 A) (F0 m 0 ls []) := by
  obtain ⟨hx, hb, hr, hml, hown, hts, hlocks, hG, hA⟩ := id C0
  have hK := hG.1
  intro H locs hP hD hS ls hl
  unfold f_X1_addPart at h
  refine lv_iload_n hx hb dX1_addPart_0 rfl (lv_at hl 1 rfl) ?_
  refine lv_iconst (v := (1 : Int32)) hx hb dX1_addPart_1 (by decide) ?_
  refine lv_icmp_lt (tgt := 16) hx hb dX1_addPart_2 (by decide) (fun c1z => ?_) (fun c1z => ?_)
  · have h := xt h c1z
    obtain rfl := Option.some.inj h
    exact W.vret hx hb hr (fun t ht hW => ⟨⟨(), rfl, trivial, by rw [ht]; exact hP, hD⟩, hS.F ht⟩) hS.2.2 dX1_addPart_16 hlocks
  · have h := xf h c1z
    refine lv_iload_n hx hb dX1_addPart_5 rfl (lv_at hl 2 rfl) ?_
    refine lv_iload_n hx hb dX1_addPart_6 rfl (lv_at hl 1 rfl) ?_
    refine lv_icmp_lt (tgt := 16) hx hb dX1_addPart_7 (by decide) (fun c2z => ?_) (fun c2z => ?_)
    · have h := xt h c2z
      obtain rfl := Option.some.inj h
      exact W.vret hx hb hr (fun t ht hW => ⟨⟨(), rfl, trivial, by rw [ht]; exact hP, hD⟩, hS.F ht⟩) hS.2.2 dX1_addPart_16 hlocks
    · have h := xf h c2z
      refine lv_iload_n hx hb dX1_addPart_10 rfl (lv_at hl 3 rfl) ?_
      refine lv_aload_n hx hb dX1_addPart_11 rfl (lv_at hl 0 rfl) ?_
      refine va_alen (v := nI n_PaI) hx hb hK hP 0 0 rfl rfl rfl dX1_addPart_12 ?_
      refine lv_icmp_lt (tgt := 17) hx hb dX1_addPart_13 (by decide) (fun c3z => ?_) (fun c3z => ?_)
      · have h := xt h c3z
        refine lv_iload_n hx hb dX1_addPart_17 rfl (lv_at hl 3 rfl) ?_
        refine lv_istore (lv' := [(4, .int v3), (0, .ref q_PaI), (1, .int v1), (2, .int v2), (3, .int v3)]) hx hb dX1_addPart_18 hl (by decide) rfl (fun ls hl => ?_)
        exact k_X1_addPart_20 C0 N res q_PaI v1 v2 n_PaI N v3 a_PaI h _ _ hP hD hS _ (lv_sub hl [1, 2, 3, 0] rfl)
      · have h := xf h c3z
        obtain rfl := Option.some.inj h
        exact W.vret hx hb hr (fun t ht hW => ⟨⟨(), rfl, trivial, by rw [ht]; exact hP, hD⟩, hS.F ht⟩) hS.2.2 dX1_addPart_16 hlocks
set_option maxRecDepth 100000 in
set_option maxHeartbeats 4000000 in
theorem c_X1_addPart (l : Launch) (dC : Nat → ClassId) (dI : Nat → Nat → Nat) (cyI cyJ cyZ : ClassId) (N : Nat) (res : (Nat → Int32)) (sz : Nat) (q_PaI : Nat) (v1 : Int32) (v2 : Int32) (v3 : Int32) (n_PaI : Nat) (a_PaI : Nat → Int32) (h : f_X1_addPart N v1 v2 v3 n_PaI a_PaI = some res) : Met l yX1_addPart wsX1_addPart rm_X1_addPart (pC dC dI cyI cyJ cyZ [.ref q_PaI, .int v1, .int v2, .int v3] sz (wd9 cyI cyJ cyZ q_PaI n_PaI a_PaI)) (va_Qv (fun (_ : Unit) => True) (bW dC dI (fun (u : Unit) => (wd9 cyI cyJ cyZ q_PaI n_PaI res)) (va_A (wd9 cyI cyJ cyZ q_PaI n_PaI a_PaI) sz)) (va_A (wd9 cyI cyJ cyZ q_PaI n_PaI a_PaI) sz)) 0 0 (va_A (wd9 cyI cyJ cyZ q_PaI n_PaI a_PaI) sz) := by
  refine Met.ofW (cc := cX1_addPart) (maxL := 6) (ret := none) (by decide) rfl ?_
  intro p e s m args below meth c s₁ B hml hv
  obtain ⟨rfl, hsz, hP, hG, hD0⟩ := hv
  have hx := B.exec
  have hb := B.bytes
  have hr := B.returns
  have hts := atoms_spec (ws := wsX1_addPart) B.pre
  have hown : s.vm.findClass RX1 = some m.cls := findClass_of_methodNamed B.named
  have hlocks := B.notSynchronized
  subst hsz
  have hD := hD0.self (sz := s.heap.size)
  generalize hAe : va_A (wd9 cyI cyJ cyZ q_PaI n_PaI a_PaI) s.heap.size = A at hD ⊢
  have hA : ∀ q : Nat, s.heap.size ≤ q → A q := fun q h => by rw [← hAe]; exact Or.inr h
  have hS : va_S A s.heap s.heap [] := va_S.rf
  have hl := lv_entry ([.ref q_PaI, .int v1, .int v2, .int v3]) (n := 6) (Nat.le_of_ble_eq_true rfl)
  rw [lg_entry_eq]
  generalize (lg_sl ([.ref q_PaI, .int v1, .int v2, .int v3]) ++ List.replicate (6 - (lg_sl ([.ref q_PaI, .int v1, .int v2, .int v3])).length) Slot.unset).toArray = ls at hl ⊢
  have hl : lv_has ls 6 [(0, .ref q_PaI), (1, .int v1), (2, .int v2), (3, .int v3)] := hl
  exact k_X1_addPart_0 ⟨hx, hb, hr, hml, hown, hts, hlocks, hG, hA⟩ N res q_PaI v1 v2 v3 n_PaI a_PaI  h _ _ hP hD hS _ hl
/-- the cells Sc, Pr, Sp, Mk, row, list, prime, times, parts -/
abbrev wd31 (cyI cyJ cyZ : ClassId) (q_Sc : Nat) (q_Pr : Nat) (q_Sp : Nat) (q_Mk : Nat) (q_row : Nat) (q_list : Nat) (q_prime : Nat) (q_times : Nat) (q_parts : Nat) (sp_unlike : Int32) (sp_number : Int64) (sp_partsKept : Int32) (sp_partsNumber : Int64) (n_row : Nat) (a_row : Nat → Int32) (n_list : Nat) (a_list : Nat → Int32) (a_prime : Nat → Int64) (a_times : Nat → Int32) (a_parts : Nat → Int64) : va_W := [(q_Sc, .inr (4, [.ref q_row])), (q_Pr, .inr (3, [.ref q_Sc, .ref q_list])), (q_Sp, .inr (6, [.ref q_Pr, .ref q_prime, .ref q_times, .int sp_unlike, .long sp_number, .ref q_parts, .int sp_partsKept, .long sp_partsNumber])), (q_Mk, .inr (1, [.ref q_Sp, .ref q_Sc])), (q_row, .inl (cyI, n_row, .inl a_row)), (q_list, .inl (cyI, n_list, .inl a_list)), (q_prime, .inl (cyJ, 12, .inr (.inl a_prime))), (q_times, .inl (cyI, 12, .inl a_times)), (q_parts, .inl (cyJ, 2304, .inr (.inl a_parts)))]
abbrev rm_X1_fewest (MC MS : Nat) : Room := { frames := 2, cells := MC, slots := MS, locals := 56 }
theorem hd_X1_fewest : yX1_fewest.cls ≠ "java/lang/invoke/MethodHandle" ∧ yX1_fewest.cls ≠ "java/lang/invoke/VarHandle" ∧ (parseMethodDescriptor yX1_fewest.desc).map (fun d => d.parameters.length) = some 1 := by decide +kernel
theorem iw_X1_fewest_X4 : ∀ w ∈ wsX40, w ∈ wsX1_fewest := List.forall_mem_cons.mpr ⟨List.mem_of_getElem? (i := 71) rfl, fun _ h => absurd h List.not_mem_nil⟩
theorem iw_X1_fewest_X3 : ∀ w ∈ wsX30, w ∈ wsX1_fewest := List.forall_mem_cons.mpr ⟨List.mem_of_getElem? (i := 69) rfl, List.forall_mem_cons.mpr ⟨List.mem_of_getElem? (i := 70) rfl, fun _ h => absurd h List.not_mem_nil⟩⟩
theorem iw_X1_fewest_X6 : ∀ w ∈ wsX60, w ∈ wsX1_fewest := List.forall_mem_cons.mpr ⟨List.mem_of_getElem? (i := 61) rfl, List.forall_mem_cons.mpr ⟨List.mem_of_getElem? (i := 62) rfl, List.forall_mem_cons.mpr ⟨List.mem_of_getElem? (i := 63) rfl, List.forall_mem_cons.mpr ⟨List.mem_of_getElem? (i := 64) rfl, List.forall_mem_cons.mpr ⟨List.mem_of_getElem? (i := 65) rfl, List.forall_mem_cons.mpr ⟨List.mem_of_getElem? (i := 66) rfl, List.forall_mem_cons.mpr ⟨List.mem_of_getElem? (i := 67) rfl, List.forall_mem_cons.mpr ⟨List.mem_of_getElem? (i := 68) rfl, fun _ h => absurd h List.not_mem_nil⟩⟩⟩⟩⟩⟩⟩⟩
theorem iw_X1_fewest_X1 : ∀ w ∈ wsX10, w ∈ wsX1_fewest := List.forall_mem_cons.mpr ⟨List.mem_of_getElem? (i := 59) rfl, List.forall_mem_cons.mpr ⟨List.mem_of_getElem? (i := 60) rfl, fun _ h => absurd h List.not_mem_nil⟩⟩
def j_X1_fewest_142 (N : Nat) (MC : Nat) (MS : Nat) (v1 : Int32) (sp_unlike : Int32) (sp_number : Int64) (sp_partsKept : Int32) (sp_partsNumber : Int64) (n_row : Nat) (a_row : Nat → Int32) (a_prime : Nat → Int64) (a_times : Nat → Int32) (a_parts : Nat → Int64) (gc : Nat) (gs : Nat) : Option (Int32 × Int32 × Int64 × Int32 × Int64 × Nat × (Nat → Int32) × (Nat → Int64) × (Nat → Int32) × (Nat → Int64)) :=
  if v1 < 0 ∨ n_row ≤ v1.toNatClampNeg then
    none
  else
    if (10000 : Int32) ≤ (a_row v1.toNatClampNeg) then
      if gc ≤ MC ∧ gs ≤ MS then
        some ((-4 : Int32), sp_unlike, sp_number, sp_partsKept, sp_partsNumber, n_row, a_row, a_prime, a_times, a_parts)
      else
        none
    else
      if gc ≤ MC ∧ gs ≤ MS then
        some (a_row v1.toNatClampNeg, sp_unlike, sp_number, sp_partsKept, sp_partsNumber, n_row, a_row, a_prime, a_times, a_parts)
      else
        none
set_option maxRecDepth 100000 in
set_option maxHeartbeats 4000000 in
theorem k_X1_fewest_142 {p : Program} {l : Launch} {e : Env} {s : State} {m : MethodId} {args : Array Value} {below : List Frame} {meth : Method} {c : Code} {dC : Nat → ClassId} {dI : Nat → Nat → Nat} {cyI cyJ cyZ : ClassId} {A : Nat → Prop} (C0 : mC p s m meth c args cX1_fewest (some .int) 9 RX1 wsX1_fewest (gK dC dI cyI cyJ cyZ) A) (N : Nat) (MC MS : Nat) (res : Int32 × Int32 × Int64 × Int32 × Int64 × Nat × (Nat → Int32) × (Nat → Int64) × (Nat → Int32) × (Nat → Int64)) (q_Sc : Nat) (q_Pr : Nat) (q_Sp : Nat) (q_Mk : Nat) (q_list : Nat) (q_prime : Nat) (q_times : Nat) (q_parts : Nat) (v1 : Int32) (sp_unlike : Int32) (sp_number : Int64) (sp_partsKept : Int32) (sp_partsNumber : Int64) (n_row : Nat) (a_row : Nat → Int32) (n_list : Nat) (a_list : Nat → Int32) (a_prime : Nat → Int64) (a_times : Nat → Int32) (a_parts : Nat → Int64) (gc : Nat) (gs : Nat) (q_row : Nat) (h : j_X1_fewest_142 N MC MS v1 sp_unlike sp_number sp_partsKept sp_partsNumber n_row a_row a_prime a_times a_parts gc gs = some res) : ∀ (H : Heap) (locs : List Loc), va_P (dC, dI) vwCl (wd31 cyI cyJ cyZ q_Sc q_Pr q_Sp q_Mk q_row q_list q_prime q_times q_parts sp_unlike sp_number sp_partsKept sp_partsNumber n_row a_row n_list a_list a_prime a_times a_parts) H → va_D A (wd31 cyI cyJ cyZ q_Sc q_Pr q_Sp q_Mk q_row q_list q_prime q_times q_parts sp_unlike sp_number sp_partsKept sp_partsNumber n_row a_row n_list a_list a_prime a_times a_parts) → va_S A s.heap H locs → ∀ (ls : Array Slot), lv_has ls 9 [(1, .int v1), (3, .ref q_row)] → W p l e (headSpec wsX1_fewest (rm_X1_fewest MC MS)).room s m args below meth c H locs gc gs (MQ below (va_Qi (fun (r : Int32) (_ : Nat) => r = res.1) (bW dC dI (fun (u : Nat) => (wd31 cyI cyJ cyZ q_Sc q_Pr q_Sp q_Mk u q_list q_prime q_times q_parts res.2.1 res.2.2.1 res.2.2.2.1 res.2.2.2.2.1 res.2.2.2.2.2.1 res.2.2.2.2.2.2.1 n_list a_list res.2.2.2.2.2.2.2.1 res.2.2.2.2.2.2.2.2.1 res.2.2.2.2.2.2.2.2.2)) A) A) args s MC MS A) (F0 m 142 ls []) := by
  obtain ⟨hx, hb, hr, hml, hown, hts, hlocks, hG, hA⟩ := id C0
  have hK := hG.1
  intro H locs hP hD hS ls hl
  unfold j_X1_fewest_142 at h
  refine lv_aload_n hx hb dX1_fewest_142 rfl (lv_at hl 1 rfl) ?_
  refine lv_iload_n hx hb dX1_fewest_143 rfl (lv_at hl 0 rfl) ?_
  obtain ⟨b24z, h⟩ := xn h
  refine va_iald hx hb hK hP 4 0 rfl rfl b24z dX1_fewest_144 ?_
  refine lv_sipush (v := (10000 : Int32)) hx hb dX1_fewest_145 (by decide) ?_
  refine lv_icmp_ge (tgt := 157) hx hb dX1_fewest_148 (by decide) (fun c25z => ?_) (fun c25z => ?_)
  · have h := xt h c25z
    refine lv_bipush (v := (-4 : Int32)) hx hb dX1_fewest_157 (by decide) ?_
    obtain ⟨b26z, h⟩ := xa h
    refine W.widen (k := MC) (n := MS) b26z.1 b26z.2 ?_
    obtain rfl := Option.some.inj h
    exact W.iret (v := (-4 : Int32)) hx hb hr (fun t ht hW => ⟨⟨_, q_row, rfl, rfl, by rw [ht]; exact hP, hD⟩, hS.F ht⟩) hS.2.2 dX1_fewest_159 hlocks
  · have h := xf h c25z
    refine lv_aload_n hx hb dX1_fewest_151 rfl (lv_at hl 1 rfl) ?_
    refine lv_iload_n hx hb dX1_fewest_152 rfl (lv_at hl 0 rfl) ?_
    refine va_iald hx hb hK hP 4 0 rfl rfl b24z dX1_fewest_153 ?_
    refine lv_goto (tgt := 159) hx hb dX1_fewest_154 (by decide) ?_
    obtain ⟨b27z, h⟩ := xa h
    refine W.widen (k := MC) (n := MS) b27z.1 b27z.2 ?_
    obtain rfl := Option.some.inj h
    exact W.iret (v := a_row v1.toNatClampNeg) hx hb hr (fun t ht hW => ⟨⟨_, q_row, rfl, rfl, by rw [ht]; exact hP, hD⟩, hS.F ht⟩) hS.2.2 dX1_fewest_159 hlocks
def s_X1_fewest_56 (N : Nat) (MC : Nat) (MS : Nat) (v1 : Int32) (sp_unlike : Int32) (sp_number : Int64) (sp_partsKept : Int32) (sp_partsNumber : Int64) (n_row : Nat) (a_prime : Nat → Int64) (a_times : Nat → Int32) (a_parts : Nat → Int64) (gc : Nat) (gs : Nat) (k_56 : (Int32 × Int32 × Int32 × (Nat → Int32)) → Option (Int32 × Int32 × Int64 × Int32 × Int64 × Nat × (Nat → Int32) × (Nat → Int64) × (Nat → Int32) × (Nat → Int64))) (v2 : Int32) (v4 : Int32) (v5 : Int32) (a_row : Nat → Int32) : Option (Int32 × Int32 × Int64 × Int32 × Int64 × Nat × (Nat → Int32) × (Nat → Int64) × (Nat → Int32) × (Nat → Int64)) :=
  if (sp_partsKept - (1 : Int32)) ≤ v5 then
    j_X1_fewest_142 N MC MS v1 sp_unlike sp_number sp_partsKept sp_partsNumber n_row a_row a_prime a_times a_parts gc gs
  else
    if (2304 : Int32) ≤ v5 then
      j_X1_fewest_142 N MC MS v1 sp_unlike sp_number sp_partsKept sp_partsNumber n_row a_row a_prime a_times a_parts gc gs
    else
      if v5 < 0 ∨ 2304 ≤ v5.toNatClampNeg then
        none
      else
        xl ((a_parts v5.toNatClampNeg).toInt32) fun y30z =>
        xl (v2 - y30z) fun y31z =>
        xl (v4 + y30z) fun y32z =>
        if gc ≤ MC ∧ gs ≤ MS then
          xl (if y30z < (v1 - y31z) then (v1 - y31z) else y30z) fun y34z =>
          if gc ≤ MC ∧ gs ≤ MS then
            xl (if y32z < v1 then y32z else v1) fun y36z =>
            if gc ≤ MC ∧ gs ≤ MS then
              Option.bind (f_X1_addPart N y30z y34z y36z n_row a_row) fun r37z =>
              xl (v5 + (1 : Int32)) fun y41z =>
              k_56 (y31z, y32z, y41z, r37z)
            else
              none
          else
            none
        else
          none
def l_X1_fewest_56 (N : Nat) (MC : Nat) (MS : Nat) (v1 : Int32) (sp_unlike : Int32) (sp_number : Int64) (sp_partsKept : Int32) (sp_partsNumber : Int64) (n_row : Nat) (a_prime : Nat → Int64) (a_times : Nat → Int32) (a_parts : Nat → Int64) (gc : Nat) (gs : Nat) (n : Nat) (z : Int32 × Int32 × Int32 × (Nat → Int32)) : Option (Int32 × Int32 × Int64 × Int32 × Int64 × Nat × (Nat → Int32) × (Nat → Int64) × (Nat → Int32) × (Nat → Int64)) := lp (fun k z => s_X1_fewest_56 N MC MS v1 sp_unlike sp_number sp_partsKept sp_partsNumber n_row a_prime a_times a_parts gc gs k z.1 z.2.1 z.2.2.1 z.2.2.2) n z
set_option maxRecDepth 100000 in
set_option maxHeartbeats 4000000 in
theorem k_X1_fewest_56 {p : Program} {l : Launch} {e : Env} {s : State} {m : MethodId} {args : Array Value} {below : List Frame} {meth : Method} {c : Code} {dC : Nat → ClassId} {dI : Nat → Nat → Nat} {cyI cyJ cyZ : ClassId} {A : Nat → Prop} (C0 : mC p s m meth c args cX1_fewest (some .int) 9 RX1 wsX1_fewest (gK dC dI cyI cyJ cyZ) A) (N : Nat) (MC MS : Nat) (res : Int32 × Int32 × Int64 × Int32 × Int64 × Nat × (Nat → Int32) × (Nat → Int64) × (Nat → Int32) × (Nat → Int64)) (q_Sc : Nat) (q_Pr : Nat) (q_Sp : Nat) (q_Mk : Nat) (q_list : Nat) (q_prime : Nat) (q_times : Nat) (q_parts : Nat) (v1 : Int32) (sp_unlike : Int32) (sp_number : Int64) (sp_partsKept : Int32) (sp_partsNumber : Int64) (n_row : Nat) (n_list : Nat) (a_list : Nat → Int32) (a_prime : Nat → Int64) (a_times : Nat → Int32) (a_parts : Nat → Int64) (gc : Nat) (gs : Nat) : ∀ (n : Nat) (v2 : Int32) (v4 : Int32) (v5 : Int32) (a_row : Nat → Int32) (q_row : Nat), l_X1_fewest_56 N MC MS v1 sp_unlike sp_number sp_partsKept sp_partsNumber n_row a_prime a_times a_parts gc gs n (v2, v4, v5, a_row) = some res → ∀ (H : Heap) (locs : List Loc), va_P (dC, dI) vwCl (wd31 cyI cyJ cyZ q_Sc q_Pr q_Sp q_Mk q_row q_list q_prime q_times q_parts sp_unlike sp_number sp_partsKept sp_partsNumber n_row a_row n_list a_list a_prime a_times a_parts) H → va_D A (wd31 cyI cyJ cyZ q_Sc q_Pr q_Sp q_Mk q_row q_list q_prime q_times q_parts sp_unlike sp_number sp_partsKept sp_partsNumber n_row a_row n_list a_list a_prime a_times a_parts) → va_S A s.heap H locs → ∀ (ls : Array Slot), lv_has ls 9 [(0, .ref q_Mk), (1, .int v1), (2, .int v2), (3, .ref q_row), (4, .int v4), (5, .int v5)] → W p l e (headSpec wsX1_fewest (rm_X1_fewest MC MS)).room s m args below meth c H locs gc gs (MQ below (va_Qi (fun (r : Int32) (_ : Nat) => r = res.1) (bW dC dI (fun (u : Nat) => (wd31 cyI cyJ cyZ q_Sc q_Pr q_Sp q_Mk u q_list q_prime q_times q_parts res.2.1 res.2.2.1 res.2.2.2.1 res.2.2.2.2.1 res.2.2.2.2.2.1 res.2.2.2.2.2.2.1 n_list a_list res.2.2.2.2.2.2.2.1 res.2.2.2.2.2.2.2.2.1 res.2.2.2.2.2.2.2.2.2)) A) A) args s MC MS A) (F0 m 56 ls []) := by
  obtain ⟨hx, hb, hr, hml, hown, hts, hlocks, hG, hA⟩ := id C0
  have hK := hG.1
  intro n
  induction n with
  | zero =>
    intro v2 v4 v5 a_row q_row h
    cases h
  | succ n ih =>
    intro v2 v4 v5 a_row q_row h H locs hP hD hS ls hl
    have h : s_X1_fewest_56 N MC MS v1 sp_unlike sp_number sp_partsKept sp_partsNumber n_row a_prime a_times a_parts gc gs (l_X1_fewest_56 N MC MS v1 sp_unlike sp_number sp_partsKept sp_partsNumber n_row a_prime a_times a_parts gc gs n) v2 v4 v5 a_row = some res := h
    unfold s_X1_fewest_56 at h
    refine lv_iload hx hb dX1_fewest_56 (lv_at hl 5 rfl) ?_
    refine lv_aload_n hx hb dX1_fewest_58 rfl (lv_at hl 0 rfl) ?_
    refine va_get (D := (dC, dI)) (ci := 1) (v := .ref q_Sp) (C := RX1) (T := TX1) (N := 2) hx hb hts iw_X1_fewest_X1 hown hK hP 3 rfl rfl 0 (by decide) (hts (.fieldLink RX1 9 "GoesInto$Maker" "split" "LGoesInto$Split;") (List.mem_of_getElem? (i := 1) rfl)) (fun _ h9 => h9) rfl dX1_fewest_59 ?_
    refine va_getN (D := (dC, dI)) (ci := 6) (v := .int sp_partsKept) (C := RX6) (T := TX6) (N := 8) (host := "GoesInto") hx hb hts iw_X1_fewest_X6 hown hK hP 2 rfl rfl 6 (by decide) (va_Nw.use rfl hG.2.2.2.2.2.2.2.1) (fun _ h9 => h9) rfl dX1_fewest_62 ?_
    refine lv_iconst (v := (1 : Int32)) hx hb dX1_fewest_65 (by decide) ?_
    refine lv_isub hx hb dX1_fewest_66 ?_
    refine lv_icmp_ge (tgt := 142) hx hb dX1_fewest_67 (by decide) (fun c23z => ?_) (fun c23z => ?_)
    · have h := xt h c23z
      exact k_X1_fewest_142 C0 N MC MS res q_Sc q_Pr q_Sp q_Mk q_list q_prime q_times q_parts v1 sp_unlike sp_number sp_partsKept sp_partsNumber n_row a_row n_list a_list a_prime a_times a_parts gc gs q_row h _ _ hP hD hS _ (lv_sub hl [1, 3] rfl)
    · have h := xf h c23z
      refine lv_iload hx hb dX1_fewest_70 (lv_at hl 5 rfl) ?_
      refine lv_aload_n hx hb dX1_fewest_72 rfl (lv_at hl 0 rfl) ?_
      refine va_get (D := (dC, dI)) (ci := 1) (v := .ref q_Sp) (C := RX1) (T := TX1) (N := 2) hx hb hts iw_X1_fewest_X1 hown hK hP 3 rfl rfl 0 (by decide) (hts (.fieldLink RX1 9 "GoesInto$Maker" "split" "LGoesInto$Split;") (List.mem_of_getElem? (i := 1) rfl)) (fun _ h9 => h9) rfl dX1_fewest_73 ?_
      refine va_getN (D := (dC, dI)) (ci := 6) (v := .ref q_parts) (C := RX6) (T := TX6) (N := 8) (host := "GoesInto") hx hb hts iw_X1_fewest_X6 hown hK hP 2 rfl rfl 5 (by decide) (va_Nw.use rfl hG.2.2.2.2.2.2.2.2.1) (fun _ h9 => h9) rfl dX1_fewest_76 ?_
      refine va_alen (v := (2304 : Int32)) hx hb hK hP 8 1 rfl rfl rfl dX1_fewest_79 ?_
      refine lv_icmp_ge (tgt := 142) hx hb dX1_fewest_80 (by decide) (fun c28z => ?_) (fun c28z => ?_)
      · have h := xt h c28z
        exact k_X1_fewest_142 C0 N MC MS res q_Sc q_Pr q_Sp q_Mk q_list q_prime q_times q_parts v1 sp_unlike sp_number sp_partsKept sp_partsNumber n_row a_row n_list a_list a_prime a_times a_parts gc gs q_row h _ _ hP hD hS _ (lv_sub hl [1, 3] rfl)
      · have h := xf h c28z
        refine lv_aload_n hx hb dX1_fewest_83 rfl (lv_at hl 0 rfl) ?_
        refine va_get (D := (dC, dI)) (ci := 1) (v := .ref q_Sp) (C := RX1) (T := TX1) (N := 2) hx hb hts iw_X1_fewest_X1 hown hK hP 3 rfl rfl 0 (by decide) (hts (.fieldLink RX1 9 "GoesInto$Maker" "split" "LGoesInto$Split;") (List.mem_of_getElem? (i := 1) rfl)) (fun _ h9 => h9) rfl dX1_fewest_84 ?_
        refine va_getN (D := (dC, dI)) (ci := 6) (v := .ref q_parts) (C := RX6) (T := TX6) (N := 8) (host := "GoesInto") hx hb hts iw_X1_fewest_X6 hown hK hP 2 rfl rfl 5 (by decide) (va_Nw.use rfl hG.2.2.2.2.2.2.2.2.1) (fun _ h9 => h9) rfl dX1_fewest_87 ?_
        refine lv_iload hx hb dX1_fewest_90 (lv_at hl 5 rfl) ?_
        obtain ⟨b29z, h⟩ := xn h
        refine va_lald hx hb hK hP 8 1 rfl rfl b29z dX1_fewest_92 ?_
        refine lv_l2i (v := (a_parts v5.toNatClampNeg).toInt32) hx hb dX1_fewest_93 rfl ?_
        refine lv_topi (fun y30z ey30z => ?_)
        have h := xl_at h ey30z
        refine lv_istore (lv' := [(6, .int y30z), (0, .ref q_Mk), (1, .int v1), (2, .int v2), (3, .ref q_row), (4, .int v4), (5, .int v5)]) hx hb dX1_fewest_94 hl (by decide) rfl (fun ls hl => ?_)
        refine lv_iload_n hx hb dX1_fewest_96 rfl (lv_at hl 3 rfl) ?_
        refine lv_iload hx hb dX1_fewest_97 (lv_at hl 0 rfl) ?_
        refine lv_isub hx hb dX1_fewest_99 ?_
        refine lv_topi (fun y31z ey31z => ?_)
        have h := xl_at h ey31z
        refine lv_istore_n (lv' := [(2, .int y31z), (6, .int y30z), (0, .ref q_Mk), (1, .int v1), (3, .ref q_row), (4, .int v4), (5, .int v5)]) hx hb dX1_fewest_100 rfl hl (by decide) rfl (fun ls hl => ?_)
        refine lv_iload hx hb dX1_fewest_101 (lv_at hl 5 rfl) ?_
        refine lv_iload hx hb dX1_fewest_103 (lv_at hl 1 rfl) ?_
        refine lv_iadd hx hb dX1_fewest_105 ?_
        refine lv_topi (fun y32z ey32z => ?_)
        have h := xl_at h ey32z
        refine lv_istore (lv' := [(4, .int y32z), (2, .int y31z), (6, .int y30z), (0, .ref q_Mk), (1, .int v1), (3, .ref q_row), (5, .int v5)]) hx hb dX1_fewest_106 hl (by decide) rfl (fun ls hl => ?_)
        refine lv_iload hx hb dX1_fewest_108 (lv_at hl 2 rfl) ?_
        refine lv_iload_n hx hb dX1_fewest_110 rfl (lv_at hl 4 rfl) ?_
        refine lv_iload_n hx hb dX1_fewest_111 rfl (lv_at hl 1 rfl) ?_
        refine lv_isub hx hb dX1_fewest_112 ?_
        obtain ⟨b33z, h⟩ := xa h
        refine va_mmax hx hb (hml.trans hl.1.symm) hown (hts (.methodLink RX1 44 Lib.Math.max.name) (List.mem_of_getElem? (i := 2) rfl)) (hts (.static Lib.Math.max.name) (List.mem_of_getElem? (i := 3) rfl)) (hts (.initialized "java/lang/Math") (List.mem_of_getElem? (i := 4) rfl)) (hts (.code Lib.Math.max.name Lib.Math.max.code 2 (some .int)) (List.mem_of_getElem? (i := 5) rfl)) (Nat.le_of_ble_eq_true rfl) (Nat.le_of_ble_eq_true rfl) b33z.1 b33z.2 dX1_fewest_113 ?_
        refine lv_topi (fun y34z ey34z => ?_)
        have h := xl_at h ey34z
        refine lv_istore (lv' := [(7, .int y34z), (4, .int y32z), (2, .int y31z), (6, .int y30z), (0, .ref q_Mk), (1, .int v1), (3, .ref q_row), (5, .int v5)]) hx hb dX1_fewest_116 hl (by decide) rfl (fun ls hl => ?_)
        refine lv_iload_n hx hb dX1_fewest_118 rfl (lv_at hl 5 rfl) ?_
        refine lv_iload hx hb dX1_fewest_119 (lv_at hl 1 rfl) ?_
        obtain ⟨b35z, h⟩ := xa h
        refine va_mmin hx hb (hml.trans hl.1.symm) hown (hts (.methodLink RX1 50 Lib.Math.min.name) (List.mem_of_getElem? (i := 6) rfl)) (hts (.static Lib.Math.min.name) (List.mem_of_getElem? (i := 7) rfl)) (hts (.initialized "java/lang/Math") (List.mem_of_getElem? (i := 4) rfl)) (hts (.code Lib.Math.min.name Lib.Math.min.code 2 (some .int)) (List.mem_of_getElem? (i := 8) rfl)) (Nat.le_of_ble_eq_true rfl) (Nat.le_of_ble_eq_true rfl) b35z.1 b35z.2 dX1_fewest_121 ?_
        refine lv_topi (fun y36z ey36z => ?_)
        have h := xl_at h ey36z
        refine lv_istore (lv' := [(8, .int y36z), (7, .int y34z), (4, .int y32z), (2, .int y31z), (6, .int y30z), (0, .ref q_Mk), (1, .int v1), (3, .ref q_row), (5, .int v5)]) hx hb dX1_fewest_124 hl (by decide) rfl (fun ls hl => ?_)
        refine lv_aload_n hx hb dX1_fewest_126 rfl (lv_at hl 7 rfl) ?_
        refine lv_iload hx hb dX1_fewest_127 (lv_at hl 4 rfl) ?_
        refine lv_iload hx hb dX1_fewest_129 (lv_at hl 1 rfl) ?_
        refine lv_iload hx hb dX1_fewest_131 (lv_at hl 0 rfl) ?_
        obtain ⟨b38z, h⟩ := xa h
        obtain ⟨r37z, hr37z, h⟩ := xb_at h
        have hPc := hP.sub (ws' := (wd9 cyI cyJ cyZ q_row n_row a_row)) [4] rfl
        have hDc := hD.sub (ws' := (wd9 cyI cyJ cyZ q_row n_row a_row)) [4] (by decide) rfl
        refine cal_v [4] [0, 1, 2, 3, 5, 6, 7, 8] (va_runS (As := [.ref q_row, .int y30z, .int y34z, .int y36z]) (rest := []) ⟨hx, hb, hml, hown, hts⟩ (c_X1_addPart l dC dI cyI cyJ cyZ N r37z H.size q_row y30z y34z y36z n_row a_row hr37z) (va_cwS 4 hts gX1_fewest_X1_addPart rfl rfl rfl hd_X1_addPart ⟨Nat.le_of_ble_eq_true rfl, Nat.le_of_ble_eq_true rfl⟩) ⟨pC.blind, pC.pre hPc hG hDc⟩ rfl rfl hl.1 rfl (lv_room (Nat.le_of_ble_eq_true rfl)) dX1_fewest_133 ⟨b38z.1, b38z.2⟩) hP hD hS hA rfl rfl rfl (by decide) (fun u39z H locs _ hP hD hS => ?_)
        have hP : va_P (dC, dI) vwCl (wd31 cyI cyJ cyZ q_Sc q_Pr q_Sp q_Mk q_row q_list q_prime q_times q_parts sp_unlike sp_number sp_partsKept sp_partsNumber n_row r37z n_list a_list a_prime a_times a_parts) H := hP.sub [0, 1, 2, 3, 8, 4, 5, 6, 7] rfl
        have hD : va_D A (wd31 cyI cyJ cyZ q_Sc q_Pr q_Sp q_Mk q_row q_list q_prime q_times q_parts sp_unlike sp_number sp_partsKept sp_partsNumber n_row r37z n_list a_list a_prime a_times a_parts) := hD.sub [0, 1, 2, 3, 8, 4, 5, 6, 7] (by decide) rfl
        obtain ⟨y41z, ey41z⟩ : ∃ z : Int32, z = v5 + (1 : Int32) := ⟨_, rfl⟩
        have h := xl_at h ey41z
        refine lv_iinc (v := y41z) (lv' := [(5, .int y41z), (8, .int y36z), (7, .int y34z), (4, .int y32z), (2, .int y31z), (6, .int y30z), (0, .ref q_Mk), (1, .int v1), (3, .ref q_row)]) hx hb dX1_fewest_136 hl (k := 8) rfl (by rw [ey41z]; rfl) (by decide) rfl (fun ls hl => ?_)
        refine lv_goto (tgt := 56) hx hb dX1_fewest_139 (by decide) ?_
        exact ih y31z y32z y41z r37z q_row h _ _ hP hD hS _ (lv_sub hl [6, 7, 4, 8, 3, 0] rfl)
def f_X1_fewest (N : Nat) (MC : Nat) (MS : Nat) (v1 : Int32) (sp_unlike : Int32) (sp_number : Int64) (sp_partsKept : Int32) (sp_partsNumber : Int64) (n_row : Nat) (a_row : Nat → Int32) (n_list : Nat) (a_list : Nat → Int32) (a_prime : Nat → Int64) (a_times : Nat → Int32) (a_parts : Nat → Int64) : Option (Int32 × Int32 × Int64 × Int32 × Int64 × Nat × (Nat → Int32) × (Nat → Int64) × (Nat → Int32) × (Nat → Int64)) :=
  if 0 ≤ MC ∧ 0 ≤ MS then
    Option.bind (f_X6_splitUp N v1.toInt64 sp_unlike sp_number n_list a_list a_prime a_times) fun r1z =>
    if 0 ≤ MC ∧ 0 ≤ MS then
      Option.bind (f_X6_listParts N  r1z.1 r1z.2.1 sp_partsKept sp_partsNumber r1z.2.2.1 r1z.2.2.2 a_parts) fun r5z =>
      if 0 ≤ MC ∧ 0 ≤ MS then
        Option.bind (f_X1_sumOfParts N  r5z.1 r5z.2.2) fun r9z =>
        if 0 + (if nI n_row = 0 then 1 else 0) ≤ MC ∧ 0 + (if nI n_row = 0 then 50001 else 0) ≤ MS then
          Option.bind (f_X1_borrowed N (if nI n_row = 0 then 1 else 0) (if nI n_row = 0 then 50001 else 0) v1 n_row a_row) fun r13z =>
          if r9z < v1 then
            if 0 + (if nI n_row = 0 then 1 else 0) ≤ MC ∧ 0 + (if nI n_row = 0 then 50001 else 0) ≤ MS then
              some ((-4 : Int32), r1z.1, r1z.2.1, r5z.1, r5z.2.1, r13z.1, r13z.2, r1z.2.2.1, r1z.2.2.2, r5z.2.2)
            else
              none
          else
            if v1 < (1 : Int32) then
              if 0 + (if nI n_row = 0 then 1 else 0) ≤ MC ∧ 0 + (if nI n_row = 0 then 50001 else 0) ≤ MS then
                some ((-4 : Int32), r1z.1, r1z.2.1, r5z.1, r5z.2.1, r13z.1, r13z.2, r1z.2.2.1, r1z.2.2.2, r5z.2.2)
              else
                none
            else
              if v1 < (nI r13z.1) then
                if (0 : Int32) < 0 ∨ r13z.1 ≤ (0 : Int32).toNatClampNeg then
                  none
                else
                  l_X1_fewest_56 N MC MS v1 r1z.1 r1z.2.1 r5z.1 r5z.2.1 r13z.1 r1z.2.2.1 r1z.2.2.2 r5z.2.2 (0 + (if nI n_row = 0 then 1 else 0)) (0 + (if nI n_row = 0 then 50001 else 0)) N (r9z, (0 : Int32), (0 : Int32), upd r13z.2 (0 : Int32).toNatClampNeg (0 : Int32))
              else
                if 0 + (if nI n_row = 0 then 1 else 0) ≤ MC ∧ 0 + (if nI n_row = 0 then 50001 else 0) ≤ MS then
                  some ((-4 : Int32), r1z.1, r1z.2.1, r5z.1, r5z.2.1, r13z.1, r13z.2, r1z.2.2.1, r1z.2.2.2, r5z.2.2)
                else
                  none
        else
          none
      else
        none
    else
      none
  else
    none
set_option maxRecDepth 100000 in
set_option maxHeartbeats 4000000 in
theorem k_X1_fewest_0 {p : Program} {l : Launch} {e : Env} {s : State} {m : MethodId} {args : Array Value} {below : List Frame} {meth : Method} {c : Code} {dC : Nat → ClassId} {dI : Nat → Nat → Nat} {cyI cyJ cyZ : ClassId} {A : Nat → Prop} (C0 : mC p s m meth c args cX1_fewest (some .int) 9 RX1 wsX1_fewest (gK dC dI cyI cyJ cyZ) A) (N : Nat) (MC MS : Nat) (res : Int32 × Int32 × Int64 × Int32 × Int64 × Nat × (Nat → Int32) × (Nat → Int64) × (Nat → Int32) × (Nat → Int64)) (q_Sc : Nat) (q_Pr : Nat) (q_Sp : Nat) (q_Mk : Nat) (q_list : Nat) (q_prime : Nat) (q_times : Nat) (q_parts : Nat) (v1 : Int32) (sp_unlike : Int32) (sp_number : Int64) (sp_partsKept : Int32) (sp_partsNumber : Int64) (n_row : Nat) (a_row : Nat → Int32) (n_list : Nat) (a_list : Nat → Int32) (a_prime : Nat → Int64) (a_times : Nat → Int32) (a_parts : Nat → Int64) (q_row : Nat) (h : f_X1_fewest N MC MS v1 sp_unlike sp_number sp_partsKept sp_partsNumber n_row a_row n_list a_list a_prime a_times a_parts = some res) : ∀ (H : Heap) (locs : List Loc), va_P (dC, dI) vwCl (wd31 cyI cyJ cyZ q_Sc q_Pr q_Sp q_Mk q_row q_list q_prime q_times q_parts sp_unlike sp_number sp_partsKept sp_partsNumber n_row a_row n_list a_list a_prime a_times a_parts) H → va_D A (wd31 cyI cyJ cyZ q_Sc q_Pr q_Sp q_Mk q_row q_list q_prime q_times q_parts sp_unlike sp_number sp_partsKept sp_partsNumber n_row a_row n_list a_list a_prime a_times a_parts) → va_S A s.heap H locs → ∀ (ls : Array Slot), lv_has ls 9 [(0, .ref q_Mk), (1, .int v1)] → W p l e (headSpec wsX1_fewest (rm_X1_fewest MC MS)).room s m args below meth c H locs 0 0 (MQ below (va_Qi (fun (r : Int32) (_ : Nat) => r = res.1) (bW dC dI (fun (u : Nat) => (wd31 cyI cyJ cyZ q_Sc q_Pr q_Sp q_Mk u q_list q_prime q_times q_parts res.2.1 res.2.2.1 res.2.2.2.1 res.2.2.2.2.1 res.2.2.2.2.2.1 res.2.2.2.2.2.2.1 n_list a_list res.2.2.2.2.2.2.2.1 res.2.2.2.2.2.2.2.2.1 res.2.2.2.2.2.2.2.2.2)) A) A) args s MC MS A) (F0 m 0 ls []) := by
  obtain ⟨hx, hb, hr, hml, hown, hts, hlocks, hG, hA⟩ := id C0
  have hK := hG.1
  intro H locs hP hD hS ls hl
  unfold f_X1_fewest at h
  refine lv_aload_n hx hb dX1_fewest_0 rfl (lv_at hl 0 rfl) ?_
  refine va_get (D := (dC, dI)) (ci := 1) (v := .ref q_Sp) (C := RX1) (T := TX1) (N := 2) hx hb hts iw_X1_fewest_X1 hown hK hP 3 rfl rfl 0 (by decide) (hts (.fieldLink RX1 9 "GoesInto$Maker" "split" "LGoesInto$Split;") (List.mem_of_getElem? (i := 1) rfl)) (fun _ h9 => h9) rfl dX1_fewest_1 ?_
  refine lv_iload_n hx hb dX1_fewest_4 rfl (lv_at hl 1 rfl) ?_
  refine lv_i2l (v := v1.toInt64) hx hb dX1_fewest_5 rfl ?_
  obtain ⟨b2z, h⟩ := xa h
  obtain ⟨r1z, hr1z, h⟩ := xb_at h
  have hPc := hP.sub (ws' := (wd1 cyI cyJ cyZ q_Pr q_Sp q_list q_prime q_times q_Sc q_parts sp_unlike sp_number sp_partsKept sp_partsNumber n_list a_list a_prime a_times)) [1, 2, 5, 6, 7] rfl
  have hDc := hD.sub (ws' := (wd1 cyI cyJ cyZ q_Pr q_Sp q_list q_prime q_times q_Sc q_parts sp_unlike sp_number sp_partsKept sp_partsNumber n_list a_list a_prime a_times)) [1, 2, 5, 6, 7] (by decide) rfl
  refine cal_v [1, 2, 5, 6, 7] [0, 3, 4, 8] (va_runV (As := [.long v1.toInt64]) (rest := []) ⟨hx, hb, hml, hown, hts⟩ (c_X6_splitUp l dC dI cyI cyJ cyZ N r1z H.size q_Pr q_Sp q_list q_prime q_times q_Sc q_parts v1.toInt64 sp_unlike sp_number sp_partsKept sp_partsNumber n_list a_list a_prime a_times hr1z) (cwV 1 hts gX1_fewest_X6_splitUp rfl rfl rfl ⟨rfl, hd_X6_splitUp⟩ ⟨Nat.le_of_ble_eq_true rfl, Nat.le_of_ble_eq_true rfl⟩) ⟨pC.blind, va_recv hK hPc (ci := 6) (q0 := 1) rfl rfl, pC.pre hPc hG hDc⟩ rfl rfl hl.1 rfl (lv_room (Nat.le_of_ble_eq_true rfl)) dX1_fewest_6 ⟨b2z.1, b2z.2⟩) hP hD hS hA rfl rfl rfl (by decide) (fun u3z H locs _ hP hD hS => ?_)
  have hP : va_P (dC, dI) vwCl (wd31 cyI cyJ cyZ q_Sc q_Pr q_Sp q_Mk q_row q_list q_prime q_times q_parts r1z.1 r1z.2.1 sp_partsKept sp_partsNumber n_row a_row n_list a_list r1z.2.2.1 r1z.2.2.2 a_parts) H := hP.sub [0, 4, 5, 1, 2, 6, 7, 8, 3] rfl
  have hD : va_D A (wd31 cyI cyJ cyZ q_Sc q_Pr q_Sp q_Mk q_row q_list q_prime q_times q_parts r1z.1 r1z.2.1 sp_partsKept sp_partsNumber n_row a_row n_list a_list r1z.2.2.1 r1z.2.2.2 a_parts) := hD.sub [0, 4, 5, 1, 2, 6, 7, 8, 3] (by decide) rfl
  refine lv_aload_n hx hb dX1_fewest_9 rfl (lv_at hl 0 rfl) ?_
  refine va_get (D := (dC, dI)) (ci := 1) (v := .ref q_Sp) (C := RX1) (T := TX1) (N := 2) hx hb hts iw_X1_fewest_X1 hown hK hP 3 rfl rfl 0 (by decide) (hts (.fieldLink RX1 9 "GoesInto$Maker" "split" "LGoesInto$Split;") (List.mem_of_getElem? (i := 1) rfl)) (fun _ h9 => h9) rfl dX1_fewest_10 ?_
  obtain ⟨b6z, h⟩ := xa h
  obtain ⟨r5z, hr5z, h⟩ := xb_at h
  have hPc := hP.sub (ws' := (wd6 cyI cyJ cyZ q_Sp q_prime q_times q_parts q_Pr r1z.1 r1z.2.1 sp_partsKept sp_partsNumber r1z.2.2.1 r1z.2.2.2 a_parts)) [2, 6, 7, 8] rfl
  have hDc := hD.sub (ws' := (wd6 cyI cyJ cyZ q_Sp q_prime q_times q_parts q_Pr r1z.1 r1z.2.1 sp_partsKept sp_partsNumber r1z.2.2.1 r1z.2.2.2 a_parts)) [2, 6, 7, 8] (by decide) rfl
  refine cal_v [2, 6, 7, 8] [0, 1, 3, 4, 5] (va_runV (As := []) (rest := []) ⟨hx, hb, hml, hown, hts⟩ (c_X6_listParts l dC dI cyI cyJ cyZ N r5z H.size q_Sp q_prime q_times q_parts q_Pr  r1z.1 r1z.2.1 sp_partsKept sp_partsNumber r1z.2.2.1 r1z.2.2.2 a_parts hr5z) (cwV 0 hts gX1_fewest_X6_listParts rfl rfl rfl ⟨rfl, hd_X6_listParts⟩ ⟨Nat.le_of_ble_eq_true rfl, Nat.le_of_ble_eq_true rfl⟩) ⟨pC.blind, va_recv hK hPc (ci := 6) (q0 := 0) rfl rfl, pC.pre hPc hG hDc⟩ rfl rfl hl.1 rfl (lv_room (Nat.le_of_ble_eq_true rfl)) dX1_fewest_13 ⟨b6z.1, b6z.2⟩) hP hD hS hA rfl rfl rfl (by decide) (fun u7z H locs _ hP hD hS => ?_)
  have hP : va_P (dC, dI) vwCl (wd31 cyI cyJ cyZ q_Sc q_Pr q_Sp q_Mk q_row q_list q_prime q_times q_parts r1z.1 r1z.2.1 r5z.1 r5z.2.1 n_row a_row n_list a_list r1z.2.2.1 r1z.2.2.2 r5z.2.2) H := hP.sub [0, 1, 5, 2, 3, 4, 6, 7, 8] rfl
  have hD : va_D A (wd31 cyI cyJ cyZ q_Sc q_Pr q_Sp q_Mk q_row q_list q_prime q_times q_parts r1z.1 r1z.2.1 r5z.1 r5z.2.1 n_row a_row n_list a_list r1z.2.2.1 r1z.2.2.2 r5z.2.2) := hD.sub [0, 1, 5, 2, 3, 4, 6, 7, 8] (by decide) rfl
  refine lv_aload_n hx hb dX1_fewest_16 rfl (lv_at hl 0 rfl) ?_
  obtain ⟨b10z, h⟩ := xa h
  obtain ⟨r9z, hr9z, h⟩ := xb_at h
  have hPc := hP.sub (ws' := (wd29 cyI cyJ cyZ q_Sp q_Mk q_parts q_Pr q_prime q_times q_Sc r1z.1 r1z.2.1 r5z.1 r5z.2.1 r5z.2.2)) [2, 3, 8] rfl
  have hDc := hD.sub (ws' := (wd29 cyI cyJ cyZ q_Sp q_Mk q_parts q_Pr q_prime q_times q_Sc r1z.1 r1z.2.1 r5z.1 r5z.2.1 r5z.2.2)) [2, 3, 8] (by decide) rfl
  refine cal_i [2, 3, 8] [0, 1, 4, 5, 6, 7] (va_runV (As := []) (rest := []) ⟨hx, hb, hml, hown, hts⟩ (c_X1_sumOfParts l dC dI cyI cyJ cyZ N r9z H.size q_Sp q_Mk q_parts q_Pr q_prime q_times q_Sc  r1z.1 r1z.2.1 r5z.1 r5z.2.1 r5z.2.2 hr9z) (cwV 0 hts gX1_fewest_X1_sumOfParts rfl rfl rfl ⟨rfl, hd_X1_sumOfParts⟩ ⟨Nat.le_of_ble_eq_true rfl, Nat.le_of_ble_eq_true rfl⟩) ⟨pC.blind, va_recv hK hPc (ci := 1) (q0 := 1) rfl rfl, pC.pre hPc hG hDc⟩ rfl rfl hl.1 rfl (lv_room (Nat.le_of_ble_eq_true rfl)) dX1_fewest_17 ⟨b10z.1, b10z.2⟩) hP hD hS hA rfl rfl rfl (by decide) (fun x12z u11z H locs hw hP hD hS => ?_)
  obtain rfl := hw.symm
  have hP : va_P (dC, dI) vwCl (wd31 cyI cyJ cyZ q_Sc q_Pr q_Sp q_Mk q_row q_list q_prime q_times q_parts r1z.1 r1z.2.1 r5z.1 r5z.2.1 n_row a_row n_list a_list r1z.2.2.1 r1z.2.2.2 r5z.2.2) H := hP.sub [0, 1, 6, 7, 2, 3, 4, 5, 8] rfl
  have hD : va_D A (wd31 cyI cyJ cyZ q_Sc q_Pr q_Sp q_Mk q_row q_list q_prime q_times q_parts r1z.1 r1z.2.1 r5z.1 r5z.2.1 n_row a_row n_list a_list r1z.2.2.1 r1z.2.2.2 r5z.2.2) := hD.sub [0, 1, 6, 7, 2, 3, 4, 5, 8] (by decide) rfl
  refine lv_istore_n (lv' := [(2, .int r9z), (0, .ref q_Mk), (1, .int v1)]) hx hb dX1_fewest_20 rfl hl (by decide) rfl (fun ls hl => ?_)
  refine lv_aload_n hx hb dX1_fewest_21 rfl (lv_at hl 1 rfl) ?_
  refine lv_iload_n hx hb dX1_fewest_22 rfl (lv_at hl 2 rfl) ?_
  obtain ⟨b14z, h⟩ := xa h
  obtain ⟨r13z, hr13z, h⟩ := xb_at h
  have hPc := hP.sub (ws' := (wd30 cyI cyJ cyZ q_Sc q_Mk q_row q_Sp n_row a_row)) [0, 3, 4] rfl
  have hDc := hD.sub (ws' := (wd30 cyI cyJ cyZ q_Sc q_Mk q_row q_Sp n_row a_row)) [0, 3, 4] (by decide) rfl
  refine cal_r [0, 3, 4] [1, 2, 5, 6, 7, 8] (va_runV (As := [.int v1]) (rest := []) ⟨hx, hb, hml, hown, hts⟩ (c_X1_borrowed l dC dI cyI cyJ cyZ N (if nI n_row = 0 then 1 else 0) (if nI n_row = 0 then 50001 else 0) r13z H.size q_Sc q_Mk q_row q_Sp v1 n_row a_row hr13z) (cwV 1 hts gX1_fewest_X1_borrowed rfl rfl rfl ⟨rfl, hd_X1_borrowed⟩ ⟨Nat.le_of_ble_eq_true rfl, Nat.le_of_ble_eq_true rfl⟩) ⟨pC.blind, va_recv hK hPc (ci := 1) (q0 := 1) rfl rfl, pC.pre hPc hG hDc⟩ rfl rfl hl.1 rfl (lv_room (Nat.le_of_ble_eq_true rfl)) dX1_fewest_23 ⟨b14z.1, b14z.2⟩) hP hD hS hA rfl rfl rfl (by decide) (fun x16z u15z H locs _ hP hD hS => ?_)
  have hP : va_P (dC, dI) vwCl (wd31 cyI cyJ cyZ q_Sc q_Pr q_Sp q_Mk x16z q_list q_prime q_times q_parts r1z.1 r1z.2.1 r5z.1 r5z.2.1 r13z.1 r13z.2 n_list a_list r1z.2.2.1 r1z.2.2.2 r5z.2.2) H := hP.sub [6, 0, 1, 7, 8, 2, 3, 4, 5] rfl
  have hD : va_D A (wd31 cyI cyJ cyZ q_Sc q_Pr q_Sp q_Mk x16z q_list q_prime q_times q_parts r1z.1 r1z.2.1 r5z.1 r5z.2.1 r13z.1 r13z.2 n_list a_list r1z.2.2.1 r1z.2.2.2 r5z.2.2) := hD.sub [6, 0, 1, 7, 8, 2, 3, 4, 5] (by decide) rfl
  refine lv_astore_n (lv' := [(3, .ref x16z), (2, .int r9z), (0, .ref q_Mk), (1, .int v1)]) hx hb dX1_fewest_26 rfl hl (by decide) rfl (fun ls hl => ?_)
  refine lv_iload_n hx hb dX1_fewest_27 rfl (lv_at hl 1 rfl) ?_
  refine lv_iload_n hx hb dX1_fewest_28 rfl (lv_at hl 3 rfl) ?_
  refine lv_icmp_lt (tgt := 43) hx hb dX1_fewest_29 (by decide) (fun c17z => ?_) (fun c17z => ?_)
  · have h := xt h c17z
    refine lv_bipush (v := (-4 : Int32)) hx hb dX1_fewest_43 (by decide) ?_
    obtain ⟨b18z, h⟩ := xa h
    refine W.widen (k := MC) (n := MS) b18z.1 b18z.2 ?_
    obtain rfl := Option.some.inj h
    exact W.iret (v := (-4 : Int32)) hx hb hr (fun t ht hW => ⟨⟨_, x16z, rfl, rfl, by rw [ht]; exact hP, hD⟩, hS.F ht⟩) hS.2.2 dX1_fewest_45 hlocks
  · have h := xf h c17z
    refine lv_iload_n hx hb dX1_fewest_32 rfl (lv_at hl 3 rfl) ?_
    refine lv_iconst (v := (1 : Int32)) hx hb dX1_fewest_33 (by decide) ?_
    refine lv_icmp_lt (tgt := 43) hx hb dX1_fewest_34 (by decide) (fun c19z => ?_) (fun c19z => ?_)
    · have h := xt h c19z
      refine lv_bipush (v := (-4 : Int32)) hx hb dX1_fewest_43 (by decide) ?_
      obtain ⟨b20z, h⟩ := xa h
      refine W.widen (k := MC) (n := MS) b20z.1 b20z.2 ?_
      obtain rfl := Option.some.inj h
      exact W.iret (v := (-4 : Int32)) hx hb hr (fun t ht hW => ⟨⟨_, x16z, rfl, rfl, by rw [ht]; exact hP, hD⟩, hS.F ht⟩) hS.2.2 dX1_fewest_45 hlocks
    · have h := xf h c19z
      refine lv_iload_n hx hb dX1_fewest_37 rfl (lv_at hl 3 rfl) ?_
      refine lv_aload_n hx hb dX1_fewest_38 rfl (lv_at hl 0 rfl) ?_
      refine va_alen (v := nI r13z.1) hx hb hK hP 4 0 rfl rfl rfl dX1_fewest_39 ?_
      refine lv_icmp_lt (tgt := 46) hx hb dX1_fewest_40 (by decide) (fun c21z => ?_) (fun c21z => ?_)
      · have h := xt h c21z
        refine lv_aload_n hx hb dX1_fewest_46 rfl (lv_at hl 0 rfl) ?_
        refine lv_iconst (v := (0 : Int32)) hx hb dX1_fewest_47 (by decide) ?_
        refine lv_iconst (v := (0 : Int32)) hx hb dX1_fewest_48 (by decide) ?_
        obtain ⟨b22z, h⟩ := xn h
        refine va_iast hx hb hK hP hD hS 4 0 rfl rfl b22z dX1_fewest_49 (fun H locs hP hD hS => ?_)
        have hP : va_P (dC, dI) vwCl (wd31 cyI cyJ cyZ q_Sc q_Pr q_Sp q_Mk x16z q_list q_prime q_times q_parts r1z.1 r1z.2.1 r5z.1 r5z.2.1 r13z.1 (upd r13z.2 (0 : Int32).toNatClampNeg (0 : Int32)) n_list a_list r1z.2.2.1 r1z.2.2.2 r5z.2.2) H := hP
        have hD : va_D A (wd31 cyI cyJ cyZ q_Sc q_Pr q_Sp q_Mk x16z q_list q_prime q_times q_parts r1z.1 r1z.2.1 r5z.1 r5z.2.1 r13z.1 (upd r13z.2 (0 : Int32).toNatClampNeg (0 : Int32)) n_list a_list r1z.2.2.1 r1z.2.2.2 r5z.2.2) := hD
        refine lv_iconst (v := (0 : Int32)) hx hb dX1_fewest_50 (by decide) ?_
        refine lv_istore (lv' := [(4, .int (0 : Int32)), (3, .ref x16z), (2, .int r9z), (0, .ref q_Mk), (1, .int v1)]) hx hb dX1_fewest_51 hl (by decide) rfl (fun ls hl => ?_)
        refine lv_iconst (v := (0 : Int32)) hx hb dX1_fewest_53 (by decide) ?_
        refine lv_istore (lv' := [(5, .int (0 : Int32)), (4, .int (0 : Int32)), (3, .ref x16z), (2, .int r9z), (0, .ref q_Mk), (1, .int v1)]) hx hb dX1_fewest_54 hl (by decide) rfl (fun ls hl => ?_)
        exact k_X1_fewest_56 C0 N MC MS res q_Sc q_Pr q_Sp q_Mk q_list q_prime q_times q_parts v1 r1z.1 r1z.2.1 r5z.1 r5z.2.1 r13z.1 n_list a_list r1z.2.2.1 r1z.2.2.2 r5z.2.2 (0 + (if nI n_row = 0 then 1 else 0)) (0 + (if nI n_row = 0 then 50001 else 0)) N r9z (0 : Int32) (0 : Int32) (upd r13z.2 (0 : Int32).toNatClampNeg (0 : Int32)) x16z h _ _ hP hD hS _ (lv_sub hl [4, 5, 3, 2, 1, 0] rfl)
      · have h := xf h c21z
        refine lv_bipush (v := (-4 : Int32)) hx hb dX1_fewest_43 (by decide) ?_
        obtain ⟨b42z, h⟩ := xa h
        refine W.widen (k := MC) (n := MS) b42z.1 b42z.2 ?_
        obtain rfl := Option.some.inj h
        exact W.iret (v := (-4 : Int32)) hx hb hr (fun t ht hW => ⟨⟨_, x16z, rfl, rfl, by rw [ht]; exact hP, hD⟩, hS.F ht⟩) hS.2.2 dX1_fewest_45 hlocks
set_option maxRecDepth 100000 in
set_option maxHeartbeats 4000000 in
theorem c_X1_fewest (l : Launch) (dC : Nat → ClassId) (dI : Nat → Nat → Nat) (cyI cyJ cyZ : ClassId) (N : Nat) (MC MS : Nat) (res : Int32 × Int32 × Int64 × Int32 × Int64 × Nat × (Nat → Int32) × (Nat → Int64) × (Nat → Int32) × (Nat → Int64)) (sz : Nat) (q_Sc : Nat) (q_Pr : Nat) (q_Sp : Nat) (q_Mk : Nat) (q_row : Nat) (q_list : Nat) (q_prime : Nat) (q_times : Nat) (q_parts : Nat) (v1 : Int32) (sp_unlike : Int32) (sp_number : Int64) (sp_partsKept : Int32) (sp_partsNumber : Int64) (n_row : Nat) (a_row : Nat → Int32) (n_list : Nat) (a_list : Nat → Int32) (a_prime : Nat → Int64) (a_times : Nat → Int32) (a_parts : Nat → Int64) (h : f_X1_fewest N MC MS v1 sp_unlike sp_number sp_partsKept sp_partsNumber n_row a_row n_list a_list a_prime a_times a_parts = some res) : Met l yX1_fewest wsX1_fewest (rm_X1_fewest MC MS) (pC dC dI cyI cyJ cyZ [.ref q_Mk, .int v1] sz (wd31 cyI cyJ cyZ q_Sc q_Pr q_Sp q_Mk q_row q_list q_prime q_times q_parts sp_unlike sp_number sp_partsKept sp_partsNumber n_row a_row n_list a_list a_prime a_times a_parts)) (va_Qi (fun (r : Int32) (_ : Nat) => r = res.1) (bW dC dI (fun (u : Nat) => (wd31 cyI cyJ cyZ q_Sc q_Pr q_Sp q_Mk u q_list q_prime q_times q_parts res.2.1 res.2.2.1 res.2.2.2.1 res.2.2.2.2.1 res.2.2.2.2.2.1 res.2.2.2.2.2.2.1 n_list a_list res.2.2.2.2.2.2.2.1 res.2.2.2.2.2.2.2.2.1 res.2.2.2.2.2.2.2.2.2)) (va_A (wd31 cyI cyJ cyZ q_Sc q_Pr q_Sp q_Mk q_row q_list q_prime q_times q_parts sp_unlike sp_number sp_partsKept sp_partsNumber n_row a_row n_list a_list a_prime a_times a_parts) sz)) (va_A (wd31 cyI cyJ cyZ q_Sc q_Pr q_Sp q_Mk q_row q_list q_prime q_times q_parts sp_unlike sp_number sp_partsKept sp_partsNumber n_row a_row n_list a_list a_prime a_times a_parts) sz)) MC MS (va_A (wd31 cyI cyJ cyZ q_Sc q_Pr q_Sp q_Mk q_row q_list q_prime q_times q_parts sp_unlike sp_number sp_partsKept sp_partsNumber n_row a_row n_list a_list a_prime a_times a_parts) sz) := by
  refine Met.ofW (cc := cX1_fewest) (maxL := 9) (ret := (some .int)) (by decide) rfl ?_
  intro p e s m args below meth c s₁ B hml hv
  obtain ⟨rfl, hsz, hP, hG, hD0⟩ := hv
  have hx := B.exec
  have hb := B.bytes
  have hr := B.returns
  have hts := atoms_spec (ws := wsX1_fewest) B.pre
  have hown : s.vm.findClass RX1 = some m.cls := findClass_of_methodNamed B.named
  have hlocks := B.notSynchronized
  subst hsz
  have hD := hD0.self (sz := s.heap.size)
  generalize hAe : va_A (wd31 cyI cyJ cyZ q_Sc q_Pr q_Sp q_Mk q_row q_list q_prime q_times q_parts sp_unlike sp_number sp_partsKept sp_partsNumber n_row a_row n_list a_list a_prime a_times a_parts) s.heap.size = A at hD ⊢
  have hA : ∀ q : Nat, s.heap.size ≤ q → A q := fun q h => by rw [← hAe]; exact Or.inr h
  have hS : va_S A s.heap s.heap [] := va_S.rf
  have hl := lv_entry ([.ref q_Mk, .int v1]) (n := 9) (Nat.le_of_ble_eq_true rfl)
  rw [lg_entry_eq]
  generalize (lg_sl ([.ref q_Mk, .int v1]) ++ List.replicate (9 - (lg_sl ([.ref q_Mk, .int v1])).length) Slot.unset).toArray = ls at hl ⊢
  have hl : lv_has ls 9 [(0, .ref q_Mk), (1, .int v1)] := hl
  exact k_X1_fewest_0 ⟨hx, hb, hr, hml, hown, hts, hlocks, hG, hA⟩ N MC MS res q_Sc q_Pr q_Sp q_Mk q_list q_prime q_times q_parts v1 sp_unlike sp_number sp_partsKept sp_partsNumber n_row a_row n_list a_list a_prime a_times a_parts q_row h _ _ hP hD hS _ hl
/-- the cells Tr, traits -/
abbrev wd32 (cyI cyJ cyZ : ClassId) (q_Tr : Nat) (q_traits : Nat) (q_Sp : Nat) (q_Tb : Nat) (q_Mk : Nat) (n_traits : Nat) (a_traits : Nat → Int32) : va_W := [(q_Tr, .inr (8, [.ref q_Sp, .ref q_Tb, .ref q_Mk, .ref q_traits])), (q_traits, .inl (cyI, n_traits, .inl a_traits))]
abbrev rm_X8_has : Room := { frames := 0, cells := 0, slots := 0, locals := 0 }
theorem hd_X8_has : yX8_has.cls ≠ "java/lang/invoke/MethodHandle" ∧ yX8_has.cls ≠ "java/lang/invoke/VarHandle" ∧ (parseMethodDescriptor yX8_has.desc).map (fun d => d.parameters.length) = some 2 := by decide +kernel
theorem iw_X8_has_X8 : ∀ w ∈ wsX80, w ∈ wsX8_has := List.forall_mem_cons.mpr ⟨List.mem_of_getElem? (i := 2) rfl, List.forall_mem_cons.mpr ⟨List.mem_of_getElem? (i := 3) rfl, List.forall_mem_cons.mpr ⟨List.mem_of_getElem? (i := 4) rfl, List.forall_mem_cons.mpr ⟨List.mem_of_getElem? (i := 5) rfl, fun _ h => absurd h List.not_mem_nil⟩⟩⟩⟩
def f_X8_has (N : Nat) (v1 : Int32) (v2 : Int32) (n_traits : Nat) (a_traits : Nat → Int32) : Option (Int32) :=
  if v1 < 0 then
    some (0 : Int32)
  else
    if (nI n_traits) ≤ v1 then
      some (0 : Int32)
    else
      if v1 < 0 ∨ n_traits ≤ v1.toNatClampNeg then
        none
      else
        if (((a_traits v1.toNatClampNeg) >>> (v2 &&& 31)) &&& (1 : Int32)) = (1 : Int32) then
          some (1 : Int32)
        else
          some (0 : Int32)
set_option maxRecDepth 100000 in
set_option maxHeartbeats 4000000 in
theorem k_X8_has_0 {p : Program} {l : Launch} {e : Env} {s : State} {m : MethodId} {args : Array Value} {below : List Frame} {meth : Method} {c : Code} {dC : Nat → ClassId} {dI : Nat → Nat → Nat} {cyI cyJ cyZ : ClassId} {A : Nat → Prop} (C0 : mC p s m meth c args cX8_has (some .boolean) 3 RX8 wsX8_has (gK dC dI cyI cyJ cyZ) A) (N : Nat) (res : Int32) (q_Tr : Nat) (q_traits : Nat) (q_Sp : Nat) (q_Tb : Nat) (q_Mk : Nat) (v1 : Int32) (v2 : Int32) (n_traits : Nat) (a_traits : Nat → Int32) (h : f_X8_has N v1 v2 n_traits a_traits = some res) : ∀ (H : Heap) (locs : List Loc), va_P (dC, dI) vwCl (wd32 cyI cyJ cyZ q_Tr q_traits q_Sp q_Tb q_Mk n_traits a_traits) H → va_D A (wd32 cyI cyJ cyZ q_Tr q_traits q_Sp q_Tb q_Mk n_traits a_traits) → va_S A s.heap H locs → ∀ (ls : Array Slot), lv_has ls 3 [(0, .ref q_Tr), (1, .int v1), (2, .int v2)] → W p l e (headSpec wsX8_has rm_X8_has).room s m args below meth c H locs 0 0 (MQ below (va_Qi (fun (r : Int32) (_ : Unit) => r = res) (bW dC dI (fun (u : Unit) => (wd32 cyI cyJ cyZ q_Tr q_traits q_Sp q_Tb q_Mk n_traits a_traits)) A) A) args s 0 0 A) (F0 m 0 ls []) := by
  obtain ⟨hx, hb, hr, hml, hown, hts, hlocks, hG, hA⟩ := id C0
  have hK := hG.1
  intro H locs hP hD hS ls hl
  unfold f_X8_has at h
  refine lv_iload_n hx hb dX8_has_0 rfl (lv_at hl 1 rfl) ?_
  refine lv_if_lt (tgt := 31) hx hb dX8_has_1 (by decide) (fun c1z => ?_) (fun c1z => ?_)
  · have h := xt h c1z
    refine lv_iconst (v := (0 : Int32)) hx hb dX8_has_31 (by decide) ?_
    obtain rfl := Option.some.inj h
    exact W.zret (v := (0 : Int32)) hx hb hr rfl (fun t ht hW => ⟨⟨_, (), rfl, rfl, by rw [ht]; exact hP, hD⟩, hS.F ht⟩) hS.2.2 dX8_has_32 hlocks
  · have h := xf h c1z
    refine lv_iload_n hx hb dX8_has_4 rfl (lv_at hl 1 rfl) ?_
    refine lv_aload_n hx hb dX8_has_5 rfl (lv_at hl 0 rfl) ?_
    refine va_get (D := (dC, dI)) (ci := 8) (v := .ref q_traits) (C := RX8) (T := TX8) (N := 4) hx hb hts iw_X8_has_X8 hown hK hP 0 rfl rfl 3 (by decide) (hts (.fieldLink RX8 9 "GoesInto$Traits" "traits" "[I") (List.mem_of_getElem? (i := 1) rfl)) (fun _ h9 => h9) rfl dX8_has_6 ?_
    refine va_alen (v := nI n_traits) hx hb hK hP 1 0 rfl rfl rfl dX8_has_9 ?_
    refine lv_icmp_ge (tgt := 31) hx hb dX8_has_10 (by decide) (fun c2z => ?_) (fun c2z => ?_)
    · have h := xt h c2z
      refine lv_iconst (v := (0 : Int32)) hx hb dX8_has_31 (by decide) ?_
      obtain rfl := Option.some.inj h
      exact W.zret (v := (0 : Int32)) hx hb hr rfl (fun t ht hW => ⟨⟨_, (), rfl, rfl, by rw [ht]; exact hP, hD⟩, hS.F ht⟩) hS.2.2 dX8_has_32 hlocks
    · have h := xf h c2z
      refine lv_aload_n hx hb dX8_has_13 rfl (lv_at hl 0 rfl) ?_
      refine va_get (D := (dC, dI)) (ci := 8) (v := .ref q_traits) (C := RX8) (T := TX8) (N := 4) hx hb hts iw_X8_has_X8 hown hK hP 0 rfl rfl 3 (by decide) (hts (.fieldLink RX8 9 "GoesInto$Traits" "traits" "[I") (List.mem_of_getElem? (i := 1) rfl)) (fun _ h9 => h9) rfl dX8_has_14 ?_
      refine lv_iload_n hx hb dX8_has_17 rfl (lv_at hl 1 rfl) ?_
      obtain ⟨b3z, h⟩ := xn h
      refine va_iald hx hb hK hP 1 0 rfl rfl b3z dX8_has_18 ?_
      refine lv_iload_n hx hb dX8_has_19 rfl (lv_at hl 2 rfl) ?_
      refine lv_ishr hx hb dX8_has_20 ?_
      refine lv_iconst (v := (1 : Int32)) hx hb dX8_has_21 (by decide) ?_
      refine lv_iand hx hb dX8_has_22 ?_
      refine lv_iconst (v := (1 : Int32)) hx hb dX8_has_23 (by decide) ?_
      refine lv_icmp_ne (tgt := 31) hx hb dX8_has_24 (by decide) (fun c4z => ?_) (fun c4z => ?_)
      · have h := xf h c4z
        refine lv_iconst (v := (0 : Int32)) hx hb dX8_has_31 (by decide) ?_
        obtain rfl := Option.some.inj h
        exact W.zret (v := (0 : Int32)) hx hb hr rfl (fun t ht hW => ⟨⟨_, (), rfl, rfl, by rw [ht]; exact hP, hD⟩, hS.F ht⟩) hS.2.2 dX8_has_32 hlocks
      · have h := xt h c4z
        refine lv_iconst (v := (1 : Int32)) hx hb dX8_has_27 (by decide) ?_
        refine lv_goto (tgt := 32) hx hb dX8_has_28 (by decide) ?_
        obtain rfl := Option.some.inj h
        exact W.zret (v := (1 : Int32)) hx hb hr rfl (fun t ht hW => ⟨⟨_, (), rfl, rfl, by rw [ht]; exact hP, hD⟩, hS.F ht⟩) hS.2.2 dX8_has_32 hlocks
set_option maxRecDepth 100000 in
set_option maxHeartbeats 4000000 in
theorem c_X8_has (l : Launch) (dC : Nat → ClassId) (dI : Nat → Nat → Nat) (cyI cyJ cyZ : ClassId) (N : Nat) (res : Int32) (sz : Nat) (q_Tr : Nat) (q_traits : Nat) (q_Sp : Nat) (q_Tb : Nat) (q_Mk : Nat) (v1 : Int32) (v2 : Int32) (n_traits : Nat) (a_traits : Nat → Int32) (h : f_X8_has N v1 v2 n_traits a_traits = some res) : Met l yX8_has wsX8_has rm_X8_has (pC dC dI cyI cyJ cyZ [.ref q_Tr, .int v1, .int v2] sz (wd32 cyI cyJ cyZ q_Tr q_traits q_Sp q_Tb q_Mk n_traits a_traits)) (va_Qi (fun (r : Int32) (_ : Unit) => r = res) (bW dC dI (fun (u : Unit) => (wd32 cyI cyJ cyZ q_Tr q_traits q_Sp q_Tb q_Mk n_traits a_traits)) (va_A (wd32 cyI cyJ cyZ q_Tr q_traits q_Sp q_Tb q_Mk n_traits a_traits) sz)) (va_A (wd32 cyI cyJ cyZ q_Tr q_traits q_Sp q_Tb q_Mk n_traits a_traits) sz)) 0 0 (va_A (wd32 cyI cyJ cyZ q_Tr q_traits q_Sp q_Tb q_Mk n_traits a_traits) sz) := by
  refine Met.ofW (cc := cX8_has) (maxL := 3) (ret := (some .boolean)) (by decide) rfl ?_
  intro p e s m args below meth c s₁ B hml hv
  obtain ⟨rfl, hsz, hP, hG, hD0⟩ := hv
  have hx := B.exec
  have hb := B.bytes
  have hr := B.returns
  have hts := atoms_spec (ws := wsX8_has) B.pre
  have hown : s.vm.findClass RX8 = some m.cls := findClass_of_methodNamed B.named
  have hlocks := B.notSynchronized
  subst hsz
  have hD := hD0.self (sz := s.heap.size)
  generalize hAe : va_A (wd32 cyI cyJ cyZ q_Tr q_traits q_Sp q_Tb q_Mk n_traits a_traits) s.heap.size = A at hD ⊢
  have hA : ∀ q : Nat, s.heap.size ≤ q → A q := fun q h => by rw [← hAe]; exact Or.inr h
  have hS : va_S A s.heap s.heap [] := va_S.rf
  have hl := lv_entry ([.ref q_Tr, .int v1, .int v2]) (n := 3) (Nat.le_of_ble_eq_true rfl)
  rw [lg_entry_eq]
  generalize (lg_sl ([.ref q_Tr, .int v1, .int v2]) ++ List.replicate (3 - (lg_sl ([.ref q_Tr, .int v1, .int v2])).length) Slot.unset).toArray = ls at hl ⊢
  have hl : lv_has ls 3 [(0, .ref q_Tr), (1, .int v1), (2, .int v2)] := hl
  exact k_X8_has_0 ⟨hx, hb, hr, hml, hown, hts, hlocks, hG, hA⟩ N res q_Tr q_traits q_Sp q_Tb q_Mk v1 v2 n_traits a_traits  h _ _ hP hD hS _ hl
/-- the cells Sc, Pr, Sp, Tb, Mk, Tr, row, list, prime, times, parts, all, apart, traits -/
abbrev wd33 (cyI cyJ cyZ : ClassId) (q_Sc : Nat) (q_Pr : Nat) (q_Sp : Nat) (q_Tb : Nat) (q_Mk : Nat) (q_Tr : Nat) (q_row : Nat) (q_list : Nat) (q_prime : Nat) (q_times : Nat) (q_parts : Nat) (q_all : Nat) (q_apart : Nat) (q_traits : Nat) (sp_unlike : Int32) (sp_number : Int64) (sp_partsKept : Int32) (sp_partsNumber : Int64) (n_row : Nat) (a_row : Nat → Int32) (n_list : Nat) (a_list : Nat → Int32) (a_prime : Nat → Int64) (a_times : Nat → Int32) (a_parts : Nat → Int64) (n_all : Nat) (a_all : Nat → Int32) (n_apart : Nat) (a_apart : Nat → Int32) (n_traits : Nat) (a_traits : Nat → Int32) : va_W := [(q_Sc, .inr (4, [.ref q_row])), (q_Pr, .inr (3, [.ref q_Sc, .ref q_list])), (q_Sp, .inr (6, [.ref q_Pr, .ref q_prime, .ref q_times, .int sp_unlike, .long sp_number, .ref q_parts, .int sp_partsKept, .long sp_partsNumber])), (q_Tb, .inr (7, [.ref q_Sc, .ref q_all, .ref q_apart])), (q_Mk, .inr (1, [.ref q_Sp, .ref q_Sc])), (q_Tr, .inr (8, [.ref q_Sp, .ref q_Tb, .ref q_Mk, .ref q_traits])), (q_row, .inl (cyI, n_row, .inl a_row)), (q_list, .inl (cyI, n_list, .inl a_list)), (q_prime, .inl (cyJ, 12, .inr (.inl a_prime))), (q_times, .inl (cyI, 12, .inl a_times)), (q_parts, .inl (cyJ, 2304, .inr (.inl a_parts))), (q_all, .inl (cyI, n_all, .inl a_all)), (q_apart, .inl (cyI, n_apart, .inl a_apart)), (q_traits, .inl (cyI, n_traits, .inl a_traits))]
abbrev rm_X8_sortTraits (MC MS : Nat) : Room := { frames := 3, cells := MC, slots := MS, locals := 84 }
theorem hd_X8_sortTraits : yX8_sortTraits.cls ≠ "java/lang/invoke/MethodHandle" ∧ yX8_sortTraits.cls ≠ "java/lang/invoke/VarHandle" ∧ (parseMethodDescriptor yX8_sortTraits.desc).map (fun d => d.parameters.length) = some 1 := by decide +kernel
theorem iw_X8_sortTraits_X4 : ∀ w ∈ wsX40, w ∈ wsX8_sortTraits := List.forall_mem_cons.mpr ⟨List.mem_of_getElem? (i := 99) rfl, fun _ h => absurd h List.not_mem_nil⟩
theorem iw_X8_sortTraits_X3 : ∀ w ∈ wsX30, w ∈ wsX8_sortTraits := List.forall_mem_cons.mpr ⟨List.mem_of_getElem? (i := 97) rfl, List.forall_mem_cons.mpr ⟨List.mem_of_getElem? (i := 98) rfl, fun _ h => absurd h List.not_mem_nil⟩⟩
theorem iw_X8_sortTraits_X6 : ∀ w ∈ wsX60, w ∈ wsX8_sortTraits := List.forall_mem_cons.mpr ⟨List.mem_of_getElem? (i := 84) rfl, List.forall_mem_cons.mpr ⟨List.mem_of_getElem? (i := 85) rfl, List.forall_mem_cons.mpr ⟨List.mem_of_getElem? (i := 86) rfl, List.forall_mem_cons.mpr ⟨List.mem_of_getElem? (i := 87) rfl, List.forall_mem_cons.mpr ⟨List.mem_of_getElem? (i := 88) rfl, List.forall_mem_cons.mpr ⟨List.mem_of_getElem? (i := 89) rfl, List.forall_mem_cons.mpr ⟨List.mem_of_getElem? (i := 90) rfl, List.forall_mem_cons.mpr ⟨List.mem_of_getElem? (i := 91) rfl, fun _ h => absurd h List.not_mem_nil⟩⟩⟩⟩⟩⟩⟩⟩
theorem iw_X8_sortTraits_X7 : ∀ w ∈ wsX70, w ∈ wsX8_sortTraits := List.forall_mem_cons.mpr ⟨List.mem_of_getElem? (i := 92) rfl, List.forall_mem_cons.mpr ⟨List.mem_of_getElem? (i := 93) rfl, List.forall_mem_cons.mpr ⟨List.mem_of_getElem? (i := 94) rfl, fun _ h => absurd h List.not_mem_nil⟩⟩⟩
theorem iw_X8_sortTraits_X1 : ∀ w ∈ wsX10, w ∈ wsX8_sortTraits := List.forall_mem_cons.mpr ⟨List.mem_of_getElem? (i := 95) rfl, List.forall_mem_cons.mpr ⟨List.mem_of_getElem? (i := 96) rfl, fun _ h => absurd h List.not_mem_nil⟩⟩
theorem iw_X8_sortTraits_X8 : ∀ w ∈ wsX80, w ∈ wsX8_sortTraits := List.forall_mem_cons.mpr ⟨List.mem_of_getElem? (i := 80) rfl, List.forall_mem_cons.mpr ⟨List.mem_of_getElem? (i := 81) rfl, List.forall_mem_cons.mpr ⟨List.mem_of_getElem? (i := 82) rfl, List.forall_mem_cons.mpr ⟨List.mem_of_getElem? (i := 83) rfl, fun _ h => absurd h List.not_mem_nil⟩⟩⟩⟩
def j_X8_sortTraits_127 (N : Nat) (MC : Nat) (MS : Nat) (v4 : Int32) (s0 : Int32) (sp_unlike : Int32) (sp_number : Int64) (sp_partsKept : Int32) (sp_partsNumber : Int64) (n_row : Nat) (a_row : Nat → Int32) (a_prime : Nat → Int64) (a_times : Nat → Int32) (a_parts : Nat → Int64) (gc : Nat) (gs : Nat) : Option (Int32 × Int32 × Int64 × Int32 × Int64 × Nat × (Nat → Int32) × (Nat → Int64) × (Nat → Int32) × (Nat → Int64)) :=
  if s0 = 0 then
    if gc ≤ MC ∧ gs ≤ MS then
      some (((1 : Int32) ||| v4) ||| (16 : Int32), sp_unlike, sp_number, sp_partsKept, sp_partsNumber, n_row, a_row, a_prime, a_times, a_parts)
    else
      none
  else
    if gc ≤ MC ∧ gs ≤ MS then
      some (((1 : Int32) ||| v4) ||| (1048576 : Int32), sp_unlike, sp_number, sp_partsKept, sp_partsNumber, n_row, a_row, a_prime, a_times, a_parts)
    else
      none
set_option maxRecDepth 100000 in
set_option maxHeartbeats 4000000 in
theorem k_X8_sortTraits_127 {p : Program} {l : Launch} {e : Env} {s : State} {m : MethodId} {args : Array Value} {below : List Frame} {meth : Method} {c : Code} {dC : Nat → ClassId} {dI : Nat → Nat → Nat} {cyI cyJ cyZ : ClassId} {A : Nat → Prop} (C0 : mC p s m meth c args cX8_sortTraits (some .int) 6 RX8 wsX8_sortTraits (gK dC dI cyI cyJ cyZ) A) (N : Nat) (MC MS : Nat) (res : Int32 × Int32 × Int64 × Int32 × Int64 × Nat × (Nat → Int32) × (Nat → Int64) × (Nat → Int32) × (Nat → Int64)) (q_Sc : Nat) (q_Pr : Nat) (q_Sp : Nat) (q_Tb : Nat) (q_Mk : Nat) (q_Tr : Nat) (q_list : Nat) (q_prime : Nat) (q_times : Nat) (q_parts : Nat) (q_all : Nat) (q_apart : Nat) (q_traits : Nat) (v4 : Int32) (s0 : Int32) (sp_unlike : Int32) (sp_number : Int64) (sp_partsKept : Int32) (sp_partsNumber : Int64) (n_row : Nat) (a_row : Nat → Int32) (n_list : Nat) (a_list : Nat → Int32) (a_prime : Nat → Int64) (a_times : Nat → Int32) (a_parts : Nat → Int64) (n_all : Nat) (a_all : Nat → Int32) (n_apart : Nat) (a_apart : Nat → Int32) (n_traits : Nat) (a_traits : Nat → Int32) (gc : Nat) (gs : Nat) (q_row : Nat) (h : j_X8_sortTraits_127 N MC MS v4 s0 sp_unlike sp_number sp_partsKept sp_partsNumber n_row a_row a_prime a_times a_parts gc gs = some res) : ∀ (H : Heap) (locs : List Loc), va_P (dC, dI) vwCl (wd33 cyI cyJ cyZ q_Sc q_Pr q_Sp q_Tb q_Mk q_Tr q_row q_list q_prime q_times q_parts q_all q_apart q_traits sp_unlike sp_number sp_partsKept sp_partsNumber n_row a_row n_list a_list a_prime a_times a_parts n_all a_all n_apart a_apart n_traits a_traits) H → va_D A (wd33 cyI cyJ cyZ q_Sc q_Pr q_Sp q_Tb q_Mk q_Tr q_row q_list q_prime q_times q_parts q_all q_apart q_traits sp_unlike sp_number sp_partsKept sp_partsNumber n_row a_row n_list a_list a_prime a_times a_parts n_all a_all n_apart a_apart n_traits a_traits) → va_S A s.heap H locs → ∀ (ls : Array Slot), lv_has ls 6 [(4, .int v4)] → W p l e (headSpec wsX8_sortTraits (rm_X8_sortTraits MC MS)).room s m args below meth c H locs gc gs (MQ below (va_Qi (fun (r : Int32) (_ : Nat) => r = res.1) (bW dC dI (fun (u : Nat) => (wd33 cyI cyJ cyZ q_Sc q_Pr q_Sp q_Tb q_Mk q_Tr u q_list q_prime q_times q_parts q_all q_apart q_traits res.2.1 res.2.2.1 res.2.2.2.1 res.2.2.2.2.1 res.2.2.2.2.2.1 res.2.2.2.2.2.2.1 n_list a_list res.2.2.2.2.2.2.2.1 res.2.2.2.2.2.2.2.2.1 res.2.2.2.2.2.2.2.2.2 n_all a_all n_apart a_apart n_traits a_traits)) A) A) args s MC MS A) (F0 m 127 ls [.int s0]) := by
  obtain ⟨hx, hb, hr, hml, hown, hts, hlocks, hG, hA⟩ := id C0
  have hK := hG.1
  intro H locs hP hD hS ls hl
  unfold j_X8_sortTraits_127 at h
  refine lv_istore (lv' := [(5, .int s0), (4, .int v4)]) hx hb dX8_sortTraits_127 hl (by decide) rfl (fun ls hl => ?_)
  refine lv_iconst (v := (1 : Int32)) hx hb dX8_sortTraits_129 (by decide) ?_
  refine lv_iload hx hb dX8_sortTraits_130 (lv_at hl 1 rfl) ?_
  refine lv_ior hx hb dX8_sortTraits_132 ?_
  refine lv_iload hx hb dX8_sortTraits_133 (lv_at hl 0 rfl) ?_
  refine lv_if_eq (tgt := 143) hx hb dX8_sortTraits_135 (by decide) (fun c9z => ?_) (fun c9z => ?_)
  · have h := xt h c9z
    refine lv_bipush (v := (16 : Int32)) hx hb dX8_sortTraits_143 (by decide) ?_
    refine lv_ior hx hb dX8_sortTraits_145 ?_
    obtain ⟨b10z, h⟩ := xa h
    refine W.widen (k := MC) (n := MS) b10z.1 b10z.2 ?_
    obtain rfl := Option.some.inj h
    exact W.iret (v := ((1 : Int32) ||| v4) ||| (16 : Int32)) hx hb hr (fun t ht hW => ⟨⟨_, q_row, rfl, rfl, by rw [ht]; exact hP, hD⟩, hS.F ht⟩) hS.2.2 dX8_sortTraits_146 hlocks
  · have h := xf h c9z
    refine lv_ldc (v := (1048576 : Int32)) hx hb hown (hts (.constant RX8 58 (1048576)) (List.mem_of_getElem? (i := 5) rfl)) dX8_sortTraits_138 ?_
    refine lv_goto (tgt := 145) hx hb dX8_sortTraits_140 (by decide) ?_
    refine lv_ior hx hb dX8_sortTraits_145 ?_
    obtain ⟨b11z, h⟩ := xa h
    refine W.widen (k := MC) (n := MS) b11z.1 b11z.2 ?_
    obtain rfl := Option.some.inj h
    exact W.iret (v := ((1 : Int32) ||| v4) ||| (1048576 : Int32)) hx hb hr (fun t ht hW => ⟨⟨_, q_row, rfl, rfl, by rw [ht]; exact hP, hD⟩, hS.F ht⟩) hS.2.2 dX8_sortTraits_146 hlocks
def j_X8_sortTraits_122 (N : Nat) (MC : Nat) (MS : Nat) (v4 : Int32) (sp_unlike : Int32) (sp_number : Int64) (sp_partsKept : Int32) (sp_partsNumber : Int64) (n_row : Nat) (a_row : Nat → Int32) (a_prime : Nat → Int64) (a_times : Nat → Int32) (a_parts : Nat → Int64) (gc : Nat) (gs : Nat) : Option (Int32 × Int32 × Int64 × Int32 × Int64 × Nat × (Nat → Int32) × (Nat → Int64) × (Nat → Int32) × (Nat → Int64)) :=
  j_X8_sortTraits_127 N MC MS v4 (1 : Int32) sp_unlike sp_number sp_partsKept sp_partsNumber n_row a_row a_prime a_times a_parts gc gs
set_option maxRecDepth 100000 in
set_option maxHeartbeats 4000000 in
theorem k_X8_sortTraits_122 {p : Program} {l : Launch} {e : Env} {s : State} {m : MethodId} {args : Array Value} {below : List Frame} {meth : Method} {c : Code} {dC : Nat → ClassId} {dI : Nat → Nat → Nat} {cyI cyJ cyZ : ClassId} {A : Nat → Prop} (C0 : mC p s m meth c args cX8_sortTraits (some .int) 6 RX8 wsX8_sortTraits (gK dC dI cyI cyJ cyZ) A) (N : Nat) (MC MS : Nat) (res : Int32 × Int32 × Int64 × Int32 × Int64 × Nat × (Nat → Int32) × (Nat → Int64) × (Nat → Int32) × (Nat → Int64)) (q_Sc : Nat) (q_Pr : Nat) (q_Sp : Nat) (q_Tb : Nat) (q_Mk : Nat) (q_Tr : Nat) (q_list : Nat) (q_prime : Nat) (q_times : Nat) (q_parts : Nat) (q_all : Nat) (q_apart : Nat) (q_traits : Nat) (v4 : Int32) (sp_unlike : Int32) (sp_number : Int64) (sp_partsKept : Int32) (sp_partsNumber : Int64) (n_row : Nat) (a_row : Nat → Int32) (n_list : Nat) (a_list : Nat → Int32) (a_prime : Nat → Int64) (a_times : Nat → Int32) (a_parts : Nat → Int64) (n_all : Nat) (a_all : Nat → Int32) (n_apart : Nat) (a_apart : Nat → Int32) (n_traits : Nat) (a_traits : Nat → Int32) (gc : Nat) (gs : Nat) (q_row : Nat) (h : j_X8_sortTraits_122 N MC MS v4 sp_unlike sp_number sp_partsKept sp_partsNumber n_row a_row a_prime a_times a_parts gc gs = some res) : ∀ (H : Heap) (locs : List Loc), va_P (dC, dI) vwCl (wd33 cyI cyJ cyZ q_Sc q_Pr q_Sp q_Tb q_Mk q_Tr q_row q_list q_prime q_times q_parts q_all q_apart q_traits sp_unlike sp_number sp_partsKept sp_partsNumber n_row a_row n_list a_list a_prime a_times a_parts n_all a_all n_apart a_apart n_traits a_traits) H → va_D A (wd33 cyI cyJ cyZ q_Sc q_Pr q_Sp q_Tb q_Mk q_Tr q_row q_list q_prime q_times q_parts q_all q_apart q_traits sp_unlike sp_number sp_partsKept sp_partsNumber n_row a_row n_list a_list a_prime a_times a_parts n_all a_all n_apart a_apart n_traits a_traits) → va_S A s.heap H locs → ∀ (ls : Array Slot), lv_has ls 6 [(4, .int v4)] → W p l e (headSpec wsX8_sortTraits (rm_X8_sortTraits MC MS)).room s m args below meth c H locs gc gs (MQ below (va_Qi (fun (r : Int32) (_ : Nat) => r = res.1) (bW dC dI (fun (u : Nat) => (wd33 cyI cyJ cyZ q_Sc q_Pr q_Sp q_Tb q_Mk q_Tr u q_list q_prime q_times q_parts q_all q_apart q_traits res.2.1 res.2.2.1 res.2.2.2.1 res.2.2.2.2.1 res.2.2.2.2.2.1 res.2.2.2.2.2.2.1 n_list a_list res.2.2.2.2.2.2.2.1 res.2.2.2.2.2.2.2.2.1 res.2.2.2.2.2.2.2.2.2 n_all a_all n_apart a_apart n_traits a_traits)) A) A) args s MC MS A) (F0 m 122 ls []) := by
  obtain ⟨hx, hb, hr, hml, hown, hts, hlocks, hG, hA⟩ := id C0
  have hK := hG.1
  intro H locs hP hD hS ls hl
  unfold j_X8_sortTraits_122 at h
  refine lv_iconst (v := (1 : Int32)) hx hb dX8_sortTraits_122 (by decide) ?_
  refine lv_goto (tgt := 127) hx hb dX8_sortTraits_123 (by decide) ?_
  exact k_X8_sortTraits_127 C0 N MC MS res q_Sc q_Pr q_Sp q_Tb q_Mk q_Tr q_list q_prime q_times q_parts q_all q_apart q_traits v4 (1 : Int32) sp_unlike sp_number sp_partsKept sp_partsNumber n_row a_row n_list a_list a_prime a_times a_parts n_all a_all n_apart a_apart n_traits a_traits gc gs q_row h _ _ hP hD hS _ (lv_sub hl [0] rfl)
def j_X8_sortTraits_100 (N : Nat) (MC : Nat) (MS : Nat) (v1 : Int32) (v3 : Int32) (s0 : Int32) (sp_unlike : Int32) (sp_number : Int64) (sp_partsKept : Int32) (sp_partsNumber : Int64) (n_row : Nat) (a_row : Nat → Int32) (n_list : Nat) (a_list : Nat → Int32) (a_prime : Nat → Int64) (a_times : Nat → Int32) (a_parts : Nat → Int64) (gc : Nat) (gs : Nat) : Option (Int32 × Int32 × Int64 × Int32 × Int64 × Nat × (Nat → Int32) × (Nat → Int64) × (Nat → Int32) × (Nat → Int64)) :=
  if (v3 &&& (1048576 : Int32)) = 0 then
    if gc + (if nI n_row = 0 then 1 else 0) ≤ MC ∧ gs + (if nI n_row = 0 then 50001 else 0) ≤ MS then
      Option.bind (f_X1_fewest N (if nI n_row = 0 then 1 else 0) (if nI n_row = 0 then 50001 else 0) v1 sp_unlike sp_number sp_partsKept sp_partsNumber n_row a_row n_list a_list a_prime a_times a_parts) fun r12z =>
      if r12z.1 = (-4 : Int32) then
        j_X8_sortTraits_127 N MC MS s0 (0 : Int32) r12z.2.1 r12z.2.2.1 r12z.2.2.2.1 r12z.2.2.2.2.1 r12z.2.2.2.2.2.1 r12z.2.2.2.2.2.2.1 r12z.2.2.2.2.2.2.2.1 r12z.2.2.2.2.2.2.2.2.1 r12z.2.2.2.2.2.2.2.2.2 (gc + (if nI n_row = 0 then 1 else 0)) (gs + (if nI n_row = 0 then 50001 else 0))
      else
        j_X8_sortTraits_122 N MC MS s0 r12z.2.1 r12z.2.2.1 r12z.2.2.2.1 r12z.2.2.2.2.1 r12z.2.2.2.2.2.1 r12z.2.2.2.2.2.2.1 r12z.2.2.2.2.2.2.2.1 r12z.2.2.2.2.2.2.2.2.1 r12z.2.2.2.2.2.2.2.2.2 (gc + (if nI n_row = 0 then 1 else 0)) (gs + (if nI n_row = 0 then 50001 else 0))
    else
      none
  else
    j_X8_sortTraits_122 N MC MS s0 sp_unlike sp_number sp_partsKept sp_partsNumber n_row a_row a_prime a_times a_parts gc gs
set_option maxRecDepth 100000 in
set_option maxHeartbeats 4000000 in
theorem k_X8_sortTraits_100 {p : Program} {l : Launch} {e : Env} {s : State} {m : MethodId} {args : Array Value} {below : List Frame} {meth : Method} {c : Code} {dC : Nat → ClassId} {dI : Nat → Nat → Nat} {cyI cyJ cyZ : ClassId} {A : Nat → Prop} (C0 : mC p s m meth c args cX8_sortTraits (some .int) 6 RX8 wsX8_sortTraits (gK dC dI cyI cyJ cyZ) A) (N : Nat) (MC MS : Nat) (res : Int32 × Int32 × Int64 × Int32 × Int64 × Nat × (Nat → Int32) × (Nat → Int64) × (Nat → Int32) × (Nat → Int64)) (q_Sc : Nat) (q_Pr : Nat) (q_Sp : Nat) (q_Tb : Nat) (q_Mk : Nat) (q_Tr : Nat) (q_list : Nat) (q_prime : Nat) (q_times : Nat) (q_parts : Nat) (q_all : Nat) (q_apart : Nat) (q_traits : Nat) (v1 : Int32) (v3 : Int32) (s0 : Int32) (sp_unlike : Int32) (sp_number : Int64) (sp_partsKept : Int32) (sp_partsNumber : Int64) (n_row : Nat) (a_row : Nat → Int32) (n_list : Nat) (a_list : Nat → Int32) (a_prime : Nat → Int64) (a_times : Nat → Int32) (a_parts : Nat → Int64) (n_all : Nat) (a_all : Nat → Int32) (n_apart : Nat) (a_apart : Nat → Int32) (n_traits : Nat) (a_traits : Nat → Int32) (gc : Nat) (gs : Nat) (q_row : Nat) (h : j_X8_sortTraits_100 N MC MS v1 v3 s0 sp_unlike sp_number sp_partsKept sp_partsNumber n_row a_row n_list a_list a_prime a_times a_parts gc gs = some res) : ∀ (H : Heap) (locs : List Loc), va_P (dC, dI) vwCl (wd33 cyI cyJ cyZ q_Sc q_Pr q_Sp q_Tb q_Mk q_Tr q_row q_list q_prime q_times q_parts q_all q_apart q_traits sp_unlike sp_number sp_partsKept sp_partsNumber n_row a_row n_list a_list a_prime a_times a_parts n_all a_all n_apart a_apart n_traits a_traits) H → va_D A (wd33 cyI cyJ cyZ q_Sc q_Pr q_Sp q_Tb q_Mk q_Tr q_row q_list q_prime q_times q_parts q_all q_apart q_traits sp_unlike sp_number sp_partsKept sp_partsNumber n_row a_row n_list a_list a_prime a_times a_parts n_all a_all n_apart a_apart n_traits a_traits) → va_S A s.heap H locs → ∀ (ls : Array Slot), lv_has ls 6 [(0, .ref q_Tr), (1, .int v1), (3, .int v3)] → W p l e (headSpec wsX8_sortTraits (rm_X8_sortTraits MC MS)).room s m args below meth c H locs gc gs (MQ below (va_Qi (fun (r : Int32) (_ : Nat) => r = res.1) (bW dC dI (fun (u : Nat) => (wd33 cyI cyJ cyZ q_Sc q_Pr q_Sp q_Tb q_Mk q_Tr u q_list q_prime q_times q_parts q_all q_apart q_traits res.2.1 res.2.2.1 res.2.2.2.1 res.2.2.2.2.1 res.2.2.2.2.2.1 res.2.2.2.2.2.2.1 n_list a_list res.2.2.2.2.2.2.2.1 res.2.2.2.2.2.2.2.2.1 res.2.2.2.2.2.2.2.2.2 n_all a_all n_apart a_apart n_traits a_traits)) A) A) args s MC MS A) (F0 m 100 ls [.int s0]) := by
  obtain ⟨hx, hb, hr, hml, hown, hts, hlocks, hG, hA⟩ := id C0
  have hK := hG.1
  intro H locs hP hD hS ls hl
  unfold j_X8_sortTraits_100 at h
  refine lv_istore (lv' := [(4, .int s0), (0, .ref q_Tr), (1, .int v1), (3, .int v3)]) hx hb dX8_sortTraits_100 hl (by decide) rfl (fun ls hl => ?_)
  refine lv_iload_n hx hb dX8_sortTraits_102 rfl (lv_at hl 3 rfl) ?_
  refine lv_ldc (v := (1048576 : Int32)) hx hb hown (hts (.constant RX8 58 (1048576)) (List.mem_of_getElem? (i := 5) rfl)) dX8_sortTraits_103 ?_
  refine lv_iand hx hb dX8_sortTraits_105 ?_
  refine lv_if_ne (tgt := 122) hx hb dX8_sortTraits_106 (by decide) (fun c8z => ?_) (fun c8z => ?_)
  · have h := xf h c8z
    exact k_X8_sortTraits_122 C0 N MC MS res q_Sc q_Pr q_Sp q_Tb q_Mk q_Tr q_list q_prime q_times q_parts q_all q_apart q_traits s0 sp_unlike sp_number sp_partsKept sp_partsNumber n_row a_row n_list a_list a_prime a_times a_parts n_all a_all n_apart a_apart n_traits a_traits gc gs q_row h _ _ hP hD hS _ (lv_sub hl [0] rfl)
  · have h := xt h c8z
    refine lv_aload_n hx hb dX8_sortTraits_109 rfl (lv_at hl 1 rfl) ?_
    refine va_get (D := (dC, dI)) (ci := 8) (v := .ref q_Mk) (C := RX8) (T := TX8) (N := 4) hx hb hts iw_X8_sortTraits_X8 hown hK hP 5 rfl rfl 2 (by decide) (hts (.fieldLink RX8 23 "GoesInto$Traits" "maker" "LGoesInto$Maker;") (List.mem_of_getElem? (i := 6) rfl)) (fun _ h9 => h9) rfl dX8_sortTraits_110 ?_
    refine lv_iload_n hx hb dX8_sortTraits_113 rfl (lv_at hl 2 rfl) ?_
    obtain ⟨b13z, h⟩ := xa h
    obtain ⟨r12z, hr12z, h⟩ := xb_at h
    have hPc := hP.sub (ws' := (wd31 cyI cyJ cyZ q_Sc q_Pr q_Sp q_Mk q_row q_list q_prime q_times q_parts sp_unlike sp_number sp_partsKept sp_partsNumber n_row a_row n_list a_list a_prime a_times a_parts)) [0, 1, 2, 4, 6, 7, 8, 9, 10] rfl
    have hDc := hD.sub (ws' := (wd31 cyI cyJ cyZ q_Sc q_Pr q_Sp q_Mk q_row q_list q_prime q_times q_parts sp_unlike sp_number sp_partsKept sp_partsNumber n_row a_row n_list a_list a_prime a_times a_parts)) [0, 1, 2, 4, 6, 7, 8, 9, 10] (by decide) rfl
    refine cal_i [0, 1, 2, 4, 6, 7, 8, 9, 10] [3, 5, 11, 12, 13] (va_runV (As := [.int v1]) (rest := []) ⟨hx, hb, hml, hown, hts⟩ (c_X1_fewest l dC dI cyI cyJ cyZ N (if nI n_row = 0 then 1 else 0) (if nI n_row = 0 then 50001 else 0) r12z H.size q_Sc q_Pr q_Sp q_Mk q_row q_list q_prime q_times q_parts v1 sp_unlike sp_number sp_partsKept sp_partsNumber n_row a_row n_list a_list a_prime a_times a_parts hr12z) (cwV 1 hts gX8_sortTraits_X1_fewest rfl rfl rfl ⟨rfl, hd_X1_fewest⟩ ⟨Nat.le_of_ble_eq_true rfl, Nat.le_of_ble_eq_true rfl⟩) ⟨pC.blind, va_recv hK hPc (ci := 1) (q0 := 3) rfl rfl, pC.pre hPc hG hDc⟩ rfl rfl hl.1 rfl (lv_room (Nat.le_of_ble_eq_true rfl)) dX8_sortTraits_114 ⟨b13z.1, b13z.2⟩) hP hD hS hA rfl rfl rfl (by decide) (fun x15z u14z H locs hw hP hD hS => ?_)
    obtain rfl := hw.symm
    have hP : va_P (dC, dI) vwCl (wd33 cyI cyJ cyZ q_Sc q_Pr q_Sp q_Tb q_Mk q_Tr u14z q_list q_prime q_times q_parts q_all q_apart q_traits r12z.2.1 r12z.2.2.1 r12z.2.2.2.1 r12z.2.2.2.2.1 r12z.2.2.2.2.2.1 r12z.2.2.2.2.2.2.1 n_list a_list r12z.2.2.2.2.2.2.2.1 r12z.2.2.2.2.2.2.2.2.1 r12z.2.2.2.2.2.2.2.2.2 n_all a_all n_apart a_apart n_traits a_traits) H := hP.sub [5, 6, 7, 0, 8, 1, 9, 10, 11, 12, 13, 2, 3, 4] rfl
    have hD : va_D A (wd33 cyI cyJ cyZ q_Sc q_Pr q_Sp q_Tb q_Mk q_Tr u14z q_list q_prime q_times q_parts q_all q_apart q_traits r12z.2.1 r12z.2.2.1 r12z.2.2.2.1 r12z.2.2.2.2.1 r12z.2.2.2.2.2.1 r12z.2.2.2.2.2.2.1 n_list a_list r12z.2.2.2.2.2.2.2.1 r12z.2.2.2.2.2.2.2.2.1 r12z.2.2.2.2.2.2.2.2.2 n_all a_all n_apart a_apart n_traits a_traits) := hD.sub [5, 6, 7, 0, 8, 1, 9, 10, 11, 12, 13, 2, 3, 4] (by decide) rfl
    refine lv_bipush (v := (-4 : Int32)) hx hb dX8_sortTraits_117 (by decide) ?_
    refine lv_icmp_eq (tgt := 126) hx hb dX8_sortTraits_119 (by decide) (fun c16z => ?_) (fun c16z => ?_)
    · have h := xt h c16z
      refine lv_iconst (v := (0 : Int32)) hx hb dX8_sortTraits_126 (by decide) ?_
      exact k_X8_sortTraits_127 C0 N MC MS res q_Sc q_Pr q_Sp q_Tb q_Mk q_Tr q_list q_prime q_times q_parts q_all q_apart q_traits s0 (0 : Int32) r12z.2.1 r12z.2.2.1 r12z.2.2.2.1 r12z.2.2.2.2.1 r12z.2.2.2.2.2.1 r12z.2.2.2.2.2.2.1 n_list a_list r12z.2.2.2.2.2.2.2.1 r12z.2.2.2.2.2.2.2.2.1 r12z.2.2.2.2.2.2.2.2.2 n_all a_all n_apart a_apart n_traits a_traits (gc + (if nI n_row = 0 then 1 else 0)) (gs + (if nI n_row = 0 then 50001 else 0)) u14z h _ _ hP hD hS _ (lv_sub hl [0] rfl)
    · have h := xf h c16z
      exact k_X8_sortTraits_122 C0 N MC MS res q_Sc q_Pr q_Sp q_Tb q_Mk q_Tr q_list q_prime q_times q_parts q_all q_apart q_traits s0 r12z.2.1 r12z.2.2.1 r12z.2.2.2.1 r12z.2.2.2.2.1 r12z.2.2.2.2.2.1 r12z.2.2.2.2.2.2.1 n_list a_list r12z.2.2.2.2.2.2.2.1 r12z.2.2.2.2.2.2.2.2.1 r12z.2.2.2.2.2.2.2.2.2 n_all a_all n_apart a_apart n_traits a_traits (gc + (if nI n_row = 0 then 1 else 0)) (gs + (if nI n_row = 0 then 50001 else 0)) u14z h _ _ hP hD hS _ (lv_sub hl [0] rfl)
def j_X8_sortTraits_89 (N : Nat) (MC : Nat) (MS : Nat) (v1 : Int32) (v3 : Int32) (sp_unlike : Int32) (sp_number : Int64) (sp_partsKept : Int32) (sp_partsNumber : Int64) (n_row : Nat) (a_row : Nat → Int32) (n_list : Nat) (a_list : Nat → Int32) (a_prime : Nat → Int64) (a_times : Nat → Int32) (a_parts : Nat → Int64) (gc : Nat) (gs : Nat) : Option (Int32 × Int32 × Int64 × Int32 × Int64 × Nat × (Nat → Int32) × (Nat → Int64) × (Nat → Int32) × (Nat → Int64)) :=
  if (v3 &&& (1 : Int32)) = 0 then
    j_X8_sortTraits_100 N MC MS v1 v3 (2 : Int32) sp_unlike sp_number sp_partsKept sp_partsNumber n_row a_row n_list a_list a_prime a_times a_parts gc gs
  else
    j_X8_sortTraits_100 N MC MS v1 v3 (0 : Int32) sp_unlike sp_number sp_partsKept sp_partsNumber n_row a_row n_list a_list a_prime a_times a_parts gc gs
set_option maxRecDepth 100000 in
set_option maxHeartbeats 4000000 in
theorem k_X8_sortTraits_89 {p : Program} {l : Launch} {e : Env} {s : State} {m : MethodId} {args : Array Value} {below : List Frame} {meth : Method} {c : Code} {dC : Nat → ClassId} {dI : Nat → Nat → Nat} {cyI cyJ cyZ : ClassId} {A : Nat → Prop} (C0 : mC p s m meth c args cX8_sortTraits (some .int) 6 RX8 wsX8_sortTraits (gK dC dI cyI cyJ cyZ) A) (N : Nat) (MC MS : Nat) (res : Int32 × Int32 × Int64 × Int32 × Int64 × Nat × (Nat → Int32) × (Nat → Int64) × (Nat → Int32) × (Nat → Int64)) (q_Sc : Nat) (q_Pr : Nat) (q_Sp : Nat) (q_Tb : Nat) (q_Mk : Nat) (q_Tr : Nat) (q_list : Nat) (q_prime : Nat) (q_times : Nat) (q_parts : Nat) (q_all : Nat) (q_apart : Nat) (q_traits : Nat) (v1 : Int32) (v3 : Int32) (sp_unlike : Int32) (sp_number : Int64) (sp_partsKept : Int32) (sp_partsNumber : Int64) (n_row : Nat) (a_row : Nat → Int32) (n_list : Nat) (a_list : Nat → Int32) (a_prime : Nat → Int64) (a_times : Nat → Int32) (a_parts : Nat → Int64) (n_all : Nat) (a_all : Nat → Int32) (n_apart : Nat) (a_apart : Nat → Int32) (n_traits : Nat) (a_traits : Nat → Int32) (gc : Nat) (gs : Nat) (q_row : Nat) (h : j_X8_sortTraits_89 N MC MS v1 v3 sp_unlike sp_number sp_partsKept sp_partsNumber n_row a_row n_list a_list a_prime a_times a_parts gc gs = some res) : ∀ (H : Heap) (locs : List Loc), va_P (dC, dI) vwCl (wd33 cyI cyJ cyZ q_Sc q_Pr q_Sp q_Tb q_Mk q_Tr q_row q_list q_prime q_times q_parts q_all q_apart q_traits sp_unlike sp_number sp_partsKept sp_partsNumber n_row a_row n_list a_list a_prime a_times a_parts n_all a_all n_apart a_apart n_traits a_traits) H → va_D A (wd33 cyI cyJ cyZ q_Sc q_Pr q_Sp q_Tb q_Mk q_Tr q_row q_list q_prime q_times q_parts q_all q_apart q_traits sp_unlike sp_number sp_partsKept sp_partsNumber n_row a_row n_list a_list a_prime a_times a_parts n_all a_all n_apart a_apart n_traits a_traits) → va_S A s.heap H locs → ∀ (ls : Array Slot), lv_has ls 6 [(0, .ref q_Tr), (1, .int v1), (3, .int v3)] → W p l e (headSpec wsX8_sortTraits (rm_X8_sortTraits MC MS)).room s m args below meth c H locs gc gs (MQ below (va_Qi (fun (r : Int32) (_ : Nat) => r = res.1) (bW dC dI (fun (u : Nat) => (wd33 cyI cyJ cyZ q_Sc q_Pr q_Sp q_Tb q_Mk q_Tr u q_list q_prime q_times q_parts q_all q_apart q_traits res.2.1 res.2.2.1 res.2.2.2.1 res.2.2.2.2.1 res.2.2.2.2.2.1 res.2.2.2.2.2.2.1 n_list a_list res.2.2.2.2.2.2.2.1 res.2.2.2.2.2.2.2.2.1 res.2.2.2.2.2.2.2.2.2 n_all a_all n_apart a_apart n_traits a_traits)) A) A) args s MC MS A) (F0 m 89 ls []) := by
  obtain ⟨hx, hb, hr, hml, hown, hts, hlocks, hG, hA⟩ := id C0
  have hK := hG.1
  intro H locs hP hD hS ls hl
  unfold j_X8_sortTraits_89 at h
  refine lv_iload_n hx hb dX8_sortTraits_89 rfl (lv_at hl 2 rfl) ?_
  refine lv_iconst (v := (1 : Int32)) hx hb dX8_sortTraits_90 (by decide) ?_
  refine lv_iand hx hb dX8_sortTraits_91 ?_
  refine lv_if_ne (tgt := 99) hx hb dX8_sortTraits_92 (by decide) (fun c7z => ?_) (fun c7z => ?_)
  · have h := xf h c7z
    refine lv_iconst (v := (0 : Int32)) hx hb dX8_sortTraits_99 (by decide) ?_
    exact k_X8_sortTraits_100 C0 N MC MS res q_Sc q_Pr q_Sp q_Tb q_Mk q_Tr q_list q_prime q_times q_parts q_all q_apart q_traits v1 v3 (0 : Int32) sp_unlike sp_number sp_partsKept sp_partsNumber n_row a_row n_list a_list a_prime a_times a_parts n_all a_all n_apart a_apart n_traits a_traits gc gs q_row h _ _ hP hD hS _ (lv_sub hl [0, 1, 2] rfl)
  · have h := xt h c7z
    refine lv_iconst (v := (2 : Int32)) hx hb dX8_sortTraits_95 (by decide) ?_
    refine lv_goto (tgt := 100) hx hb dX8_sortTraits_96 (by decide) ?_
    exact k_X8_sortTraits_100 C0 N MC MS res q_Sc q_Pr q_Sp q_Tb q_Mk q_Tr q_list q_prime q_times q_parts q_all q_apart q_traits v1 v3 (2 : Int32) sp_unlike sp_number sp_partsKept sp_partsNumber n_row a_row n_list a_list a_prime a_times a_parts n_all a_all n_apart a_apart n_traits a_traits gc gs q_row h _ _ hP hD hS _ (lv_sub hl [0, 1, 2] rfl)
def s_X8_sortTraits_33 (N : Nat) (MC : Nat) (MS : Nat) (v1 : Int32) (sp_unlike : Int32) (sp_number : Int64) (sp_partsKept : Int32) (sp_partsNumber : Int64) (n_row : Nat) (a_row : Nat → Int32) (n_list : Nat) (a_list : Nat → Int32) (a_prime : Nat → Int64) (a_times : Nat → Int32) (a_parts : Nat → Int64) (n_traits : Nat) (a_traits : Nat → Int32) (gc : Nat) (gs : Nat) (k_33 : (Int32 × Int32) → Option (Int32 × Int32 × Int64 × Int32 × Int64 × Nat × (Nat → Int32) × (Nat → Int64) × (Nat → Int32) × (Nat → Int64))) (v3 : Int32) (v4 : Int32) : Option (Int32 × Int32 × Int64 × Int32 × Int64 × Nat × (Nat → Int32) × (Nat → Int64) × (Nat → Int32) × (Nat → Int64)) :=
  if sp_unlike ≤ v4 then
    j_X8_sortTraits_89 N MC MS v1 v3 sp_unlike sp_number sp_partsKept sp_partsNumber n_row a_row n_list a_list a_prime a_times a_parts gc gs
  else
    if gc ≤ MC ∧ gs ≤ MS then
      Option.bind (f_X6_without N v4 sp_unlike sp_number a_prime) fun r17z =>
      xl (r17z.toInt32) fun y21z =>
      if y21z < (1 : Int32) then
        xl (v4 + (1 : Int32)) fun y23z =>
        k_33 (v3, y23z)
      else
        if (nI n_traits) ≤ y21z then
          xl (v4 + (1 : Int32)) fun y25z =>
          k_33 (v3, y25z)
        else
          if y21z < 0 ∨ n_traits ≤ y21z.toNatClampNeg then
            none
          else
            xl (v3 ||| (a_traits y21z.toNatClampNeg)) fun y27z =>
            xl (v4 + (1 : Int32)) fun y28z =>
            k_33 (y27z, y28z)
    else
      none
def l_X8_sortTraits_33 (N : Nat) (MC : Nat) (MS : Nat) (v1 : Int32) (sp_unlike : Int32) (sp_number : Int64) (sp_partsKept : Int32) (sp_partsNumber : Int64) (n_row : Nat) (a_row : Nat → Int32) (n_list : Nat) (a_list : Nat → Int32) (a_prime : Nat → Int64) (a_times : Nat → Int32) (a_parts : Nat → Int64) (n_traits : Nat) (a_traits : Nat → Int32) (gc : Nat) (gs : Nat) (n : Nat) (z : Int32 × Int32) : Option (Int32 × Int32 × Int64 × Int32 × Int64 × Nat × (Nat → Int32) × (Nat → Int64) × (Nat → Int32) × (Nat → Int64)) := lp (fun k z => s_X8_sortTraits_33 N MC MS v1 sp_unlike sp_number sp_partsKept sp_partsNumber n_row a_row n_list a_list a_prime a_times a_parts n_traits a_traits gc gs k z.1 z.2) n z
set_option maxRecDepth 100000 in
set_option maxHeartbeats 4000000 in
theorem k_X8_sortTraits_33 {p : Program} {l : Launch} {e : Env} {s : State} {m : MethodId} {args : Array Value} {below : List Frame} {meth : Method} {c : Code} {dC : Nat → ClassId} {dI : Nat → Nat → Nat} {cyI cyJ cyZ : ClassId} {A : Nat → Prop} (C0 : mC p s m meth c args cX8_sortTraits (some .int) 6 RX8 wsX8_sortTraits (gK dC dI cyI cyJ cyZ) A) (N : Nat) (MC MS : Nat) (res : Int32 × Int32 × Int64 × Int32 × Int64 × Nat × (Nat → Int32) × (Nat → Int64) × (Nat → Int32) × (Nat → Int64)) (q_Sc : Nat) (q_Pr : Nat) (q_Sp : Nat) (q_Tb : Nat) (q_Mk : Nat) (q_Tr : Nat) (q_list : Nat) (q_prime : Nat) (q_times : Nat) (q_parts : Nat) (q_all : Nat) (q_apart : Nat) (q_traits : Nat) (v1 : Int32) (sp_unlike : Int32) (sp_number : Int64) (sp_partsKept : Int32) (sp_partsNumber : Int64) (n_row : Nat) (a_row : Nat → Int32) (n_list : Nat) (a_list : Nat → Int32) (a_prime : Nat → Int64) (a_times : Nat → Int32) (a_parts : Nat → Int64) (n_all : Nat) (a_all : Nat → Int32) (n_apart : Nat) (a_apart : Nat → Int32) (n_traits : Nat) (a_traits : Nat → Int32) (gc : Nat) (gs : Nat) : ∀ (n : Nat) (v3 : Int32) (v4 : Int32) (q_row : Nat), l_X8_sortTraits_33 N MC MS v1 sp_unlike sp_number sp_partsKept sp_partsNumber n_row a_row n_list a_list a_prime a_times a_parts n_traits a_traits gc gs n (v3, v4) = some res → ∀ (H : Heap) (locs : List Loc), va_P (dC, dI) vwCl (wd33 cyI cyJ cyZ q_Sc q_Pr q_Sp q_Tb q_Mk q_Tr q_row q_list q_prime q_times q_parts q_all q_apart q_traits sp_unlike sp_number sp_partsKept sp_partsNumber n_row a_row n_list a_list a_prime a_times a_parts n_all a_all n_apart a_apart n_traits a_traits) H → va_D A (wd33 cyI cyJ cyZ q_Sc q_Pr q_Sp q_Tb q_Mk q_Tr q_row q_list q_prime q_times q_parts q_all q_apart q_traits sp_unlike sp_number sp_partsKept sp_partsNumber n_row a_row n_list a_list a_prime a_times a_parts n_all a_all n_apart a_apart n_traits a_traits) → va_S A s.heap H locs → ∀ (ls : Array Slot), lv_has ls 6 [(0, .ref q_Tr), (1, .int v1), (3, .int v3), (4, .int v4)] → W p l e (headSpec wsX8_sortTraits (rm_X8_sortTraits MC MS)).room s m args below meth c H locs gc gs (MQ below (va_Qi (fun (r : Int32) (_ : Nat) => r = res.1) (bW dC dI (fun (u : Nat) => (wd33 cyI cyJ cyZ q_Sc q_Pr q_Sp q_Tb q_Mk q_Tr u q_list q_prime q_times q_parts q_all q_apart q_traits res.2.1 res.2.2.1 res.2.2.2.1 res.2.2.2.2.1 res.2.2.2.2.2.1 res.2.2.2.2.2.2.1 n_list a_list res.2.2.2.2.2.2.2.1 res.2.2.2.2.2.2.2.2.1 res.2.2.2.2.2.2.2.2.2 n_all a_all n_apart a_apart n_traits a_traits)) A) A) args s MC MS A) (F0 m 33 ls []) := by
  obtain ⟨hx, hb, hr, hml, hown, hts, hlocks, hG, hA⟩ := id C0
  have hK := hG.1
  intro n
  induction n with
  | zero =>
    intro v3 v4 q_row h
    cases h
  | succ n ih =>
    intro v3 v4 q_row h H locs hP hD hS ls hl
    have h : s_X8_sortTraits_33 N MC MS v1 sp_unlike sp_number sp_partsKept sp_partsNumber n_row a_row n_list a_list a_prime a_times a_parts n_traits a_traits gc gs (l_X8_sortTraits_33 N MC MS v1 sp_unlike sp_number sp_partsKept sp_partsNumber n_row a_row n_list a_list a_prime a_times a_parts n_traits a_traits gc gs n) v3 v4 = some res := h
    unfold s_X8_sortTraits_33 at h
    refine lv_iload hx hb dX8_sortTraits_33 (lv_at hl 3 rfl) ?_
    refine lv_aload_n hx hb dX8_sortTraits_35 rfl (lv_at hl 0 rfl) ?_
    refine va_get (D := (dC, dI)) (ci := 8) (v := .ref q_Sp) (C := RX8) (T := TX8) (N := 4) hx hb hts iw_X8_sortTraits_X8 hown hK hP 5 rfl rfl 0 (by decide) (hts (.fieldLink RX8 15 "GoesInto$Traits" "split" "LGoesInto$Split;") (List.mem_of_getElem? (i := 3) rfl)) (fun _ h9 => h9) rfl dX8_sortTraits_36 ?_
    refine va_getN (D := (dC, dI)) (ci := 6) (v := .int sp_unlike) (C := RX6) (T := TX6) (N := 8) (host := "GoesInto") hx hb hts iw_X8_sortTraits_X6 hown hK hP 2 rfl rfl 3 (by decide) (va_Nw.use rfl hG.2.2.2.2.2.2.2.2.2.2.1) (fun _ h9 => h9) rfl dX8_sortTraits_39 ?_
    refine lv_icmp_ge (tgt := 89) hx hb dX8_sortTraits_42 (by decide) (fun c6z => ?_) (fun c6z => ?_)
    · have h := xt h c6z
      exact k_X8_sortTraits_89 C0 N MC MS res q_Sc q_Pr q_Sp q_Tb q_Mk q_Tr q_list q_prime q_times q_parts q_all q_apart q_traits v1 v3 sp_unlike sp_number sp_partsKept sp_partsNumber n_row a_row n_list a_list a_prime a_times a_parts n_all a_all n_apart a_apart n_traits a_traits gc gs q_row h _ _ hP hD hS _ (lv_sub hl [0, 1, 2] rfl)
    · have h := xf h c6z
      refine lv_aload_n hx hb dX8_sortTraits_45 rfl (lv_at hl 0 rfl) ?_
      refine va_get (D := (dC, dI)) (ci := 8) (v := .ref q_Sp) (C := RX8) (T := TX8) (N := 4) hx hb hts iw_X8_sortTraits_X8 hown hK hP 5 rfl rfl 0 (by decide) (hts (.fieldLink RX8 15 "GoesInto$Traits" "split" "LGoesInto$Split;") (List.mem_of_getElem? (i := 3) rfl)) (fun _ h9 => h9) rfl dX8_sortTraits_46 ?_
      refine lv_iload hx hb dX8_sortTraits_49 (lv_at hl 3 rfl) ?_
      obtain ⟨b18z, h⟩ := xa h
      obtain ⟨r17z, hr17z, h⟩ := xb_at h
      have hPc := hP.sub (ws' := (wd3 cyI cyJ cyZ q_Sp q_prime q_Pr q_times q_parts sp_unlike sp_number sp_partsKept sp_partsNumber a_prime)) [2, 8] rfl
      have hDc := hD.sub (ws' := (wd3 cyI cyJ cyZ q_Sp q_prime q_Pr q_times q_parts sp_unlike sp_number sp_partsKept sp_partsNumber a_prime)) [2, 8] (by decide) rfl
      refine cal_l [2, 8] [0, 1, 3, 4, 5, 6, 7, 9, 10, 11, 12, 13] (va_runV (As := [.int v4]) (rest := []) ⟨hx, hb, hml, hown, hts⟩ (c_X6_without l dC dI cyI cyJ cyZ N r17z H.size q_Sp q_prime q_Pr q_times q_parts v4 sp_unlike sp_number sp_partsKept sp_partsNumber a_prime hr17z) (cwV 1 hts gX8_sortTraits_X6_without rfl rfl rfl ⟨rfl, hd_X6_without⟩ ⟨Nat.le_of_ble_eq_true rfl, Nat.le_of_ble_eq_true rfl⟩) ⟨pC.blind, va_recv hK hPc (ci := 6) (q0 := 0) rfl rfl, pC.pre hPc hG hDc⟩ rfl rfl hl.1 rfl (lv_room (Nat.le_of_ble_eq_true rfl)) dX8_sortTraits_51 ⟨b18z.1, b18z.2⟩) hP hD hS hA rfl rfl rfl (by decide) (fun x20z u19z H locs hw hP hD hS => ?_)
      obtain rfl := hw.symm
      have hP : va_P (dC, dI) vwCl (wd33 cyI cyJ cyZ q_Sc q_Pr q_Sp q_Tb q_Mk q_Tr q_row q_list q_prime q_times q_parts q_all q_apart q_traits sp_unlike sp_number sp_partsKept sp_partsNumber n_row a_row n_list a_list a_prime a_times a_parts n_all a_all n_apart a_apart n_traits a_traits) H := hP.sub [0, 1, 12, 2, 3, 4, 5, 6, 13, 7, 8, 9, 10, 11] rfl
      have hD : va_D A (wd33 cyI cyJ cyZ q_Sc q_Pr q_Sp q_Tb q_Mk q_Tr q_row q_list q_prime q_times q_parts q_all q_apart q_traits sp_unlike sp_number sp_partsKept sp_partsNumber n_row a_row n_list a_list a_prime a_times a_parts n_all a_all n_apart a_apart n_traits a_traits) := hD.sub [0, 1, 12, 2, 3, 4, 5, 6, 13, 7, 8, 9, 10, 11] (by decide) rfl
      refine lv_l2i (v := r17z.toInt32) hx hb dX8_sortTraits_54 rfl ?_
      refine lv_topi (fun y21z ey21z => ?_)
      have h := xl_at h ey21z
      refine lv_istore (lv' := [(5, .int y21z), (0, .ref q_Tr), (1, .int v1), (3, .int v3), (4, .int v4)]) hx hb dX8_sortTraits_55 hl (by decide) rfl (fun ls hl => ?_)
      refine lv_iload hx hb dX8_sortTraits_57 (lv_at hl 0 rfl) ?_
      refine lv_iconst (v := (1 : Int32)) hx hb dX8_sortTraits_59 (by decide) ?_
      refine lv_icmp_lt (tgt := 83) hx hb dX8_sortTraits_60 (by decide) (fun c22z => ?_) (fun c22z => ?_)
      · have h := xt h c22z
        obtain ⟨y23z, ey23z⟩ : ∃ z : Int32, z = v4 + (1 : Int32) := ⟨_, rfl⟩
        have h := xl_at h ey23z
        refine lv_iinc (v := y23z) (lv' := [(4, .int y23z), (5, .int y21z), (0, .ref q_Tr), (1, .int v1), (3, .int v3)]) hx hb dX8_sortTraits_83 hl (k := 4) rfl (by rw [ey23z]; rfl) (by decide) rfl (fun ls hl => ?_)
        refine lv_goto (tgt := 33) hx hb dX8_sortTraits_86 (by decide) ?_
        exact ih v3 y23z q_row h _ _ hP hD hS _ (lv_sub hl [2, 3, 4, 0] rfl)
      · have h := xf h c22z
        refine lv_iload hx hb dX8_sortTraits_63 (lv_at hl 0 rfl) ?_
        refine lv_aload_n hx hb dX8_sortTraits_65 rfl (lv_at hl 1 rfl) ?_
        refine va_get (D := (dC, dI)) (ci := 8) (v := .ref q_traits) (C := RX8) (T := TX8) (N := 4) hx hb hts iw_X8_sortTraits_X8 hown hK hP 5 rfl rfl 3 (by decide) (hts (.fieldLink RX8 9 "GoesInto$Traits" "traits" "[I") (List.mem_of_getElem? (i := 4) rfl)) (fun _ h9 => h9) rfl dX8_sortTraits_66 ?_
        refine va_alen (v := nI n_traits) hx hb hK hP 13 0 rfl rfl rfl dX8_sortTraits_69 ?_
        refine lv_icmp_ge (tgt := 83) hx hb dX8_sortTraits_70 (by decide) (fun c24z => ?_) (fun c24z => ?_)
        · have h := xt h c24z
          obtain ⟨y25z, ey25z⟩ : ∃ z : Int32, z = v4 + (1 : Int32) := ⟨_, rfl⟩
          have h := xl_at h ey25z
          refine lv_iinc (v := y25z) (lv' := [(4, .int y25z), (5, .int y21z), (0, .ref q_Tr), (1, .int v1), (3, .int v3)]) hx hb dX8_sortTraits_83 hl (k := 4) rfl (by rw [ey25z]; rfl) (by decide) rfl (fun ls hl => ?_)
          refine lv_goto (tgt := 33) hx hb dX8_sortTraits_86 (by decide) ?_
          exact ih v3 y25z q_row h _ _ hP hD hS _ (lv_sub hl [2, 3, 4, 0] rfl)
        · have h := xf h c24z
          refine lv_iload_n hx hb dX8_sortTraits_73 rfl (lv_at hl 3 rfl) ?_
          refine lv_aload_n hx hb dX8_sortTraits_74 rfl (lv_at hl 1 rfl) ?_
          refine va_get (D := (dC, dI)) (ci := 8) (v := .ref q_traits) (C := RX8) (T := TX8) (N := 4) hx hb hts iw_X8_sortTraits_X8 hown hK hP 5 rfl rfl 3 (by decide) (hts (.fieldLink RX8 9 "GoesInto$Traits" "traits" "[I") (List.mem_of_getElem? (i := 4) rfl)) (fun _ h9 => h9) rfl dX8_sortTraits_75 ?_
          refine lv_iload hx hb dX8_sortTraits_78 (lv_at hl 0 rfl) ?_
          obtain ⟨b26z, h⟩ := xn h
          refine va_iald hx hb hK hP 13 0 rfl rfl b26z dX8_sortTraits_80 ?_
          refine lv_ior hx hb dX8_sortTraits_81 ?_
          refine lv_topi (fun y27z ey27z => ?_)
          have h := xl_at h ey27z
          refine lv_istore_n (lv' := [(3, .int y27z), (5, .int y21z), (0, .ref q_Tr), (1, .int v1), (4, .int v4)]) hx hb dX8_sortTraits_82 rfl hl (by decide) rfl (fun ls hl => ?_)
          obtain ⟨y28z, ey28z⟩ : ∃ z : Int32, z = v4 + (1 : Int32) := ⟨_, rfl⟩
          have h := xl_at h ey28z
          refine lv_iinc (v := y28z) (lv' := [(4, .int y28z), (3, .int y27z), (5, .int y21z), (0, .ref q_Tr), (1, .int v1)]) hx hb dX8_sortTraits_83 hl (k := 4) rfl (by rw [ey28z]; rfl) (by decide) rfl (fun ls hl => ?_)
          refine lv_goto (tgt := 33) hx hb dX8_sortTraits_86 (by decide) ?_
          exact ih y27z y28z q_row h _ _ hP hD hS _ (lv_sub hl [3, 4, 1, 0] rfl)
def f_X8_sortTraits (N : Nat) (MC : Nat) (MS : Nat) (v1 : Int32) (sp_unlike : Int32) (sp_number : Int64) (sp_partsKept : Int32) (sp_partsNumber : Int64) (n_row : Nat) (a_row : Nat → Int32) (n_list : Nat) (a_list : Nat → Int32) (a_prime : Nat → Int64) (a_times : Nat → Int32) (a_parts : Nat → Int64) (n_all : Nat) (a_all : Nat → Int32) (n_apart : Nat) (a_apart : Nat → Int32) (n_traits : Nat) (a_traits : Nat → Int32) : Option (Int32 × Int32 × Int64 × Int32 × Int64 × Nat × (Nat → Int32) × (Nat → Int64) × (Nat → Int32) × (Nat → Int64)) :=
  if 0 ≤ MC ∧ 0 ≤ MS then
    Option.bind (f_X7_summed N (1 : Int32) v1 n_all a_all n_apart a_apart) fun r1z =>
    if v1 < r1z then
      l_X8_sortTraits_33 N MC MS v1 sp_unlike sp_number sp_partsKept sp_partsNumber n_row a_row n_list a_list a_prime a_times a_parts n_traits a_traits 0 0 N ((0 : Int32), (0 : Int32))
    else
      if v1 ≤ r1z then
        if 0 ≤ MC ∧ 0 ≤ MS then
          some ((1048580 : Int32), sp_unlike, sp_number, sp_partsKept, sp_partsNumber, n_row, a_row, a_prime, a_times, a_parts)
        else
          none
      else
        if 0 ≤ MC ∧ 0 ≤ MS then
          some ((8 : Int32), sp_unlike, sp_number, sp_partsKept, sp_partsNumber, n_row, a_row, a_prime, a_times, a_parts)
        else
          none
  else
    none
set_option maxRecDepth 100000 in
set_option maxHeartbeats 4000000 in
theorem k_X8_sortTraits_0 {p : Program} {l : Launch} {e : Env} {s : State} {m : MethodId} {args : Array Value} {below : List Frame} {meth : Method} {c : Code} {dC : Nat → ClassId} {dI : Nat → Nat → Nat} {cyI cyJ cyZ : ClassId} {A : Nat → Prop} (C0 : mC p s m meth c args cX8_sortTraits (some .int) 6 RX8 wsX8_sortTraits (gK dC dI cyI cyJ cyZ) A) (N : Nat) (MC MS : Nat) (res : Int32 × Int32 × Int64 × Int32 × Int64 × Nat × (Nat → Int32) × (Nat → Int64) × (Nat → Int32) × (Nat → Int64)) (q_Sc : Nat) (q_Pr : Nat) (q_Sp : Nat) (q_Tb : Nat) (q_Mk : Nat) (q_Tr : Nat) (q_list : Nat) (q_prime : Nat) (q_times : Nat) (q_parts : Nat) (q_all : Nat) (q_apart : Nat) (q_traits : Nat) (v1 : Int32) (sp_unlike : Int32) (sp_number : Int64) (sp_partsKept : Int32) (sp_partsNumber : Int64) (n_row : Nat) (a_row : Nat → Int32) (n_list : Nat) (a_list : Nat → Int32) (a_prime : Nat → Int64) (a_times : Nat → Int32) (a_parts : Nat → Int64) (n_all : Nat) (a_all : Nat → Int32) (n_apart : Nat) (a_apart : Nat → Int32) (n_traits : Nat) (a_traits : Nat → Int32) (q_row : Nat) (h : f_X8_sortTraits N MC MS v1 sp_unlike sp_number sp_partsKept sp_partsNumber n_row a_row n_list a_list a_prime a_times a_parts n_all a_all n_apart a_apart n_traits a_traits = some res) : ∀ (H : Heap) (locs : List Loc), va_P (dC, dI) vwCl (wd33 cyI cyJ cyZ q_Sc q_Pr q_Sp q_Tb q_Mk q_Tr q_row q_list q_prime q_times q_parts q_all q_apart q_traits sp_unlike sp_number sp_partsKept sp_partsNumber n_row a_row n_list a_list a_prime a_times a_parts n_all a_all n_apart a_apart n_traits a_traits) H → va_D A (wd33 cyI cyJ cyZ q_Sc q_Pr q_Sp q_Tb q_Mk q_Tr q_row q_list q_prime q_times q_parts q_all q_apart q_traits sp_unlike sp_number sp_partsKept sp_partsNumber n_row a_row n_list a_list a_prime a_times a_parts n_all a_all n_apart a_apart n_traits a_traits) → va_S A s.heap H locs → ∀ (ls : Array Slot), lv_has ls 6 [(0, .ref q_Tr), (1, .int v1)] → W p l e (headSpec wsX8_sortTraits (rm_X8_sortTraits MC MS)).room s m args below meth c H locs 0 0 (MQ below (va_Qi (fun (r : Int32) (_ : Nat) => r = res.1) (bW dC dI (fun (u : Nat) => (wd33 cyI cyJ cyZ q_Sc q_Pr q_Sp q_Tb q_Mk q_Tr u q_list q_prime q_times q_parts q_all q_apart q_traits res.2.1 res.2.2.1 res.2.2.2.1 res.2.2.2.2.1 res.2.2.2.2.2.1 res.2.2.2.2.2.2.1 n_list a_list res.2.2.2.2.2.2.2.1 res.2.2.2.2.2.2.2.2.1 res.2.2.2.2.2.2.2.2.2 n_all a_all n_apart a_apart n_traits a_traits)) A) A) args s MC MS A) (F0 m 0 ls []) := by
  obtain ⟨hx, hb, hr, hml, hown, hts, hlocks, hG, hA⟩ := id C0
  have hK := hG.1
  intro H locs hP hD hS ls hl
  unfold f_X8_sortTraits at h
  refine lv_aload_n hx hb dX8_sortTraits_0 rfl (lv_at hl 0 rfl) ?_
  refine va_get (D := (dC, dI)) (ci := 8) (v := .ref q_Tb) (C := RX8) (T := TX8) (N := 4) hx hb hts iw_X8_sortTraits_X8 hown hK hP 5 rfl rfl 1 (by decide) (hts (.fieldLink RX8 19 "GoesInto$Traits" "tables" "LGoesInto$Tables;") (List.mem_of_getElem? (i := 1) rfl)) (fun _ h9 => h9) rfl dX8_sortTraits_1 ?_
  refine lv_iconst (v := (1 : Int32)) hx hb dX8_sortTraits_4 (by decide) ?_
  refine lv_iload_n hx hb dX8_sortTraits_5 rfl (lv_at hl 1 rfl) ?_
  obtain ⟨b2z, h⟩ := xa h
  obtain ⟨r1z, hr1z, h⟩ := xb_at h
  have hPc := hP.sub (ws' := (wd15 cyI cyJ cyZ q_Tb q_all q_apart q_Sc n_all a_all n_apart a_apart)) [3, 11, 12] rfl
  have hDc := hD.sub (ws' := (wd15 cyI cyJ cyZ q_Tb q_all q_apart q_Sc n_all a_all n_apart a_apart)) [3, 11, 12] (by decide) rfl
  refine cal_i [3, 11, 12] [0, 1, 2, 4, 5, 6, 7, 8, 9, 10, 13] (va_runV (As := [.int (1 : Int32), .int v1]) (rest := []) ⟨hx, hb, hml, hown, hts⟩ (c_X7_summed l dC dI cyI cyJ cyZ N r1z H.size q_Tb q_all q_apart q_Sc (1 : Int32) v1 n_all a_all n_apart a_apart hr1z) (cwV 2 hts gX8_sortTraits_X7_summed rfl rfl rfl ⟨rfl, hd_X7_summed⟩ ⟨Nat.le_of_ble_eq_true rfl, Nat.le_of_ble_eq_true rfl⟩) ⟨pC.blind, va_recv hK hPc (ci := 7) (q0 := 0) rfl rfl, pC.pre hPc hG hDc⟩ rfl rfl hl.1 rfl (lv_room (Nat.le_of_ble_eq_true rfl)) dX8_sortTraits_6 ⟨b2z.1, b2z.2⟩) hP hD hS hA rfl rfl rfl (by decide) (fun x4z u3z H locs hw hP hD hS => ?_)
  obtain rfl := hw.symm
  have hP : va_P (dC, dI) vwCl (wd33 cyI cyJ cyZ q_Sc q_Pr q_Sp q_Tb q_Mk q_Tr q_row q_list q_prime q_times q_parts q_all q_apart q_traits sp_unlike sp_number sp_partsKept sp_partsNumber n_row a_row n_list a_list a_prime a_times a_parts n_all a_all n_apart a_apart n_traits a_traits) H := hP.sub [0, 1, 2, 11, 3, 4, 5, 6, 7, 8, 9, 12, 13, 10] rfl
  have hD : va_D A (wd33 cyI cyJ cyZ q_Sc q_Pr q_Sp q_Tb q_Mk q_Tr q_row q_list q_prime q_times q_parts q_all q_apart q_traits sp_unlike sp_number sp_partsKept sp_partsNumber n_row a_row n_list a_list a_prime a_times a_parts n_all a_all n_apart a_apart n_traits a_traits) := hD.sub [0, 1, 2, 11, 3, 4, 5, 6, 7, 8, 9, 12, 13, 10] (by decide) rfl
  refine lv_istore_n (lv' := [(2, .int r1z), (0, .ref q_Tr), (1, .int v1)]) hx hb dX8_sortTraits_9 rfl hl (by decide) rfl (fun ls hl => ?_)
  refine lv_iload_n hx hb dX8_sortTraits_10 rfl (lv_at hl 0 rfl) ?_
  refine lv_iload_n hx hb dX8_sortTraits_11 rfl (lv_at hl 2 rfl) ?_
  refine lv_icmp_gt (tgt := 28) hx hb dX8_sortTraits_12 (by decide) (fun c5z => ?_) (fun c5z => ?_)
  · have h := xt h c5z
    refine lv_iconst (v := (0 : Int32)) hx hb dX8_sortTraits_28 (by decide) ?_
    refine lv_istore_n (lv' := [(3, .int (0 : Int32)), (2, .int r1z), (0, .ref q_Tr), (1, .int v1)]) hx hb dX8_sortTraits_29 rfl hl (by decide) rfl (fun ls hl => ?_)
    refine lv_iconst (v := (0 : Int32)) hx hb dX8_sortTraits_30 (by decide) ?_
    refine lv_istore (lv' := [(4, .int (0 : Int32)), (3, .int (0 : Int32)), (2, .int r1z), (0, .ref q_Tr), (1, .int v1)]) hx hb dX8_sortTraits_31 hl (by decide) rfl (fun ls hl => ?_)
    exact k_X8_sortTraits_33 C0 N MC MS res q_Sc q_Pr q_Sp q_Tb q_Mk q_Tr q_list q_prime q_times q_parts q_all q_apart q_traits v1 sp_unlike sp_number sp_partsKept sp_partsNumber n_row a_row n_list a_list a_prime a_times a_parts n_all a_all n_apart a_apart n_traits a_traits 0 0 N (0 : Int32) (0 : Int32) q_row h _ _ hP hD hS _ (lv_sub hl [3, 4, 1, 0] rfl)
  · have h := xf h c5z
    refine lv_iload_n hx hb dX8_sortTraits_15 rfl (lv_at hl 0 rfl) ?_
    refine lv_iload_n hx hb dX8_sortTraits_16 rfl (lv_at hl 2 rfl) ?_
    refine lv_icmp_ge (tgt := 25) hx hb dX8_sortTraits_17 (by decide) (fun c29z => ?_) (fun c29z => ?_)
    · have h := xt h c29z
      refine lv_ldc (v := (1048580 : Int32)) hx hb hown (hts (.constant RX8 49 (1048580)) (List.mem_of_getElem? (i := 2) rfl)) dX8_sortTraits_25 ?_
      obtain ⟨b30z, h⟩ := xa h
      refine W.widen (k := MC) (n := MS) b30z.1 b30z.2 ?_
      obtain rfl := Option.some.inj h
      exact W.iret (v := (1048580 : Int32)) hx hb hr (fun t ht hW => ⟨⟨_, q_row, rfl, rfl, by rw [ht]; exact hP, hD⟩, hS.F ht⟩) hS.2.2 dX8_sortTraits_27 hlocks
    · have h := xf h c29z
      refine lv_bipush (v := (8 : Int32)) hx hb dX8_sortTraits_20 (by decide) ?_
      refine lv_goto (tgt := 27) hx hb dX8_sortTraits_22 (by decide) ?_
      obtain ⟨b31z, h⟩ := xa h
      refine W.widen (k := MC) (n := MS) b31z.1 b31z.2 ?_
      obtain rfl := Option.some.inj h
      exact W.iret (v := (8 : Int32)) hx hb hr (fun t ht hW => ⟨⟨_, q_row, rfl, rfl, by rw [ht]; exact hP, hD⟩, hS.F ht⟩) hS.2.2 dX8_sortTraits_27 hlocks
set_option maxRecDepth 100000 in
set_option maxHeartbeats 4000000 in
theorem c_X8_sortTraits (l : Launch) (dC : Nat → ClassId) (dI : Nat → Nat → Nat) (cyI cyJ cyZ : ClassId) (N : Nat) (MC MS : Nat) (res : Int32 × Int32 × Int64 × Int32 × Int64 × Nat × (Nat → Int32) × (Nat → Int64) × (Nat → Int32) × (Nat → Int64)) (sz : Nat) (q_Sc : Nat) (q_Pr : Nat) (q_Sp : Nat) (q_Tb : Nat) (q_Mk : Nat) (q_Tr : Nat) (q_row : Nat) (q_list : Nat) (q_prime : Nat) (q_times : Nat) (q_parts : Nat) (q_all : Nat) (q_apart : Nat) (q_traits : Nat) (v1 : Int32) (sp_unlike : Int32) (sp_number : Int64) (sp_partsKept : Int32) (sp_partsNumber : Int64) (n_row : Nat) (a_row : Nat → Int32) (n_list : Nat) (a_list : Nat → Int32) (a_prime : Nat → Int64) (a_times : Nat → Int32) (a_parts : Nat → Int64) (n_all : Nat) (a_all : Nat → Int32) (n_apart : Nat) (a_apart : Nat → Int32) (n_traits : Nat) (a_traits : Nat → Int32) (h : f_X8_sortTraits N MC MS v1 sp_unlike sp_number sp_partsKept sp_partsNumber n_row a_row n_list a_list a_prime a_times a_parts n_all a_all n_apart a_apart n_traits a_traits = some res) : Met l yX8_sortTraits wsX8_sortTraits (rm_X8_sortTraits MC MS) (pC dC dI cyI cyJ cyZ [.ref q_Tr, .int v1] sz (wd33 cyI cyJ cyZ q_Sc q_Pr q_Sp q_Tb q_Mk q_Tr q_row q_list q_prime q_times q_parts q_all q_apart q_traits sp_unlike sp_number sp_partsKept sp_partsNumber n_row a_row n_list a_list a_prime a_times a_parts n_all a_all n_apart a_apart n_traits a_traits)) (va_Qi (fun (r : Int32) (_ : Nat) => r = res.1) (bW dC dI (fun (u : Nat) => (wd33 cyI cyJ cyZ q_Sc q_Pr q_Sp q_Tb q_Mk q_Tr u q_list q_prime q_times q_parts q_all q_apart q_traits res.2.1 res.2.2.1 res.2.2.2.1 res.2.2.2.2.1 res.2.2.2.2.2.1 res.2.2.2.2.2.2.1 n_list a_list res.2.2.2.2.2.2.2.1 res.2.2.2.2.2.2.2.2.1 res.2.2.2.2.2.2.2.2.2 n_all a_all n_apart a_apart n_traits a_traits)) (va_A (wd33 cyI cyJ cyZ q_Sc q_Pr q_Sp q_Tb q_Mk q_Tr q_row q_list q_prime q_times q_parts q_all q_apart q_traits sp_unlike sp_number sp_partsKept sp_partsNumber n_row a_row n_list a_list a_prime a_times a_parts n_all a_all n_apart a_apart n_traits a_traits) sz)) (va_A (wd33 cyI cyJ cyZ q_Sc q_Pr q_Sp q_Tb q_Mk q_Tr q_row q_list q_prime q_times q_parts q_all q_apart q_traits sp_unlike sp_number sp_partsKept sp_partsNumber n_row a_row n_list a_list a_prime a_times a_parts n_all a_all n_apart a_apart n_traits a_traits) sz)) MC MS (va_A (wd33 cyI cyJ cyZ q_Sc q_Pr q_Sp q_Tb q_Mk q_Tr q_row q_list q_prime q_times q_parts q_all q_apart q_traits sp_unlike sp_number sp_partsKept sp_partsNumber n_row a_row n_list a_list a_prime a_times a_parts n_all a_all n_apart a_apart n_traits a_traits) sz) := by
  refine Met.ofW (cc := cX8_sortTraits) (maxL := 6) (ret := (some .int)) (by decide) rfl ?_
  intro p e s m args below meth c s₁ B hml hv
  obtain ⟨rfl, hsz, hP, hG, hD0⟩ := hv
  have hx := B.exec
  have hb := B.bytes
  have hr := B.returns
  have hts := atoms_spec (ws := wsX8_sortTraits) B.pre
  have hown : s.vm.findClass RX8 = some m.cls := findClass_of_methodNamed B.named
  have hlocks := B.notSynchronized
  subst hsz
  have hD := hD0.self (sz := s.heap.size)
  generalize hAe : va_A (wd33 cyI cyJ cyZ q_Sc q_Pr q_Sp q_Tb q_Mk q_Tr q_row q_list q_prime q_times q_parts q_all q_apart q_traits sp_unlike sp_number sp_partsKept sp_partsNumber n_row a_row n_list a_list a_prime a_times a_parts n_all a_all n_apart a_apart n_traits a_traits) s.heap.size = A at hD ⊢
  have hA : ∀ q : Nat, s.heap.size ≤ q → A q := fun q h => by rw [← hAe]; exact Or.inr h
  have hS : va_S A s.heap s.heap [] := va_S.rf
  have hl := lv_entry ([.ref q_Tr, .int v1]) (n := 6) (Nat.le_of_ble_eq_true rfl)
  rw [lg_entry_eq]
  generalize (lg_sl ([.ref q_Tr, .int v1]) ++ List.replicate (6 - (lg_sl ([.ref q_Tr, .int v1])).length) Slot.unset).toArray = ls at hl ⊢
  have hl : lv_has ls 6 [(0, .ref q_Tr), (1, .int v1)] := hl
  exact k_X8_sortTraits_0 ⟨hx, hb, hr, hml, hown, hts, hlocks, hG, hA⟩ N MC MS res q_Sc q_Pr q_Sp q_Tb q_Mk q_Tr q_list q_prime q_times q_parts q_all q_apart q_traits v1 sp_unlike sp_number sp_partsKept sp_partsNumber n_row a_row n_list a_list a_prime a_times a_parts n_all a_all n_apart a_apart n_traits a_traits q_row h _ _ hP hD hS _ hl
/-- the cells Sp, Tr, times -/
abbrev wd34 (cyI cyJ cyZ : ClassId) (q_Sp : Nat) (q_Tr : Nat) (q_times : Nat) (q_Pr : Nat) (q_prime : Nat) (q_parts : Nat) (q_Tb : Nat) (q_Mk : Nat) (q_traits : Nat) (sp_unlike : Int32) (sp_number : Int64) (sp_partsKept : Int32) (sp_partsNumber : Int64) (a_times : Nat → Int32) : va_W := [(q_Sp, .inr (6, [.ref q_Pr, .ref q_prime, .ref q_times, .int sp_unlike, .long sp_number, .ref q_parts, .int sp_partsKept, .long sp_partsNumber])), (q_Tr, .inr (8, [.ref q_Sp, .ref q_Tb, .ref q_Mk, .ref q_traits])), (q_times, .inl (cyI, 12, .inl a_times))]
abbrev rm_X8_primeTraits : Room := { frames := 1, cells := 0, slots := 0, locals := 21 }
theorem hd_X8_primeTraits : yX8_primeTraits.cls ≠ "java/lang/invoke/MethodHandle" ∧ yX8_primeTraits.cls ≠ "java/lang/invoke/VarHandle" ∧ (parseMethodDescriptor yX8_primeTraits.desc).map (fun d => d.parameters.length) = some 1 := by decide +kernel
theorem iw_X8_primeTraits_X6 : ∀ w ∈ wsX60, w ∈ wsX8_primeTraits := List.forall_mem_cons.mpr ⟨List.mem_of_getElem? (i := 13) rfl, List.forall_mem_cons.mpr ⟨List.mem_of_getElem? (i := 14) rfl, List.forall_mem_cons.mpr ⟨List.mem_of_getElem? (i := 15) rfl, List.forall_mem_cons.mpr ⟨List.mem_of_getElem? (i := 16) rfl, List.forall_mem_cons.mpr ⟨List.mem_of_getElem? (i := 17) rfl, List.forall_mem_cons.mpr ⟨List.mem_of_getElem? (i := 18) rfl, List.forall_mem_cons.mpr ⟨List.mem_of_getElem? (i := 19) rfl, List.forall_mem_cons.mpr ⟨List.mem_of_getElem? (i := 20) rfl, fun _ h => absurd h List.not_mem_nil⟩⟩⟩⟩⟩⟩⟩⟩
theorem iw_X8_primeTraits_X8 : ∀ w ∈ wsX80, w ∈ wsX8_primeTraits := List.forall_mem_cons.mpr ⟨List.mem_of_getElem? (i := 9) rfl, List.forall_mem_cons.mpr ⟨List.mem_of_getElem? (i := 10) rfl, List.forall_mem_cons.mpr ⟨List.mem_of_getElem? (i := 11) rfl, List.forall_mem_cons.mpr ⟨List.mem_of_getElem? (i := 12) rfl, fun _ h => absurd h List.not_mem_nil⟩⟩⟩⟩
def j_X8_primeTraits_119 (N : Nat) (v3 : Int32) (v4 : Int32) (s0 : Int32) (s1 : Int32) : Option (Int32) :=
  if v3 = 0 then
    some (((s1 ||| s0) ||| (0 : Int32)) ||| v4)
  else
    some (((s1 ||| s0) ||| (128 : Int32)) ||| v4)
set_option maxRecDepth 100000 in
set_option maxHeartbeats 4000000 in
theorem k_X8_primeTraits_119 {p : Program} {l : Launch} {e : Env} {s : State} {m : MethodId} {args : Array Value} {below : List Frame} {meth : Method} {c : Code} {dC : Nat → ClassId} {dI : Nat → Nat → Nat} {cyI cyJ cyZ : ClassId} {A : Nat → Prop} (C0 : mC p s m meth c args cX8_primeTraits (some .int) 6 RX8 wsX8_primeTraits (gK dC dI cyI cyJ cyZ) A) (N : Nat) (res : Int32) (q_Sp : Nat) (q_Tr : Nat) (q_times : Nat) (q_Pr : Nat) (q_prime : Nat) (q_parts : Nat) (q_Tb : Nat) (q_Mk : Nat) (q_traits : Nat) (v3 : Int32) (v4 : Int32) (s0 : Int32) (s1 : Int32) (sp_unlike : Int32) (sp_number : Int64) (sp_partsKept : Int32) (sp_partsNumber : Int64) (a_times : Nat → Int32) (h : j_X8_primeTraits_119 N v3 v4 s0 s1 = some res) : ∀ (H : Heap) (locs : List Loc), va_P (dC, dI) vwCl (wd34 cyI cyJ cyZ q_Sp q_Tr q_times q_Pr q_prime q_parts q_Tb q_Mk q_traits sp_unlike sp_number sp_partsKept sp_partsNumber a_times) H → va_D A (wd34 cyI cyJ cyZ q_Sp q_Tr q_times q_Pr q_prime q_parts q_Tb q_Mk q_traits sp_unlike sp_number sp_partsKept sp_partsNumber a_times) → va_S A s.heap H locs → ∀ (ls : Array Slot), lv_has ls 6 [(3, .int v3), (4, .int v4)] → W p l e (headSpec wsX8_primeTraits rm_X8_primeTraits).room s m args below meth c H locs 0 0 (MQ below (va_Qi (fun (r : Int32) (_ : Unit) => r = res) (bW dC dI (fun (u : Unit) => (wd34 cyI cyJ cyZ q_Sp q_Tr q_times q_Pr q_prime q_parts q_Tb q_Mk q_traits sp_unlike sp_number sp_partsKept sp_partsNumber a_times)) A) A) args s 0 0 A) (F0 m 119 ls [.int s0, .int s1]) := by
  obtain ⟨hx, hb, hr, hml, hown, hts, hlocks, hG, hA⟩ := id C0
  have hK := hG.1
  intro H locs hP hD hS ls hl
  unfold j_X8_primeTraits_119 at h
  refine lv_ior hx hb dX8_primeTraits_119 ?_
  refine lv_iload_n hx hb dX8_primeTraits_120 rfl (lv_at hl 0 rfl) ?_
  refine lv_if_eq (tgt := 130) hx hb dX8_primeTraits_121 (by decide) (fun c5z => ?_) (fun c5z => ?_)
  · have h := xt h c5z
    refine lv_iconst (v := (0 : Int32)) hx hb dX8_primeTraits_130 (by decide) ?_
    refine lv_ior hx hb dX8_primeTraits_131 ?_
    refine lv_iload hx hb dX8_primeTraits_132 (lv_at hl 1 rfl) ?_
    refine lv_ior hx hb dX8_primeTraits_134 ?_
    obtain rfl := Option.some.inj h
    exact W.iret (v := ((s1 ||| s0) ||| (0 : Int32)) ||| v4) hx hb hr (fun t ht hW => ⟨⟨_, (), rfl, rfl, by rw [ht]; exact hP, hD⟩, hS.F ht⟩) hS.2.2 dX8_primeTraits_135 hlocks
  · have h := xf h c5z
    refine lv_sipush (v := (128 : Int32)) hx hb dX8_primeTraits_124 (by decide) ?_
    refine lv_goto (tgt := 131) hx hb dX8_primeTraits_127 (by decide) ?_
    refine lv_ior hx hb dX8_primeTraits_131 ?_
    refine lv_iload hx hb dX8_primeTraits_132 (lv_at hl 1 rfl) ?_
    refine lv_ior hx hb dX8_primeTraits_134 ?_
    obtain rfl := Option.some.inj h
    exact W.iret (v := ((s1 ||| s0) ||| (128 : Int32)) ||| v4) hx hb hr (fun t ht hW => ⟨⟨_, (), rfl, rfl, by rw [ht]; exact hP, hD⟩, hS.F ht⟩) hS.2.2 dX8_primeTraits_135 hlocks
def j_X8_primeTraits_109 (N : Nat) (v2 : Int32) (v3 : Int32) (v4 : Int32) (s0 : Int32) : Option (Int32) :=
  if v2 = 0 then
    j_X8_primeTraits_119 N v3 v4 (0 : Int32) s0
  else
    j_X8_primeTraits_119 N v3 v4 (64 : Int32) s0
set_option maxRecDepth 100000 in
set_option maxHeartbeats 4000000 in
theorem k_X8_primeTraits_109 {p : Program} {l : Launch} {e : Env} {s : State} {m : MethodId} {args : Array Value} {below : List Frame} {meth : Method} {c : Code} {dC : Nat → ClassId} {dI : Nat → Nat → Nat} {cyI cyJ cyZ : ClassId} {A : Nat → Prop} (C0 : mC p s m meth c args cX8_primeTraits (some .int) 6 RX8 wsX8_primeTraits (gK dC dI cyI cyJ cyZ) A) (N : Nat) (res : Int32) (q_Sp : Nat) (q_Tr : Nat) (q_times : Nat) (q_Pr : Nat) (q_prime : Nat) (q_parts : Nat) (q_Tb : Nat) (q_Mk : Nat) (q_traits : Nat) (v2 : Int32) (v3 : Int32) (v4 : Int32) (s0 : Int32) (sp_unlike : Int32) (sp_number : Int64) (sp_partsKept : Int32) (sp_partsNumber : Int64) (a_times : Nat → Int32) (h : j_X8_primeTraits_109 N v2 v3 v4 s0 = some res) : ∀ (H : Heap) (locs : List Loc), va_P (dC, dI) vwCl (wd34 cyI cyJ cyZ q_Sp q_Tr q_times q_Pr q_prime q_parts q_Tb q_Mk q_traits sp_unlike sp_number sp_partsKept sp_partsNumber a_times) H → va_D A (wd34 cyI cyJ cyZ q_Sp q_Tr q_times q_Pr q_prime q_parts q_Tb q_Mk q_traits sp_unlike sp_number sp_partsKept sp_partsNumber a_times) → va_S A s.heap H locs → ∀ (ls : Array Slot), lv_has ls 6 [(2, .int v2), (3, .int v3), (4, .int v4)] → W p l e (headSpec wsX8_primeTraits rm_X8_primeTraits).room s m args below meth c H locs 0 0 (MQ below (va_Qi (fun (r : Int32) (_ : Unit) => r = res) (bW dC dI (fun (u : Unit) => (wd34 cyI cyJ cyZ q_Sp q_Tr q_times q_Pr q_prime q_parts q_Tb q_Mk q_traits sp_unlike sp_number sp_partsKept sp_partsNumber a_times)) A) A) args s 0 0 A) (F0 m 109 ls [.int s0]) := by
  obtain ⟨hx, hb, hr, hml, hown, hts, hlocks, hG, hA⟩ := id C0
  have hK := hG.1
  intro H locs hP hD hS ls hl
  unfold j_X8_primeTraits_109 at h
  refine lv_iload_n hx hb dX8_primeTraits_109 rfl (lv_at hl 0 rfl) ?_
  refine lv_if_eq (tgt := 118) hx hb dX8_primeTraits_110 (by decide) (fun c4z => ?_) (fun c4z => ?_)
  · have h := xt h c4z
    refine lv_iconst (v := (0 : Int32)) hx hb dX8_primeTraits_118 (by decide) ?_
    exact k_X8_primeTraits_119 C0 N res q_Sp q_Tr q_times q_Pr q_prime q_parts q_Tb q_Mk q_traits v3 v4 (0 : Int32) s0 sp_unlike sp_number sp_partsKept sp_partsNumber a_times  h _ _ hP hD hS _ (lv_sub hl [1, 2] rfl)
  · have h := xf h c4z
    refine lv_bipush (v := (64 : Int32)) hx hb dX8_primeTraits_113 (by decide) ?_
    refine lv_goto (tgt := 119) hx hb dX8_primeTraits_115 (by decide) ?_
    exact k_X8_primeTraits_119 C0 N res q_Sp q_Tr q_times q_Pr q_prime q_parts q_Tb q_Mk q_traits v3 v4 (64 : Int32) s0 sp_unlike sp_number sp_partsKept sp_partsNumber a_times  h _ _ hP hD hS _ (lv_sub hl [1, 2] rfl)
def j_X8_primeTraits_95 (N : Nat) (v1 : Int32) (v2 : Int32) (v3 : Int32) (s0 : Int32) : Option (Int32) :=
  if (v1 - v1 / (2 : Int32) * (2 : Int32)) = 0 then
    j_X8_primeTraits_109 N v2 v3 s0 (32 : Int32)
  else
    j_X8_primeTraits_109 N v2 v3 s0 (0 : Int32)
set_option maxRecDepth 100000 in
set_option maxHeartbeats 4000000 in
theorem k_X8_primeTraits_95 {p : Program} {l : Launch} {e : Env} {s : State} {m : MethodId} {args : Array Value} {below : List Frame} {meth : Method} {c : Code} {dC : Nat → ClassId} {dI : Nat → Nat → Nat} {cyI cyJ cyZ : ClassId} {A : Nat → Prop} (C0 : mC p s m meth c args cX8_primeTraits (some .int) 6 RX8 wsX8_primeTraits (gK dC dI cyI cyJ cyZ) A) (N : Nat) (res : Int32) (q_Sp : Nat) (q_Tr : Nat) (q_times : Nat) (q_Pr : Nat) (q_prime : Nat) (q_parts : Nat) (q_Tb : Nat) (q_Mk : Nat) (q_traits : Nat) (v1 : Int32) (v2 : Int32) (v3 : Int32) (s0 : Int32) (sp_unlike : Int32) (sp_number : Int64) (sp_partsKept : Int32) (sp_partsNumber : Int64) (a_times : Nat → Int32) (h : j_X8_primeTraits_95 N v1 v2 v3 s0 = some res) : ∀ (H : Heap) (locs : List Loc), va_P (dC, dI) vwCl (wd34 cyI cyJ cyZ q_Sp q_Tr q_times q_Pr q_prime q_parts q_Tb q_Mk q_traits sp_unlike sp_number sp_partsKept sp_partsNumber a_times) H → va_D A (wd34 cyI cyJ cyZ q_Sp q_Tr q_times q_Pr q_prime q_parts q_Tb q_Mk q_traits sp_unlike sp_number sp_partsKept sp_partsNumber a_times) → va_S A s.heap H locs → ∀ (ls : Array Slot), lv_has ls 6 [(1, .int v1), (2, .int v2), (3, .int v3)] → W p l e (headSpec wsX8_primeTraits rm_X8_primeTraits).room s m args below meth c H locs 0 0 (MQ below (va_Qi (fun (r : Int32) (_ : Unit) => r = res) (bW dC dI (fun (u : Unit) => (wd34 cyI cyJ cyZ q_Sp q_Tr q_times q_Pr q_prime q_parts q_Tb q_Mk q_traits sp_unlike sp_number sp_partsKept sp_partsNumber a_times)) A) A) args s 0 0 A) (F0 m 95 ls [.int s0]) := by
  obtain ⟨hx, hb, hr, hml, hown, hts, hlocks, hG, hA⟩ := id C0
  have hK := hG.1
  intro H locs hP hD hS ls hl
  unfold j_X8_primeTraits_95 at h
  refine lv_istore (lv' := [(4, .int s0), (1, .int v1), (2, .int v2), (3, .int v3)]) hx hb dX8_primeTraits_95 hl (by decide) rfl (fun ls hl => ?_)
  refine lv_iload_n hx hb dX8_primeTraits_97 rfl (lv_at hl 1 rfl) ?_
  refine lv_iconst (v := (2 : Int32)) hx hb dX8_primeTraits_98 (by decide) ?_
  refine lv_irem hx hb dX8_primeTraits_99 (by decide) ?_
  refine lv_if_ne (tgt := 108) hx hb dX8_primeTraits_100 (by decide) (fun c3z => ?_) (fun c3z => ?_)
  · have h := xf h c3z
    refine lv_iconst (v := (0 : Int32)) hx hb dX8_primeTraits_108 (by decide) ?_
    exact k_X8_primeTraits_109 C0 N res q_Sp q_Tr q_times q_Pr q_prime q_parts q_Tb q_Mk q_traits v2 v3 s0 (0 : Int32) sp_unlike sp_number sp_partsKept sp_partsNumber a_times  h _ _ hP hD hS _ (lv_sub hl [2, 3, 0] rfl)
  · have h := xt h c3z
    refine lv_bipush (v := (32 : Int32)) hx hb dX8_primeTraits_103 (by decide) ?_
    refine lv_goto (tgt := 109) hx hb dX8_primeTraits_105 (by decide) ?_
    exact k_X8_primeTraits_109 C0 N res q_Sp q_Tr q_times q_Pr q_prime q_parts q_Tb q_Mk q_traits v2 v3 s0 (32 : Int32) sp_unlike sp_number sp_partsKept sp_partsNumber a_times  h _ _ hP hD hS _ (lv_sub hl [2, 3, 0] rfl)
def j_X8_primeTraits_69 (N : Nat) (v1 : Int32) (v2 : Int32) (v3 : Int32) (sp_unlike : Int32) : Option (Int32) :=
  if sp_unlike ≤ 0 then
    j_X8_primeTraits_95 N v1 v2 v3 (0 : Int32)
  else
    j_X8_primeTraits_95 N v1 v2 v3 ((1 : Int32) <<< (((9 : Int32) + sp_unlike) &&& 31))
set_option maxRecDepth 100000 in
set_option maxHeartbeats 4000000 in
theorem k_X8_primeTraits_69 {p : Program} {l : Launch} {e : Env} {s : State} {m : MethodId} {args : Array Value} {below : List Frame} {meth : Method} {c : Code} {dC : Nat → ClassId} {dI : Nat → Nat → Nat} {cyI cyJ cyZ : ClassId} {A : Nat → Prop} (C0 : mC p s m meth c args cX8_primeTraits (some .int) 6 RX8 wsX8_primeTraits (gK dC dI cyI cyJ cyZ) A) (N : Nat) (res : Int32) (q_Sp : Nat) (q_Tr : Nat) (q_times : Nat) (q_Pr : Nat) (q_prime : Nat) (q_parts : Nat) (q_Tb : Nat) (q_Mk : Nat) (q_traits : Nat) (v1 : Int32) (v2 : Int32) (v3 : Int32) (sp_unlike : Int32) (sp_number : Int64) (sp_partsKept : Int32) (sp_partsNumber : Int64) (a_times : Nat → Int32) (h : j_X8_primeTraits_69 N v1 v2 v3 sp_unlike = some res) : ∀ (H : Heap) (locs : List Loc), va_P (dC, dI) vwCl (wd34 cyI cyJ cyZ q_Sp q_Tr q_times q_Pr q_prime q_parts q_Tb q_Mk q_traits sp_unlike sp_number sp_partsKept sp_partsNumber a_times) H → va_D A (wd34 cyI cyJ cyZ q_Sp q_Tr q_times q_Pr q_prime q_parts q_Tb q_Mk q_traits sp_unlike sp_number sp_partsKept sp_partsNumber a_times) → va_S A s.heap H locs → ∀ (ls : Array Slot), lv_has ls 6 [(0, .ref q_Tr), (1, .int v1), (2, .int v2), (3, .int v3)] → W p l e (headSpec wsX8_primeTraits rm_X8_primeTraits).room s m args below meth c H locs 0 0 (MQ below (va_Qi (fun (r : Int32) (_ : Unit) => r = res) (bW dC dI (fun (u : Unit) => (wd34 cyI cyJ cyZ q_Sp q_Tr q_times q_Pr q_prime q_parts q_Tb q_Mk q_traits sp_unlike sp_number sp_partsKept sp_partsNumber a_times)) A) A) args s 0 0 A) (F0 m 69 ls []) := by
  obtain ⟨hx, hb, hr, hml, hown, hts, hlocks, hG, hA⟩ := id C0
  have hK := hG.1
  intro H locs hP hD hS ls hl
  unfold j_X8_primeTraits_69 at h
  refine lv_aload_n hx hb dX8_primeTraits_69 rfl (lv_at hl 0 rfl) ?_
  refine va_get (D := (dC, dI)) (ci := 8) (v := .ref q_Sp) (C := RX8) (T := TX8) (N := 4) hx hb hts iw_X8_primeTraits_X8 hown hK hP 1 rfl rfl 0 (by decide) (hts (.fieldLink RX8 15 "GoesInto$Traits" "split" "LGoesInto$Split;") (List.mem_of_getElem? (i := 1) rfl)) (fun _ h9 => h9) rfl dX8_primeTraits_70 ?_
  refine va_getN (D := (dC, dI)) (ci := 6) (v := .int sp_unlike) (C := RX6) (T := TX6) (N := 8) (host := "GoesInto") hx hb hts iw_X8_primeTraits_X6 hown hK hP 0 rfl rfl 3 (by decide) (va_Nw.use rfl hG.2.2.2.2.2.2.2.2.2.2.1) (fun _ h9 => h9) rfl dX8_primeTraits_73 ?_
  refine lv_if_le (tgt := 94) hx hb dX8_primeTraits_76 (by decide) (fun c2z => ?_) (fun c2z => ?_)
  · have h := xt h c2z
    refine lv_iconst (v := (0 : Int32)) hx hb dX8_primeTraits_94 (by decide) ?_
    exact k_X8_primeTraits_95 C0 N res q_Sp q_Tr q_times q_Pr q_prime q_parts q_Tb q_Mk q_traits v1 v2 v3 (0 : Int32) sp_unlike sp_number sp_partsKept sp_partsNumber a_times  h _ _ hP hD hS _ (lv_sub hl [1, 2, 3] rfl)
  · have h := xf h c2z
    refine lv_iconst (v := (1 : Int32)) hx hb dX8_primeTraits_79 (by decide) ?_
    refine lv_bipush (v := (9 : Int32)) hx hb dX8_primeTraits_80 (by decide) ?_
    refine lv_aload_n hx hb dX8_primeTraits_82 rfl (lv_at hl 0 rfl) ?_
    refine va_get (D := (dC, dI)) (ci := 8) (v := .ref q_Sp) (C := RX8) (T := TX8) (N := 4) hx hb hts iw_X8_primeTraits_X8 hown hK hP 1 rfl rfl 0 (by decide) (hts (.fieldLink RX8 15 "GoesInto$Traits" "split" "LGoesInto$Split;") (List.mem_of_getElem? (i := 1) rfl)) (fun _ h9 => h9) rfl dX8_primeTraits_83 ?_
    refine va_getN (D := (dC, dI)) (ci := 6) (v := .int sp_unlike) (C := RX6) (T := TX6) (N := 8) (host := "GoesInto") hx hb hts iw_X8_primeTraits_X6 hown hK hP 0 rfl rfl 3 (by decide) (va_Nw.use rfl hG.2.2.2.2.2.2.2.2.2.2.1) (fun _ h9 => h9) rfl dX8_primeTraits_86 ?_
    refine lv_iadd hx hb dX8_primeTraits_89 ?_
    refine lv_ishl hx hb dX8_primeTraits_90 ?_
    refine lv_goto (tgt := 95) hx hb dX8_primeTraits_91 (by decide) ?_
    exact k_X8_primeTraits_95 C0 N res q_Sp q_Tr q_times q_Pr q_prime q_parts q_Tb q_Mk q_traits v1 v2 v3 ((1 : Int32) <<< (((9 : Int32) + sp_unlike) &&& 31)) sp_unlike sp_number sp_partsKept sp_partsNumber a_times  h _ _ hP hD hS _ (lv_sub hl [1, 2, 3] rfl)
def j_X8_primeTraits_46 (N : Nat) (k_7 : (Int32 × Int32 × Int32) → Option (Int32)) (v3 : Int32) (v4 : Int32) (v5 : Int32) (s0 : Int32) : Option (Int32) :=
  if v3 = 0 then
    xl (v4 + (1 : Int32)) fun y11z =>
    k_7 (s0, (0 : Int32), y11z)
  else
    if v5 = (1 : Int32) then
      xl (v4 + (1 : Int32)) fun y14z =>
      k_7 (s0, (1 : Int32), y14z)
    else
      xl (v4 + (1 : Int32)) fun y13z =>
      k_7 (s0, (0 : Int32), y13z)
set_option maxRecDepth 100000 in
set_option maxHeartbeats 4000000 in
theorem k_X8_primeTraits_46 {p : Program} {l : Launch} {e : Env} {s : State} {m : MethodId} {args : Array Value} {below : List Frame} {meth : Method} {c : Code} {dC : Nat → ClassId} {dI : Nat → Nat → Nat} {cyI cyJ cyZ : ClassId} {A : Nat → Prop} (C0 : mC p s m meth c args cX8_primeTraits (some .int) 6 RX8 wsX8_primeTraits (gK dC dI cyI cyJ cyZ) A) (N : Nat) (res : Int32) (q_Sp : Nat) (q_Tr : Nat) (q_times : Nat) (q_Pr : Nat) (q_prime : Nat) (q_parts : Nat) (q_Tb : Nat) (q_Mk : Nat) (q_traits : Nat) (v1 : Int32) (v5 : Int32) (s0 : Int32) (sp_unlike : Int32) (sp_number : Int64) (sp_partsKept : Int32) (sp_partsNumber : Int64) (a_times : Nat → Int32) (k_7 : (Int32 × Int32 × Int32) → Option (Int32)) (hk_7 : ∀ (v2 : Int32) (v3 : Int32) (v4 : Int32), k_7 (v2, v3, v4) = some res → ∀ (H : Heap) (locs : List Loc), va_P (dC, dI) vwCl (wd34 cyI cyJ cyZ q_Sp q_Tr q_times q_Pr q_prime q_parts q_Tb q_Mk q_traits sp_unlike sp_number sp_partsKept sp_partsNumber a_times) H → va_D A (wd34 cyI cyJ cyZ q_Sp q_Tr q_times q_Pr q_prime q_parts q_Tb q_Mk q_traits sp_unlike sp_number sp_partsKept sp_partsNumber a_times) → va_S A s.heap H locs → ∀ (ls : Array Slot), lv_has ls 6 [(0, .ref q_Tr), (1, .int v1), (2, .int v2), (3, .int v3), (4, .int v4)] → W p l e (headSpec wsX8_primeTraits rm_X8_primeTraits).room s m args below meth c H locs 0 0 (MQ below (va_Qi (fun (r : Int32) (_ : Unit) => r = res) (bW dC dI (fun (u : Unit) => (wd34 cyI cyJ cyZ q_Sp q_Tr q_times q_Pr q_prime q_parts q_Tb q_Mk q_traits sp_unlike sp_number sp_partsKept sp_partsNumber a_times)) A) A) args s 0 0 A) (F0 m 7 ls [])) (v3 : Int32) (v4 : Int32) (v2 : Int32) (h : j_X8_primeTraits_46 N k_7 v3 v4 v5 s0 = some res) : ∀ (H : Heap) (locs : List Loc), va_P (dC, dI) vwCl (wd34 cyI cyJ cyZ q_Sp q_Tr q_times q_Pr q_prime q_parts q_Tb q_Mk q_traits sp_unlike sp_number sp_partsKept sp_partsNumber a_times) H → va_D A (wd34 cyI cyJ cyZ q_Sp q_Tr q_times q_Pr q_prime q_parts q_Tb q_Mk q_traits sp_unlike sp_number sp_partsKept sp_partsNumber a_times) → va_S A s.heap H locs → ∀ (ls : Array Slot), lv_has ls 6 [(0, .ref q_Tr), (1, .int v1), (3, .int v3), (4, .int v4), (5, .int v5)] → W p l e (headSpec wsX8_primeTraits rm_X8_primeTraits).room s m args below meth c H locs 0 0 (MQ below (va_Qi (fun (r : Int32) (_ : Unit) => r = res) (bW dC dI (fun (u : Unit) => (wd34 cyI cyJ cyZ q_Sp q_Tr q_times q_Pr q_prime q_parts q_Tb q_Mk q_traits sp_unlike sp_number sp_partsKept sp_partsNumber a_times)) A) A) args s 0 0 A) (F0 m 46 ls [.int s0]) := by
  obtain ⟨hx, hb, hr, hml, hown, hts, hlocks, hG, hA⟩ := id C0
  have hK := hG.1
  intro H locs hP hD hS ls hl
  unfold j_X8_primeTraits_46 at h
  refine lv_istore_n (lv' := [(2, .int s0), (0, .ref q_Tr), (1, .int v1), (3, .int v3), (4, .int v4), (5, .int v5)]) hx hb dX8_primeTraits_46 rfl hl (by decide) rfl (fun ls hl => ?_)
  refine lv_iload_n hx hb dX8_primeTraits_47 rfl (lv_at hl 3 rfl) ?_
  refine lv_if_eq (tgt := 61) hx hb dX8_primeTraits_48 (by decide) (fun c10z => ?_) (fun c10z => ?_)
  · have h := xt h c10z
    refine lv_iconst (v := (0 : Int32)) hx hb dX8_primeTraits_61 (by decide) ?_
    refine lv_istore_n (lv' := [(3, .int (0 : Int32)), (2, .int s0), (0, .ref q_Tr), (1, .int v1), (4, .int v4), (5, .int v5)]) hx hb dX8_primeTraits_62 rfl hl (by decide) rfl (fun ls hl => ?_)
    obtain ⟨y11z, ey11z⟩ : ∃ z : Int32, z = v4 + (1 : Int32) := ⟨_, rfl⟩
    have h := xl_at h ey11z
    refine lv_iinc (v := y11z) (lv' := [(4, .int y11z), (3, .int (0 : Int32)), (2, .int s0), (0, .ref q_Tr), (1, .int v1), (5, .int v5)]) hx hb dX8_primeTraits_63 hl (k := 4) rfl (by rw [ey11z]; rfl) (by decide) rfl (fun ls hl => ?_)
    refine lv_goto (tgt := 7) hx hb dX8_primeTraits_66 (by decide) ?_
    exact hk_7 s0 (0 : Int32) y11z h _ _ hP hD hS _ (lv_sub hl [3, 4, 2, 1, 0] rfl)
  · have h := xf h c10z
    refine lv_iload hx hb dX8_primeTraits_51 (lv_at hl 5 rfl) ?_
    refine lv_iconst (v := (1 : Int32)) hx hb dX8_primeTraits_53 (by decide) ?_
    refine lv_icmp_ne (tgt := 61) hx hb dX8_primeTraits_54 (by decide) (fun c12z => ?_) (fun c12z => ?_)
    · have h := xf h c12z
      refine lv_iconst (v := (0 : Int32)) hx hb dX8_primeTraits_61 (by decide) ?_
      refine lv_istore_n (lv' := [(3, .int (0 : Int32)), (2, .int s0), (0, .ref q_Tr), (1, .int v1), (4, .int v4), (5, .int v5)]) hx hb dX8_primeTraits_62 rfl hl (by decide) rfl (fun ls hl => ?_)
      obtain ⟨y13z, ey13z⟩ : ∃ z : Int32, z = v4 + (1 : Int32) := ⟨_, rfl⟩
      have h := xl_at h ey13z
      refine lv_iinc (v := y13z) (lv' := [(4, .int y13z), (3, .int (0 : Int32)), (2, .int s0), (0, .ref q_Tr), (1, .int v1), (5, .int v5)]) hx hb dX8_primeTraits_63 hl (k := 4) rfl (by rw [ey13z]; rfl) (by decide) rfl (fun ls hl => ?_)
      refine lv_goto (tgt := 7) hx hb dX8_primeTraits_66 (by decide) ?_
      exact hk_7 s0 (0 : Int32) y13z h _ _ hP hD hS _ (lv_sub hl [3, 4, 2, 1, 0] rfl)
    · have h := xt h c12z
      refine lv_iconst (v := (1 : Int32)) hx hb dX8_primeTraits_57 (by decide) ?_
      refine lv_goto (tgt := 62) hx hb dX8_primeTraits_58 (by decide) ?_
      refine lv_istore_n (lv' := [(3, .int (1 : Int32)), (2, .int s0), (0, .ref q_Tr), (1, .int v1), (4, .int v4), (5, .int v5)]) hx hb dX8_primeTraits_62 rfl hl (by decide) rfl (fun ls hl => ?_)
      obtain ⟨y14z, ey14z⟩ : ∃ z : Int32, z = v4 + (1 : Int32) := ⟨_, rfl⟩
      have h := xl_at h ey14z
      refine lv_iinc (v := y14z) (lv' := [(4, .int y14z), (3, .int (1 : Int32)), (2, .int s0), (0, .ref q_Tr), (1, .int v1), (5, .int v5)]) hx hb dX8_primeTraits_63 hl (k := 4) rfl (by rw [ey14z]; rfl) (by decide) rfl (fun ls hl => ?_)
      refine lv_goto (tgt := 7) hx hb dX8_primeTraits_66 (by decide) ?_
      exact hk_7 s0 (1 : Int32) y14z h _ _ hP hD hS _ (lv_sub hl [3, 4, 2, 1, 0] rfl)
def j_X8_primeTraits_45 (N : Nat) (k_7 : (Int32 × Int32 × Int32) → Option (Int32)) (v3 : Int32) (v4 : Int32) (v5 : Int32) : Option (Int32) :=
  j_X8_primeTraits_46 N k_7 v3 v4 v5 (0 : Int32)
set_option maxRecDepth 100000 in
set_option maxHeartbeats 4000000 in
theorem k_X8_primeTraits_45 {p : Program} {l : Launch} {e : Env} {s : State} {m : MethodId} {args : Array Value} {below : List Frame} {meth : Method} {c : Code} {dC : Nat → ClassId} {dI : Nat → Nat → Nat} {cyI cyJ cyZ : ClassId} {A : Nat → Prop} (C0 : mC p s m meth c args cX8_primeTraits (some .int) 6 RX8 wsX8_primeTraits (gK dC dI cyI cyJ cyZ) A) (N : Nat) (res : Int32) (q_Sp : Nat) (q_Tr : Nat) (q_times : Nat) (q_Pr : Nat) (q_prime : Nat) (q_parts : Nat) (q_Tb : Nat) (q_Mk : Nat) (q_traits : Nat) (v1 : Int32) (v5 : Int32) (sp_unlike : Int32) (sp_number : Int64) (sp_partsKept : Int32) (sp_partsNumber : Int64) (a_times : Nat → Int32) (k_7 : (Int32 × Int32 × Int32) → Option (Int32)) (hk_7 : ∀ (v2 : Int32) (v3 : Int32) (v4 : Int32), k_7 (v2, v3, v4) = some res → ∀ (H : Heap) (locs : List Loc), va_P (dC, dI) vwCl (wd34 cyI cyJ cyZ q_Sp q_Tr q_times q_Pr q_prime q_parts q_Tb q_Mk q_traits sp_unlike sp_number sp_partsKept sp_partsNumber a_times) H → va_D A (wd34 cyI cyJ cyZ q_Sp q_Tr q_times q_Pr q_prime q_parts q_Tb q_Mk q_traits sp_unlike sp_number sp_partsKept sp_partsNumber a_times) → va_S A s.heap H locs → ∀ (ls : Array Slot), lv_has ls 6 [(0, .ref q_Tr), (1, .int v1), (2, .int v2), (3, .int v3), (4, .int v4)] → W p l e (headSpec wsX8_primeTraits rm_X8_primeTraits).room s m args below meth c H locs 0 0 (MQ below (va_Qi (fun (r : Int32) (_ : Unit) => r = res) (bW dC dI (fun (u : Unit) => (wd34 cyI cyJ cyZ q_Sp q_Tr q_times q_Pr q_prime q_parts q_Tb q_Mk q_traits sp_unlike sp_number sp_partsKept sp_partsNumber a_times)) A) A) args s 0 0 A) (F0 m 7 ls [])) (v3 : Int32) (v4 : Int32) (v2 : Int32) (h : j_X8_primeTraits_45 N k_7 v3 v4 v5 = some res) : ∀ (H : Heap) (locs : List Loc), va_P (dC, dI) vwCl (wd34 cyI cyJ cyZ q_Sp q_Tr q_times q_Pr q_prime q_parts q_Tb q_Mk q_traits sp_unlike sp_number sp_partsKept sp_partsNumber a_times) H → va_D A (wd34 cyI cyJ cyZ q_Sp q_Tr q_times q_Pr q_prime q_parts q_Tb q_Mk q_traits sp_unlike sp_number sp_partsKept sp_partsNumber a_times) → va_S A s.heap H locs → ∀ (ls : Array Slot), lv_has ls 6 [(0, .ref q_Tr), (1, .int v1), (3, .int v3), (4, .int v4), (5, .int v5)] → W p l e (headSpec wsX8_primeTraits rm_X8_primeTraits).room s m args below meth c H locs 0 0 (MQ below (va_Qi (fun (r : Int32) (_ : Unit) => r = res) (bW dC dI (fun (u : Unit) => (wd34 cyI cyJ cyZ q_Sp q_Tr q_times q_Pr q_prime q_parts q_Tb q_Mk q_traits sp_unlike sp_number sp_partsKept sp_partsNumber a_times)) A) A) args s 0 0 A) (F0 m 45 ls []) := by
  obtain ⟨hx, hb, hr, hml, hown, hts, hlocks, hG, hA⟩ := id C0
  have hK := hG.1
  intro H locs hP hD hS ls hl
  unfold j_X8_primeTraits_45 at h
  refine lv_iconst (v := (0 : Int32)) hx hb dX8_primeTraits_45 (by decide) ?_
  exact k_X8_primeTraits_46 C0 N res q_Sp q_Tr q_times q_Pr q_prime q_parts q_Tb q_Mk q_traits v1 v5 (0 : Int32) sp_unlike sp_number sp_partsKept sp_partsNumber a_times k_7 hk_7 v3 v4 v2  h _ _ hP hD hS _ (lv_sub hl [0, 1, 2, 3, 4] rfl)
def s_X8_primeTraits_7 (N : Nat) (v1 : Int32) (sp_unlike : Int32) (a_times : Nat → Int32) (k_7 : (Int32 × Int32 × Int32) → Option (Int32)) (v2 : Int32) (v3 : Int32) (v4 : Int32) : Option (Int32) :=
  if sp_unlike ≤ v4 then
    j_X8_primeTraits_69 N v1 v2 v3 sp_unlike
  else
    Option.bind (f_X6_timesAt N v4 sp_unlike a_times) fun r6z =>
    if v2 = 0 then
      j_X8_primeTraits_45 N k_7 v3 v4 r6z
    else
      if (r6z - r6z / (2 : Int32) * (2 : Int32)) = 0 then
        j_X8_primeTraits_46 N k_7 v3 v4 r6z (1 : Int32)
      else
        j_X8_primeTraits_45 N k_7 v3 v4 r6z
def l_X8_primeTraits_7 (N : Nat) (v1 : Int32) (sp_unlike : Int32) (a_times : Nat → Int32) (n : Nat) (z : Int32 × Int32 × Int32) : Option (Int32) := lp (fun k z => s_X8_primeTraits_7 N v1 sp_unlike a_times k z.1 z.2.1 z.2.2) n z
set_option maxRecDepth 100000 in
set_option maxHeartbeats 4000000 in
theorem k_X8_primeTraits_7 {p : Program} {l : Launch} {e : Env} {s : State} {m : MethodId} {args : Array Value} {below : List Frame} {meth : Method} {c : Code} {dC : Nat → ClassId} {dI : Nat → Nat → Nat} {cyI cyJ cyZ : ClassId} {A : Nat → Prop} (C0 : mC p s m meth c args cX8_primeTraits (some .int) 6 RX8 wsX8_primeTraits (gK dC dI cyI cyJ cyZ) A) (N : Nat) (res : Int32) (q_Sp : Nat) (q_Tr : Nat) (q_times : Nat) (q_Pr : Nat) (q_prime : Nat) (q_parts : Nat) (q_Tb : Nat) (q_Mk : Nat) (q_traits : Nat) (v1 : Int32) (sp_unlike : Int32) (sp_number : Int64) (sp_partsKept : Int32) (sp_partsNumber : Int64) (a_times : Nat → Int32) : ∀ (n : Nat) (v2 : Int32) (v3 : Int32) (v4 : Int32), l_X8_primeTraits_7 N v1 sp_unlike a_times n (v2, v3, v4) = some res → ∀ (H : Heap) (locs : List Loc), va_P (dC, dI) vwCl (wd34 cyI cyJ cyZ q_Sp q_Tr q_times q_Pr q_prime q_parts q_Tb q_Mk q_traits sp_unlike sp_number sp_partsKept sp_partsNumber a_times) H → va_D A (wd34 cyI cyJ cyZ q_Sp q_Tr q_times q_Pr q_prime q_parts q_Tb q_Mk q_traits sp_unlike sp_number sp_partsKept sp_partsNumber a_times) → va_S A s.heap H locs → ∀ (ls : Array Slot), lv_has ls 6 [(0, .ref q_Tr), (1, .int v1), (2, .int v2), (3, .int v3), (4, .int v4)] → W p l e (headSpec wsX8_primeTraits rm_X8_primeTraits).room s m args below meth c H locs 0 0 (MQ below (va_Qi (fun (r : Int32) (_ : Unit) => r = res) (bW dC dI (fun (u : Unit) => (wd34 cyI cyJ cyZ q_Sp q_Tr q_times q_Pr q_prime q_parts q_Tb q_Mk q_traits sp_unlike sp_number sp_partsKept sp_partsNumber a_times)) A) A) args s 0 0 A) (F0 m 7 ls []) := by
  obtain ⟨hx, hb, hr, hml, hown, hts, hlocks, hG, hA⟩ := id C0
  have hK := hG.1
  intro n
  induction n with
  | zero =>
    intro v2 v3 v4 h
    cases h
  | succ n ih =>
    intro v2 v3 v4 h H locs hP hD hS ls hl
    have h : s_X8_primeTraits_7 N v1 sp_unlike a_times (l_X8_primeTraits_7 N v1 sp_unlike a_times n) v2 v3 v4 = some res := h
    unfold s_X8_primeTraits_7 at h
    refine lv_iload hx hb dX8_primeTraits_7 (lv_at hl 4 rfl) ?_
    refine lv_aload_n hx hb dX8_primeTraits_9 rfl (lv_at hl 0 rfl) ?_
    refine va_get (D := (dC, dI)) (ci := 8) (v := .ref q_Sp) (C := RX8) (T := TX8) (N := 4) hx hb hts iw_X8_primeTraits_X8 hown hK hP 1 rfl rfl 0 (by decide) (hts (.fieldLink RX8 15 "GoesInto$Traits" "split" "LGoesInto$Split;") (List.mem_of_getElem? (i := 1) rfl)) (fun _ h9 => h9) rfl dX8_primeTraits_10 ?_
    refine va_getN (D := (dC, dI)) (ci := 6) (v := .int sp_unlike) (C := RX6) (T := TX6) (N := 8) (host := "GoesInto") hx hb hts iw_X8_primeTraits_X6 hown hK hP 0 rfl rfl 3 (by decide) (va_Nw.use rfl hG.2.2.2.2.2.2.2.2.2.2.1) (fun _ h9 => h9) rfl dX8_primeTraits_13 ?_
    refine lv_icmp_ge (tgt := 69) hx hb dX8_primeTraits_16 (by decide) (fun c1z => ?_) (fun c1z => ?_)
    · have h := xt h c1z
      exact k_X8_primeTraits_69 C0 N res q_Sp q_Tr q_times q_Pr q_prime q_parts q_Tb q_Mk q_traits v1 v2 v3 sp_unlike sp_number sp_partsKept sp_partsNumber a_times  h _ _ hP hD hS _ (lv_sub hl [0, 1, 2, 3] rfl)
    · have h := xf h c1z
      refine lv_aload_n hx hb dX8_primeTraits_19 rfl (lv_at hl 0 rfl) ?_
      refine va_get (D := (dC, dI)) (ci := 8) (v := .ref q_Sp) (C := RX8) (T := TX8) (N := 4) hx hb hts iw_X8_primeTraits_X8 hown hK hP 1 rfl rfl 0 (by decide) (hts (.fieldLink RX8 15 "GoesInto$Traits" "split" "LGoesInto$Split;") (List.mem_of_getElem? (i := 1) rfl)) (fun _ h9 => h9) rfl dX8_primeTraits_20 ?_
      refine lv_iload hx hb dX8_primeTraits_23 (lv_at hl 4 rfl) ?_
      obtain ⟨r6z, hr6z, h⟩ := xb_at h
      have hPc := hP.sub (ws' := (wd2 cyI cyJ cyZ q_Sp q_times q_Pr q_prime q_parts sp_unlike sp_number sp_partsKept sp_partsNumber a_times)) [0, 2] rfl
      have hDc := hD.sub (ws' := (wd2 cyI cyJ cyZ q_Sp q_times q_Pr q_prime q_parts sp_unlike sp_number sp_partsKept sp_partsNumber a_times)) [0, 2] (by decide) rfl
      refine cal_i [0, 2] [1] (va_runV (As := [.int v4]) (rest := []) ⟨hx, hb, hml, hown, hts⟩ (c_X6_timesAt l dC dI cyI cyJ cyZ N r6z H.size q_Sp q_times q_Pr q_prime q_parts v4 sp_unlike sp_number sp_partsKept sp_partsNumber a_times hr6z) (cwV 1 hts gX8_primeTraits_X6_timesAt rfl rfl rfl ⟨rfl, hd_X6_timesAt⟩ ⟨Nat.le_of_ble_eq_true rfl, Nat.le_of_ble_eq_true rfl⟩) ⟨pC.blind, va_recv hK hPc (ci := 6) (q0 := 0) rfl rfl, pC.pre hPc hG hDc⟩ rfl rfl hl.1 rfl (lv_room (Nat.le_of_ble_eq_true rfl)) dX8_primeTraits_25 ⟨Nat.zero_le _, Nat.zero_le _⟩) hP hD hS hA rfl rfl rfl (by decide) (fun x8z u7z H locs hw hP hD hS => ?_)
      obtain rfl := hw.symm
      have hP : va_P (dC, dI) vwCl (wd34 cyI cyJ cyZ q_Sp q_Tr q_times q_Pr q_prime q_parts q_Tb q_Mk q_traits sp_unlike sp_number sp_partsKept sp_partsNumber a_times) H := hP.sub [1, 0, 2] rfl
      have hD : va_D A (wd34 cyI cyJ cyZ q_Sp q_Tr q_times q_Pr q_prime q_parts q_Tb q_Mk q_traits sp_unlike sp_number sp_partsKept sp_partsNumber a_times) := hD.sub [1, 0, 2] (by decide) rfl
      refine lv_istore (lv' := [(5, .int r6z), (0, .ref q_Tr), (1, .int v1), (2, .int v2), (3, .int v3), (4, .int v4)]) hx hb dX8_primeTraits_28 hl (by decide) rfl (fun ls hl => ?_)
      refine lv_iload_n hx hb dX8_primeTraits_30 rfl (lv_at hl 3 rfl) ?_
      refine lv_if_eq (tgt := 45) hx hb dX8_primeTraits_31 (by decide) (fun c9z => ?_) (fun c9z => ?_)
      · have h := xt h c9z
        exact k_X8_primeTraits_45 C0 N res q_Sp q_Tr q_times q_Pr q_prime q_parts q_Tb q_Mk q_traits v1 r6z sp_unlike sp_number sp_partsKept sp_partsNumber a_times _ ih v3 v4 v2  h _ _ hP hD hS _ (lv_sub hl [1, 2, 4, 5, 0] rfl)
      · have h := xf h c9z
        refine lv_iload hx hb dX8_primeTraits_34 (lv_at hl 0 rfl) ?_
        refine lv_iconst (v := (2 : Int32)) hx hb dX8_primeTraits_36 (by decide) ?_
        refine lv_irem hx hb dX8_primeTraits_37 (by decide) ?_
        refine lv_if_ne (tgt := 45) hx hb dX8_primeTraits_38 (by decide) (fun c15z => ?_) (fun c15z => ?_)
        · have h := xf h c15z
          exact k_X8_primeTraits_45 C0 N res q_Sp q_Tr q_times q_Pr q_prime q_parts q_Tb q_Mk q_traits v1 r6z sp_unlike sp_number sp_partsKept sp_partsNumber a_times _ ih v3 v4 v2  h _ _ hP hD hS _ (lv_sub hl [1, 2, 4, 5, 0] rfl)
        · have h := xt h c15z
          refine lv_iconst (v := (1 : Int32)) hx hb dX8_primeTraits_41 (by decide) ?_
          refine lv_goto (tgt := 46) hx hb dX8_primeTraits_42 (by decide) ?_
          exact k_X8_primeTraits_46 C0 N res q_Sp q_Tr q_times q_Pr q_prime q_parts q_Tb q_Mk q_traits v1 r6z (1 : Int32) sp_unlike sp_number sp_partsKept sp_partsNumber a_times _ ih v3 v4 v2  h _ _ hP hD hS _ (lv_sub hl [1, 2, 4, 5, 0] rfl)
def f_X8_primeTraits (N : Nat) (v1 : Int32) (sp_unlike : Int32) (a_times : Nat → Int32) : Option (Int32) :=
  l_X8_primeTraits_7 N v1 sp_unlike a_times N ((1 : Int32), (1 : Int32), (0 : Int32))
set_option maxRecDepth 100000 in
set_option maxHeartbeats 4000000 in
theorem k_X8_primeTraits_0 {p : Program} {l : Launch} {e : Env} {s : State} {m : MethodId} {args : Array Value} {below : List Frame} {meth : Method} {c : Code} {dC : Nat → ClassId} {dI : Nat → Nat → Nat} {cyI cyJ cyZ : ClassId} {A : Nat → Prop} (C0 : mC p s m meth c args cX8_primeTraits (some .int) 6 RX8 wsX8_primeTraits (gK dC dI cyI cyJ cyZ) A) (N : Nat) (res : Int32) (q_Sp : Nat) (q_Tr : Nat) (q_times : Nat) (q_Pr : Nat) (q_prime : Nat) (q_parts : Nat) (q_Tb : Nat) (q_Mk : Nat) (q_traits : Nat) (v1 : Int32) (sp_unlike : Int32) (sp_number : Int64) (sp_partsKept : Int32) (sp_partsNumber : Int64) (a_times : Nat → Int32) (h : f_X8_primeTraits N v1 sp_unlike a_times = some res) : ∀ (H : Heap) (locs : List Loc), va_P (dC, dI) vwCl (wd34 cyI cyJ cyZ q_Sp q_Tr q_times q_Pr q_prime q_parts q_Tb q_Mk q_traits sp_unlike sp_number sp_partsKept sp_partsNumber a_times) H → va_D A (wd34 cyI cyJ cyZ q_Sp q_Tr q_times q_Pr q_prime q_parts q_Tb q_Mk q_traits sp_unlike sp_number sp_partsKept sp_partsNumber a_times) → va_S A s.heap H locs → ∀ (ls : Array Slot), lv_has ls 6 [(0, .ref q_Tr), (1, .int v1)] → W p l e (headSpec wsX8_primeTraits rm_X8_primeTraits).room s m args below meth c H locs 0 0 (MQ below (va_Qi (fun (r : Int32) (_ : Unit) => r = res) (bW dC dI (fun (u : Unit) => (wd34 cyI cyJ cyZ q_Sp q_Tr q_times q_Pr q_prime q_parts q_Tb q_Mk q_traits sp_unlike sp_number sp_partsKept sp_partsNumber a_times)) A) A) args s 0 0 A) (F0 m 0 ls []) := by
  obtain ⟨hx, hb, hr, hml, hown, hts, hlocks, hG, hA⟩ := id C0
  have hK := hG.1
  intro H locs hP hD hS ls hl
  unfold f_X8_primeTraits at h
  refine lv_iconst (v := (1 : Int32)) hx hb dX8_primeTraits_0 (by decide) ?_
  refine lv_istore_n (lv' := [(2, .int (1 : Int32)), (0, .ref q_Tr), (1, .int v1)]) hx hb dX8_primeTraits_1 rfl hl (by decide) rfl (fun ls hl => ?_)
  refine lv_iconst (v := (1 : Int32)) hx hb dX8_primeTraits_2 (by decide) ?_
  refine lv_istore_n (lv' := [(3, .int (1 : Int32)), (2, .int (1 : Int32)), (0, .ref q_Tr), (1, .int v1)]) hx hb dX8_primeTraits_3 rfl hl (by decide) rfl (fun ls hl => ?_)
  refine lv_iconst (v := (0 : Int32)) hx hb dX8_primeTraits_4 (by decide) ?_
  refine lv_istore (lv' := [(4, .int (0 : Int32)), (3, .int (1 : Int32)), (2, .int (1 : Int32)), (0, .ref q_Tr), (1, .int v1)]) hx hb dX8_primeTraits_5 hl (by decide) rfl (fun ls hl => ?_)
  exact k_X8_primeTraits_7 C0 N res q_Sp q_Tr q_times q_Pr q_prime q_parts q_Tb q_Mk q_traits v1 sp_unlike sp_number sp_partsKept sp_partsNumber a_times N (1 : Int32) (1 : Int32) (0 : Int32) h _ _ hP hD hS _ (lv_sub hl [3, 4, 2, 1, 0] rfl)
set_option maxRecDepth 100000 in
set_option maxHeartbeats 4000000 in
theorem c_X8_primeTraits (l : Launch) (dC : Nat → ClassId) (dI : Nat → Nat → Nat) (cyI cyJ cyZ : ClassId) (N : Nat) (res : Int32) (sz : Nat) (q_Sp : Nat) (q_Tr : Nat) (q_times : Nat) (q_Pr : Nat) (q_prime : Nat) (q_parts : Nat) (q_Tb : Nat) (q_Mk : Nat) (q_traits : Nat) (v1 : Int32) (sp_unlike : Int32) (sp_number : Int64) (sp_partsKept : Int32) (sp_partsNumber : Int64) (a_times : Nat → Int32) (h : f_X8_primeTraits N v1 sp_unlike a_times = some res) : Met l yX8_primeTraits wsX8_primeTraits rm_X8_primeTraits (pC dC dI cyI cyJ cyZ [.ref q_Tr, .int v1] sz (wd34 cyI cyJ cyZ q_Sp q_Tr q_times q_Pr q_prime q_parts q_Tb q_Mk q_traits sp_unlike sp_number sp_partsKept sp_partsNumber a_times)) (va_Qi (fun (r : Int32) (_ : Unit) => r = res) (bW dC dI (fun (u : Unit) => (wd34 cyI cyJ cyZ q_Sp q_Tr q_times q_Pr q_prime q_parts q_Tb q_Mk q_traits sp_unlike sp_number sp_partsKept sp_partsNumber a_times)) (va_A (wd34 cyI cyJ cyZ q_Sp q_Tr q_times q_Pr q_prime q_parts q_Tb q_Mk q_traits sp_unlike sp_number sp_partsKept sp_partsNumber a_times) sz)) (va_A (wd34 cyI cyJ cyZ q_Sp q_Tr q_times q_Pr q_prime q_parts q_Tb q_Mk q_traits sp_unlike sp_number sp_partsKept sp_partsNumber a_times) sz)) 0 0 (va_A (wd34 cyI cyJ cyZ q_Sp q_Tr q_times q_Pr q_prime q_parts q_Tb q_Mk q_traits sp_unlike sp_number sp_partsKept sp_partsNumber a_times) sz) := by
  refine Met.ofW (cc := cX8_primeTraits) (maxL := 6) (ret := (some .int)) (by decide) rfl ?_
  intro p e s m args below meth c s₁ B hml hv
  obtain ⟨rfl, hsz, hP, hG, hD0⟩ := hv
  have hx := B.exec
  have hb := B.bytes
  have hr := B.returns
  have hts := atoms_spec (ws := wsX8_primeTraits) B.pre
  have hown : s.vm.findClass RX8 = some m.cls := findClass_of_methodNamed B.named
  have hlocks := B.notSynchronized
  subst hsz
  have hD := hD0.self (sz := s.heap.size)
  generalize hAe : va_A (wd34 cyI cyJ cyZ q_Sp q_Tr q_times q_Pr q_prime q_parts q_Tb q_Mk q_traits sp_unlike sp_number sp_partsKept sp_partsNumber a_times) s.heap.size = A at hD ⊢
  have hA : ∀ q : Nat, s.heap.size ≤ q → A q := fun q h => by rw [← hAe]; exact Or.inr h
  have hS : va_S A s.heap s.heap [] := va_S.rf
  have hl := lv_entry ([.ref q_Tr, .int v1]) (n := 6) (Nat.le_of_ble_eq_true rfl)
  rw [lg_entry_eq]
  generalize (lg_sl ([.ref q_Tr, .int v1]) ++ List.replicate (6 - (lg_sl ([.ref q_Tr, .int v1])).length) Slot.unset).toArray = ls at hl ⊢
  have hl : lv_has ls 6 [(0, .ref q_Tr), (1, .int v1)] := hl
  exact k_X8_primeTraits_0 ⟨hx, hb, hr, hml, hown, hts, hlocks, hG, hA⟩ N res q_Sp q_Tr q_times q_Pr q_prime q_parts q_Tb q_Mk q_traits v1 sp_unlike sp_number sp_partsKept sp_partsNumber a_times  h _ _ hP hD hS _ hl
/-- the cells Tb, Tr, all, apart, traits -/
abbrev wd35 (cyI cyJ cyZ : ClassId) (q_Tb : Nat) (q_Tr : Nat) (q_all : Nat) (q_apart : Nat) (q_traits : Nat) (q_Sc : Nat) (q_Sp : Nat) (q_Mk : Nat) (n_all : Nat) (a_all : Nat → Int32) (n_apart : Nat) (a_apart : Nat → Int32) (n_traits : Nat) (a_traits : Nat → Int32) : va_W := [(q_Tb, .inr (7, [.ref q_Sc, .ref q_all, .ref q_apart])), (q_Tr, .inr (8, [.ref q_Sp, .ref q_Tb, .ref q_Mk, .ref q_traits])), (q_all, .inl (cyI, n_all, .inl a_all)), (q_apart, .inl (cyI, n_apart, .inl a_apart)), (q_traits, .inl (cyI, n_traits, .inl a_traits))]
abbrev rm_X8_markRecords : Room := { frames := 1, cells := 0, slots := 0, locals := 22 }
theorem hd_X8_markRecords : yX8_markRecords.cls ≠ "java/lang/invoke/MethodHandle" ∧ yX8_markRecords.cls ≠ "java/lang/invoke/VarHandle" ∧ (parseMethodDescriptor yX8_markRecords.desc).map (fun d => d.parameters.length) = some 0 := by decide +kernel
theorem iw_X8_markRecords_X7 : ∀ w ∈ wsX70, w ∈ wsX8_markRecords := List.forall_mem_cons.mpr ⟨List.mem_of_getElem? (i := 14) rfl, List.forall_mem_cons.mpr ⟨List.mem_of_getElem? (i := 15) rfl, List.forall_mem_cons.mpr ⟨List.mem_of_getElem? (i := 16) rfl, fun _ h => absurd h List.not_mem_nil⟩⟩⟩
theorem iw_X8_markRecords_X8 : ∀ w ∈ wsX80, w ∈ wsX8_markRecords := List.forall_mem_cons.mpr ⟨List.mem_of_getElem? (i := 10) rfl, List.forall_mem_cons.mpr ⟨List.mem_of_getElem? (i := 11) rfl, List.forall_mem_cons.mpr ⟨List.mem_of_getElem? (i := 12) rfl, List.forall_mem_cons.mpr ⟨List.mem_of_getElem? (i := 13) rfl, fun _ h => absurd h List.not_mem_nil⟩⟩⟩⟩
def j_X8_markRecords_56 (N : Nat) (k_10 : (Int64 × Int64 × Int64 × Int32 × (Nat → Int32)) → Option ((Nat → Int32))) (v1 : Int64) (v3 : Int64) (v5 : Int64) (v7 : Int32) (v8 : Int64) (n_traits : Nat) (a_traits : Nat → Int32) : Option ((Nat → Int32)) :=
  if (v8 * v5) ≤ (v3 * v7.toInt64) then
    xl (v7 + (1 : Int32)) fun y8z =>
    k_10 (v1, v3, v5, y8z, a_traits)
  else
    xl (v7.toInt64) fun y9z =>
    if v7 < 0 ∨ n_traits ≤ v7.toNatClampNeg then
      none
    else
      xl ((a_traits v7.toNatClampNeg) ||| (512 : Int32)) fun y11z =>
      xl (v7 + (1 : Int32)) fun y12z =>
      k_10 (v1, v8, y9z, y12z, upd a_traits v7.toNatClampNeg y11z)
set_option maxRecDepth 100000 in
set_option maxHeartbeats 4000000 in
theorem k_X8_markRecords_56 {p : Program} {l : Launch} {e : Env} {s : State} {m : MethodId} {args : Array Value} {below : List Frame} {meth : Method} {c : Code} {dC : Nat → ClassId} {dI : Nat → Nat → Nat} {cyI cyJ cyZ : ClassId} {A : Nat → Prop} (C0 : mC p s m meth c args cX8_markRecords none 10 RX8 wsX8_markRecords (gK dC dI cyI cyJ cyZ) A) (N : Nat) (res : (Nat → Int32)) (q_Tb : Nat) (q_Tr : Nat) (q_all : Nat) (q_apart : Nat) (q_traits : Nat) (q_Sc : Nat) (q_Sp : Nat) (q_Mk : Nat) (v8 : Int64) (n_all : Nat) (a_all : Nat → Int32) (n_apart : Nat) (a_apart : Nat → Int32) (n_traits : Nat) (k_10 : (Int64 × Int64 × Int64 × Int32 × (Nat → Int32)) → Option ((Nat → Int32))) (hk_10 : ∀ (v1 : Int64) (v3 : Int64) (v5 : Int64) (v7 : Int32) (a_traits : Nat → Int32), k_10 (v1, v3, v5, v7, a_traits) = some res → ∀ (H : Heap) (locs : List Loc), va_P (dC, dI) vwCl (wd35 cyI cyJ cyZ q_Tb q_Tr q_all q_apart q_traits q_Sc q_Sp q_Mk n_all a_all n_apart a_apart n_traits a_traits) H → va_D A (wd35 cyI cyJ cyZ q_Tb q_Tr q_all q_apart q_traits q_Sc q_Sp q_Mk n_all a_all n_apart a_apart n_traits a_traits) → va_S A s.heap H locs → ∀ (ls : Array Slot), lv_has ls 10 [(0, .ref q_Tr), (1, .long v1), (3, .long v3), (5, .long v5), (7, .int v7)] → W p l e (headSpec wsX8_markRecords rm_X8_markRecords).room s m args below meth c H locs 0 0 (MQ below (va_Qv (fun (_ : Unit) => True) (bW dC dI (fun (u : Unit) => (wd35 cyI cyJ cyZ q_Tb q_Tr q_all q_apart q_traits q_Sc q_Sp q_Mk n_all a_all n_apart a_apart n_traits res)) A) A) args s 0 0 A) (F0 m 10 ls [])) (v1 : Int64) (v3 : Int64) (v5 : Int64) (v7 : Int32) (a_traits : Nat → Int32) (h : j_X8_markRecords_56 N k_10 v1 v3 v5 v7 v8 n_traits a_traits = some res) : ∀ (H : Heap) (locs : List Loc), va_P (dC, dI) vwCl (wd35 cyI cyJ cyZ q_Tb q_Tr q_all q_apart q_traits q_Sc q_Sp q_Mk n_all a_all n_apart a_apart n_traits a_traits) H → va_D A (wd35 cyI cyJ cyZ q_Tb q_Tr q_all q_apart q_traits q_Sc q_Sp q_Mk n_all a_all n_apart a_apart n_traits a_traits) → va_S A s.heap H locs → ∀ (ls : Array Slot), lv_has ls 10 [(0, .ref q_Tr), (1, .long v1), (3, .long v3), (5, .long v5), (7, .int v7), (8, .long v8)] → W p l e (headSpec wsX8_markRecords rm_X8_markRecords).room s m args below meth c H locs 0 0 (MQ below (va_Qv (fun (_ : Unit) => True) (bW dC dI (fun (u : Unit) => (wd35 cyI cyJ cyZ q_Tb q_Tr q_all q_apart q_traits q_Sc q_Sp q_Mk n_all a_all n_apart a_apart n_traits res)) A) A) args s 0 0 A) (F0 m 56 ls []) := by
  obtain ⟨hx, hb, hr, hml, hown, hts, hlocks, hG, hA⟩ := id C0
  have hK := hG.1
  intro H locs hP hD hS ls hl
  unfold j_X8_markRecords_56 at h
  refine lv_lload hx hb dX8_markRecords_56 (lv_at hl 5 rfl) ?_
  refine lv_lload hx hb dX8_markRecords_58 (lv_at hl 3 rfl) ?_
  refine lv_lmul hx hb dX8_markRecords_60 ?_
  refine lv_lload_n hx hb dX8_markRecords_61 rfl (lv_at hl 2 rfl) ?_
  refine lv_iload hx hb dX8_markRecords_62 (lv_at hl 4 rfl) ?_
  refine lv_i2l (v := v7.toInt64) hx hb dX8_markRecords_64 rfl ?_
  refine lv_lmul hx hb dX8_markRecords_65 ?_
  refine W.lcmp hx hb dX8_markRecords_66 ?_
  refine lv_if_le (tgt := 91) hx hb dX8_markRecords_67 (by decide) (fun c7z => ?_) (fun c7z => ?_)
  · have c7z := (lg_cmp_le _ _).mp c7z
    have h := xt h c7z
    obtain ⟨y8z, ey8z⟩ : ∃ z : Int32, z = v7 + (1 : Int32) := ⟨_, rfl⟩
    have h := xl_at h ey8z
    refine lv_iinc (v := y8z) (lv' := [(7, .int y8z), (0, .ref q_Tr), (1, .long v1), (3, .long v3), (5, .long v5), (8, .long v8)]) hx hb dX8_markRecords_91 hl (k := 4) rfl (by rw [ey8z]; rfl) (by decide) rfl (fun ls hl => ?_)
    refine lv_goto (tgt := 10) hx hb dX8_markRecords_94 (by decide) ?_
    exact hk_10 v1 v3 v5 y8z a_traits h _ _ hP hD hS _ (lv_sub hl [1, 2, 3, 4, 0] rfl)
  · have c7z := fun z => c7z ((lg_cmp_le _ _).mpr z)
    have h := xf h c7z
    refine lv_lload hx hb dX8_markRecords_70 (lv_at hl 5 rfl) ?_
    refine lv_lstore_n (lv' := [(3, .long v8), (0, .ref q_Tr), (1, .long v1), (5, .long v5), (7, .int v7), (8, .long v8)]) hx hb dX8_markRecords_72 rfl hl (by decide) rfl (fun ls hl => ?_)
    refine lv_iload hx hb dX8_markRecords_73 (lv_at hl 4 rfl) ?_
    refine lv_i2l (v := v7.toInt64) hx hb dX8_markRecords_75 rfl ?_
    refine lv_topl (fun y9z ey9z => ?_)
    have h := xl_at h ey9z
    refine lv_lstore (lv' := [(5, .long y9z), (3, .long v8), (0, .ref q_Tr), (1, .long v1), (7, .int v7), (8, .long v8)]) hx hb dX8_markRecords_76 hl (by decide) rfl (fun ls hl => ?_)
    refine lv_aload_n hx hb dX8_markRecords_78 rfl (lv_at hl 2 rfl) ?_
    refine va_get (D := (dC, dI)) (ci := 8) (v := .ref q_traits) (C := RX8) (T := TX8) (N := 4) hx hb hts iw_X8_markRecords_X8 hown hK hP 1 rfl rfl 3 (by decide) (hts (.fieldLink RX8 9 "GoesInto$Traits" "traits" "[I") (List.mem_of_getElem? (i := 1) rfl)) (fun _ h9 => h9) rfl dX8_markRecords_79 ?_
    refine lv_iload hx hb dX8_markRecords_82 (lv_at hl 4 rfl) ?_
    refine lv_dup2_11 hx hb dX8_markRecords_84 rfl rfl ?_
    obtain ⟨b10z, h⟩ := xn h
    refine va_iald hx hb hK hP 4 0 rfl rfl b10z dX8_markRecords_85 ?_
    refine lv_sipush (v := (512 : Int32)) hx hb dX8_markRecords_86 (by decide) ?_
    refine lv_ior hx hb dX8_markRecords_89 ?_
    refine lv_topi (fun y11z ey11z => ?_)
    have h := xl_at h ey11z
    refine va_iast hx hb hK hP hD hS 4 0 rfl rfl b10z dX8_markRecords_90 (fun H locs hP hD hS => ?_)
    have hP : va_P (dC, dI) vwCl (wd35 cyI cyJ cyZ q_Tb q_Tr q_all q_apart q_traits q_Sc q_Sp q_Mk n_all a_all n_apart a_apart n_traits (upd a_traits v7.toNatClampNeg y11z)) H := hP
    have hD : va_D A (wd35 cyI cyJ cyZ q_Tb q_Tr q_all q_apart q_traits q_Sc q_Sp q_Mk n_all a_all n_apart a_apart n_traits (upd a_traits v7.toNatClampNeg y11z)) := hD
    obtain ⟨y12z, ey12z⟩ : ∃ z : Int32, z = v7 + (1 : Int32) := ⟨_, rfl⟩
    have h := xl_at h ey12z
    refine lv_iinc (v := y12z) (lv' := [(7, .int y12z), (5, .long y9z), (3, .long v8), (0, .ref q_Tr), (1, .long v1), (8, .long v8)]) hx hb dX8_markRecords_91 hl (k := 4) rfl (by rw [ey12z]; rfl) (by decide) rfl (fun ls hl => ?_)
    refine lv_goto (tgt := 10) hx hb dX8_markRecords_94 (by decide) ?_
    exact hk_10 v1 v8 y9z y12z (upd a_traits v7.toNatClampNeg y11z) h _ _ hP hD hS _ (lv_sub hl [3, 4, 2, 1, 0] rfl)
def s_X8_markRecords_10 (N : Nat) (n_all : Nat) (a_all : Nat → Int32) (n_apart : Nat) (a_apart : Nat → Int32) (n_traits : Nat) (k_10 : (Int64 × Int64 × Int64 × Int32 × (Nat → Int32)) → Option ((Nat → Int32))) (v1 : Int64) (v3 : Int64) (v5 : Int64) (v7 : Int32) (a_traits : Nat → Int32) : Option ((Nat → Int32)) :=
  if (nI n_traits) ≤ v7 then
    some a_traits
  else
    Option.bind (f_X7_summed N (0 : Int32) v7 n_all a_all n_apart a_apart) fun r2z =>
    xl (r2z.toInt64) fun y5z =>
    if y5z ≤ v1 then
      j_X8_markRecords_56 N k_10 v1 v3 v5 v7 y5z n_traits a_traits
    else
      if v7 < 0 ∨ n_traits ≤ v7.toNatClampNeg then
        none
      else
        xl ((a_traits v7.toNatClampNeg) ||| (256 : Int32)) fun y14z =>
        j_X8_markRecords_56 N k_10 y5z v3 v5 v7 y5z n_traits (upd a_traits v7.toNatClampNeg y14z)
def l_X8_markRecords_10 (N : Nat) (n_all : Nat) (a_all : Nat → Int32) (n_apart : Nat) (a_apart : Nat → Int32) (n_traits : Nat) (n : Nat) (z : Int64 × Int64 × Int64 × Int32 × (Nat → Int32)) : Option ((Nat → Int32)) := lp (fun k z => s_X8_markRecords_10 N n_all a_all n_apart a_apart n_traits k z.1 z.2.1 z.2.2.1 z.2.2.2.1 z.2.2.2.2) n z
set_option maxRecDepth 100000 in
set_option maxHeartbeats 4000000 in
theorem k_X8_markRecords_10 {p : Program} {l : Launch} {e : Env} {s : State} {m : MethodId} {args : Array Value} {below : List Frame} {meth : Method} {c : Code} {dC : Nat → ClassId} {dI : Nat → Nat → Nat} {cyI cyJ cyZ : ClassId} {A : Nat → Prop} (C0 : mC p s m meth c args cX8_markRecords none 10 RX8 wsX8_markRecords (gK dC dI cyI cyJ cyZ) A) (N : Nat) (res : (Nat → Int32)) (q_Tb : Nat) (q_Tr : Nat) (q_all : Nat) (q_apart : Nat) (q_traits : Nat) (q_Sc : Nat) (q_Sp : Nat) (q_Mk : Nat) (n_all : Nat) (a_all : Nat → Int32) (n_apart : Nat) (a_apart : Nat → Int32) (n_traits : Nat) : ∀ (n : Nat) (v1 : Int64) (v3 : Int64) (v5 : Int64) (v7 : Int32) (a_traits : Nat → Int32), l_X8_markRecords_10 N n_all a_all n_apart a_apart n_traits n (v1, v3, v5, v7, a_traits) = some res → ∀ (H : Heap) (locs : List Loc), va_P (dC, dI) vwCl (wd35 cyI cyJ cyZ q_Tb q_Tr q_all q_apart q_traits q_Sc q_Sp q_Mk n_all a_all n_apart a_apart n_traits a_traits) H → va_D A (wd35 cyI cyJ cyZ q_Tb q_Tr q_all q_apart q_traits q_Sc q_Sp q_Mk n_all a_all n_apart a_apart n_traits a_traits) → va_S A s.heap H locs → ∀ (ls : Array Slot), lv_has ls 10 [(0, .ref q_Tr), (1, .long v1), (3, .long v3), (5, .long v5), (7, .int v7)] → W p l e (headSpec wsX8_markRecords rm_X8_markRecords).room s m args below meth c H locs 0 0 (MQ below (va_Qv (fun (_ : Unit) => True) (bW dC dI (fun (u : Unit) => (wd35 cyI cyJ cyZ q_Tb q_Tr q_all q_apart q_traits q_Sc q_Sp q_Mk n_all a_all n_apart a_apart n_traits res)) A) A) args s 0 0 A) (F0 m 10 ls []) := by
  obtain ⟨hx, hb, hr, hml, hown, hts, hlocks, hG, hA⟩ := id C0
  have hK := hG.1
  intro n
  induction n with
  | zero =>
    intro v1 v3 v5 v7 a_traits h
    cases h
  | succ n ih =>
    intro v1 v3 v5 v7 a_traits h H locs hP hD hS ls hl
    have h : s_X8_markRecords_10 N n_all a_all n_apart a_apart n_traits (l_X8_markRecords_10 N n_all a_all n_apart a_apart n_traits n) v1 v3 v5 v7 a_traits = some res := h
    unfold s_X8_markRecords_10 at h
    refine lv_iload hx hb dX8_markRecords_10 (lv_at hl 4 rfl) ?_
    refine lv_aload_n hx hb dX8_markRecords_12 rfl (lv_at hl 0 rfl) ?_
    refine va_get (D := (dC, dI)) (ci := 8) (v := .ref q_traits) (C := RX8) (T := TX8) (N := 4) hx hb hts iw_X8_markRecords_X8 hown hK hP 1 rfl rfl 3 (by decide) (hts (.fieldLink RX8 9 "GoesInto$Traits" "traits" "[I") (List.mem_of_getElem? (i := 1) rfl)) (fun _ h9 => h9) rfl dX8_markRecords_13 ?_
    refine va_alen (v := nI n_traits) hx hb hK hP 4 0 rfl rfl rfl dX8_markRecords_16 ?_
    refine lv_icmp_ge (tgt := 97) hx hb dX8_markRecords_17 (by decide) (fun c1z => ?_) (fun c1z => ?_)
    · have h := xt h c1z
      obtain rfl := Option.some.inj h
      exact W.vret hx hb hr (fun t ht hW => ⟨⟨(), rfl, trivial, by rw [ht]; exact hP, hD⟩, hS.F ht⟩) hS.2.2 dX8_markRecords_97 hlocks
    · have h := xf h c1z
      refine lv_aload_n hx hb dX8_markRecords_20 rfl (lv_at hl 0 rfl) ?_
      refine va_get (D := (dC, dI)) (ci := 8) (v := .ref q_Tb) (C := RX8) (T := TX8) (N := 4) hx hb hts iw_X8_markRecords_X8 hown hK hP 1 rfl rfl 1 (by decide) (hts (.fieldLink RX8 19 "GoesInto$Traits" "tables" "LGoesInto$Tables;") (List.mem_of_getElem? (i := 2) rfl)) (fun _ h9 => h9) rfl dX8_markRecords_21 ?_
      refine lv_iconst (v := (0 : Int32)) hx hb dX8_markRecords_24 (by decide) ?_
      refine lv_iload hx hb dX8_markRecords_25 (lv_at hl 4 rfl) ?_
      obtain ⟨r2z, hr2z, h⟩ := xb_at h
      have hPc := hP.sub (ws' := (wd15 cyI cyJ cyZ q_Tb q_all q_apart q_Sc n_all a_all n_apart a_apart)) [0, 2, 3] rfl
      have hDc := hD.sub (ws' := (wd15 cyI cyJ cyZ q_Tb q_all q_apart q_Sc n_all a_all n_apart a_apart)) [0, 2, 3] (by decide) rfl
      refine cal_i [0, 2, 3] [1, 4] (va_runV (As := [.int (0 : Int32), .int v7]) (rest := []) ⟨hx, hb, hml, hown, hts⟩ (c_X7_summed l dC dI cyI cyJ cyZ N r2z H.size q_Tb q_all q_apart q_Sc (0 : Int32) v7 n_all a_all n_apart a_apart hr2z) (cwV 2 hts gX8_markRecords_X7_summed rfl rfl rfl ⟨rfl, hd_X7_summed⟩ ⟨Nat.le_of_ble_eq_true rfl, Nat.le_of_ble_eq_true rfl⟩) ⟨pC.blind, va_recv hK hPc (ci := 7) (q0 := 0) rfl rfl, pC.pre hPc hG hDc⟩ rfl rfl hl.1 rfl (lv_room (Nat.le_of_ble_eq_true rfl)) dX8_markRecords_27 ⟨Nat.zero_le _, Nat.zero_le _⟩) hP hD hS hA rfl rfl rfl (by decide) (fun x4z u3z H locs hw hP hD hS => ?_)
      obtain rfl := hw.symm
      have hP : va_P (dC, dI) vwCl (wd35 cyI cyJ cyZ q_Tb q_Tr q_all q_apart q_traits q_Sc q_Sp q_Mk n_all a_all n_apart a_apart n_traits a_traits) H := hP.sub [2, 0, 3, 4, 1] rfl
      have hD : va_D A (wd35 cyI cyJ cyZ q_Tb q_Tr q_all q_apart q_traits q_Sc q_Sp q_Mk n_all a_all n_apart a_apart n_traits a_traits) := hD.sub [2, 0, 3, 4, 1] (by decide) rfl
      refine lv_i2l (v := r2z.toInt64) hx hb dX8_markRecords_30 rfl ?_
      refine lv_topl (fun y5z ey5z => ?_)
      have h := xl_at h ey5z
      refine lv_lstore (lv' := [(8, .long y5z), (0, .ref q_Tr), (1, .long v1), (3, .long v3), (5, .long v5), (7, .int v7)]) hx hb dX8_markRecords_31 hl (by decide) rfl (fun ls hl => ?_)
      refine lv_lload hx hb dX8_markRecords_33 (lv_at hl 0 rfl) ?_
      refine lv_lload_n hx hb dX8_markRecords_35 rfl (lv_at hl 2 rfl) ?_
      refine W.lcmp hx hb dX8_markRecords_36 ?_
      refine lv_if_le (tgt := 56) hx hb dX8_markRecords_37 (by decide) (fun c6z => ?_) (fun c6z => ?_)
      · have c6z := (lg_cmp_le _ _).mp c6z
        have h := xt h c6z
        exact k_X8_markRecords_56 C0 N res q_Tb q_Tr q_all q_apart q_traits q_Sc q_Sp q_Mk y5z n_all a_all n_apart a_apart n_traits _ ih v1 v3 v5 v7 a_traits  h _ _ hP hD hS _ (lv_sub hl [1, 2, 3, 4, 5, 0] rfl)
      · have c6z := fun z => c6z ((lg_cmp_le _ _).mpr z)
        have h := xf h c6z
        refine lv_lload hx hb dX8_markRecords_40 (lv_at hl 0 rfl) ?_
        refine lv_lstore_n (lv' := [(1, .long y5z), (8, .long y5z), (0, .ref q_Tr), (3, .long v3), (5, .long v5), (7, .int v7)]) hx hb dX8_markRecords_42 rfl hl (by decide) rfl (fun ls hl => ?_)
        refine lv_aload_n hx hb dX8_markRecords_43 rfl (lv_at hl 2 rfl) ?_
        refine va_get (D := (dC, dI)) (ci := 8) (v := .ref q_traits) (C := RX8) (T := TX8) (N := 4) hx hb hts iw_X8_markRecords_X8 hown hK hP 1 rfl rfl 3 (by decide) (hts (.fieldLink RX8 9 "GoesInto$Traits" "traits" "[I") (List.mem_of_getElem? (i := 1) rfl)) (fun _ h9 => h9) rfl dX8_markRecords_44 ?_
        refine lv_iload hx hb dX8_markRecords_47 (lv_at hl 5 rfl) ?_
        refine lv_dup2_11 hx hb dX8_markRecords_49 rfl rfl ?_
        obtain ⟨b13z, h⟩ := xn h
        refine va_iald hx hb hK hP 4 0 rfl rfl b13z dX8_markRecords_50 ?_
        refine lv_sipush (v := (256 : Int32)) hx hb dX8_markRecords_51 (by decide) ?_
        refine lv_ior hx hb dX8_markRecords_54 ?_
        refine lv_topi (fun y14z ey14z => ?_)
        have h := xl_at h ey14z
        refine va_iast hx hb hK hP hD hS 4 0 rfl rfl b13z dX8_markRecords_55 (fun H locs hP hD hS => ?_)
        have hP : va_P (dC, dI) vwCl (wd35 cyI cyJ cyZ q_Tb q_Tr q_all q_apart q_traits q_Sc q_Sp q_Mk n_all a_all n_apart a_apart n_traits (upd a_traits v7.toNatClampNeg y14z)) H := hP
        have hD : va_D A (wd35 cyI cyJ cyZ q_Tb q_Tr q_all q_apart q_traits q_Sc q_Sp q_Mk n_all a_all n_apart a_apart n_traits (upd a_traits v7.toNatClampNeg y14z)) := hD
        exact k_X8_markRecords_56 C0 N res q_Tb q_Tr q_all q_apart q_traits q_Sc q_Sp q_Mk y5z n_all a_all n_apart a_apart n_traits _ ih y5z v3 v5 v7 (upd a_traits v7.toNatClampNeg y14z)  h _ _ hP hD hS _ (lv_sub hl [2, 0, 3, 4, 5, 1] rfl)
def f_X8_markRecords (N : Nat) (n_all : Nat) (a_all : Nat → Int32) (n_apart : Nat) (a_apart : Nat → Int32) (n_traits : Nat) (a_traits : Nat → Int32) : Option ((Nat → Int32)) :=
  l_X8_markRecords_10 N n_all a_all n_apart a_apart n_traits N ((0 : Int64), (0 : Int64), (1 : Int64), (1 : Int32), a_traits)
set_option maxRecDepth 100000 in
set_option maxHeartbeats 4000000 in
theorem k_X8_markRecords_0 {p : Program} {l : Launch} {e : Env} {s : State} {m : MethodId} {args : Array Value} {below : List Frame} {meth : Method} {c : Code} {dC : Nat → ClassId} {dI : Nat → Nat → Nat} {cyI cyJ cyZ : ClassId} {A : Nat → Prop} (C0 : mC p s m meth c args cX8_markRecords none 10 RX8 wsX8_markRecords (gK dC dI cyI cyJ cyZ) A) (N : Nat) (res : (Nat → Int32)) (q_Tb : Nat) (q_Tr : Nat) (q_all : Nat) (q_apart : Nat) (q_traits : Nat) (q_Sc : Nat) (q_Sp : Nat) (q_Mk : Nat) (n_all : Nat) (a_all : Nat → Int32) (n_apart : Nat) (a_apart : Nat → Int32) (n_traits : Nat) (a_traits : Nat → Int32) (h : f_X8_markRecords N n_all a_all n_apart a_apart n_traits a_traits = some res) : ∀ (H : Heap) (locs : List Loc), va_P (dC, dI) vwCl (wd35 cyI cyJ cyZ q_Tb q_Tr q_all q_apart q_traits q_Sc q_Sp q_Mk n_all a_all n_apart a_apart n_traits a_traits) H → va_D A (wd35 cyI cyJ cyZ q_Tb q_Tr q_all q_apart q_traits q_Sc q_Sp q_Mk n_all a_all n_apart a_apart n_traits a_traits) → va_S A s.heap H locs → ∀ (ls : Array Slot), lv_has ls 10 [(0, .ref q_Tr)] → W p l e (headSpec wsX8_markRecords rm_X8_markRecords).room s m args below meth c H locs 0 0 (MQ below (va_Qv (fun (_ : Unit) => True) (bW dC dI (fun (u : Unit) => (wd35 cyI cyJ cyZ q_Tb q_Tr q_all q_apart q_traits q_Sc q_Sp q_Mk n_all a_all n_apart a_apart n_traits res)) A) A) args s 0 0 A) (F0 m 0 ls []) := by
  obtain ⟨hx, hb, hr, hml, hown, hts, hlocks, hG, hA⟩ := id C0
  have hK := hG.1
  intro H locs hP hD hS ls hl
  unfold f_X8_markRecords at h
  refine lv_lconst (v := (0 : Int64)) hx hb dX8_markRecords_0 (by decide) ?_
  refine lv_lstore_n (lv' := [(1, .long (0 : Int64)), (0, .ref q_Tr)]) hx hb dX8_markRecords_1 rfl hl (by decide) rfl (fun ls hl => ?_)
  refine lv_lconst (v := (0 : Int64)) hx hb dX8_markRecords_2 (by decide) ?_
  refine lv_lstore_n (lv' := [(3, .long (0 : Int64)), (1, .long (0 : Int64)), (0, .ref q_Tr)]) hx hb dX8_markRecords_3 rfl hl (by decide) rfl (fun ls hl => ?_)
  refine lv_lconst (v := (1 : Int64)) hx hb dX8_markRecords_4 (by decide) ?_
  refine lv_lstore (lv' := [(5, .long (1 : Int64)), (3, .long (0 : Int64)), (1, .long (0 : Int64)), (0, .ref q_Tr)]) hx hb dX8_markRecords_5 hl (by decide) rfl (fun ls hl => ?_)
  refine lv_iconst (v := (1 : Int32)) hx hb dX8_markRecords_7 (by decide) ?_
  refine lv_istore (lv' := [(7, .int (1 : Int32)), (5, .long (1 : Int64)), (3, .long (0 : Int64)), (1, .long (0 : Int64)), (0, .ref q_Tr)]) hx hb dX8_markRecords_8 hl (by decide) rfl (fun ls hl => ?_)
  exact k_X8_markRecords_10 C0 N res q_Tb q_Tr q_all q_apart q_traits q_Sc q_Sp q_Mk n_all a_all n_apart a_apart n_traits N (0 : Int64) (0 : Int64) (1 : Int64) (1 : Int32) a_traits h _ _ hP hD hS _ (lv_sub hl [4, 3, 2, 1, 0] rfl)
set_option maxRecDepth 100000 in
set_option maxHeartbeats 4000000 in
theorem c_X8_markRecords (l : Launch) (dC : Nat → ClassId) (dI : Nat → Nat → Nat) (cyI cyJ cyZ : ClassId) (N : Nat) (res : (Nat → Int32)) (sz : Nat) (q_Tb : Nat) (q_Tr : Nat) (q_all : Nat) (q_apart : Nat) (q_traits : Nat) (q_Sc : Nat) (q_Sp : Nat) (q_Mk : Nat) (n_all : Nat) (a_all : Nat → Int32) (n_apart : Nat) (a_apart : Nat → Int32) (n_traits : Nat) (a_traits : Nat → Int32) (h : f_X8_markRecords N  n_all a_all n_apart a_apart n_traits a_traits = some res) : Met l yX8_markRecords wsX8_markRecords rm_X8_markRecords (pC dC dI cyI cyJ cyZ [.ref q_Tr] sz (wd35 cyI cyJ cyZ q_Tb q_Tr q_all q_apart q_traits q_Sc q_Sp q_Mk n_all a_all n_apart a_apart n_traits a_traits)) (va_Qv (fun (_ : Unit) => True) (bW dC dI (fun (u : Unit) => (wd35 cyI cyJ cyZ q_Tb q_Tr q_all q_apart q_traits q_Sc q_Sp q_Mk n_all a_all n_apart a_apart n_traits res)) (va_A (wd35 cyI cyJ cyZ q_Tb q_Tr q_all q_apart q_traits q_Sc q_Sp q_Mk n_all a_all n_apart a_apart n_traits a_traits) sz)) (va_A (wd35 cyI cyJ cyZ q_Tb q_Tr q_all q_apart q_traits q_Sc q_Sp q_Mk n_all a_all n_apart a_apart n_traits a_traits) sz)) 0 0 (va_A (wd35 cyI cyJ cyZ q_Tb q_Tr q_all q_apart q_traits q_Sc q_Sp q_Mk n_all a_all n_apart a_apart n_traits a_traits) sz) := by
  refine Met.ofW (cc := cX8_markRecords) (maxL := 10) (ret := none) (by decide) rfl ?_
  intro p e s m args below meth c s₁ B hml hv
  obtain ⟨rfl, hsz, hP, hG, hD0⟩ := hv
  have hx := B.exec
  have hb := B.bytes
  have hr := B.returns
  have hts := atoms_spec (ws := wsX8_markRecords) B.pre
  have hown : s.vm.findClass RX8 = some m.cls := findClass_of_methodNamed B.named
  have hlocks := B.notSynchronized
  subst hsz
  have hD := hD0.self (sz := s.heap.size)
  generalize hAe : va_A (wd35 cyI cyJ cyZ q_Tb q_Tr q_all q_apart q_traits q_Sc q_Sp q_Mk n_all a_all n_apart a_apart n_traits a_traits) s.heap.size = A at hD ⊢
  have hA : ∀ q : Nat, s.heap.size ≤ q → A q := fun q h => by rw [← hAe]; exact Or.inr h
  have hS : va_S A s.heap s.heap [] := va_S.rf
  have hl := lv_entry ([.ref q_Tr]) (n := 10) (Nat.le_of_ble_eq_true rfl)
  rw [lg_entry_eq]
  generalize (lg_sl ([.ref q_Tr]) ++ List.replicate (10 - (lg_sl ([.ref q_Tr])).length) Slot.unset).toArray = ls at hl ⊢
  have hl : lv_has ls 10 [(0, .ref q_Tr)] := hl
  exact k_X8_markRecords_0 ⟨hx, hb, hr, hml, hown, hts, hlocks, hG, hA⟩ N res q_Tb q_Tr q_all q_apart q_traits q_Sc q_Sp q_Mk n_all a_all n_apart a_apart n_traits a_traits  h _ _ hP hD hS _ hl
abbrev rm_X8_prepare (MC MS : Nat) : Room := { frames := 4, cells := MC, slots := MS, locals := 109 }
theorem hd_X8_prepare : yX8_prepare.cls ≠ "java/lang/invoke/MethodHandle" ∧ yX8_prepare.cls ≠ "java/lang/invoke/VarHandle" ∧ (parseMethodDescriptor yX8_prepare.desc).map (fun d => d.parameters.length) = some 0 := by decide +kernel
theorem iw_X8_prepare_X4 : ∀ w ∈ wsX40, w ∈ wsX8_prepare := List.forall_mem_cons.mpr ⟨List.mem_of_getElem? (i := 117) rfl, fun _ h => absurd h List.not_mem_nil⟩
theorem iw_X8_prepare_X3 : ∀ w ∈ wsX30, w ∈ wsX8_prepare := List.forall_mem_cons.mpr ⟨List.mem_of_getElem? (i := 110) rfl, List.forall_mem_cons.mpr ⟨List.mem_of_getElem? (i := 111) rfl, fun _ h => absurd h List.not_mem_nil⟩⟩
theorem iw_X8_prepare_X6 : ∀ w ∈ wsX60, w ∈ wsX8_prepare := List.forall_mem_cons.mpr ⟨List.mem_of_getElem? (i := 102) rfl, List.forall_mem_cons.mpr ⟨List.mem_of_getElem? (i := 103) rfl, List.forall_mem_cons.mpr ⟨List.mem_of_getElem? (i := 104) rfl, List.forall_mem_cons.mpr ⟨List.mem_of_getElem? (i := 105) rfl, List.forall_mem_cons.mpr ⟨List.mem_of_getElem? (i := 106) rfl, List.forall_mem_cons.mpr ⟨List.mem_of_getElem? (i := 107) rfl, List.forall_mem_cons.mpr ⟨List.mem_of_getElem? (i := 108) rfl, List.forall_mem_cons.mpr ⟨List.mem_of_getElem? (i := 109) rfl, fun _ h => absurd h List.not_mem_nil⟩⟩⟩⟩⟩⟩⟩⟩
theorem iw_X8_prepare_X7 : ∀ w ∈ wsX70, w ∈ wsX8_prepare := List.forall_mem_cons.mpr ⟨List.mem_of_getElem? (i := 112) rfl, List.forall_mem_cons.mpr ⟨List.mem_of_getElem? (i := 113) rfl, List.forall_mem_cons.mpr ⟨List.mem_of_getElem? (i := 114) rfl, fun _ h => absurd h List.not_mem_nil⟩⟩⟩
theorem iw_X8_prepare_X1 : ∀ w ∈ wsX10, w ∈ wsX8_prepare := List.forall_mem_cons.mpr ⟨List.mem_of_getElem? (i := 115) rfl, List.forall_mem_cons.mpr ⟨List.mem_of_getElem? (i := 116) rfl, fun _ h => absurd h List.not_mem_nil⟩⟩
theorem iw_X8_prepare_X8 : ∀ w ∈ wsX80, w ∈ wsX8_prepare := List.forall_mem_cons.mpr ⟨List.mem_of_getElem? (i := 98) rfl, List.forall_mem_cons.mpr ⟨List.mem_of_getElem? (i := 99) rfl, List.forall_mem_cons.mpr ⟨List.mem_of_getElem? (i := 100) rfl, List.forall_mem_cons.mpr ⟨List.mem_of_getElem? (i := 101) rfl, fun _ h => absurd h List.not_mem_nil⟩⟩⟩⟩
def j_X8_prepare_61 (N : Nat) (MC : Nat) (MS : Nat) (sp_unlike : Int32) (sp_number : Int64) (sp_partsKept : Int32) (sp_partsNumber : Int64) (n_row : Nat) (a_row : Nat → Int32) (a_prime : Nat → Int64) (a_times : Nat → Int32) (a_parts : Nat → Int64) (n_all : Nat) (a_all : Nat → Int32) (n_apart : Nat) (a_apart : Nat → Int32) (n_traits : Nat) (a_traits : Nat → Int32) (gc : Nat) (gs : Nat) : Option (Int32 × Int64 × Int32 × Int64 × Nat × (Nat → Int32) × (Nat → Int64) × (Nat → Int32) × (Nat → Int64) × Nat × (Nat → Int32)) :=
  if gc ≤ MC ∧ gs ≤ MS then
    Option.bind (f_X8_markRecords N  n_all a_all n_apart a_apart n_traits a_traits) fun r5z =>
    if gc ≤ MC ∧ gs ≤ MS then
      some (sp_unlike, sp_number, sp_partsKept, sp_partsNumber, n_row, a_row, a_prime, a_times, a_parts, n_traits, r5z)
    else
      none
  else
    none
set_option maxRecDepth 100000 in
set_option maxHeartbeats 4000000 in
theorem k_X8_prepare_61 {p : Program} {l : Launch} {e : Env} {s : State} {m : MethodId} {args : Array Value} {below : List Frame} {meth : Method} {c : Code} {dC : Nat → ClassId} {dI : Nat → Nat → Nat} {cyI cyJ cyZ : ClassId} {A : Nat → Prop} (C0 : mC p s m meth c args cX8_prepare none 2 RX8 wsX8_prepare (gK dC dI cyI cyJ cyZ) A) (N : Nat) (MC MS : Nat) (res : Int32 × Int64 × Int32 × Int64 × Nat × (Nat → Int32) × (Nat → Int64) × (Nat → Int32) × (Nat → Int64) × Nat × (Nat → Int32)) (q_Sc : Nat) (q_Pr : Nat) (q_Sp : Nat) (q_Tb : Nat) (q_Mk : Nat) (q_Tr : Nat) (q_list : Nat) (q_prime : Nat) (q_times : Nat) (q_parts : Nat) (q_all : Nat) (q_apart : Nat) (sp_unlike : Int32) (sp_number : Int64) (sp_partsKept : Int32) (sp_partsNumber : Int64) (n_row : Nat) (a_row : Nat → Int32) (n_list : Nat) (a_list : Nat → Int32) (a_prime : Nat → Int64) (a_times : Nat → Int32) (a_parts : Nat → Int64) (n_all : Nat) (a_all : Nat → Int32) (n_apart : Nat) (a_apart : Nat → Int32) (n_traits : Nat) (a_traits : Nat → Int32) (gc : Nat) (gs : Nat) (q_row : Nat) (q_traits : Nat) (h : j_X8_prepare_61 N MC MS sp_unlike sp_number sp_partsKept sp_partsNumber n_row a_row a_prime a_times a_parts n_all a_all n_apart a_apart n_traits a_traits gc gs = some res) : ∀ (H : Heap) (locs : List Loc), va_P (dC, dI) vwCl (wd33 cyI cyJ cyZ q_Sc q_Pr q_Sp q_Tb q_Mk q_Tr q_row q_list q_prime q_times q_parts q_all q_apart q_traits sp_unlike sp_number sp_partsKept sp_partsNumber n_row a_row n_list a_list a_prime a_times a_parts n_all a_all n_apart a_apart n_traits a_traits) H → va_D A (wd33 cyI cyJ cyZ q_Sc q_Pr q_Sp q_Tb q_Mk q_Tr q_row q_list q_prime q_times q_parts q_all q_apart q_traits sp_unlike sp_number sp_partsKept sp_partsNumber n_row a_row n_list a_list a_prime a_times a_parts n_all a_all n_apart a_apart n_traits a_traits) → va_S A s.heap H locs → ∀ (ls : Array Slot), lv_has ls 2 [(0, .ref q_Tr)] → W p l e (headSpec wsX8_prepare (rm_X8_prepare MC MS)).room s m args below meth c H locs gc gs (MQ below (va_Qv (fun (_ : Nat × Nat) => True) (bW dC dI (fun (u : Nat × Nat) => (wd33 cyI cyJ cyZ q_Sc q_Pr q_Sp q_Tb q_Mk q_Tr u.1 q_list q_prime q_times q_parts q_all q_apart u.2 res.1 res.2.1 res.2.2.1 res.2.2.2.1 res.2.2.2.2.1 res.2.2.2.2.2.1 n_list a_list res.2.2.2.2.2.2.1 res.2.2.2.2.2.2.2.1 res.2.2.2.2.2.2.2.2.1 n_all a_all n_apart a_apart res.2.2.2.2.2.2.2.2.2.1 res.2.2.2.2.2.2.2.2.2.2)) A) A) args s MC MS A) (F0 m 61 ls []) := by
  obtain ⟨hx, hb, hr, hml, hown, hts, hlocks, hG, hA⟩ := id C0
  have hK := hG.1
  intro H locs hP hD hS ls hl
  unfold j_X8_prepare_61 at h
  refine lv_aload_n hx hb dX8_prepare_61 rfl (lv_at hl 0 rfl) ?_
  obtain ⟨b6z, h⟩ := xa h
  obtain ⟨r5z, hr5z, h⟩ := xb_at h
  have hPc := hP.sub (ws' := (wd35 cyI cyJ cyZ q_Tb q_Tr q_all q_apart q_traits q_Sc q_Sp q_Mk n_all a_all n_apart a_apart n_traits a_traits)) [3, 5, 11, 12, 13] rfl
  have hDc := hD.sub (ws' := (wd35 cyI cyJ cyZ q_Tb q_Tr q_all q_apart q_traits q_Sc q_Sp q_Mk n_all a_all n_apart a_apart n_traits a_traits)) [3, 5, 11, 12, 13] (by decide) rfl
  refine cal_v [3, 5, 11, 12, 13] [0, 1, 2, 4, 6, 7, 8, 9, 10] (va_runV (As := []) (rest := []) ⟨hx, hb, hml, hown, hts⟩ (c_X8_markRecords l dC dI cyI cyJ cyZ N r5z H.size q_Tb q_Tr q_all q_apart q_traits q_Sc q_Sp q_Mk  n_all a_all n_apart a_apart n_traits a_traits hr5z) (cwV 0 hts gX8_prepare_X8_markRecords rfl rfl rfl ⟨rfl, hd_X8_markRecords⟩ ⟨Nat.le_of_ble_eq_true rfl, Nat.le_of_ble_eq_true rfl⟩) ⟨pC.blind, va_recv hK hPc (ci := 8) (q0 := 1) rfl rfl, pC.pre hPc hG hDc⟩ rfl rfl hl.1 rfl (lv_room (Nat.le_of_ble_eq_true rfl)) dX8_prepare_62 ⟨b6z.1, b6z.2⟩) hP hD hS hA rfl rfl rfl (by decide) (fun u7z H locs _ hP hD hS => ?_)
  have hP : va_P (dC, dI) vwCl (wd33 cyI cyJ cyZ q_Sc q_Pr q_Sp q_Tb q_Mk q_Tr q_row q_list q_prime q_times q_parts q_all q_apart q_traits sp_unlike sp_number sp_partsKept sp_partsNumber n_row a_row n_list a_list a_prime a_times a_parts n_all a_all n_apart a_apart n_traits r5z) H := hP.sub [0, 1, 2, 9, 3, 10, 4, 5, 6, 7, 8, 11, 12, 13] rfl
  have hD : va_D A (wd33 cyI cyJ cyZ q_Sc q_Pr q_Sp q_Tb q_Mk q_Tr q_row q_list q_prime q_times q_parts q_all q_apart q_traits sp_unlike sp_number sp_partsKept sp_partsNumber n_row a_row n_list a_list a_prime a_times a_parts n_all a_all n_apart a_apart n_traits r5z) := hD.sub [0, 1, 2, 9, 3, 10, 4, 5, 6, 7, 8, 11, 12, 13] (by decide) rfl
  obtain ⟨b9z, h⟩ := xa h
  refine W.widen (k := MC) (n := MS) b9z.1 b9z.2 ?_
  obtain rfl := Option.some.inj h
  exact W.vret hx hb hr (fun t ht hW => ⟨⟨(q_row, q_traits), rfl, trivial, by rw [ht]; exact hP, hD⟩, hS.F ht⟩) hS.2.2 dX8_prepare_65 hlocks
def s_X8_prepare_20 (N : Nat) (MC : Nat) (MS : Nat) (n_list : Nat) (a_list : Nat → Int32) (n_all : Nat) (a_all : Nat → Int32) (n_apart : Nat) (a_apart : Nat → Int32) (n_traits : Nat) (k_20 : (Int32 × Int32 × Int64 × Int32 × Int64 × Nat × (Nat → Int32) × (Nat → Int64) × (Nat → Int32) × (Nat → Int64) × (Nat → Int32) × Nat × Nat) → Option (Int32 × Int64 × Int32 × Int64 × Nat × (Nat → Int32) × (Nat → Int64) × (Nat → Int32) × (Nat → Int64) × Nat × (Nat → Int32))) (v1 : Int32) (sp_unlike : Int32) (sp_number : Int64) (sp_partsKept : Int32) (sp_partsNumber : Int64) (n_row : Nat) (a_row : Nat → Int32) (a_prime : Nat → Int64) (a_times : Nat → Int32) (a_parts : Nat → Int64) (a_traits : Nat → Int32) (gc : Nat) (gs : Nat) : Option (Int32 × Int64 × Int32 × Int64 × Nat × (Nat → Int32) × (Nat → Int64) × (Nat → Int32) × (Nat → Int64) × Nat × (Nat → Int32)) :=
  if (nI n_traits) ≤ v1 then
    j_X8_prepare_61 N MC MS sp_unlike sp_number sp_partsKept sp_partsNumber n_row a_row a_prime a_times a_parts n_all a_all n_apart a_apart n_traits a_traits gc gs
  else
    if gc ≤ MC ∧ gs ≤ MS then
      Option.bind (f_X6_splitUp N v1.toInt64 sp_unlike sp_number n_list a_list a_prime a_times) fun r10z =>
      if gc + (if nI n_row = 0 then 1 else 0) ≤ MC ∧ gs + (if nI n_row = 0 then 50001 else 0) ≤ MS then
        Option.bind (f_X8_sortTraits N (if nI n_row = 0 then 1 else 0) (if nI n_row = 0 then 50001 else 0) v1 r10z.1 r10z.2.1 sp_partsKept sp_partsNumber n_row a_row n_list a_list r10z.2.2.1 r10z.2.2.2 a_parts n_all a_all n_apart a_apart n_traits a_traits) fun r14z =>
        if gc + (if nI n_row = 0 then 1 else 0) ≤ MC ∧ gs + (if nI n_row = 0 then 50001 else 0) ≤ MS then
          Option.bind (f_X8_primeTraits N v1 r14z.2.1 r14z.2.2.2.2.2.2.2.2.1) fun r18z =>
          xl (r14z.1 ||| r18z) fun y22z =>
          if v1 < 0 ∨ n_traits ≤ v1.toNatClampNeg then
            none
          else
            xl (v1 + (1 : Int32)) fun y24z =>
            k_20 (y24z, r14z.2.1, r14z.2.2.1, r14z.2.2.2.1, r14z.2.2.2.2.1, r14z.2.2.2.2.2.1, r14z.2.2.2.2.2.2.1, r14z.2.2.2.2.2.2.2.1, r14z.2.2.2.2.2.2.2.2.1, r14z.2.2.2.2.2.2.2.2.2, upd a_traits v1.toNatClampNeg y22z, gc + (if nI n_row = 0 then 1 else 0), gs + (if nI n_row = 0 then 50001 else 0))
        else
          none
      else
        none
    else
      none
def l_X8_prepare_20 (N : Nat) (MC : Nat) (MS : Nat) (n_list : Nat) (a_list : Nat → Int32) (n_all : Nat) (a_all : Nat → Int32) (n_apart : Nat) (a_apart : Nat → Int32) (n_traits : Nat) (n : Nat) (z : Int32 × Int32 × Int64 × Int32 × Int64 × Nat × (Nat → Int32) × (Nat → Int64) × (Nat → Int32) × (Nat → Int64) × (Nat → Int32) × Nat × Nat) : Option (Int32 × Int64 × Int32 × Int64 × Nat × (Nat → Int32) × (Nat → Int64) × (Nat → Int32) × (Nat → Int64) × Nat × (Nat → Int32)) := lp (fun k z => s_X8_prepare_20 N MC MS n_list a_list n_all a_all n_apart a_apart n_traits k z.1 z.2.1 z.2.2.1 z.2.2.2.1 z.2.2.2.2.1 z.2.2.2.2.2.1 z.2.2.2.2.2.2.1 z.2.2.2.2.2.2.2.1 z.2.2.2.2.2.2.2.2.1 z.2.2.2.2.2.2.2.2.2.1 z.2.2.2.2.2.2.2.2.2.2.1 z.2.2.2.2.2.2.2.2.2.2.2.1 z.2.2.2.2.2.2.2.2.2.2.2.2) n z
set_option maxRecDepth 100000 in
set_option maxHeartbeats 4000000 in
theorem k_X8_prepare_20 {p : Program} {l : Launch} {e : Env} {s : State} {m : MethodId} {args : Array Value} {below : List Frame} {meth : Method} {c : Code} {dC : Nat → ClassId} {dI : Nat → Nat → Nat} {cyI cyJ cyZ : ClassId} {A : Nat → Prop} (C0 : mC p s m meth c args cX8_prepare none 2 RX8 wsX8_prepare (gK dC dI cyI cyJ cyZ) A) (N : Nat) (MC MS : Nat) (res : Int32 × Int64 × Int32 × Int64 × Nat × (Nat → Int32) × (Nat → Int64) × (Nat → Int32) × (Nat → Int64) × Nat × (Nat → Int32)) (q_Sc : Nat) (q_Pr : Nat) (q_Sp : Nat) (q_Tb : Nat) (q_Mk : Nat) (q_Tr : Nat) (q_list : Nat) (q_prime : Nat) (q_times : Nat) (q_parts : Nat) (q_all : Nat) (q_apart : Nat) (n_list : Nat) (a_list : Nat → Int32) (n_all : Nat) (a_all : Nat → Int32) (n_apart : Nat) (a_apart : Nat → Int32) (n_traits : Nat) : ∀ (n : Nat) (v1 : Int32) (sp_unlike : Int32) (sp_number : Int64) (sp_partsKept : Int32) (sp_partsNumber : Int64) (n_row : Nat) (a_row : Nat → Int32) (a_prime : Nat → Int64) (a_times : Nat → Int32) (a_parts : Nat → Int64) (a_traits : Nat → Int32) (gc : Nat) (gs : Nat) (q_row : Nat) (q_traits : Nat), l_X8_prepare_20 N MC MS n_list a_list n_all a_all n_apart a_apart n_traits n (v1, sp_unlike, sp_number, sp_partsKept, sp_partsNumber, n_row, a_row, a_prime, a_times, a_parts, a_traits, gc, gs) = some res → ∀ (H : Heap) (locs : List Loc), va_P (dC, dI) vwCl (wd33 cyI cyJ cyZ q_Sc q_Pr q_Sp q_Tb q_Mk q_Tr q_row q_list q_prime q_times q_parts q_all q_apart q_traits sp_unlike sp_number sp_partsKept sp_partsNumber n_row a_row n_list a_list a_prime a_times a_parts n_all a_all n_apart a_apart n_traits a_traits) H → va_D A (wd33 cyI cyJ cyZ q_Sc q_Pr q_Sp q_Tb q_Mk q_Tr q_row q_list q_prime q_times q_parts q_all q_apart q_traits sp_unlike sp_number sp_partsKept sp_partsNumber n_row a_row n_list a_list a_prime a_times a_parts n_all a_all n_apart a_apart n_traits a_traits) → va_S A s.heap H locs → ∀ (ls : Array Slot), lv_has ls 2 [(0, .ref q_Tr), (1, .int v1)] → W p l e (headSpec wsX8_prepare (rm_X8_prepare MC MS)).room s m args below meth c H locs gc gs (MQ below (va_Qv (fun (_ : Nat × Nat) => True) (bW dC dI (fun (u : Nat × Nat) => (wd33 cyI cyJ cyZ q_Sc q_Pr q_Sp q_Tb q_Mk q_Tr u.1 q_list q_prime q_times q_parts q_all q_apart u.2 res.1 res.2.1 res.2.2.1 res.2.2.2.1 res.2.2.2.2.1 res.2.2.2.2.2.1 n_list a_list res.2.2.2.2.2.2.1 res.2.2.2.2.2.2.2.1 res.2.2.2.2.2.2.2.2.1 n_all a_all n_apart a_apart res.2.2.2.2.2.2.2.2.2.1 res.2.2.2.2.2.2.2.2.2.2)) A) A) args s MC MS A) (F0 m 20 ls []) := by
  obtain ⟨hx, hb, hr, hml, hown, hts, hlocks, hG, hA⟩ := id C0
  have hK := hG.1
  intro n
  induction n with
  | zero =>
    intro v1 sp_unlike sp_number sp_partsKept sp_partsNumber n_row a_row a_prime a_times a_parts a_traits gc gs q_row q_traits h
    cases h
  | succ n ih =>
    intro v1 sp_unlike sp_number sp_partsKept sp_partsNumber n_row a_row a_prime a_times a_parts a_traits gc gs q_row q_traits h H locs hP hD hS ls hl
    have h : s_X8_prepare_20 N MC MS n_list a_list n_all a_all n_apart a_apart n_traits (l_X8_prepare_20 N MC MS n_list a_list n_all a_all n_apart a_apart n_traits n) v1 sp_unlike sp_number sp_partsKept sp_partsNumber n_row a_row a_prime a_times a_parts a_traits gc gs = some res := h
    unfold s_X8_prepare_20 at h
    refine lv_iload_n hx hb dX8_prepare_20 rfl (lv_at hl 1 rfl) ?_
    refine lv_aload_n hx hb dX8_prepare_21 rfl (lv_at hl 0 rfl) ?_
    refine va_get (D := (dC, dI)) (ci := 8) (v := .ref q_traits) (C := RX8) (T := TX8) (N := 4) hx hb hts iw_X8_prepare_X8 hown hK hP 5 rfl rfl 3 (by decide) (hts (.fieldLink RX8 9 "GoesInto$Traits" "traits" "[I") (List.mem_of_getElem? (i := 1) rfl)) (fun _ h9 => h9) rfl dX8_prepare_22 ?_
    refine va_alen (v := nI n_traits) hx hb hK hP 13 0 rfl rfl rfl dX8_prepare_25 ?_
    refine lv_icmp_ge (tgt := 61) hx hb dX8_prepare_26 (by decide) (fun c4z => ?_) (fun c4z => ?_)
    · have h := xt h c4z
      exact k_X8_prepare_61 C0 N MC MS res q_Sc q_Pr q_Sp q_Tb q_Mk q_Tr q_list q_prime q_times q_parts q_all q_apart sp_unlike sp_number sp_partsKept sp_partsNumber n_row a_row n_list a_list a_prime a_times a_parts n_all a_all n_apart a_apart n_traits a_traits gc gs q_row q_traits h _ _ hP hD hS _ (lv_sub hl [0] rfl)
    · have h := xf h c4z
      refine lv_aload_n hx hb dX8_prepare_29 rfl (lv_at hl 0 rfl) ?_
      refine va_get (D := (dC, dI)) (ci := 8) (v := .ref q_Sp) (C := RX8) (T := TX8) (N := 4) hx hb hts iw_X8_prepare_X8 hown hK hP 5 rfl rfl 0 (by decide) (hts (.fieldLink RX8 15 "GoesInto$Traits" "split" "LGoesInto$Split;") (List.mem_of_getElem? (i := 3) rfl)) (fun _ h9 => h9) rfl dX8_prepare_30 ?_
      refine lv_iload_n hx hb dX8_prepare_33 rfl (lv_at hl 1 rfl) ?_
      refine lv_i2l (v := v1.toInt64) hx hb dX8_prepare_34 rfl ?_
      obtain ⟨b11z, h⟩ := xa h
      obtain ⟨r10z, hr10z, h⟩ := xb_at h
      have hPc := hP.sub (ws' := (wd1 cyI cyJ cyZ q_Pr q_Sp q_list q_prime q_times q_Sc q_parts sp_unlike sp_number sp_partsKept sp_partsNumber n_list a_list a_prime a_times)) [1, 2, 7, 8, 9] rfl
      have hDc := hD.sub (ws' := (wd1 cyI cyJ cyZ q_Pr q_Sp q_list q_prime q_times q_Sc q_parts sp_unlike sp_number sp_partsKept sp_partsNumber n_list a_list a_prime a_times)) [1, 2, 7, 8, 9] (by decide) rfl
      refine cal_v [1, 2, 7, 8, 9] [0, 3, 4, 5, 6, 10, 11, 12, 13] (va_runV (As := [.long v1.toInt64]) (rest := []) ⟨hx, hb, hml, hown, hts⟩ (c_X6_splitUp l dC dI cyI cyJ cyZ N r10z H.size q_Pr q_Sp q_list q_prime q_times q_Sc q_parts v1.toInt64 sp_unlike sp_number sp_partsKept sp_partsNumber n_list a_list a_prime a_times hr10z) (cwV 1 hts gX8_prepare_X6_splitUp rfl rfl rfl ⟨rfl, hd_X6_splitUp⟩ ⟨Nat.le_of_ble_eq_true rfl, Nat.le_of_ble_eq_true rfl⟩) ⟨pC.blind, va_recv hK hPc (ci := 6) (q0 := 1) rfl rfl, pC.pre hPc hG hDc⟩ rfl rfl hl.1 rfl (lv_room (Nat.le_of_ble_eq_true rfl)) dX8_prepare_35 ⟨b11z.1, b11z.2⟩) hP hD hS hA rfl rfl rfl (by decide) (fun u12z H locs _ hP hD hS => ?_)
      have hP : va_P (dC, dI) vwCl (wd33 cyI cyJ cyZ q_Sc q_Pr q_Sp q_Tb q_Mk q_Tr q_row q_list q_prime q_times q_parts q_all q_apart q_traits r10z.1 r10z.2.1 sp_partsKept sp_partsNumber n_row a_row n_list a_list r10z.2.2.1 r10z.2.2.2 a_parts n_all a_all n_apart a_apart n_traits a_traits) H := hP.sub [0, 9, 10, 1, 2, 3, 4, 11, 12, 13, 5, 6, 7, 8] rfl
      have hD : va_D A (wd33 cyI cyJ cyZ q_Sc q_Pr q_Sp q_Tb q_Mk q_Tr q_row q_list q_prime q_times q_parts q_all q_apart q_traits r10z.1 r10z.2.1 sp_partsKept sp_partsNumber n_row a_row n_list a_list r10z.2.2.1 r10z.2.2.2 a_parts n_all a_all n_apart a_apart n_traits a_traits) := hD.sub [0, 9, 10, 1, 2, 3, 4, 11, 12, 13, 5, 6, 7, 8] (by decide) rfl
      refine lv_aload_n hx hb dX8_prepare_38 rfl (lv_at hl 0 rfl) ?_
      refine va_get (D := (dC, dI)) (ci := 8) (v := .ref q_traits) (C := RX8) (T := TX8) (N := 4) hx hb hts iw_X8_prepare_X8 hown hK hP 5 rfl rfl 3 (by decide) (hts (.fieldLink RX8 9 "GoesInto$Traits" "traits" "[I") (List.mem_of_getElem? (i := 1) rfl)) (fun _ h9 => h9) rfl dX8_prepare_39 ?_
      refine lv_iload_n hx hb dX8_prepare_42 rfl (lv_at hl 1 rfl) ?_
      refine lv_aload_n hx hb dX8_prepare_43 rfl (lv_at hl 0 rfl) ?_
      refine lv_iload_n hx hb dX8_prepare_44 rfl (lv_at hl 1 rfl) ?_
      obtain ⟨b15z, h⟩ := xa h
      obtain ⟨r14z, hr14z, h⟩ := xb_at h
      have hPc := hP.sub (ws' := (wd33 cyI cyJ cyZ q_Sc q_Pr q_Sp q_Tb q_Mk q_Tr q_row q_list q_prime q_times q_parts q_all q_apart q_traits r10z.1 r10z.2.1 sp_partsKept sp_partsNumber n_row a_row n_list a_list r10z.2.2.1 r10z.2.2.2 a_parts n_all a_all n_apart a_apart n_traits a_traits)) [0, 1, 2, 3, 4, 5, 6, 7, 8, 9, 10, 11, 12, 13] rfl
      have hDc := hD.sub (ws' := (wd33 cyI cyJ cyZ q_Sc q_Pr q_Sp q_Tb q_Mk q_Tr q_row q_list q_prime q_times q_parts q_all q_apart q_traits r10z.1 r10z.2.1 sp_partsKept sp_partsNumber n_row a_row n_list a_list r10z.2.2.1 r10z.2.2.2 a_parts n_all a_all n_apart a_apart n_traits a_traits)) [0, 1, 2, 3, 4, 5, 6, 7, 8, 9, 10, 11, 12, 13] (by decide) rfl
      refine cal_i [0, 1, 2, 3, 4, 5, 6, 7, 8, 9, 10, 11, 12, 13] [] (va_runV (As := [.int v1]) (rest := [.int v1, .ref q_traits]) ⟨hx, hb, hml, hown, hts⟩ (c_X8_sortTraits l dC dI cyI cyJ cyZ N (if nI n_row = 0 then 1 else 0) (if nI n_row = 0 then 50001 else 0) r14z H.size q_Sc q_Pr q_Sp q_Tb q_Mk q_Tr q_row q_list q_prime q_times q_parts q_all q_apart q_traits v1 r10z.1 r10z.2.1 sp_partsKept sp_partsNumber n_row a_row n_list a_list r10z.2.2.1 r10z.2.2.2 a_parts n_all a_all n_apart a_apart n_traits a_traits hr14z) (cwV 1 hts gX8_prepare_X8_sortTraits rfl rfl rfl ⟨rfl, hd_X8_sortTraits⟩ ⟨Nat.le_of_ble_eq_true rfl, Nat.le_of_ble_eq_true rfl⟩) ⟨pC.blind, va_recv hK hPc (ci := 8) (q0 := 5) rfl rfl, pC.pre hPc hG hDc⟩ rfl rfl hl.1 rfl (lv_room (Nat.le_of_ble_eq_true rfl)) dX8_prepare_45 ⟨b15z.1, b15z.2⟩) hP hD hS hA rfl rfl rfl (by decide) (fun x17z u16z H locs hw hP hD hS => ?_)
      obtain rfl := hw.symm
      have hP : va_P (dC, dI) vwCl (wd33 cyI cyJ cyZ q_Sc q_Pr q_Sp q_Tb q_Mk q_Tr u16z q_list q_prime q_times q_parts q_all q_apart q_traits r14z.2.1 r14z.2.2.1 r14z.2.2.2.1 r14z.2.2.2.2.1 r14z.2.2.2.2.2.1 r14z.2.2.2.2.2.2.1 n_list a_list r14z.2.2.2.2.2.2.2.1 r14z.2.2.2.2.2.2.2.2.1 r14z.2.2.2.2.2.2.2.2.2 n_all a_all n_apart a_apart n_traits a_traits) H := hP.sub [0, 1, 2, 3, 4, 5, 6, 7, 8, 9, 10, 11, 12, 13] rfl
      have hD : va_D A (wd33 cyI cyJ cyZ q_Sc q_Pr q_Sp q_Tb q_Mk q_Tr u16z q_list q_prime q_times q_parts q_all q_apart q_traits r14z.2.1 r14z.2.2.1 r14z.2.2.2.1 r14z.2.2.2.2.1 r14z.2.2.2.2.2.1 r14z.2.2.2.2.2.2.1 n_list a_list r14z.2.2.2.2.2.2.2.1 r14z.2.2.2.2.2.2.2.2.1 r14z.2.2.2.2.2.2.2.2.2 n_all a_all n_apart a_apart n_traits a_traits) := hD.sub [0, 1, 2, 3, 4, 5, 6, 7, 8, 9, 10, 11, 12, 13] (by decide) rfl
      refine lv_aload_n hx hb dX8_prepare_48 rfl (lv_at hl 0 rfl) ?_
      refine lv_iload_n hx hb dX8_prepare_49 rfl (lv_at hl 1 rfl) ?_
      obtain ⟨b19z, h⟩ := xa h
      obtain ⟨r18z, hr18z, h⟩ := xb_at h
      have hPc := hP.sub (ws' := (wd34 cyI cyJ cyZ q_Sp q_Tr q_times q_Pr q_prime q_parts q_Tb q_Mk q_traits r14z.2.1 r14z.2.2.1 r14z.2.2.2.1 r14z.2.2.2.2.1 r14z.2.2.2.2.2.2.2.2.1)) [2, 5, 9] rfl
      have hDc := hD.sub (ws' := (wd34 cyI cyJ cyZ q_Sp q_Tr q_times q_Pr q_prime q_parts q_Tb q_Mk q_traits r14z.2.1 r14z.2.2.1 r14z.2.2.2.1 r14z.2.2.2.2.1 r14z.2.2.2.2.2.2.2.2.1)) [2, 5, 9] (by decide) rfl
      refine cal_i [2, 5, 9] [0, 1, 3, 4, 6, 7, 8, 10, 11, 12, 13] (va_runV (As := [.int v1]) (rest := [.int r14z.1, .int v1, .ref q_traits]) ⟨hx, hb, hml, hown, hts⟩ (c_X8_primeTraits l dC dI cyI cyJ cyZ N r18z H.size q_Sp q_Tr q_times q_Pr q_prime q_parts q_Tb q_Mk q_traits v1 r14z.2.1 r14z.2.2.1 r14z.2.2.2.1 r14z.2.2.2.2.1 r14z.2.2.2.2.2.2.2.2.1 hr18z) (cwV 1 hts gX8_prepare_X8_primeTraits rfl rfl rfl ⟨rfl, hd_X8_primeTraits⟩ ⟨Nat.le_of_ble_eq_true rfl, Nat.le_of_ble_eq_true rfl⟩) ⟨pC.blind, va_recv hK hPc (ci := 8) (q0 := 1) rfl rfl, pC.pre hPc hG hDc⟩ rfl rfl hl.1 rfl (lv_room (Nat.le_of_ble_eq_true rfl)) dX8_prepare_50 ⟨b19z.1, b19z.2⟩) hP hD hS hA rfl rfl rfl (by decide) (fun x21z u20z H locs hw hP hD hS => ?_)
      obtain rfl := hw.symm
      have hP : va_P (dC, dI) vwCl (wd33 cyI cyJ cyZ q_Sc q_Pr q_Sp q_Tb q_Mk q_Tr u16z q_list q_prime q_times q_parts q_all q_apart q_traits r14z.2.1 r14z.2.2.1 r14z.2.2.2.1 r14z.2.2.2.2.1 r14z.2.2.2.2.2.1 r14z.2.2.2.2.2.2.1 n_list a_list r14z.2.2.2.2.2.2.2.1 r14z.2.2.2.2.2.2.2.2.1 r14z.2.2.2.2.2.2.2.2.2 n_all a_all n_apart a_apart n_traits a_traits) H := hP.sub [0, 1, 11, 2, 3, 12, 4, 5, 6, 13, 7, 8, 9, 10] rfl
      have hD : va_D A (wd33 cyI cyJ cyZ q_Sc q_Pr q_Sp q_Tb q_Mk q_Tr u16z q_list q_prime q_times q_parts q_all q_apart q_traits r14z.2.1 r14z.2.2.1 r14z.2.2.2.1 r14z.2.2.2.2.1 r14z.2.2.2.2.2.1 r14z.2.2.2.2.2.2.1 n_list a_list r14z.2.2.2.2.2.2.2.1 r14z.2.2.2.2.2.2.2.2.1 r14z.2.2.2.2.2.2.2.2.2 n_all a_all n_apart a_apart n_traits a_traits) := hD.sub [0, 1, 11, 2, 3, 12, 4, 5, 6, 13, 7, 8, 9, 10] (by decide) rfl
      refine lv_ior hx hb dX8_prepare_53 ?_
      refine lv_topi (fun y22z ey22z => ?_)
      have h := xl_at h ey22z
      obtain ⟨b23z, h⟩ := xn h
      refine va_iast hx hb hK hP hD hS 13 0 rfl rfl b23z dX8_prepare_54 (fun H locs hP hD hS => ?_)
      have hP : va_P (dC, dI) vwCl (wd33 cyI cyJ cyZ q_Sc q_Pr q_Sp q_Tb q_Mk q_Tr u16z q_list q_prime q_times q_parts q_all q_apart q_traits r14z.2.1 r14z.2.2.1 r14z.2.2.2.1 r14z.2.2.2.2.1 r14z.2.2.2.2.2.1 r14z.2.2.2.2.2.2.1 n_list a_list r14z.2.2.2.2.2.2.2.1 r14z.2.2.2.2.2.2.2.2.1 r14z.2.2.2.2.2.2.2.2.2 n_all a_all n_apart a_apart n_traits (upd a_traits v1.toNatClampNeg y22z)) H := hP
      have hD : va_D A (wd33 cyI cyJ cyZ q_Sc q_Pr q_Sp q_Tb q_Mk q_Tr u16z q_list q_prime q_times q_parts q_all q_apart q_traits r14z.2.1 r14z.2.2.1 r14z.2.2.2.1 r14z.2.2.2.2.1 r14z.2.2.2.2.2.1 r14z.2.2.2.2.2.2.1 n_list a_list r14z.2.2.2.2.2.2.2.1 r14z.2.2.2.2.2.2.2.2.1 r14z.2.2.2.2.2.2.2.2.2 n_all a_all n_apart a_apart n_traits (upd a_traits v1.toNatClampNeg y22z)) := hD
      obtain ⟨y24z, ey24z⟩ : ∃ z : Int32, z = v1 + (1 : Int32) := ⟨_, rfl⟩
      have h := xl_at h ey24z
      refine lv_iinc (v := y24z) (lv' := [(1, .int y24z), (0, .ref q_Tr)]) hx hb dX8_prepare_55 hl (k := 1) rfl (by rw [ey24z]; rfl) (by decide) rfl (fun ls hl => ?_)
      refine lv_goto (tgt := 20) hx hb dX8_prepare_58 (by decide) ?_
      exact ih y24z r14z.2.1 r14z.2.2.1 r14z.2.2.2.1 r14z.2.2.2.2.1 r14z.2.2.2.2.2.1 r14z.2.2.2.2.2.2.1 r14z.2.2.2.2.2.2.2.1 r14z.2.2.2.2.2.2.2.2.1 r14z.2.2.2.2.2.2.2.2.2 (upd a_traits v1.toNatClampNeg y22z) (gc + (if nI n_row = 0 then 1 else 0)) (gs + (if nI n_row = 0 then 50001 else 0)) u16z q_traits h _ _ hP hD hS _ (lv_sub hl [1, 0] rfl)
def f_X8_prepare (N : Nat) (MC : Nat) (MS : Nat) (sp_unlike : Int32) (sp_number : Int64) (sp_partsKept : Int32) (sp_partsNumber : Int64) (n_row : Nat) (a_row : Nat → Int32) (n_list : Nat) (a_list : Nat → Int32) (a_prime : Nat → Int64) (a_times : Nat → Int32) (a_parts : Nat → Int64) (n_all : Nat) (a_all : Nat → Int32) (n_apart : Nat) (a_apart : Nat → Int32) (n_traits : Nat) (a_traits : Nat → Int32) : Option (Int32 × Int64 × Int32 × Int64 × Nat × (Nat → Int32) × (Nat → Int64) × (Nat → Int32) × (Nat → Int64) × Nat × (Nat → Int32)) :=
  if (nI n_traits) ≤ 0 then
    if 0 + 1 ≤ MC ∧ 0 + 5001 ≤ MS then
      l_X8_prepare_20 N MC MS n_list a_list n_all a_all n_apart a_apart 5001 N ((1 : Int32), sp_unlike, sp_number, sp_partsKept, sp_partsNumber, n_row, a_row, a_prime, a_times, a_parts, (fun _ => 0), 0 + 1, 0 + 5001)
    else
      none
  else
    if 0 ≤ MC ∧ 0 ≤ MS then
      some (sp_unlike, sp_number, sp_partsKept, sp_partsNumber, n_row, a_row, a_prime, a_times, a_parts, n_traits, a_traits)
    else
      none
set_option maxRecDepth 100000 in
set_option maxHeartbeats 4000000 in
theorem k_X8_prepare_0 {p : Program} {l : Launch} {e : Env} {s : State} {m : MethodId} {args : Array Value} {below : List Frame} {meth : Method} {c : Code} {dC : Nat → ClassId} {dI : Nat → Nat → Nat} {cyI cyJ cyZ : ClassId} {A : Nat → Prop} (C0 : mC p s m meth c args cX8_prepare none 2 RX8 wsX8_prepare (gK dC dI cyI cyJ cyZ) A) (N : Nat) (MC MS : Nat) (res : Int32 × Int64 × Int32 × Int64 × Nat × (Nat → Int32) × (Nat → Int64) × (Nat → Int32) × (Nat → Int64) × Nat × (Nat → Int32)) (q_Sc : Nat) (q_Pr : Nat) (q_Sp : Nat) (q_Tb : Nat) (q_Mk : Nat) (q_Tr : Nat) (q_list : Nat) (q_prime : Nat) (q_times : Nat) (q_parts : Nat) (q_all : Nat) (q_apart : Nat) (sp_unlike : Int32) (sp_number : Int64) (sp_partsKept : Int32) (sp_partsNumber : Int64) (n_row : Nat) (a_row : Nat → Int32) (n_list : Nat) (a_list : Nat → Int32) (a_prime : Nat → Int64) (a_times : Nat → Int32) (a_parts : Nat → Int64) (n_all : Nat) (a_all : Nat → Int32) (n_apart : Nat) (a_apart : Nat → Int32) (n_traits : Nat) (a_traits : Nat → Int32) (q_row : Nat) (q_traits : Nat) (h : f_X8_prepare N MC MS sp_unlike sp_number sp_partsKept sp_partsNumber n_row a_row n_list a_list a_prime a_times a_parts n_all a_all n_apart a_apart n_traits a_traits = some res) : ∀ (H : Heap) (locs : List Loc), va_P (dC, dI) vwCl (wd33 cyI cyJ cyZ q_Sc q_Pr q_Sp q_Tb q_Mk q_Tr q_row q_list q_prime q_times q_parts q_all q_apart q_traits sp_unlike sp_number sp_partsKept sp_partsNumber n_row a_row n_list a_list a_prime a_times a_parts n_all a_all n_apart a_apart n_traits a_traits) H → va_D A (wd33 cyI cyJ cyZ q_Sc q_Pr q_Sp q_Tb q_Mk q_Tr q_row q_list q_prime q_times q_parts q_all q_apart q_traits sp_unlike sp_number sp_partsKept sp_partsNumber n_row a_row n_list a_list a_prime a_times a_parts n_all a_all n_apart a_apart n_traits a_traits) → va_S A s.heap H locs → ∀ (ls : Array Slot), lv_has ls 2 [(0, .ref q_Tr)] → W p l e (headSpec wsX8_prepare (rm_X8_prepare MC MS)).room s m args below meth c H locs 0 0 (MQ below (va_Qv (fun (_ : Nat × Nat) => True) (bW dC dI (fun (u : Nat × Nat) => (wd33 cyI cyJ cyZ q_Sc q_Pr q_Sp q_Tb q_Mk q_Tr u.1 q_list q_prime q_times q_parts q_all q_apart u.2 res.1 res.2.1 res.2.2.1 res.2.2.2.1 res.2.2.2.2.1 res.2.2.2.2.2.1 n_list a_list res.2.2.2.2.2.2.1 res.2.2.2.2.2.2.2.1 res.2.2.2.2.2.2.2.2.1 n_all a_all n_apart a_apart res.2.2.2.2.2.2.2.2.2.1 res.2.2.2.2.2.2.2.2.2.2)) A) A) args s MC MS A) (F0 m 0 ls []) := by
  obtain ⟨hx, hb, hr, hml, hown, hts, hlocks, hG, hA⟩ := id C0
  have hK := hG.1
  intro H locs hP hD hS ls hl
  unfold f_X8_prepare at h
  refine lv_aload_n hx hb dX8_prepare_0 rfl (lv_at hl 0 rfl) ?_
  refine va_get (D := (dC, dI)) (ci := 8) (v := .ref q_traits) (C := RX8) (T := TX8) (N := 4) hx hb hts iw_X8_prepare_X8 hown hK hP 5 rfl rfl 3 (by decide) (hts (.fieldLink RX8 9 "GoesInto$Traits" "traits" "[I") (List.mem_of_getElem? (i := 1) rfl)) (fun _ h9 => h9) rfl dX8_prepare_1 ?_
  refine va_alen (v := nI n_traits) hx hb hK hP 13 0 rfl rfl rfl dX8_prepare_4 ?_
  refine lv_if_le (tgt := 9) hx hb dX8_prepare_5 (by decide) (fun c1z => ?_) (fun c1z => ?_)
  · have h := xt h c1z
    refine lv_aload_n hx hb dX8_prepare_9 rfl (lv_at hl 0 rfl) ?_
    refine lv_sipush (v := (5001 : Int32)) hx hb dX8_prepare_10 (by decide) ?_
    obtain ⟨b2z, h⟩ := xa h
    refine va_newa (atype := .int) (ty := .int) (N' := 5001) (a0 := (5001, .inl (fun _ => 0))) hx hb (hts (.arrayClass .int) (List.mem_of_getElem? (i := 2) rfl)) rfl hK hP hD hS hA (fun cA => xvc_i cA 5001) (by decide +kernel) (by decide +kernel) (by decide +kernel) b2z.1 b2z.2 dX8_prepare_13 (fun q3z cA H hK9 hP hD hS => ?_)
    obtain rfl := (xcy (Or.inl rfl) 3 0 hK9 rfl rfl).symm
    have hP : va_P (dC, dI) vwCl ((wd33 cyI cyJ cyZ q_Sc q_Pr q_Sp q_Tb q_Mk q_Tr q_row q_list q_prime q_times q_parts q_all q_apart q_traits sp_unlike sp_number sp_partsKept sp_partsNumber n_row a_row n_list a_list a_prime a_times a_parts n_all a_all n_apart a_apart n_traits a_traits) ++ [(q3z, .inl (cyI, 5001, .inl (fun _ => 0)))]) H := hP
    have hD : va_D A ((wd33 cyI cyJ cyZ q_Sc q_Pr q_Sp q_Tb q_Mk q_Tr q_row q_list q_prime q_times q_parts q_all q_apart q_traits sp_unlike sp_number sp_partsKept sp_partsNumber n_row a_row n_list a_list a_prime a_times a_parts n_all a_all n_apart a_apart n_traits a_traits) ++ [(q3z, .inl (cyI, 5001, .inl (fun _ => 0)))]) := hD
    refine va_put (D := (dC, dI)) (ci := 8) (v := .ref q3z) (ty := .array .int) (C := RX8) (T := TX8) (N := 4) hx hb hts iw_X8_prepare_X8 tyX8 tyX8_ok nmX8 hown hK hP hD hS 5 rfl rfl 3 (by decide) (hts (.fieldLink RX8 9 "GoesInto$Traits" "traits" "[I") (List.mem_of_getElem? (i := 1) rfl)) (fun _ h9 => h9) rfl (tyX8_ok 3 (by decide)) rfl rfl (Nat.le_of_ble_eq_true rfl) dX8_prepare_15 (fun H locs hP hD hS => ?_)
    have hP : va_P (dC, dI) vwCl (wd33 cyI cyJ cyZ q_Sc q_Pr q_Sp q_Tb q_Mk q_Tr q_row q_list q_prime q_times q_parts q_all q_apart q3z sp_unlike sp_number sp_partsKept sp_partsNumber n_row a_row n_list a_list a_prime a_times a_parts n_all a_all n_apart a_apart 5001 (fun _ => 0)) H := hP.sub [0, 1, 2, 3, 4, 5, 6, 7, 8, 9, 10, 11, 12, 14] rfl
    have hD : va_D A (wd33 cyI cyJ cyZ q_Sc q_Pr q_Sp q_Tb q_Mk q_Tr q_row q_list q_prime q_times q_parts q_all q_apart q3z sp_unlike sp_number sp_partsKept sp_partsNumber n_row a_row n_list a_list a_prime a_times a_parts n_all a_all n_apart a_apart 5001 (fun _ => 0)) := hD.sub [0, 1, 2, 3, 4, 5, 6, 7, 8, 9, 10, 11, 12, 14] (by decide) rfl
    refine lv_iconst (v := (1 : Int32)) hx hb dX8_prepare_18 (by decide) ?_
    refine lv_istore_n (lv' := [(1, .int (1 : Int32)), (0, .ref q_Tr)]) hx hb dX8_prepare_19 rfl hl (by decide) rfl (fun ls hl => ?_)
    exact k_X8_prepare_20 C0 N MC MS res q_Sc q_Pr q_Sp q_Tb q_Mk q_Tr q_list q_prime q_times q_parts q_all q_apart n_list a_list n_all a_all n_apart a_apart 5001 N (1 : Int32) sp_unlike sp_number sp_partsKept sp_partsNumber n_row a_row a_prime a_times a_parts (fun _ => 0) (0 + 1) (0 + 5001) q_row q3z h _ _ hP hD hS _ (lv_sub hl [1, 0] rfl)
  · have h := xf h c1z
    obtain ⟨b25z, h⟩ := xa h
    refine W.widen (k := MC) (n := MS) b25z.1 b25z.2 ?_
    obtain rfl := Option.some.inj h
    exact W.vret hx hb hr (fun t ht hW => ⟨⟨(q_row, q_traits), rfl, trivial, by rw [ht]; exact hP, hD⟩, hS.F ht⟩) hS.2.2 dX8_prepare_8 hlocks
set_option maxRecDepth 100000 in
set_option maxHeartbeats 4000000 in
theorem c_X8_prepare (l : Launch) (dC : Nat → ClassId) (dI : Nat → Nat → Nat) (cyI cyJ cyZ : ClassId) (N : Nat) (MC MS : Nat) (res : Int32 × Int64 × Int32 × Int64 × Nat × (Nat → Int32) × (Nat → Int64) × (Nat → Int32) × (Nat → Int64) × Nat × (Nat → Int32)) (sz : Nat) (q_Sc : Nat) (q_Pr : Nat) (q_Sp : Nat) (q_Tb : Nat) (q_Mk : Nat) (q_Tr : Nat) (q_row : Nat) (q_list : Nat) (q_prime : Nat) (q_times : Nat) (q_parts : Nat) (q_all : Nat) (q_apart : Nat) (q_traits : Nat) (sp_unlike : Int32) (sp_number : Int64) (sp_partsKept : Int32) (sp_partsNumber : Int64) (n_row : Nat) (a_row : Nat → Int32) (n_list : Nat) (a_list : Nat → Int32) (a_prime : Nat → Int64) (a_times : Nat → Int32) (a_parts : Nat → Int64) (n_all : Nat) (a_all : Nat → Int32) (n_apart : Nat) (a_apart : Nat → Int32) (n_traits : Nat) (a_traits : Nat → Int32) (h : f_X8_prepare N MC MS  sp_unlike sp_number sp_partsKept sp_partsNumber n_row a_row n_list a_list a_prime a_times a_parts n_all a_all n_apart a_apart n_traits a_traits = some res) : Met l yX8_prepare wsX8_prepare (rm_X8_prepare MC MS) (pC dC dI cyI cyJ cyZ [.ref q_Tr] sz (wd33 cyI cyJ cyZ q_Sc q_Pr q_Sp q_Tb q_Mk q_Tr q_row q_list q_prime q_times q_parts q_all q_apart q_traits sp_unlike sp_number sp_partsKept sp_partsNumber n_row a_row n_list a_list a_prime a_times a_parts n_all a_all n_apart a_apart n_traits a_traits)) (va_Qv (fun (_ : Nat × Nat) => True) (bW dC dI (fun (u : Nat × Nat) => (wd33 cyI cyJ cyZ q_Sc q_Pr q_Sp q_Tb q_Mk q_Tr u.1 q_list q_prime q_times q_parts q_all q_apart u.2 res.1 res.2.1 res.2.2.1 res.2.2.2.1 res.2.2.2.2.1 res.2.2.2.2.2.1 n_list a_list res.2.2.2.2.2.2.1 res.2.2.2.2.2.2.2.1 res.2.2.2.2.2.2.2.2.1 n_all a_all n_apart a_apart res.2.2.2.2.2.2.2.2.2.1 res.2.2.2.2.2.2.2.2.2.2)) (va_A (wd33 cyI cyJ cyZ q_Sc q_Pr q_Sp q_Tb q_Mk q_Tr q_row q_list q_prime q_times q_parts q_all q_apart q_traits sp_unlike sp_number sp_partsKept sp_partsNumber n_row a_row n_list a_list a_prime a_times a_parts n_all a_all n_apart a_apart n_traits a_traits) sz)) (va_A (wd33 cyI cyJ cyZ q_Sc q_Pr q_Sp q_Tb q_Mk q_Tr q_row q_list q_prime q_times q_parts q_all q_apart q_traits sp_unlike sp_number sp_partsKept sp_partsNumber n_row a_row n_list a_list a_prime a_times a_parts n_all a_all n_apart a_apart n_traits a_traits) sz)) MC MS (va_A (wd33 cyI cyJ cyZ q_Sc q_Pr q_Sp q_Tb q_Mk q_Tr q_row q_list q_prime q_times q_parts q_all q_apart q_traits sp_unlike sp_number sp_partsKept sp_partsNumber n_row a_row n_list a_list a_prime a_times a_parts n_all a_all n_apart a_apart n_traits a_traits) sz) := by
  refine Met.ofW (cc := cX8_prepare) (maxL := 2) (ret := none) (by decide) rfl ?_
  intro p e s m args below meth c s₁ B hml hv
  obtain ⟨rfl, hsz, hP, hG, hD0⟩ := hv
  have hx := B.exec
  have hb := B.bytes
  have hr := B.returns
  have hts := atoms_spec (ws := wsX8_prepare) B.pre
  have hown : s.vm.findClass RX8 = some m.cls := findClass_of_methodNamed B.named
  have hlocks := B.notSynchronized
  subst hsz
  have hD := hD0.self (sz := s.heap.size)
  generalize hAe : va_A (wd33 cyI cyJ cyZ q_Sc q_Pr q_Sp q_Tb q_Mk q_Tr q_row q_list q_prime q_times q_parts q_all q_apart q_traits sp_unlike sp_number sp_partsKept sp_partsNumber n_row a_row n_list a_list a_prime a_times a_parts n_all a_all n_apart a_apart n_traits a_traits) s.heap.size = A at hD ⊢
  have hA : ∀ q : Nat, s.heap.size ≤ q → A q := fun q h => by rw [← hAe]; exact Or.inr h
  have hS : va_S A s.heap s.heap [] := va_S.rf
  have hl := lv_entry ([.ref q_Tr]) (n := 2) (Nat.le_of_ble_eq_true rfl)
  rw [lg_entry_eq]
  generalize (lg_sl ([.ref q_Tr]) ++ List.replicate (2 - (lg_sl ([.ref q_Tr])).length) Slot.unset).toArray = ls at hl ⊢
  have hl : lv_has ls 2 [(0, .ref q_Tr)] := hl
  exact k_X8_prepare_0 ⟨hx, hb, hr, hml, hown, hts, hlocks, hG, hA⟩ N MC MS res q_Sc q_Pr q_Sp q_Tb q_Mk q_Tr q_list q_prime q_times q_parts q_all q_apart sp_unlike sp_number sp_partsKept sp_partsNumber n_row a_row n_list a_list a_prime a_times a_parts n_all a_all n_apart a_apart n_traits a_traits q_row q_traits h _ _ hP hD hS _ hl
