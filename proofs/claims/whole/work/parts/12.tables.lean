/-- the cells PaI -/
abbrev wd9 (cyI cyJ cyZ : ClassId) (q_PaI : Nat) (n_PaI : Nat) (a_PaI : Nat → Int32) : va_W := [(q_PaI, .inl (cyI, n_PaI, .inl a_PaI))]
abbrev rm_J7_fill_53178 : Room := { frames := 0, cells := 0, slots := 0, locals := 0 }
theorem hd_J7_fill_53178 : yJ7_fill_53178.cls ≠ "java/lang/invoke/MethodHandle" ∧ yJ7_fill_53178.cls ≠ "java/lang/invoke/VarHandle" ∧ (parseMethodDescriptor yJ7_fill_53178.desc).map (fun d => d.parameters.length) = some 2 := by decide +kernel
def s_J7_fill_53178_5 (N : Nat) (v1 : Int32) (v3 : Int32) (n_PaI : Nat) (k_5 : (Int32 × (Nat → Int32)) → Option ((Nat → Int32))) (v2 : Int32) (a_PaI : Nat → Int32) : Option ((Nat → Int32)) :=
  if v3 ≤ v2 then
    some a_PaI
  else
    if v2 < 0 ∨ n_PaI ≤ v2.toNatClampNeg then
      none
    else
      xl (v2 + (1 : Int32)) fun y4z =>
      k_5 (y4z, upd a_PaI v2.toNatClampNeg v1)
def l_J7_fill_53178_5 (N : Nat) (v1 : Int32) (v3 : Int32) (n_PaI : Nat) (n : Nat) (z : Int32 × (Nat → Int32)) : Option ((Nat → Int32)) := lp (fun k z => s_J7_fill_53178_5 N v1 v3 n_PaI k z.1 z.2) n z
set_option maxRecDepth 100000 in
set_option maxHeartbeats 4000000 in
theorem k_J7_fill_53178_5 {p : Program} {l : Launch} {e : Env} {s : State} {m : MethodId} {args : Array Value} {below : List Frame} {meth : Method} {c : Code} {dC : Nat → ClassId} {dI : Nat → Nat → Nat} {cyI cyJ cyZ : ClassId} {A : Nat → Prop} (C0 : mC p s m meth c args cJ7_fill_53178 none 4 RJ7 wsJ7_fill_53178 (gK dC dI cyI cyJ cyZ) A) (N : Nat) (res : (Nat → Int32)) (q_PaI : Nat) (v1 : Int32) (v3 : Int32) (n_PaI : Nat) : ∀ (n : Nat) (v2 : Int32) (a_PaI : Nat → Int32), l_J7_fill_53178_5 N v1 v3 n_PaI n (v2, a_PaI) = some res → ∀ (H : Heap) (locs : List Loc), va_P (dC, dI) vwCl (wd9 cyI cyJ cyZ q_PaI n_PaI a_PaI) H → va_D A (wd9 cyI cyJ cyZ q_PaI n_PaI a_PaI) → va_S A s.heap H locs → ∀ (ls : Array Slot), lv_has ls 4 [(0, .ref q_PaI), (1, .int v1), (2, .int v2), (3, .int v3)] → W p l e (headSpec wsJ7_fill_53178 rm_J7_fill_53178).room s m args below meth c H locs 0 0 (MQ below (va_Qv (fun (_ : Unit) => True) (bW dC dI (fun (u : Unit) => (wd9 cyI cyJ cyZ q_PaI n_PaI res)) A) A) args s 0 0 A) (F0 m 5 ls []) := by
  obtain ⟨hx, hb, hr, hml, hown, hts, hlocks, hG, hA⟩ := id C0
  have hK := hG.1
  intro n
  induction n with
  | zero =>
    intro v2 a_PaI h
    cases h
  | succ n ih =>
    intro v2 a_PaI h H locs hP hD hS ls hl
    have h : s_J7_fill_53178_5 N v1 v3 n_PaI (l_J7_fill_53178_5 N v1 v3 n_PaI n) v2 a_PaI = some res := h
    unfold s_J7_fill_53178_5 at h
    refine lv_iload_n hx hb dJ7_fill_53178_5 rfl (lv_at hl 2 rfl) ?_
    refine lv_iload_n hx hb dJ7_fill_53178_6 rfl (lv_at hl 3 rfl) ?_
    refine lv_icmp_ge (tgt := 20) hx hb dJ7_fill_53178_7 (by decide) (fun c2z => ?_) (fun c2z => ?_)
    · have h := xt h c2z
      obtain rfl := Option.some.inj h
      exact W.vret hx hb hr (fun t ht hW => ⟨⟨(), rfl, trivial, by rw [ht]; exact hP, hD⟩, hS.F ht⟩) hS.2.2 dJ7_fill_53178_20 hlocks
    · have h := xf h c2z
      refine lv_aload_n hx hb dJ7_fill_53178_10 rfl (lv_at hl 0 rfl) ?_
      refine lv_iload_n hx hb dJ7_fill_53178_11 rfl (lv_at hl 2 rfl) ?_
      refine lv_iload_n hx hb dJ7_fill_53178_12 rfl (lv_at hl 1 rfl) ?_
      obtain ⟨b3z, h⟩ := xn h
      refine va_iast hx hb hK hP hD hS 0 0 rfl rfl b3z dJ7_fill_53178_13 (fun H locs hP hD hS => ?_)
      have hP : va_P (dC, dI) vwCl (wd9 cyI cyJ cyZ q_PaI n_PaI (upd a_PaI v2.toNatClampNeg v1)) H := hP
      have hD : va_D A (wd9 cyI cyJ cyZ q_PaI n_PaI (upd a_PaI v2.toNatClampNeg v1)) := hD
      obtain ⟨y4z, ey4z⟩ : ∃ z : Int32, z = v2 + (1 : Int32) := ⟨_, rfl⟩
      have h := xl_at h ey4z
      refine lv_iinc (v := y4z) (lv' := [(2, .int y4z), (0, .ref q_PaI), (1, .int v1), (3, .int v3)]) hx hb dJ7_fill_53178_14 hl (k := 2) rfl (by rw [ey4z]; rfl) (by decide) rfl (fun ls hl => ?_)
      refine lv_goto (tgt := 5) hx hb dJ7_fill_53178_17 (by decide) ?_
      exact ih y4z (upd a_PaI v2.toNatClampNeg v1) h _ _ hP hD hS _ (lv_sub hl [1, 2, 0, 3] rfl)
def f_J7_fill_53178 (N : Nat) (v1 : Int32) (n_PaI : Nat) (a_PaI : Nat → Int32) : Option ((Nat → Int32)) :=
  xl (nI n_PaI) fun y1z =>
  l_J7_fill_53178_5 N v1 y1z n_PaI N ((0 : Int32), a_PaI)
set_option maxRecDepth 100000 in
set_option maxHeartbeats 4000000 in
theorem k_J7_fill_53178_0 {p : Program} {l : Launch} {e : Env} {s : State} {m : MethodId} {args : Array Value} {below : List Frame} {meth : Method} {c : Code} {dC : Nat → ClassId} {dI : Nat → Nat → Nat} {cyI cyJ cyZ : ClassId} {A : Nat → Prop} (C0 : mC p s m meth c args cJ7_fill_53178 none 4 RJ7 wsJ7_fill_53178 (gK dC dI cyI cyJ cyZ) A) (N : Nat) (res : (Nat → Int32)) (q_PaI : Nat) (v1 : Int32) (n_PaI : Nat) (a_PaI : Nat → Int32) (h : f_J7_fill_53178 N v1 n_PaI a_PaI = some res) : ∀ (H : Heap) (locs : List Loc), va_P (dC, dI) vwCl (wd9 cyI cyJ cyZ q_PaI n_PaI a_PaI) H → va_D A (wd9 cyI cyJ cyZ q_PaI n_PaI a_PaI) → va_S A s.heap H locs → ∀ (ls : Array Slot), lv_has ls 4 [(0, .ref q_PaI), (1, .int v1)] → W p l e (headSpec wsJ7_fill_53178 rm_J7_fill_53178).room s m args below meth c H locs 0 0 (MQ below (va_Qv (fun (_ : Unit) => True) (bW dC dI (fun (u : Unit) => (wd9 cyI cyJ cyZ q_PaI n_PaI res)) A) A) args s 0 0 A) (F0 m 0 ls []) := by
  obtain ⟨hx, hb, hr, hml, hown, hts, hlocks, hG, hA⟩ := id C0
  have hK := hG.1
  intro H locs hP hD hS ls hl
  unfold f_J7_fill_53178 at h
  refine lv_iconst (v := (0 : Int32)) hx hb dJ7_fill_53178_0 (by decide) ?_
  refine lv_istore_n (lv' := [(2, .int (0 : Int32)), (0, .ref q_PaI), (1, .int v1)]) hx hb dJ7_fill_53178_1 rfl hl (by decide) rfl (fun ls hl => ?_)
  refine lv_aload_n hx hb dJ7_fill_53178_2 rfl (lv_at hl 1 rfl) ?_
  refine va_alen (v := nI n_PaI) hx hb hK hP 0 0 rfl rfl rfl dJ7_fill_53178_3 ?_
  refine lv_topi (fun y1z ey1z => ?_)
  have h := xl_at h ey1z
  refine lv_istore_n (lv' := [(3, .int y1z), (2, .int (0 : Int32)), (0, .ref q_PaI), (1, .int v1)]) hx hb dJ7_fill_53178_4 rfl hl (by decide) rfl (fun ls hl => ?_)
  exact k_J7_fill_53178_5 C0 N res q_PaI v1 y1z n_PaI N (0 : Int32) a_PaI h _ _ hP hD hS _ (lv_sub hl [2, 3, 1, 0] rfl)
set_option maxRecDepth 100000 in
set_option maxHeartbeats 4000000 in
theorem c_J7_fill_53178 (l : Launch) (dC : Nat → ClassId) (dI : Nat → Nat → Nat) (cyI cyJ cyZ : ClassId) (N : Nat) (res : (Nat → Int32)) (sz : Nat) (q_PaI : Nat) (v1 : Int32) (n_PaI : Nat) (a_PaI : Nat → Int32) (h : f_J7_fill_53178 N v1 n_PaI a_PaI = some res) : Met l yJ7_fill_53178 wsJ7_fill_53178 rm_J7_fill_53178 (pC dC dI cyI cyJ cyZ [.ref q_PaI, .int v1] sz (wd9 cyI cyJ cyZ q_PaI n_PaI a_PaI)) (va_Qv (fun (_ : Unit) => True) (bW dC dI (fun (u : Unit) => (wd9 cyI cyJ cyZ q_PaI n_PaI res)) (va_A (wd9 cyI cyJ cyZ q_PaI n_PaI a_PaI) sz)) (va_A (wd9 cyI cyJ cyZ q_PaI n_PaI a_PaI) sz)) 0 0 (va_A (wd9 cyI cyJ cyZ q_PaI n_PaI a_PaI) sz) := by
  refine Met.ofW (cc := cJ7_fill_53178) (maxL := 4) (ret := none) (by decide) rfl ?_
  intro p e s m args below meth c s₁ B hml hv
  obtain ⟨rfl, hsz, hP, hG, hD0⟩ := hv
  have hx := B.exec
  have hb := B.bytes
  have hr := B.returns
  have hts := atoms_spec (ws := wsJ7_fill_53178) B.pre
  have hown : s.vm.findClass RJ7 = some m.cls := findClass_of_methodNamed B.named
  have hlocks := B.notSynchronized
  subst hsz
  have hD := hD0.self (sz := s.heap.size)
  generalize hAe : va_A (wd9 cyI cyJ cyZ q_PaI n_PaI a_PaI) s.heap.size = A at hD ⊢
  have hA : ∀ q : Nat, s.heap.size ≤ q → A q := fun q h => by rw [← hAe]; exact Or.inr h
  have hS : va_S A s.heap s.heap [] := va_S.rf
  have hl := lv_entry ([.ref q_PaI, .int v1]) (n := 4) (Nat.le_of_ble_eq_true rfl)
  rw [lg_entry_eq]
  generalize (lg_sl ([.ref q_PaI, .int v1]) ++ List.replicate (4 - (lg_sl ([.ref q_PaI, .int v1])).length) Slot.unset).toArray = ls at hl ⊢
  have hl : lv_has ls 4 [(0, .ref q_PaI), (1, .int v1)] := hl
  exact k_J7_fill_53178_0 ⟨hx, hb, hr, hml, hown, hts, hlocks, hG, hA⟩ N res q_PaI v1 n_PaI a_PaI  h _ _ hP hD hS _ hl
/-- the cells Sc, row -/
abbrev wd10 (cyI cyJ cyZ : ClassId) (q_Sc : Nat) (q_row : Nat) (n_row : Nat) (a_row : Nat → Int32) : va_W := [(q_Sc, .inr (4, [.ref q_row])), (q_row, .inl (cyI, n_row, .inl a_row))]
abbrev rm_X4_borrowed (MC MS : Nat) : Room := { frames := 0, cells := MC, slots := MS, locals := 0 }
theorem hd_X4_borrowed : yX4_borrowed.cls ≠ "java/lang/invoke/MethodHandle" ∧ yX4_borrowed.cls ≠ "java/lang/invoke/VarHandle" ∧ (parseMethodDescriptor yX4_borrowed.desc).map (fun d => d.parameters.length) = some 0 := by decide +kernel
theorem iw_X4_borrowed_X4 : ∀ w ∈ wsX40, w ∈ wsX4_borrowed := List.forall_mem_cons.mpr ⟨List.mem_of_getElem? (i := 4) rfl, fun _ h => absurd h List.not_mem_nil⟩
def f_X4_borrowed (N : Nat) (MC : Nat) (MS : Nat) (n_row : Nat) (a_row : Nat → Int32) : Option (Nat × (Nat → Int32)) :=
  if (nI n_row) = 0 then
    if 0 + 1 ≤ MC ∧ 0 + 50001 ≤ MS then
      if 0 + 1 ≤ MC ∧ 0 + 50001 ≤ MS then
        some (50001, (fun _ => 0))
      else
        none
    else
      none
  else
    if 0 ≤ MC ∧ 0 ≤ MS then
      some (n_row, a_row)
    else
      none
set_option maxRecDepth 100000 in
set_option maxHeartbeats 4000000 in
theorem k_X4_borrowed_0 {p : Program} {l : Launch} {e : Env} {s : State} {m : MethodId} {args : Array Value} {below : List Frame} {meth : Method} {c : Code} {dC : Nat → ClassId} {dI : Nat → Nat → Nat} {cyI cyJ cyZ : ClassId} {A : Nat → Prop} (C0 : mC p s m meth c args cX4_borrowed (some (.array .int)) 1 RX4 wsX4_borrowed (gK dC dI cyI cyJ cyZ) A) (N : Nat) (MC MS : Nat) (res : Nat × (Nat → Int32)) (q_Sc : Nat) (n_row : Nat) (a_row : Nat → Int32) (q_row : Nat) (h : f_X4_borrowed N MC MS n_row a_row = some res) : ∀ (H : Heap) (locs : List Loc), va_P (dC, dI) vwCl (wd10 cyI cyJ cyZ q_Sc q_row n_row a_row) H → va_D A (wd10 cyI cyJ cyZ q_Sc q_row n_row a_row) → va_S A s.heap H locs → ∀ (ls : Array Slot), lv_has ls 1 [(0, .ref q_Sc)] → W p l e (headSpec wsX4_borrowed (rm_X4_borrowed MC MS)).room s m args below meth c H locs 0 0 (MQ below (va_Qr (fun (_ : Unit) => True) (bR dC dI (fun (u : Unit) (a : Nat) => (wd10 cyI cyJ cyZ q_Sc a res.1 res.2)) A) A) args s MC MS A) (F0 m 0 ls []) := by
  obtain ⟨hx, hb, hr, hml, hown, hts, hlocks, hG, hA⟩ := id C0
  have hK := hG.1
  intro H locs hP hD hS ls hl
  unfold f_X4_borrowed at h
  refine lv_aload_n hx hb dX4_borrowed_0 rfl (lv_at hl 0 rfl) ?_
  refine va_get (D := (dC, dI)) (ci := 4) (v := .ref q_row) (C := RX4) (T := TX4) (N := 1) hx hb hts iw_X4_borrowed_X4 hown hK hP 0 rfl rfl 0 (by decide) (hts (.fieldLink RX4 9 "GoesInto$Scratch" "row" "[I") (List.mem_of_getElem? (i := 1) rfl)) (fun _ h9 => h9) rfl dX4_borrowed_1 ?_
  refine va_alen (v := nI n_row) hx hb hK hP 1 0 rfl rfl rfl dX4_borrowed_4 ?_
  refine lv_if_ne (tgt := 16) hx hb dX4_borrowed_5 (by decide) (fun c1z => ?_) (fun c1z => ?_)
  · have h := xf h c1z
    refine lv_aload_n hx hb dX4_borrowed_16 rfl (lv_at hl 0 rfl) ?_
    refine va_get (D := (dC, dI)) (ci := 4) (v := .ref q_row) (C := RX4) (T := TX4) (N := 1) hx hb hts iw_X4_borrowed_X4 hown hK hP 0 rfl rfl 0 (by decide) (hts (.fieldLink RX4 9 "GoesInto$Scratch" "row" "[I") (List.mem_of_getElem? (i := 1) rfl)) (fun _ h9 => h9) rfl dX4_borrowed_17 ?_
    obtain ⟨b2z, h⟩ := xa h
    refine W.widen (k := MC) (n := MS) b2z.1 b2z.2 ?_
    obtain rfl := Option.some.inj h
    exact W.aret hx hb hr (Or.inr ⟨_, rfl⟩) (Or.inr ⟨_, rfl⟩) (fun t ht hW => ⟨⟨(), q_row, rfl, trivial, by rw [ht]; exact hP, hD⟩, hS.F ht⟩) hS.2.2 dX4_borrowed_20 hlocks
  · have h := xt h c1z
    refine lv_aload_n hx hb dX4_borrowed_8 rfl (lv_at hl 0 rfl) ?_
    refine lv_ldc (v := (50001 : Int32)) hx hb hown (hts (.constant RX4 15 (50001)) (List.mem_of_getElem? (i := 2) rfl)) dX4_borrowed_9 ?_
    obtain ⟨b3z, h⟩ := xa h
    refine va_newa (atype := .int) (ty := .int) (N' := 50001) (a0 := (50001, .inl (fun _ => 0))) hx hb (hts (.arrayClass .int) (List.mem_of_getElem? (i := 3) rfl)) rfl hK hP hD hS hA (fun cA => xvc_i cA 50001) (by decide +kernel) (by decide +kernel) (by decide +kernel) b3z.1 b3z.2 dX4_borrowed_11 (fun q4z cA H hK9 hP hD hS => ?_)
    obtain rfl := (xcy (Or.inl rfl) 3 0 hK9 rfl rfl).symm
    have hP : va_P (dC, dI) vwCl ((wd10 cyI cyJ cyZ q_Sc q_row n_row a_row) ++ [(q4z, .inl (cyI, 50001, .inl (fun _ => 0)))]) H := hP
    have hD : va_D A ((wd10 cyI cyJ cyZ q_Sc q_row n_row a_row) ++ [(q4z, .inl (cyI, 50001, .inl (fun _ => 0)))]) := hD
    refine va_put (D := (dC, dI)) (ci := 4) (v := .ref q4z) (ty := .array .int) (C := RX4) (T := TX4) (N := 1) hx hb hts iw_X4_borrowed_X4 tyX4 tyX4_ok nmX4 hown hK hP hD hS 0 rfl rfl 0 (by decide) (hts (.fieldLink RX4 9 "GoesInto$Scratch" "row" "[I") (List.mem_of_getElem? (i := 1) rfl)) (fun _ h9 => h9) rfl (tyX4_ok 0 (by decide)) rfl rfl (Nat.le_of_ble_eq_true rfl) dX4_borrowed_13 (fun H locs hP hD hS => ?_)
    have hP : va_P (dC, dI) vwCl (wd10 cyI cyJ cyZ q_Sc q4z 50001 (fun _ => 0)) H := hP.sub [0, 2] rfl
    have hD : va_D A (wd10 cyI cyJ cyZ q_Sc q4z 50001 (fun _ => 0)) := hD.sub [0, 2] (by decide) rfl
    refine lv_aload_n hx hb dX4_borrowed_16 rfl (lv_at hl 0 rfl) ?_
    refine va_get (D := (dC, dI)) (ci := 4) (v := .ref q4z) (C := RX4) (T := TX4) (N := 1) hx hb hts iw_X4_borrowed_X4 hown hK hP 0 rfl rfl 0 (by decide) (hts (.fieldLink RX4 9 "GoesInto$Scratch" "row" "[I") (List.mem_of_getElem? (i := 1) rfl)) (fun _ h9 => h9) rfl dX4_borrowed_17 ?_
    obtain ⟨b5z, h⟩ := xa h
    refine W.widen (k := MC) (n := MS) b5z.1 b5z.2 ?_
    obtain rfl := Option.some.inj h
    exact W.aret hx hb hr (Or.inr ⟨_, rfl⟩) (Or.inr ⟨_, rfl⟩) (fun t ht hW => ⟨⟨(), q4z, rfl, trivial, by rw [ht]; exact hP, hD⟩, hS.F ht⟩) hS.2.2 dX4_borrowed_20 hlocks
set_option maxRecDepth 100000 in
set_option maxHeartbeats 4000000 in
theorem c_X4_borrowed (l : Launch) (dC : Nat → ClassId) (dI : Nat → Nat → Nat) (cyI cyJ cyZ : ClassId) (N : Nat) (MC MS : Nat) (res : Nat × (Nat → Int32)) (sz : Nat) (q_Sc : Nat) (q_row : Nat) (n_row : Nat) (a_row : Nat → Int32) (h : f_X4_borrowed N MC MS  n_row a_row = some res) : Met l yX4_borrowed wsX4_borrowed (rm_X4_borrowed MC MS) (pC dC dI cyI cyJ cyZ [.ref q_Sc] sz (wd10 cyI cyJ cyZ q_Sc q_row n_row a_row)) (va_Qr (fun (_ : Unit) => True) (bR dC dI (fun (u : Unit) (a : Nat) => (wd10 cyI cyJ cyZ q_Sc a res.1 res.2)) (va_A (wd10 cyI cyJ cyZ q_Sc q_row n_row a_row) sz)) (va_A (wd10 cyI cyJ cyZ q_Sc q_row n_row a_row) sz)) MC MS (va_A (wd10 cyI cyJ cyZ q_Sc q_row n_row a_row) sz) := by
  refine Met.ofW (cc := cX4_borrowed) (maxL := 1) (ret := (some (.array .int))) (by decide) rfl ?_
  intro p e s m args below meth c s₁ B hml hv
  obtain ⟨rfl, hsz, hP, hG, hD0⟩ := hv
  have hx := B.exec
  have hb := B.bytes
  have hr := B.returns
  have hts := atoms_spec (ws := wsX4_borrowed) B.pre
  have hown : s.vm.findClass RX4 = some m.cls := findClass_of_methodNamed B.named
  have hlocks := B.notSynchronized
  subst hsz
  have hD := hD0.self (sz := s.heap.size)
  generalize hAe : va_A (wd10 cyI cyJ cyZ q_Sc q_row n_row a_row) s.heap.size = A at hD ⊢
  have hA : ∀ q : Nat, s.heap.size ≤ q → A q := fun q h => by rw [← hAe]; exact Or.inr h
  have hS : va_S A s.heap s.heap [] := va_S.rf
  have hl := lv_entry ([.ref q_Sc]) (n := 1) (Nat.le_of_ble_eq_true rfl)
  rw [lg_entry_eq]
  generalize (lg_sl ([.ref q_Sc]) ++ List.replicate (1 - (lg_sl ([.ref q_Sc])).length) Slot.unset).toArray = ls at hl ⊢
  have hl : lv_has ls 1 [(0, .ref q_Sc)] := hl
  exact k_X4_borrowed_0 ⟨hx, hb, hr, hml, hown, hts, hlocks, hG, hA⟩ N MC MS res q_Sc n_row a_row q_row h _ _ hP hD hS _ hl
abbrev rm_X4_cleared (MC MS : Nat) : Room := { frames := 1, cells := MC, slots := MS, locals := 23 }
theorem hd_X4_cleared : yX4_cleared.cls ≠ "java/lang/invoke/MethodHandle" ∧ yX4_cleared.cls ≠ "java/lang/invoke/VarHandle" ∧ (parseMethodDescriptor yX4_cleared.desc).map (fun d => d.parameters.length) = some 0 := by decide +kernel
theorem iw_X4_cleared_X4 : ∀ w ∈ wsX40, w ∈ wsX4_cleared := List.forall_mem_cons.mpr ⟨List.mem_of_getElem? (i := 13) rfl, fun _ h => absurd h List.not_mem_nil⟩
def f_X4_cleared (N : Nat) (MC : Nat) (MS : Nat) (n_row : Nat) (a_row : Nat → Int32) : Option (Nat × (Nat → Int32)) :=
  if 0 + (if nI n_row = 0 then 1 else 0) ≤ MC ∧ 0 + (if nI n_row = 0 then 50001 else 0) ≤ MS then
    Option.bind (f_X4_borrowed N (if nI n_row = 0 then 1 else 0) (if nI n_row = 0 then 50001 else 0)  n_row a_row) fun r1z =>
    if 0 + (if nI n_row = 0 then 1 else 0) ≤ MC ∧ 0 + (if nI n_row = 0 then 50001 else 0) ≤ MS then
      Option.bind (f_J7_fill_53178 N (0 : Int32) r1z.1 r1z.2) fun r5z =>
      if 0 + (if nI n_row = 0 then 1 else 0) ≤ MC ∧ 0 + (if nI n_row = 0 then 50001 else 0) ≤ MS then
        some (r1z.1, r5z)
      else
        none
    else
      none
  else
    none
set_option maxRecDepth 100000 in
set_option maxHeartbeats 4000000 in
theorem k_X4_cleared_0 {p : Program} {l : Launch} {e : Env} {s : State} {m : MethodId} {args : Array Value} {below : List Frame} {meth : Method} {c : Code} {dC : Nat → ClassId} {dI : Nat → Nat → Nat} {cyI cyJ cyZ : ClassId} {A : Nat → Prop} (C0 : mC p s m meth c args cX4_cleared (some (.array .int)) 2 RX4 wsX4_cleared (gK dC dI cyI cyJ cyZ) A) (N : Nat) (MC MS : Nat) (res : Nat × (Nat → Int32)) (q_Sc : Nat) (n_row : Nat) (a_row : Nat → Int32) (q_row : Nat) (h : f_X4_cleared N MC MS n_row a_row = some res) : ∀ (H : Heap) (locs : List Loc), va_P (dC, dI) vwCl (wd10 cyI cyJ cyZ q_Sc q_row n_row a_row) H → va_D A (wd10 cyI cyJ cyZ q_Sc q_row n_row a_row) → va_S A s.heap H locs → ∀ (ls : Array Slot), lv_has ls 2 [(0, .ref q_Sc)] → W p l e (headSpec wsX4_cleared (rm_X4_cleared MC MS)).room s m args below meth c H locs 0 0 (MQ below (va_Qr (fun (_ : Unit) => True) (bR dC dI (fun (u : Unit) (a : Nat) => (wd10 cyI cyJ cyZ q_Sc a res.1 res.2)) A) A) args s MC MS A) (F0 m 0 ls []) := by
  obtain ⟨hx, hb, hr, hml, hown, hts, hlocks, hG, hA⟩ := id C0
  have hK := hG.1
  intro H locs hP hD hS ls hl
  unfold f_X4_cleared at h
  refine lv_aload_n hx hb dX4_cleared_0 rfl (lv_at hl 0 rfl) ?_
  obtain ⟨b2z, h⟩ := xa h
  obtain ⟨r1z, hr1z, h⟩ := xb_at h
  have hPc := hP.sub (ws' := (wd10 cyI cyJ cyZ q_Sc q_row n_row a_row)) [0, 1] rfl
  have hDc := hD.sub (ws' := (wd10 cyI cyJ cyZ q_Sc q_row n_row a_row)) [0, 1] (by decide) rfl
  refine cal_r [0, 1] [] (va_runV (As := []) (rest := []) ⟨hx, hb, hml, hown, hts⟩ (c_X4_borrowed l dC dI cyI cyJ cyZ N (if nI n_row = 0 then 1 else 0) (if nI n_row = 0 then 50001 else 0) r1z H.size q_Sc q_row  n_row a_row hr1z) (cwV 0 hts gX4_cleared_X4_borrowed rfl rfl rfl ⟨rfl, hd_X4_borrowed⟩ ⟨Nat.le_of_ble_eq_true rfl, Nat.le_of_ble_eq_true rfl⟩) ⟨pC.blind, va_recv hK hPc (ci := 4) (q0 := 0) rfl rfl, pC.pre hPc hG hDc⟩ rfl rfl hl.1 rfl (lv_room (Nat.le_of_ble_eq_true rfl)) dX4_cleared_1 ⟨b2z.1, b2z.2⟩) hP hD hS hA rfl rfl rfl (by decide) (fun x4z u3z H locs _ hP hD hS => ?_)
  have hP : va_P (dC, dI) vwCl (wd10 cyI cyJ cyZ q_Sc x4z r1z.1 r1z.2) H := hP.sub [0, 1] rfl
  have hD : va_D A (wd10 cyI cyJ cyZ q_Sc x4z r1z.1 r1z.2) := hD.sub [0, 1] (by decide) rfl
  refine lv_astore_n (lv' := [(1, .ref x4z), (0, .ref q_Sc)]) hx hb dX4_cleared_4 rfl hl (by decide) rfl (fun ls hl => ?_)
  refine lv_aload_n hx hb dX4_cleared_5 rfl (lv_at hl 0 rfl) ?_
  refine lv_iconst (v := (0 : Int32)) hx hb dX4_cleared_6 (by decide) ?_
  obtain ⟨b6z, h⟩ := xa h
  obtain ⟨r5z, hr5z, h⟩ := xb_at h
  have hPc := hP.sub (ws' := (wd9 cyI cyJ cyZ x4z r1z.1 r1z.2)) [1] rfl
  have hDc := hD.sub (ws' := (wd9 cyI cyJ cyZ x4z r1z.1 r1z.2)) [1] (by decide) rfl
  refine cal_v [1] [0] (va_runS (As := [.ref x4z, .int (0 : Int32)]) (rest := []) ⟨hx, hb, hml, hown, hts⟩ (c_J7_fill_53178 l dC dI cyI cyJ cyZ N r5z H.size x4z (0 : Int32) r1z.1 r1z.2 hr5z) (va_cwS 2 hts gX4_cleared_J7_fill_53178 rfl rfl rfl hd_J7_fill_53178 ⟨Nat.le_of_ble_eq_true rfl, Nat.le_of_ble_eq_true rfl⟩) ⟨pC.blind, pC.pre hPc hG hDc⟩ rfl rfl hl.1 rfl (lv_room (Nat.le_of_ble_eq_true rfl)) dX4_cleared_7 ⟨b6z.1, b6z.2⟩) hP hD hS hA rfl rfl rfl (by decide) (fun u7z H locs _ hP hD hS => ?_)
  have hP : va_P (dC, dI) vwCl (wd10 cyI cyJ cyZ q_Sc x4z r1z.1 r5z) H := hP.sub [0, 1] rfl
  have hD : va_D A (wd10 cyI cyJ cyZ q_Sc x4z r1z.1 r5z) := hD.sub [0, 1] (by decide) rfl
  refine lv_aload_n hx hb dX4_cleared_10 rfl (lv_at hl 0 rfl) ?_
  obtain ⟨b9z, h⟩ := xa h
  refine W.widen (k := MC) (n := MS) b9z.1 b9z.2 ?_
  obtain rfl := Option.some.inj h
  exact W.aret hx hb hr (Or.inr ⟨_, rfl⟩) (Or.inr ⟨_, rfl⟩) (fun t ht hW => ⟨⟨(), x4z, rfl, trivial, by rw [ht]; exact hP, hD⟩, hS.F ht⟩) hS.2.2 dX4_cleared_11 hlocks
set_option maxRecDepth 100000 in
set_option maxHeartbeats 4000000 in
theorem c_X4_cleared (l : Launch) (dC : Nat → ClassId) (dI : Nat → Nat → Nat) (cyI cyJ cyZ : ClassId) (N : Nat) (MC MS : Nat) (res : Nat × (Nat → Int32)) (sz : Nat) (q_Sc : Nat) (q_row : Nat) (n_row : Nat) (a_row : Nat → Int32) (h : f_X4_cleared N MC MS  n_row a_row = some res) : Met l yX4_cleared wsX4_cleared (rm_X4_cleared MC MS) (pC dC dI cyI cyJ cyZ [.ref q_Sc] sz (wd10 cyI cyJ cyZ q_Sc q_row n_row a_row)) (va_Qr (fun (_ : Unit) => True) (bR dC dI (fun (u : Unit) (a : Nat) => (wd10 cyI cyJ cyZ q_Sc a res.1 res.2)) (va_A (wd10 cyI cyJ cyZ q_Sc q_row n_row a_row) sz)) (va_A (wd10 cyI cyJ cyZ q_Sc q_row n_row a_row) sz)) MC MS (va_A (wd10 cyI cyJ cyZ q_Sc q_row n_row a_row) sz) := by
  refine Met.ofW (cc := cX4_cleared) (maxL := 2) (ret := (some (.array .int))) (by decide) rfl ?_
  intro p e s m args below meth c s₁ B hml hv
  obtain ⟨rfl, hsz, hP, hG, hD0⟩ := hv
  have hx := B.exec
  have hb := B.bytes
  have hr := B.returns
  have hts := atoms_spec (ws := wsX4_cleared) B.pre
  have hown : s.vm.findClass RX4 = some m.cls := findClass_of_methodNamed B.named
  have hlocks := B.notSynchronized
  subst hsz
  have hD := hD0.self (sz := s.heap.size)
  generalize hAe : va_A (wd10 cyI cyJ cyZ q_Sc q_row n_row a_row) s.heap.size = A at hD ⊢
  have hA : ∀ q : Nat, s.heap.size ≤ q → A q := fun q h => by rw [← hAe]; exact Or.inr h
  have hS : va_S A s.heap s.heap [] := va_S.rf
  have hl := lv_entry ([.ref q_Sc]) (n := 2) (Nat.le_of_ble_eq_true rfl)
  rw [lg_entry_eq]
  generalize (lg_sl ([.ref q_Sc]) ++ List.replicate (2 - (lg_sl ([.ref q_Sc])).length) Slot.unset).toArray = ls at hl ⊢
  have hl : lv_has ls 2 [(0, .ref q_Sc)] := hl
  exact k_X4_cleared_0 ⟨hx, hb, hr, hml, hown, hts, hlocks, hG, hA⟩ N MC MS res q_Sc n_row a_row q_row h _ _ hP hD hS _ hl
abbrev rm_X3_crossMultiples : Room := { frames := 0, cells := 0, slots := 0, locals := 0 }
theorem hd_X3_crossMultiples : yX3_crossMultiples.cls ≠ "java/lang/invoke/MethodHandle" ∧ yX3_crossMultiples.cls ≠ "java/lang/invoke/VarHandle" ∧ (parseMethodDescriptor yX3_crossMultiples.desc).map (fun d => d.parameters.length) = some 2 := by decide +kernel
def s_X3_crossMultiples_19 (N : Nat) (v1 : Int32) (n_PaI : Nat) (k_19 : (Int32 × (Nat → Int32)) → Option ((Nat → Int32))) (v2 : Int32) (a_PaI : Nat → Int32) : Option ((Nat → Int32)) :=
  if (50000 : Int32) ≤ v2 then
    some a_PaI
  else
    if (nI n_PaI) ≤ v2 then
      some a_PaI
    else
      if v2 < 0 ∨ n_PaI ≤ v2.toNatClampNeg then
        none
      else
        xl (v2 + v1) fun y7z =>
        k_19 (y7z, upd a_PaI v2.toNatClampNeg (1 : Int32))
def l_X3_crossMultiples_19 (N : Nat) (v1 : Int32) (n_PaI : Nat) (n : Nat) (z : Int32 × (Nat → Int32)) : Option ((Nat → Int32)) := lp (fun k z => s_X3_crossMultiples_19 N v1 n_PaI k z.1 z.2) n z
set_option maxRecDepth 100000 in
set_option maxHeartbeats 4000000 in
theorem k_X3_crossMultiples_19 {p : Program} {l : Launch} {e : Env} {s : State} {m : MethodId} {args : Array Value} {below : List Frame} {meth : Method} {c : Code} {dC : Nat → ClassId} {dI : Nat → Nat → Nat} {cyI cyJ cyZ : ClassId} {A : Nat → Prop} (C0 : mC p s m meth c args cX3_crossMultiples none 3 RX3 wsX3_crossMultiples (gK dC dI cyI cyJ cyZ) A) (N : Nat) (res : (Nat → Int32)) (q_PaI : Nat) (v1 : Int32) (n_PaI : Nat) : ∀ (n : Nat) (v2 : Int32) (a_PaI : Nat → Int32), l_X3_crossMultiples_19 N v1 n_PaI n (v2, a_PaI) = some res → ∀ (H : Heap) (locs : List Loc), va_P (dC, dI) vwCl (wd9 cyI cyJ cyZ q_PaI n_PaI a_PaI) H → va_D A (wd9 cyI cyJ cyZ q_PaI n_PaI a_PaI) → va_S A s.heap H locs → ∀ (ls : Array Slot), lv_has ls 3 [(0, .ref q_PaI), (1, .int v1), (2, .int v2)] → W p l e (headSpec wsX3_crossMultiples rm_X3_crossMultiples).room s m args below meth c H locs 0 0 (MQ below (va_Qv (fun (_ : Unit) => True) (bW dC dI (fun (u : Unit) => (wd9 cyI cyJ cyZ q_PaI n_PaI res)) A) A) args s 0 0 A) (F0 m 19 ls []) := by
  obtain ⟨hx, hb, hr, hml, hown, hts, hlocks, hG, hA⟩ := id C0
  have hK := hG.1
  intro n
  induction n with
  | zero =>
    intro v2 a_PaI h
    cases h
  | succ n ih =>
    intro v2 a_PaI h H locs hP hD hS ls hl
    have h : s_X3_crossMultiples_19 N v1 n_PaI (l_X3_crossMultiples_19 N v1 n_PaI n) v2 a_PaI = some res := h
    unfold s_X3_crossMultiples_19 at h
    refine lv_iload_n hx hb dX3_crossMultiples_19 rfl (lv_at hl 2 rfl) ?_
    refine lv_ldc (v := (50000 : Int32)) hx hb hown (hts (.constant RX3 23 (50000)) (List.mem_of_getElem? (i := 1) rfl)) dX3_crossMultiples_20 ?_
    refine lv_icmp_ge (tgt := 42) hx hb dX3_crossMultiples_22 (by decide) (fun c4z => ?_) (fun c4z => ?_)
    · have h := xt h c4z
      obtain rfl := Option.some.inj h
      exact W.vret hx hb hr (fun t ht hW => ⟨⟨(), rfl, trivial, by rw [ht]; exact hP, hD⟩, hS.F ht⟩) hS.2.2 dX3_crossMultiples_42 hlocks
    · have h := xf h c4z
      refine lv_iload_n hx hb dX3_crossMultiples_25 rfl (lv_at hl 2 rfl) ?_
      refine lv_aload_n hx hb dX3_crossMultiples_26 rfl (lv_at hl 0 rfl) ?_
      refine va_alen (v := nI n_PaI) hx hb hK hP 0 0 rfl rfl rfl dX3_crossMultiples_27 ?_
      refine lv_icmp_ge (tgt := 42) hx hb dX3_crossMultiples_28 (by decide) (fun c5z => ?_) (fun c5z => ?_)
      · have h := xt h c5z
        obtain rfl := Option.some.inj h
        exact W.vret hx hb hr (fun t ht hW => ⟨⟨(), rfl, trivial, by rw [ht]; exact hP, hD⟩, hS.F ht⟩) hS.2.2 dX3_crossMultiples_42 hlocks
      · have h := xf h c5z
        refine lv_aload_n hx hb dX3_crossMultiples_31 rfl (lv_at hl 0 rfl) ?_
        refine lv_iload_n hx hb dX3_crossMultiples_32 rfl (lv_at hl 2 rfl) ?_
        refine lv_iconst (v := (1 : Int32)) hx hb dX3_crossMultiples_33 (by decide) ?_
        obtain ⟨b6z, h⟩ := xn h
        refine va_iast hx hb hK hP hD hS 0 0 rfl rfl b6z dX3_crossMultiples_34 (fun H locs hP hD hS => ?_)
        have hP : va_P (dC, dI) vwCl (wd9 cyI cyJ cyZ q_PaI n_PaI (upd a_PaI v2.toNatClampNeg (1 : Int32))) H := hP
        have hD : va_D A (wd9 cyI cyJ cyZ q_PaI n_PaI (upd a_PaI v2.toNatClampNeg (1 : Int32))) := hD
        refine lv_iload_n hx hb dX3_crossMultiples_35 rfl (lv_at hl 2 rfl) ?_
        refine lv_iload_n hx hb dX3_crossMultiples_36 rfl (lv_at hl 1 rfl) ?_
        refine lv_iadd hx hb dX3_crossMultiples_37 ?_
        refine lv_topi (fun y7z ey7z => ?_)
        have h := xl_at h ey7z
        refine lv_istore_n (lv' := [(2, .int y7z), (0, .ref q_PaI), (1, .int v1)]) hx hb dX3_crossMultiples_38 rfl hl (by decide) rfl (fun ls hl => ?_)
        refine lv_goto (tgt := 19) hx hb dX3_crossMultiples_39 (by decide) ?_
        exact ih y7z (upd a_PaI v2.toNatClampNeg (1 : Int32)) h _ _ hP hD hS _ (lv_sub hl [1, 2, 0] rfl)
def f_X3_crossMultiples (N : Nat) (v1 : Int32) (n_PaI : Nat) (a_PaI : Nat → Int32) : Option ((Nat → Int32)) :=
  if v1 < (3 : Int32) then
    some a_PaI
  else
    if v1 ≤ (400 : Int32) then
      xl ((v1 * v1) / (2 : Int32)) fun y3z =>
      l_X3_crossMultiples_19 N v1 n_PaI N (y3z, a_PaI)
    else
      some a_PaI
set_option maxRecDepth 100000 in
set_option maxHeartbeats 4000000 in
theorem k_X3_crossMultiples_0 {p : Program} {l : Launch} {e : Env} {s : State} {m : MethodId} {args : Array Value} {below : List Frame} {meth : Method} {c : Code} {dC : Nat → ClassId} {dI : Nat → Nat → Nat} {cyI cyJ cyZ : ClassId} {A : Nat → Prop} (C0 : mC p s m meth c args cX3_crossMultiples none 3 RX3 wsX3_crossMultiples (gK dC dI cyI cyJ cyZ) A) (N : Nat) (res : (Nat → Int32)) (q_PaI : Nat) (v1 : Int32) (n_PaI : Nat) (a_PaI : Nat → Int32) (h : f_X3_crossMultiples N v1 n_PaI a_PaI = some res) : ∀ (H : Heap) (locs : List Loc), va_P (dC, dI) vwCl (wd9 cyI cyJ cyZ q_PaI n_PaI a_PaI) H → va_D A (wd9 cyI cyJ cyZ q_PaI n_PaI a_PaI) → va_S A s.heap H locs → ∀ (ls : Array Slot), lv_has ls 3 [(0, .ref q_PaI), (1, .int v1)] → W p l e (headSpec wsX3_crossMultiples rm_X3_crossMultiples).room s m args below meth c H locs 0 0 (MQ below (va_Qv (fun (_ : Unit) => True) (bW dC dI (fun (u : Unit) => (wd9 cyI cyJ cyZ q_PaI n_PaI res)) A) A) args s 0 0 A) (F0 m 0 ls []) := by
  obtain ⟨hx, hb, hr, hml, hown, hts, hlocks, hG, hA⟩ := id C0
  have hK := hG.1
  intro H locs hP hD hS ls hl
  unfold f_X3_crossMultiples at h
  refine lv_iload_n hx hb dX3_crossMultiples_0 rfl (lv_at hl 1 rfl) ?_
  refine lv_iconst (v := (3 : Int32)) hx hb dX3_crossMultiples_1 (by decide) ?_
  refine lv_icmp_lt (tgt := 12) hx hb dX3_crossMultiples_2 (by decide) (fun c1z => ?_) (fun c1z => ?_)
  · have h := xt h c1z
    obtain rfl := Option.some.inj h
    exact W.vret hx hb hr (fun t ht hW => ⟨⟨(), rfl, trivial, by rw [ht]; exact hP, hD⟩, hS.F ht⟩) hS.2.2 dX3_crossMultiples_12 hlocks
  · have h := xf h c1z
    refine lv_iload_n hx hb dX3_crossMultiples_5 rfl (lv_at hl 1 rfl) ?_
    refine lv_sipush (v := (400 : Int32)) hx hb dX3_crossMultiples_6 (by decide) ?_
    refine lv_icmp_le (tgt := 13) hx hb dX3_crossMultiples_9 (by decide) (fun c2z => ?_) (fun c2z => ?_)
    · have h := xt h c2z
      refine lv_iload_n hx hb dX3_crossMultiples_13 rfl (lv_at hl 1 rfl) ?_
      refine lv_iload_n hx hb dX3_crossMultiples_14 rfl (lv_at hl 1 rfl) ?_
      refine lv_imul hx hb dX3_crossMultiples_15 ?_
      refine lv_iconst (v := (2 : Int32)) hx hb dX3_crossMultiples_16 (by decide) ?_
      refine lv_idiv hx hb dX3_crossMultiples_17 (by decide) ?_
      refine lv_topi (fun y3z ey3z => ?_)
      have h := xl_at h ey3z
      refine lv_istore_n (lv' := [(2, .int y3z), (0, .ref q_PaI), (1, .int v1)]) hx hb dX3_crossMultiples_18 rfl hl (by decide) rfl (fun ls hl => ?_)
      exact k_X3_crossMultiples_19 C0 N res q_PaI v1 n_PaI N y3z a_PaI h _ _ hP hD hS _ (lv_sub hl [1, 2, 0] rfl)
    · have h := xf h c2z
      obtain rfl := Option.some.inj h
      exact W.vret hx hb hr (fun t ht hW => ⟨⟨(), rfl, trivial, by rw [ht]; exact hP, hD⟩, hS.F ht⟩) hS.2.2 dX3_crossMultiples_12 hlocks
set_option maxRecDepth 100000 in
set_option maxHeartbeats 4000000 in
theorem c_X3_crossMultiples (l : Launch) (dC : Nat → ClassId) (dI : Nat → Nat → Nat) (cyI cyJ cyZ : ClassId) (N : Nat) (res : (Nat → Int32)) (sz : Nat) (q_PaI : Nat) (v1 : Int32) (n_PaI : Nat) (a_PaI : Nat → Int32) (h : f_X3_crossMultiples N v1 n_PaI a_PaI = some res) : Met l yX3_crossMultiples wsX3_crossMultiples rm_X3_crossMultiples (pC dC dI cyI cyJ cyZ [.ref q_PaI, .int v1] sz (wd9 cyI cyJ cyZ q_PaI n_PaI a_PaI)) (va_Qv (fun (_ : Unit) => True) (bW dC dI (fun (u : Unit) => (wd9 cyI cyJ cyZ q_PaI n_PaI res)) (va_A (wd9 cyI cyJ cyZ q_PaI n_PaI a_PaI) sz)) (va_A (wd9 cyI cyJ cyZ q_PaI n_PaI a_PaI) sz)) 0 0 (va_A (wd9 cyI cyJ cyZ q_PaI n_PaI a_PaI) sz) := by
  refine Met.ofW (cc := cX3_crossMultiples) (maxL := 3) (ret := none) (by decide) rfl ?_
  intro p e s m args below meth c s₁ B hml hv
  obtain ⟨rfl, hsz, hP, hG, hD0⟩ := hv
  have hx := B.exec
  have hb := B.bytes
  have hr := B.returns
  have hts := atoms_spec (ws := wsX3_crossMultiples) B.pre
  have hown : s.vm.findClass RX3 = some m.cls := findClass_of_methodNamed B.named
  have hlocks := B.notSynchronized
  subst hsz
  have hD := hD0.self (sz := s.heap.size)
  generalize hAe : va_A (wd9 cyI cyJ cyZ q_PaI n_PaI a_PaI) s.heap.size = A at hD ⊢
  have hA : ∀ q : Nat, s.heap.size ≤ q → A q := fun q h => by rw [← hAe]; exact Or.inr h
  have hS : va_S A s.heap s.heap [] := va_S.rf
  have hl := lv_entry ([.ref q_PaI, .int v1]) (n := 3) (Nat.le_of_ble_eq_true rfl)
  rw [lg_entry_eq]
  generalize (lg_sl ([.ref q_PaI, .int v1]) ++ List.replicate (3 - (lg_sl ([.ref q_PaI, .int v1])).length) Slot.unset).toArray = ls at hl ⊢
  have hl : lv_has ls 3 [(0, .ref q_PaI), (1, .int v1)] := hl
  exact k_X3_crossMultiples_0 ⟨hx, hb, hr, hml, hown, hts, hlocks, hG, hA⟩ N res q_PaI v1 n_PaI a_PaI  h _ _ hP hD hS _ hl
/-- the cells Sc, Pr, row, list -/
abbrev wd11 (cyI cyJ cyZ : ClassId) (q_Sc : Nat) (q_Pr : Nat) (q_row : Nat) (q_list : Nat) (n_row : Nat) (a_row : Nat → Int32) (n_list : Nat) (a_list : Nat → Int32) : va_W := [(q_Sc, .inr (4, [.ref q_row])), (q_Pr, .inr (3, [.ref q_Sc, .ref q_list])), (q_row, .inl (cyI, n_row, .inl a_row)), (q_list, .inl (cyI, n_list, .inl a_list))]
abbrev rm_X3_prepare (MC MS : Nat) : Room := { frames := 2, cells := MC, slots := MS, locals := 44 }
theorem hd_X3_prepare : yX3_prepare.cls ≠ "java/lang/invoke/MethodHandle" ∧ yX3_prepare.cls ≠ "java/lang/invoke/VarHandle" ∧ (parseMethodDescriptor yX3_prepare.desc).map (fun d => d.parameters.length) = some 0 := by decide +kernel
theorem iw_X3_prepare_X4 : ∀ w ∈ wsX40, w ∈ wsX3_prepare := List.forall_mem_cons.mpr ⟨List.mem_of_getElem? (i := 26) rfl, fun _ h => absurd h List.not_mem_nil⟩
theorem iw_X3_prepare_X3 : ∀ w ∈ wsX30, w ∈ wsX3_prepare := List.forall_mem_cons.mpr ⟨List.mem_of_getElem? (i := 24) rfl, List.forall_mem_cons.mpr ⟨List.mem_of_getElem? (i := 25) rfl, fun _ h => absurd h List.not_mem_nil⟩⟩
def s_X3_prepare_37 (N : Nat) (MC : Nat) (MS : Nat) (n_row : Nat) (n_list : Nat) (gc : Nat) (gs : Nat) (k_37 : (Int32 × Int32 × (Nat → Int32) × (Nat → Int32)) → Option (Nat × (Nat → Int32) × Nat × (Nat → Int32))) (v2 : Int32) (v3 : Int32) (a_row : Nat → Int32) (a_list : Nat → Int32) : Option (Nat × (Nat → Int32) × Nat × (Nat → Int32)) :=
  if (50000 : Int32) ≤ v3 then
    if gc ≤ MC ∧ gs ≤ MS then
      some (n_row, a_row, n_list, a_list)
    else
      none
  else
    if (nI n_row) ≤ v3 then
      if gc ≤ MC ∧ gs ≤ MS then
        some (n_row, a_row, n_list, a_list)
      else
        none
    else
      if (nI n_list) ≤ v2 then
        if gc ≤ MC ∧ gs ≤ MS then
          some (n_row, a_row, n_list, a_list)
        else
          none
      else
        if v3 < 0 ∨ n_row ≤ v3.toNatClampNeg then
          none
        else
          if (a_row v3.toNatClampNeg) = 0 then
            xl (((2 : Int32) * v3) + (1 : Int32)) fun y18z =>
            if v2 < 0 ∨ n_list ≤ v2.toNatClampNeg then
              none
            else
              xl (v2 + (1 : Int32)) fun y20z =>
              if gc ≤ MC ∧ gs ≤ MS then
                Option.bind (f_X3_crossMultiples N y18z n_row a_row) fun r21z =>
                xl (v3 + (1 : Int32)) fun y25z =>
                k_37 (y20z, y25z, r21z, upd a_list v2.toNatClampNeg y18z)
              else
                none
          else
            xl (v3 + (1 : Int32)) fun y17z =>
            k_37 (v2, y17z, a_row, a_list)
def l_X3_prepare_37 (N : Nat) (MC : Nat) (MS : Nat) (n_row : Nat) (n_list : Nat) (gc : Nat) (gs : Nat) (n : Nat) (z : Int32 × Int32 × (Nat → Int32) × (Nat → Int32)) : Option (Nat × (Nat → Int32) × Nat × (Nat → Int32)) := lp (fun k z => s_X3_prepare_37 N MC MS n_row n_list gc gs k z.1 z.2.1 z.2.2.1 z.2.2.2) n z
set_option maxRecDepth 100000 in
set_option maxHeartbeats 4000000 in
theorem k_X3_prepare_37 {p : Program} {l : Launch} {e : Env} {s : State} {m : MethodId} {args : Array Value} {below : List Frame} {meth : Method} {c : Code} {dC : Nat → ClassId} {dI : Nat → Nat → Nat} {cyI cyJ cyZ : ClassId} {A : Nat → Prop} (C0 : mC p s m meth c args cX3_prepare none 5 RX3 wsX3_prepare (gK dC dI cyI cyJ cyZ) A) (N : Nat) (MC MS : Nat) (res : Nat × (Nat → Int32) × Nat × (Nat → Int32)) (q_Sc : Nat) (q_Pr : Nat) (n_row : Nat) (n_list : Nat) (gc : Nat) (gs : Nat) : ∀ (n : Nat) (v2 : Int32) (v3 : Int32) (a_row : Nat → Int32) (a_list : Nat → Int32) (q_row : Nat) (q_list : Nat), l_X3_prepare_37 N MC MS n_row n_list gc gs n (v2, v3, a_row, a_list) = some res → ∀ (H : Heap) (locs : List Loc), va_P (dC, dI) vwCl (wd11 cyI cyJ cyZ q_Sc q_Pr q_row q_list n_row a_row n_list a_list) H → va_D A (wd11 cyI cyJ cyZ q_Sc q_Pr q_row q_list n_row a_row n_list a_list) → va_S A s.heap H locs → ∀ (ls : Array Slot), lv_has ls 5 [(0, .ref q_Pr), (1, .ref q_row), (2, .int v2), (3, .int v3)] → W p l e (headSpec wsX3_prepare (rm_X3_prepare MC MS)).room s m args below meth c H locs gc gs (MQ below (va_Qv (fun (_ : Nat × Nat) => True) (bW dC dI (fun (u : Nat × Nat) => (wd11 cyI cyJ cyZ q_Sc q_Pr u.1 u.2 res.1 res.2.1 res.2.2.1 res.2.2.2)) A) A) args s MC MS A) (F0 m 37 ls []) := by
  obtain ⟨hx, hb, hr, hml, hown, hts, hlocks, hG, hA⟩ := id C0
  have hK := hG.1
  intro n
  induction n with
  | zero =>
    intro v2 v3 a_row a_list q_row q_list h
    cases h
  | succ n ih =>
    intro v2 v3 a_row a_list q_row q_list h H locs hP hD hS ls hl
    have h : s_X3_prepare_37 N MC MS n_row n_list gc gs (l_X3_prepare_37 N MC MS n_row n_list gc gs n) v2 v3 a_row a_list = some res := h
    unfold s_X3_prepare_37 at h
    refine lv_iload_n hx hb dX3_prepare_37 rfl (lv_at hl 3 rfl) ?_
    refine lv_ldc (v := (50000 : Int32)) hx hb hown (hts (.constant RX3 23 (50000)) (List.mem_of_getElem? (i := 4) rfl)) dX3_prepare_38 ?_
    refine lv_icmp_ge (tgt := 94) hx hb dX3_prepare_40 (by decide) (fun c9z => ?_) (fun c9z => ?_)
    · have h := xt h c9z
      obtain ⟨b10z, h⟩ := xa h
      refine W.widen (k := MC) (n := MS) b10z.1 b10z.2 ?_
      obtain rfl := Option.some.inj h
      exact W.vret hx hb hr (fun t ht hW => ⟨⟨(q_row, q_list), rfl, trivial, by rw [ht]; exact hP, hD⟩, hS.F ht⟩) hS.2.2 dX3_prepare_94 hlocks
    · have h := xf h c9z
      refine lv_iload_n hx hb dX3_prepare_43 rfl (lv_at hl 3 rfl) ?_
      refine lv_aload_n hx hb dX3_prepare_44 rfl (lv_at hl 1 rfl) ?_
      refine va_alen (v := nI n_row) hx hb hK hP 2 0 rfl rfl rfl dX3_prepare_45 ?_
      refine lv_icmp_ge (tgt := 94) hx hb dX3_prepare_46 (by decide) (fun c11z => ?_) (fun c11z => ?_)
      · have h := xt h c11z
        obtain ⟨b12z, h⟩ := xa h
        refine W.widen (k := MC) (n := MS) b12z.1 b12z.2 ?_
        obtain rfl := Option.some.inj h
        exact W.vret hx hb hr (fun t ht hW => ⟨⟨(q_row, q_list), rfl, trivial, by rw [ht]; exact hP, hD⟩, hS.F ht⟩) hS.2.2 dX3_prepare_94 hlocks
      · have h := xf h c11z
        refine lv_iload_n hx hb dX3_prepare_49 rfl (lv_at hl 2 rfl) ?_
        refine lv_aload_n hx hb dX3_prepare_50 rfl (lv_at hl 0 rfl) ?_
        refine va_get (D := (dC, dI)) (ci := 3) (v := .ref q_list) (C := RX3) (T := TX3) (N := 2) hx hb hts iw_X3_prepare_X3 hown hK hP 1 rfl rfl 1 (by decide) (hts (.fieldLink RX3 7 "GoesInto$Primes" "list" "[I") (List.mem_of_getElem? (i := 1) rfl)) (fun _ h9 => h9) rfl dX3_prepare_51 ?_
        refine va_alen (v := nI n_list) hx hb hK hP 3 0 rfl rfl rfl dX3_prepare_54 ?_
        refine lv_icmp_ge (tgt := 94) hx hb dX3_prepare_55 (by decide) (fun c13z => ?_) (fun c13z => ?_)
        · have h := xt h c13z
          obtain ⟨b14z, h⟩ := xa h
          refine W.widen (k := MC) (n := MS) b14z.1 b14z.2 ?_
          obtain rfl := Option.some.inj h
          exact W.vret hx hb hr (fun t ht hW => ⟨⟨(q_row, q_list), rfl, trivial, by rw [ht]; exact hP, hD⟩, hS.F ht⟩) hS.2.2 dX3_prepare_94 hlocks
        · have h := xf h c13z
          refine lv_aload_n hx hb dX3_prepare_58 rfl (lv_at hl 1 rfl) ?_
          refine lv_iload_n hx hb dX3_prepare_59 rfl (lv_at hl 3 rfl) ?_
          obtain ⟨b15z, h⟩ := xn h
          refine va_iald hx hb hK hP 2 0 rfl rfl b15z dX3_prepare_60 ?_
          refine lv_if_ne (tgt := 88) hx hb dX3_prepare_61 (by decide) (fun c16z => ?_) (fun c16z => ?_)
          · have h := xf h c16z
            obtain ⟨y17z, ey17z⟩ : ∃ z : Int32, z = v3 + (1 : Int32) := ⟨_, rfl⟩
            have h := xl_at h ey17z
            refine lv_iinc (v := y17z) (lv' := [(3, .int y17z), (0, .ref q_Pr), (1, .ref q_row), (2, .int v2)]) hx hb dX3_prepare_88 hl (k := 3) rfl (by rw [ey17z]; rfl) (by decide) rfl (fun ls hl => ?_)
            refine lv_goto (tgt := 37) hx hb dX3_prepare_91 (by decide) ?_
            exact ih v2 y17z a_row a_list q_row q_list h _ _ hP hD hS _ (lv_sub hl [1, 2, 3, 0] rfl)
          · have h := xt h c16z
            refine lv_iconst (v := (2 : Int32)) hx hb dX3_prepare_64 (by decide) ?_
            refine lv_iload_n hx hb dX3_prepare_65 rfl (lv_at hl 3 rfl) ?_
            refine lv_imul hx hb dX3_prepare_66 ?_
            refine lv_iconst (v := (1 : Int32)) hx hb dX3_prepare_67 (by decide) ?_
            refine lv_iadd hx hb dX3_prepare_68 ?_
            refine lv_topi (fun y18z ey18z => ?_)
            have h := xl_at h ey18z
            refine lv_istore (lv' := [(4, .int y18z), (0, .ref q_Pr), (1, .ref q_row), (2, .int v2), (3, .int v3)]) hx hb dX3_prepare_69 hl (by decide) rfl (fun ls hl => ?_)
            refine lv_aload_n hx hb dX3_prepare_71 rfl (lv_at hl 1 rfl) ?_
            refine va_get (D := (dC, dI)) (ci := 3) (v := .ref q_list) (C := RX3) (T := TX3) (N := 2) hx hb hts iw_X3_prepare_X3 hown hK hP 1 rfl rfl 1 (by decide) (hts (.fieldLink RX3 7 "GoesInto$Primes" "list" "[I") (List.mem_of_getElem? (i := 1) rfl)) (fun _ h9 => h9) rfl dX3_prepare_72 ?_
            refine lv_iload_n hx hb dX3_prepare_75 rfl (lv_at hl 3 rfl) ?_
            refine lv_iload hx hb dX3_prepare_76 (lv_at hl 0 rfl) ?_
            obtain ⟨b19z, h⟩ := xn h
            refine va_iast hx hb hK hP hD hS 3 0 rfl rfl b19z dX3_prepare_78 (fun H locs hP hD hS => ?_)
            have hP : va_P (dC, dI) vwCl (wd11 cyI cyJ cyZ q_Sc q_Pr q_row q_list n_row a_row n_list (upd a_list v2.toNatClampNeg y18z)) H := hP
            have hD : va_D A (wd11 cyI cyJ cyZ q_Sc q_Pr q_row q_list n_row a_row n_list (upd a_list v2.toNatClampNeg y18z)) := hD
            obtain ⟨y20z, ey20z⟩ : ∃ z : Int32, z = v2 + (1 : Int32) := ⟨_, rfl⟩
            have h := xl_at h ey20z
            refine lv_iinc (v := y20z) (lv' := [(2, .int y20z), (4, .int y18z), (0, .ref q_Pr), (1, .ref q_row), (3, .int v3)]) hx hb dX3_prepare_79 hl (k := 3) rfl (by rw [ey20z]; rfl) (by decide) rfl (fun ls hl => ?_)
            refine lv_aload_n hx hb dX3_prepare_82 rfl (lv_at hl 3 rfl) ?_
            refine lv_iload hx hb dX3_prepare_83 (lv_at hl 1 rfl) ?_
            obtain ⟨b22z, h⟩ := xa h
            obtain ⟨r21z, hr21z, h⟩ := xb_at h
            have hPc := hP.sub (ws' := (wd9 cyI cyJ cyZ q_row n_row a_row)) [2] rfl
            have hDc := hD.sub (ws' := (wd9 cyI cyJ cyZ q_row n_row a_row)) [2] (by decide) rfl
            refine cal_v [2] [0, 1, 3] (va_runS (As := [.ref q_row, .int y18z]) (rest := []) ⟨hx, hb, hml, hown, hts⟩ (c_X3_crossMultiples l dC dI cyI cyJ cyZ N r21z H.size q_row y18z n_row a_row hr21z) (va_cwS 2 hts gX3_prepare_X3_crossMultiples rfl rfl rfl hd_X3_crossMultiples ⟨Nat.le_of_ble_eq_true rfl, Nat.le_of_ble_eq_true rfl⟩) ⟨pC.blind, pC.pre hPc hG hDc⟩ rfl rfl hl.1 rfl (lv_room (Nat.le_of_ble_eq_true rfl)) dX3_prepare_85 ⟨b22z.1, b22z.2⟩) hP hD hS hA rfl rfl rfl (by decide) (fun u23z H locs _ hP hD hS => ?_)
            have hP : va_P (dC, dI) vwCl (wd11 cyI cyJ cyZ q_Sc q_Pr q_row q_list n_row r21z n_list (upd a_list v2.toNatClampNeg y18z)) H := hP.sub [0, 1, 3, 2] rfl
            have hD : va_D A (wd11 cyI cyJ cyZ q_Sc q_Pr q_row q_list n_row r21z n_list (upd a_list v2.toNatClampNeg y18z)) := hD.sub [0, 1, 3, 2] (by decide) rfl
            obtain ⟨y25z, ey25z⟩ : ∃ z : Int32, z = v3 + (1 : Int32) := ⟨_, rfl⟩
            have h := xl_at h ey25z
            refine lv_iinc (v := y25z) (lv' := [(3, .int y25z), (2, .int y20z), (4, .int y18z), (0, .ref q_Pr), (1, .ref q_row)]) hx hb dX3_prepare_88 hl (k := 4) rfl (by rw [ey25z]; rfl) (by decide) rfl (fun ls hl => ?_)
            refine lv_goto (tgt := 37) hx hb dX3_prepare_91 (by decide) ?_
            exact ih y20z y25z r21z (upd a_list v2.toNatClampNeg y18z) q_row q_list h _ _ hP hD hS _ (lv_sub hl [3, 4, 1, 0] rfl)
def f_X3_prepare (N : Nat) (MC : Nat) (MS : Nat) (n_row : Nat) (a_row : Nat → Int32) (n_list : Nat) (a_list : Nat → Int32) : Option (Nat × (Nat → Int32) × Nat × (Nat → Int32)) :=
  if (nI n_list) ≤ 0 then
    if 0 + 1 ≤ MC ∧ 0 + 9592 ≤ MS then
      if 0 + 1 + (if nI n_row = 0 then 1 else 0) ≤ MC ∧ 0 + 9592 + (if nI n_row = 0 then 50001 else 0) ≤ MS then
        Option.bind (f_X4_cleared N (if nI n_row = 0 then 1 else 0) (if nI n_row = 0 then 50001 else 0)  n_row a_row) fun r4z =>
        if (0 : Int32) < 0 ∨ 9592 ≤ (0 : Int32).toNatClampNeg then
          none
        else
          l_X3_prepare_37 N MC MS r4z.1 9592 (0 + 1 + (if nI n_row = 0 then 1 else 0)) (0 + 9592 + (if nI n_row = 0 then 50001 else 0)) N ((1 : Int32), (1 : Int32), r4z.2, upd (fun _ => 0) (0 : Int32).toNatClampNeg (2 : Int32))
      else
        none
    else
      none
  else
    if 0 ≤ MC ∧ 0 ≤ MS then
      some (n_row, a_row, n_list, a_list)
    else
      none
set_option maxRecDepth 100000 in
set_option maxHeartbeats 4000000 in
theorem k_X3_prepare_0 {p : Program} {l : Launch} {e : Env} {s : State} {m : MethodId} {args : Array Value} {below : List Frame} {meth : Method} {c : Code} {dC : Nat → ClassId} {dI : Nat → Nat → Nat} {cyI cyJ cyZ : ClassId} {A : Nat → Prop} (C0 : mC p s m meth c args cX3_prepare none 5 RX3 wsX3_prepare (gK dC dI cyI cyJ cyZ) A) (N : Nat) (MC MS : Nat) (res : Nat × (Nat → Int32) × Nat × (Nat → Int32)) (q_Sc : Nat) (q_Pr : Nat) (n_row : Nat) (a_row : Nat → Int32) (n_list : Nat) (a_list : Nat → Int32) (q_row : Nat) (q_list : Nat) (h : f_X3_prepare N MC MS n_row a_row n_list a_list = some res) : ∀ (H : Heap) (locs : List Loc), va_P (dC, dI) vwCl (wd11 cyI cyJ cyZ q_Sc q_Pr q_row q_list n_row a_row n_list a_list) H → va_D A (wd11 cyI cyJ cyZ q_Sc q_Pr q_row q_list n_row a_row n_list a_list) → va_S A s.heap H locs → ∀ (ls : Array Slot), lv_has ls 5 [(0, .ref q_Pr)] → W p l e (headSpec wsX3_prepare (rm_X3_prepare MC MS)).room s m args below meth c H locs 0 0 (MQ below (va_Qv (fun (_ : Nat × Nat) => True) (bW dC dI (fun (u : Nat × Nat) => (wd11 cyI cyJ cyZ q_Sc q_Pr u.1 u.2 res.1 res.2.1 res.2.2.1 res.2.2.2)) A) A) args s MC MS A) (F0 m 0 ls []) := by
  obtain ⟨hx, hb, hr, hml, hown, hts, hlocks, hG, hA⟩ := id C0
  have hK := hG.1
  intro H locs hP hD hS ls hl
  unfold f_X3_prepare at h
  refine lv_aload_n hx hb dX3_prepare_0 rfl (lv_at hl 0 rfl) ?_
  refine va_get (D := (dC, dI)) (ci := 3) (v := .ref q_list) (C := RX3) (T := TX3) (N := 2) hx hb hts iw_X3_prepare_X3 hown hK hP 1 rfl rfl 1 (by decide) (hts (.fieldLink RX3 7 "GoesInto$Primes" "list" "[I") (List.mem_of_getElem? (i := 1) rfl)) (fun _ h9 => h9) rfl dX3_prepare_1 ?_
  refine va_alen (v := nI n_list) hx hb hK hP 3 0 rfl rfl rfl dX3_prepare_4 ?_
  refine lv_if_le (tgt := 9) hx hb dX3_prepare_5 (by decide) (fun c1z => ?_) (fun c1z => ?_)
  · have h := xt h c1z
    refine lv_aload_n hx hb dX3_prepare_9 rfl (lv_at hl 0 rfl) ?_
    refine lv_sipush (v := (9592 : Int32)) hx hb dX3_prepare_10 (by decide) ?_
    obtain ⟨b2z, h⟩ := xa h
    refine va_newa (atype := .int) (ty := .int) (N' := 9592) (a0 := (9592, .inl (fun _ => 0))) hx hb (hts (.arrayClass .int) (List.mem_of_getElem? (i := 2) rfl)) rfl hK hP hD hS hA (fun cA => xvc_i cA 9592) (by decide +kernel) (by decide +kernel) (by decide +kernel) b2z.1 b2z.2 dX3_prepare_13 (fun q3z cA H hK9 hP hD hS => ?_)
    obtain rfl := (xcy (Or.inl rfl) 3 0 hK9 rfl rfl).symm
    have hP : va_P (dC, dI) vwCl ((wd11 cyI cyJ cyZ q_Sc q_Pr q_row q_list n_row a_row n_list a_list) ++ [(q3z, .inl (cyI, 9592, .inl (fun _ => 0)))]) H := hP
    have hD : va_D A ((wd11 cyI cyJ cyZ q_Sc q_Pr q_row q_list n_row a_row n_list a_list) ++ [(q3z, .inl (cyI, 9592, .inl (fun _ => 0)))]) := hD
    refine va_put (D := (dC, dI)) (ci := 3) (v := .ref q3z) (ty := .array .int) (C := RX3) (T := TX3) (N := 2) hx hb hts iw_X3_prepare_X3 tyX3 tyX3_ok nmX3 hown hK hP hD hS 1 rfl rfl 1 (by decide) (hts (.fieldLink RX3 7 "GoesInto$Primes" "list" "[I") (List.mem_of_getElem? (i := 1) rfl)) (fun _ h9 => h9) rfl (tyX3_ok 1 (by decide)) rfl rfl (Nat.le_of_ble_eq_true rfl) dX3_prepare_15 (fun H locs hP hD hS => ?_)
    have hP : va_P (dC, dI) vwCl (wd11 cyI cyJ cyZ q_Sc q_Pr q_row q3z n_row a_row 9592 (fun _ => 0)) H := hP.sub [0, 1, 2, 4] rfl
    have hD : va_D A (wd11 cyI cyJ cyZ q_Sc q_Pr q_row q3z n_row a_row 9592 (fun _ => 0)) := hD.sub [0, 1, 2, 4] (by decide) rfl
    refine lv_aload_n hx hb dX3_prepare_18 rfl (lv_at hl 0 rfl) ?_
    refine va_get (D := (dC, dI)) (ci := 3) (v := .ref q_Sc) (C := RX3) (T := TX3) (N := 2) hx hb hts iw_X3_prepare_X3 hown hK hP 1 rfl rfl 0 (by decide) (hts (.fieldLink RX3 13 "GoesInto$Primes" "scratch" "LGoesInto$Scratch;") (List.mem_of_getElem? (i := 3) rfl)) (fun _ h9 => h9) rfl dX3_prepare_19 ?_
    obtain ⟨b5z, h⟩ := xa h
    obtain ⟨r4z, hr4z, h⟩ := xb_at h
    have hPc := hP.sub (ws' := (wd10 cyI cyJ cyZ q_Sc q_row n_row a_row)) [0, 2] rfl
    have hDc := hD.sub (ws' := (wd10 cyI cyJ cyZ q_Sc q_row n_row a_row)) [0, 2] (by decide) rfl
    refine cal_r [0, 2] [1, 3] (va_runV (As := []) (rest := []) ⟨hx, hb, hml, hown, hts⟩ (c_X4_cleared l dC dI cyI cyJ cyZ N (if nI n_row = 0 then 1 else 0) (if nI n_row = 0 then 50001 else 0) r4z H.size q_Sc q_row  n_row a_row hr4z) (cwV 0 hts gX3_prepare_X4_cleared rfl rfl rfl ⟨rfl, hd_X4_cleared⟩ ⟨Nat.le_of_ble_eq_true rfl, Nat.le_of_ble_eq_true rfl⟩) ⟨pC.blind, va_recv hK hPc (ci := 4) (q0 := 0) rfl rfl, pC.pre hPc hG hDc⟩ rfl rfl hl.1 rfl (lv_room (Nat.le_of_ble_eq_true rfl)) dX3_prepare_22 ⟨b5z.1, b5z.2⟩) hP hD hS hA rfl rfl rfl (by decide) (fun x7z u6z H locs _ hP hD hS => ?_)
    have hP : va_P (dC, dI) vwCl (wd11 cyI cyJ cyZ q_Sc q_Pr x7z q3z r4z.1 r4z.2 9592 (fun _ => 0)) H := hP.sub [2, 0, 3, 1] rfl
    have hD : va_D A (wd11 cyI cyJ cyZ q_Sc q_Pr x7z q3z r4z.1 r4z.2 9592 (fun _ => 0)) := hD.sub [2, 0, 3, 1] (by decide) rfl
    refine lv_astore_n (lv' := [(1, .ref x7z), (0, .ref q_Pr)]) hx hb dX3_prepare_25 rfl hl (by decide) rfl (fun ls hl => ?_)
    refine lv_aload_n hx hb dX3_prepare_26 rfl (lv_at hl 1 rfl) ?_
    refine va_get (D := (dC, dI)) (ci := 3) (v := .ref q3z) (C := RX3) (T := TX3) (N := 2) hx hb hts iw_X3_prepare_X3 hown hK hP 1 rfl rfl 1 (by decide) (hts (.fieldLink RX3 7 "GoesInto$Primes" "list" "[I") (List.mem_of_getElem? (i := 1) rfl)) (fun _ h9 => h9) rfl dX3_prepare_27 ?_
    refine lv_iconst (v := (0 : Int32)) hx hb dX3_prepare_30 (by decide) ?_
    refine lv_iconst (v := (2 : Int32)) hx hb dX3_prepare_31 (by decide) ?_
    obtain ⟨b8z, h⟩ := xn h
    refine va_iast hx hb hK hP hD hS 3 0 rfl rfl b8z dX3_prepare_32 (fun H locs hP hD hS => ?_)
    have hP : va_P (dC, dI) vwCl (wd11 cyI cyJ cyZ q_Sc q_Pr x7z q3z r4z.1 r4z.2 9592 (upd (fun _ => 0) (0 : Int32).toNatClampNeg (2 : Int32))) H := hP
    have hD : va_D A (wd11 cyI cyJ cyZ q_Sc q_Pr x7z q3z r4z.1 r4z.2 9592 (upd (fun _ => 0) (0 : Int32).toNatClampNeg (2 : Int32))) := hD
    refine lv_iconst (v := (1 : Int32)) hx hb dX3_prepare_33 (by decide) ?_
    refine lv_istore_n (lv' := [(2, .int (1 : Int32)), (1, .ref x7z), (0, .ref q_Pr)]) hx hb dX3_prepare_34 rfl hl (by decide) rfl (fun ls hl => ?_)
    refine lv_iconst (v := (1 : Int32)) hx hb dX3_prepare_35 (by decide) ?_
    refine lv_istore_n (lv' := [(3, .int (1 : Int32)), (2, .int (1 : Int32)), (1, .ref x7z), (0, .ref q_Pr)]) hx hb dX3_prepare_36 rfl hl (by decide) rfl (fun ls hl => ?_)
    exact k_X3_prepare_37 C0 N MC MS res q_Sc q_Pr r4z.1 9592 (0 + 1 + (if nI n_row = 0 then 1 else 0)) (0 + 9592 + (if nI n_row = 0 then 50001 else 0)) N (1 : Int32) (1 : Int32) r4z.2 (upd (fun _ => 0) (0 : Int32).toNatClampNeg (2 : Int32)) x7z q3z h _ _ hP hD hS _ (lv_sub hl [3, 2, 1, 0] rfl)
  · have h := xf h c1z
    obtain ⟨b26z, h⟩ := xa h
    refine W.widen (k := MC) (n := MS) b26z.1 b26z.2 ?_
    obtain rfl := Option.some.inj h
    exact W.vret hx hb hr (fun t ht hW => ⟨⟨(q_row, q_list), rfl, trivial, by rw [ht]; exact hP, hD⟩, hS.F ht⟩) hS.2.2 dX3_prepare_8 hlocks
set_option maxRecDepth 100000 in
set_option maxHeartbeats 4000000 in
theorem c_X3_prepare (l : Launch) (dC : Nat → ClassId) (dI : Nat → Nat → Nat) (cyI cyJ cyZ : ClassId) (N : Nat) (MC MS : Nat) (res : Nat × (Nat → Int32) × Nat × (Nat → Int32)) (sz : Nat) (q_Sc : Nat) (q_Pr : Nat) (q_row : Nat) (q_list : Nat) (n_row : Nat) (a_row : Nat → Int32) (n_list : Nat) (a_list : Nat → Int32) (h : f_X3_prepare N MC MS  n_row a_row n_list a_list = some res) : Met l yX3_prepare wsX3_prepare (rm_X3_prepare MC MS) (pC dC dI cyI cyJ cyZ [.ref q_Pr] sz (wd11 cyI cyJ cyZ q_Sc q_Pr q_row q_list n_row a_row n_list a_list)) (va_Qv (fun (_ : Nat × Nat) => True) (bW dC dI (fun (u : Nat × Nat) => (wd11 cyI cyJ cyZ q_Sc q_Pr u.1 u.2 res.1 res.2.1 res.2.2.1 res.2.2.2)) (va_A (wd11 cyI cyJ cyZ q_Sc q_Pr q_row q_list n_row a_row n_list a_list) sz)) (va_A (wd11 cyI cyJ cyZ q_Sc q_Pr q_row q_list n_row a_row n_list a_list) sz)) MC MS (va_A (wd11 cyI cyJ cyZ q_Sc q_Pr q_row q_list n_row a_row n_list a_list) sz) := by
  refine Met.ofW (cc := cX3_prepare) (maxL := 5) (ret := none) (by decide) rfl ?_
  intro p e s m args below meth c s₁ B hml hv
  obtain ⟨rfl, hsz, hP, hG, hD0⟩ := hv
  have hx := B.exec
  have hb := B.bytes
  have hr := B.returns
  have hts := atoms_spec (ws := wsX3_prepare) B.pre
  have hown : s.vm.findClass RX3 = some m.cls := findClass_of_methodNamed B.named
  have hlocks := B.notSynchronized
  subst hsz
  have hD := hD0.self (sz := s.heap.size)
  generalize hAe : va_A (wd11 cyI cyJ cyZ q_Sc q_Pr q_row q_list n_row a_row n_list a_list) s.heap.size = A at hD ⊢
  have hA : ∀ q : Nat, s.heap.size ≤ q → A q := fun q h => by rw [← hAe]; exact Or.inr h
  have hS : va_S A s.heap s.heap [] := va_S.rf
  have hl := lv_entry ([.ref q_Pr]) (n := 5) (Nat.le_of_ble_eq_true rfl)
  rw [lg_entry_eq]
  generalize (lg_sl ([.ref q_Pr]) ++ List.replicate (5 - (lg_sl ([.ref q_Pr])).length) Slot.unset).toArray = ls at hl ⊢
  have hl : lv_has ls 5 [(0, .ref q_Pr)] := hl
  exact k_X3_prepare_0 ⟨hx, hb, hr, hml, hown, hts, hlocks, hG, hA⟩ N MC MS res q_Sc q_Pr n_row a_row n_list a_list q_row q_list h _ _ hP hD hS _ hl
/-- the cells Sc, Tb, row -/
abbrev wd12 (cyI cyJ cyZ : ClassId) (q_Sc : Nat) (q_Tb : Nat) (q_row : Nat) (q_all : Nat) (q_apart : Nat) (n_row : Nat) (a_row : Nat → Int32) : va_W := [(q_Sc, .inr (4, [.ref q_row])), (q_Tb, .inr (7, [.ref q_Sc, .ref q_all, .ref q_apart])), (q_row, .inl (cyI, n_row, .inl a_row))]
abbrev rm_X7_leastPrimes (MC MS : Nat) : Room := { frames := 2, cells := MC, slots := MS, locals := 44 }
theorem hd_X7_leastPrimes : yX7_leastPrimes.cls ≠ "java/lang/invoke/MethodHandle" ∧ yX7_leastPrimes.cls ≠ "java/lang/invoke/VarHandle" ∧ (parseMethodDescriptor yX7_leastPrimes.desc).map (fun d => d.parameters.length) = some 0 := by decide +kernel
theorem iw_X7_leastPrimes_X4 : ∀ w ∈ wsX40, w ∈ wsX7_leastPrimes := List.forall_mem_cons.mpr ⟨List.mem_of_getElem? (i := 21) rfl, fun _ h => absurd h List.not_mem_nil⟩
theorem iw_X7_leastPrimes_X7 : ∀ w ∈ wsX70, w ∈ wsX7_leastPrimes := List.forall_mem_cons.mpr ⟨List.mem_of_getElem? (i := 18) rfl, List.forall_mem_cons.mpr ⟨List.mem_of_getElem? (i := 19) rfl, List.forall_mem_cons.mpr ⟨List.mem_of_getElem? (i := 20) rfl, fun _ h => absurd h List.not_mem_nil⟩⟩⟩
def s_X7_leastPrimes_31 (N : Nat) (k_10 : (Int32 × (Nat → Int32)) → Option (Nat × (Nat → Int32))) (v2 : Int32) (n_row : Nat) (k_31 : (Int32 × (Nat → Int32)) → Option (Nat × (Nat → Int32))) (v3 : Int32) (a_row : Nat → Int32) : Option (Nat × (Nat → Int32)) :=
  if (nI n_row) ≤ v3 then
    xl (v2 + (1 : Int32)) fun y11z =>
    k_10 (y11z, a_row)
  else
    if v3 < 0 ∨ n_row ≤ v3.toNatClampNeg then
      none
    else
      if (a_row v3.toNatClampNeg) = 0 then
        xl (v3 + v2) fun y15z =>
        k_31 (y15z, upd a_row v3.toNatClampNeg v2)
      else
        xl (v3 + v2) fun y14z =>
        k_31 (y14z, a_row)
def l_X7_leastPrimes_31 (N : Nat) (k_10 : (Int32 × (Nat → Int32)) → Option (Nat × (Nat → Int32))) (v2 : Int32) (n_row : Nat) (n : Nat) (z : Int32 × (Nat → Int32)) : Option (Nat × (Nat → Int32)) := lp (fun k z => s_X7_leastPrimes_31 N k_10 v2 n_row k z.1 z.2) n z
set_option maxRecDepth 100000 in
set_option maxHeartbeats 4000000 in
theorem k_X7_leastPrimes_31 {p : Program} {l : Launch} {e : Env} {s : State} {m : MethodId} {args : Array Value} {below : List Frame} {meth : Method} {c : Code} {dC : Nat → ClassId} {dI : Nat → Nat → Nat} {cyI cyJ cyZ : ClassId} {A : Nat → Prop} (C0 : mC p s m meth c args cX7_leastPrimes (some (.array .int)) 4 RX7 wsX7_leastPrimes (gK dC dI cyI cyJ cyZ) A) (N : Nat) (MC MS : Nat) (res : Nat × (Nat → Int32)) (q_Sc : Nat) (q_Tb : Nat) (q_all : Nat) (q_apart : Nat) (n_row : Nat) (gc : Nat) (gs : Nat) (k_10 : (Int32 × (Nat → Int32)) → Option (Nat × (Nat → Int32))) (hk_10 : ∀ (v2 : Int32) (a_row : Nat → Int32) (q_row : Nat), k_10 (v2, a_row) = some res → ∀ (H : Heap) (locs : List Loc), va_P (dC, dI) vwCl (wd12 cyI cyJ cyZ q_Sc q_Tb q_row q_all q_apart n_row a_row) H → va_D A (wd12 cyI cyJ cyZ q_Sc q_Tb q_row q_all q_apart n_row a_row) → va_S A s.heap H locs → ∀ (ls : Array Slot), lv_has ls 4 [(1, .ref q_row), (2, .int v2)] → W p l e (headSpec wsX7_leastPrimes (rm_X7_leastPrimes MC MS)).room s m args below meth c H locs gc gs (MQ below (va_Qr (fun (_ : Unit) => True) (bR dC dI (fun (u : Unit) (a : Nat) => (wd12 cyI cyJ cyZ q_Sc q_Tb a q_all q_apart res.1 res.2)) A) A) args s MC MS A) (F0 m 10 ls [])) (v2 : Int32) : ∀ (n : Nat) (v3 : Int32) (a_row : Nat → Int32) (q_row : Nat), l_X7_leastPrimes_31 N k_10 v2 n_row n (v3, a_row) = some res → ∀ (H : Heap) (locs : List Loc), va_P (dC, dI) vwCl (wd12 cyI cyJ cyZ q_Sc q_Tb q_row q_all q_apart n_row a_row) H → va_D A (wd12 cyI cyJ cyZ q_Sc q_Tb q_row q_all q_apart n_row a_row) → va_S A s.heap H locs → ∀ (ls : Array Slot), lv_has ls 4 [(1, .ref q_row), (2, .int v2), (3, .int v3)] → W p l e (headSpec wsX7_leastPrimes (rm_X7_leastPrimes MC MS)).room s m args below meth c H locs gc gs (MQ below (va_Qr (fun (_ : Unit) => True) (bR dC dI (fun (u : Unit) (a : Nat) => (wd12 cyI cyJ cyZ q_Sc q_Tb a q_all q_apart res.1 res.2)) A) A) args s MC MS A) (F0 m 31 ls []) := by
  obtain ⟨hx, hb, hr, hml, hown, hts, hlocks, hG, hA⟩ := id C0
  have hK := hG.1
  intro n
  induction n with
  | zero =>
    intro v3 a_row q_row h
    cases h
  | succ n ih =>
    intro v3 a_row q_row h H locs hP hD hS ls hl
    have h : s_X7_leastPrimes_31 N k_10 v2 n_row (l_X7_leastPrimes_31 N k_10 v2 n_row n) v3 a_row = some res := h
    unfold s_X7_leastPrimes_31 at h
    refine lv_iload_n hx hb dX7_leastPrimes_31 rfl (lv_at hl 2 rfl) ?_
    refine lv_aload_n hx hb dX7_leastPrimes_32 rfl (lv_at hl 0 rfl) ?_
    refine va_alen (v := nI n_row) hx hb hK hP 2 0 rfl rfl rfl dX7_leastPrimes_33 ?_
    refine lv_icmp_ge (tgt := 54) hx hb dX7_leastPrimes_34 (by decide) (fun c10z => ?_) (fun c10z => ?_)
    · have h := xt h c10z
      obtain ⟨y11z, ey11z⟩ : ∃ z : Int32, z = v2 + (1 : Int32) := ⟨_, rfl⟩
      have h := xl_at h ey11z
      refine lv_iinc (v := y11z) (lv' := [(2, .int y11z), (1, .ref q_row), (3, .int v3)]) hx hb dX7_leastPrimes_54 hl (k := 1) rfl (by rw [ey11z]; rfl) (by decide) rfl (fun ls hl => ?_)
      refine lv_goto (tgt := 10) hx hb dX7_leastPrimes_57 (by decide) ?_
      exact hk_10 y11z a_row q_row h _ _ hP hD hS _ (lv_sub hl [1, 0] rfl)
    · have h := xf h c10z
      refine lv_aload_n hx hb dX7_leastPrimes_37 rfl (lv_at hl 0 rfl) ?_
      refine lv_iload_n hx hb dX7_leastPrimes_38 rfl (lv_at hl 2 rfl) ?_
      obtain ⟨b12z, h⟩ := xn h
      refine va_iald hx hb hK hP 2 0 rfl rfl b12z dX7_leastPrimes_39 ?_
      refine lv_if_ne (tgt := 47) hx hb dX7_leastPrimes_40 (by decide) (fun c13z => ?_) (fun c13z => ?_)
      · have h := xf h c13z
        refine lv_iload_n hx hb dX7_leastPrimes_47 rfl (lv_at hl 2 rfl) ?_
        refine lv_iload_n hx hb dX7_leastPrimes_48 rfl (lv_at hl 1 rfl) ?_
        refine lv_iadd hx hb dX7_leastPrimes_49 ?_
        refine lv_topi (fun y14z ey14z => ?_)
        have h := xl_at h ey14z
        refine lv_istore_n (lv' := [(3, .int y14z), (1, .ref q_row), (2, .int v2)]) hx hb dX7_leastPrimes_50 rfl hl (by decide) rfl (fun ls hl => ?_)
        refine lv_goto (tgt := 31) hx hb dX7_leastPrimes_51 (by decide) ?_
        exact ih y14z a_row q_row h _ _ hP hD hS _ (lv_sub hl [1, 2, 0] rfl)
      · have h := xt h c13z
        refine lv_aload_n hx hb dX7_leastPrimes_43 rfl (lv_at hl 0 rfl) ?_
        refine lv_iload_n hx hb dX7_leastPrimes_44 rfl (lv_at hl 2 rfl) ?_
        refine lv_iload_n hx hb dX7_leastPrimes_45 rfl (lv_at hl 1 rfl) ?_
        refine va_iast hx hb hK hP hD hS 2 0 rfl rfl b12z dX7_leastPrimes_46 (fun H locs hP hD hS => ?_)
        have hP : va_P (dC, dI) vwCl (wd12 cyI cyJ cyZ q_Sc q_Tb q_row q_all q_apart n_row (upd a_row v3.toNatClampNeg v2)) H := hP
        have hD : va_D A (wd12 cyI cyJ cyZ q_Sc q_Tb q_row q_all q_apart n_row (upd a_row v3.toNatClampNeg v2)) := hD
        refine lv_iload_n hx hb dX7_leastPrimes_47 rfl (lv_at hl 2 rfl) ?_
        refine lv_iload_n hx hb dX7_leastPrimes_48 rfl (lv_at hl 1 rfl) ?_
        refine lv_iadd hx hb dX7_leastPrimes_49 ?_
        refine lv_topi (fun y15z ey15z => ?_)
        have h := xl_at h ey15z
        refine lv_istore_n (lv' := [(3, .int y15z), (1, .ref q_row), (2, .int v2)]) hx hb dX7_leastPrimes_50 rfl hl (by decide) rfl (fun ls hl => ?_)
        refine lv_goto (tgt := 31) hx hb dX7_leastPrimes_51 (by decide) ?_
        exact ih y15z (upd a_row v3.toNatClampNeg v2) q_row h _ _ hP hD hS _ (lv_sub hl [1, 2, 0] rfl)
def s_X7_leastPrimes_10 (N : Nat) (MC : Nat) (MS : Nat) (n_row : Nat) (gc : Nat) (gs : Nat) (k_10 : (Int32 × (Nat → Int32)) → Option (Nat × (Nat → Int32))) (v2 : Int32) (a_row : Nat → Int32) : Option (Nat × (Nat → Int32)) :=
  if (nI n_row) ≤ (v2 * v2) then
    if gc ≤ MC ∧ gs ≤ MS then
      some (n_row, a_row)
    else
      none
  else
    if v2 < 0 ∨ n_row ≤ v2.toNatClampNeg then
      none
    else
      if (a_row v2.toNatClampNeg) = 0 then
        xl (v2 * v2) fun y9z =>
        l_X7_leastPrimes_31 N k_10 v2 n_row N (y9z, a_row)
      else
        xl (v2 + (1 : Int32)) fun y16z =>
        k_10 (y16z, a_row)
def l_X7_leastPrimes_10 (N : Nat) (MC : Nat) (MS : Nat) (n_row : Nat) (gc : Nat) (gs : Nat) (n : Nat) (z : Int32 × (Nat → Int32)) : Option (Nat × (Nat → Int32)) := lp (fun k z => s_X7_leastPrimes_10 N MC MS n_row gc gs k z.1 z.2) n z
set_option maxRecDepth 100000 in
set_option maxHeartbeats 4000000 in
theorem k_X7_leastPrimes_10 {p : Program} {l : Launch} {e : Env} {s : State} {m : MethodId} {args : Array Value} {below : List Frame} {meth : Method} {c : Code} {dC : Nat → ClassId} {dI : Nat → Nat → Nat} {cyI cyJ cyZ : ClassId} {A : Nat → Prop} (C0 : mC p s m meth c args cX7_leastPrimes (some (.array .int)) 4 RX7 wsX7_leastPrimes (gK dC dI cyI cyJ cyZ) A) (N : Nat) (MC MS : Nat) (res : Nat × (Nat → Int32)) (q_Sc : Nat) (q_Tb : Nat) (q_all : Nat) (q_apart : Nat) (n_row : Nat) (gc : Nat) (gs : Nat) : ∀ (n : Nat) (v2 : Int32) (a_row : Nat → Int32) (q_row : Nat), l_X7_leastPrimes_10 N MC MS n_row gc gs n (v2, a_row) = some res → ∀ (H : Heap) (locs : List Loc), va_P (dC, dI) vwCl (wd12 cyI cyJ cyZ q_Sc q_Tb q_row q_all q_apart n_row a_row) H → va_D A (wd12 cyI cyJ cyZ q_Sc q_Tb q_row q_all q_apart n_row a_row) → va_S A s.heap H locs → ∀ (ls : Array Slot), lv_has ls 4 [(1, .ref q_row), (2, .int v2)] → W p l e (headSpec wsX7_leastPrimes (rm_X7_leastPrimes MC MS)).room s m args below meth c H locs gc gs (MQ below (va_Qr (fun (_ : Unit) => True) (bR dC dI (fun (u : Unit) (a : Nat) => (wd12 cyI cyJ cyZ q_Sc q_Tb a q_all q_apart res.1 res.2)) A) A) args s MC MS A) (F0 m 10 ls []) := by
  obtain ⟨hx, hb, hr, hml, hown, hts, hlocks, hG, hA⟩ := id C0
  have hK := hG.1
  intro n
  induction n with
  | zero =>
    intro v2 a_row q_row h
    cases h
  | succ n ih =>
    intro v2 a_row q_row h H locs hP hD hS ls hl
    have h : s_X7_leastPrimes_10 N MC MS n_row gc gs (l_X7_leastPrimes_10 N MC MS n_row gc gs n) v2 a_row = some res := h
    unfold s_X7_leastPrimes_10 at h
    refine lv_iload_n hx hb dX7_leastPrimes_10 rfl (lv_at hl 1 rfl) ?_
    refine lv_iload_n hx hb dX7_leastPrimes_11 rfl (lv_at hl 1 rfl) ?_
    refine lv_imul hx hb dX7_leastPrimes_12 ?_
    refine lv_aload_n hx hb dX7_leastPrimes_13 rfl (lv_at hl 0 rfl) ?_
    refine va_alen (v := nI n_row) hx hb hK hP 2 0 rfl rfl rfl dX7_leastPrimes_14 ?_
    refine lv_icmp_ge (tgt := 60) hx hb dX7_leastPrimes_15 (by decide) (fun c5z => ?_) (fun c5z => ?_)
    · have h := xt h c5z
      refine lv_aload_n hx hb dX7_leastPrimes_60 rfl (lv_at hl 0 rfl) ?_
      obtain ⟨b6z, h⟩ := xa h
      refine W.widen (k := MC) (n := MS) b6z.1 b6z.2 ?_
      obtain rfl := Option.some.inj h
      exact W.aret hx hb hr (Or.inr ⟨_, rfl⟩) (Or.inr ⟨_, rfl⟩) (fun t ht hW => ⟨⟨(), q_row, rfl, trivial, by rw [ht]; exact hP, hD⟩, hS.F ht⟩) hS.2.2 dX7_leastPrimes_61 hlocks
    · have h := xf h c5z
      refine lv_aload_n hx hb dX7_leastPrimes_18 rfl (lv_at hl 0 rfl) ?_
      refine lv_iload_n hx hb dX7_leastPrimes_19 rfl (lv_at hl 1 rfl) ?_
      obtain ⟨b7z, h⟩ := xn h
      refine va_iald hx hb hK hP 2 0 rfl rfl b7z dX7_leastPrimes_20 ?_
      refine lv_if_eq (tgt := 27) hx hb dX7_leastPrimes_21 (by decide) (fun c8z => ?_) (fun c8z => ?_)
      · have h := xt h c8z
        refine lv_iload_n hx hb dX7_leastPrimes_27 rfl (lv_at hl 1 rfl) ?_
        refine lv_iload_n hx hb dX7_leastPrimes_28 rfl (lv_at hl 1 rfl) ?_
        refine lv_imul hx hb dX7_leastPrimes_29 ?_
        refine lv_topi (fun y9z ey9z => ?_)
        have h := xl_at h ey9z
        refine lv_istore_n (lv' := [(3, .int y9z), (1, .ref q_row), (2, .int v2)]) hx hb dX7_leastPrimes_30 rfl hl (by decide) rfl (fun ls hl => ?_)
        exact k_X7_leastPrimes_31 C0 N MC MS res q_Sc q_Tb q_all q_apart n_row gc gs _ ih v2 N y9z a_row q_row h _ _ hP hD hS _ (lv_sub hl [1, 2, 0] rfl)
      · have h := xf h c8z
        refine lv_goto (tgt := 54) hx hb dX7_leastPrimes_24 (by decide) ?_
        obtain ⟨y16z, ey16z⟩ : ∃ z : Int32, z = v2 + (1 : Int32) := ⟨_, rfl⟩
        have h := xl_at h ey16z
        refine lv_iinc (v := y16z) (lv' := [(2, .int y16z), (1, .ref q_row)]) hx hb dX7_leastPrimes_54 hl (k := 1) rfl (by rw [ey16z]; rfl) (by decide) rfl (fun ls hl => ?_)
        refine lv_goto (tgt := 10) hx hb dX7_leastPrimes_57 (by decide) ?_
        exact ih y16z a_row q_row h _ _ hP hD hS _ (lv_sub hl [1, 0] rfl)
def f_X7_leastPrimes (N : Nat) (MC : Nat) (MS : Nat) (n_row : Nat) (a_row : Nat → Int32) : Option (Nat × (Nat → Int32)) :=
  if 0 + (if nI n_row = 0 then 1 else 0) ≤ MC ∧ 0 + (if nI n_row = 0 then 50001 else 0) ≤ MS then
    Option.bind (f_X4_cleared N (if nI n_row = 0 then 1 else 0) (if nI n_row = 0 then 50001 else 0)  n_row a_row) fun r1z =>
    l_X7_leastPrimes_10 N MC MS r1z.1 (0 + (if nI n_row = 0 then 1 else 0)) (0 + (if nI n_row = 0 then 50001 else 0)) N ((2 : Int32), r1z.2)
  else
    none
set_option maxRecDepth 100000 in
set_option maxHeartbeats 4000000 in
theorem k_X7_leastPrimes_0 {p : Program} {l : Launch} {e : Env} {s : State} {m : MethodId} {args : Array Value} {below : List Frame} {meth : Method} {c : Code} {dC : Nat → ClassId} {dI : Nat → Nat → Nat} {cyI cyJ cyZ : ClassId} {A : Nat → Prop} (C0 : mC p s m meth c args cX7_leastPrimes (some (.array .int)) 4 RX7 wsX7_leastPrimes (gK dC dI cyI cyJ cyZ) A) (N : Nat) (MC MS : Nat) (res : Nat × (Nat → Int32)) (q_Sc : Nat) (q_Tb : Nat) (q_all : Nat) (q_apart : Nat) (n_row : Nat) (a_row : Nat → Int32) (q_row : Nat) (h : f_X7_leastPrimes N MC MS n_row a_row = some res) : ∀ (H : Heap) (locs : List Loc), va_P (dC, dI) vwCl (wd12 cyI cyJ cyZ q_Sc q_Tb q_row q_all q_apart n_row a_row) H → va_D A (wd12 cyI cyJ cyZ q_Sc q_Tb q_row q_all q_apart n_row a_row) → va_S A s.heap H locs → ∀ (ls : Array Slot), lv_has ls 4 [(0, .ref q_Tb)] → W p l e (headSpec wsX7_leastPrimes (rm_X7_leastPrimes MC MS)).room s m args below meth c H locs 0 0 (MQ below (va_Qr (fun (_ : Unit) => True) (bR dC dI (fun (u : Unit) (a : Nat) => (wd12 cyI cyJ cyZ q_Sc q_Tb a q_all q_apart res.1 res.2)) A) A) args s MC MS A) (F0 m 0 ls []) := by
  obtain ⟨hx, hb, hr, hml, hown, hts, hlocks, hG, hA⟩ := id C0
  have hK := hG.1
  intro H locs hP hD hS ls hl
  unfold f_X7_leastPrimes at h
  refine lv_aload_n hx hb dX7_leastPrimes_0 rfl (lv_at hl 0 rfl) ?_
  refine va_get (D := (dC, dI)) (ci := 7) (v := .ref q_Sc) (C := RX7) (T := TX7) (N := 3) hx hb hts iw_X7_leastPrimes_X7 hown hK hP 1 rfl rfl 0 (by decide) (hts (.fieldLink RX7 18 "GoesInto$Tables" "scratch" "LGoesInto$Scratch;") (List.mem_of_getElem? (i := 1) rfl)) (fun _ h9 => h9) rfl dX7_leastPrimes_1 ?_
  obtain ⟨b2z, h⟩ := xa h
  obtain ⟨r1z, hr1z, h⟩ := xb_at h
  have hPc := hP.sub (ws' := (wd10 cyI cyJ cyZ q_Sc q_row n_row a_row)) [0, 2] rfl
  have hDc := hD.sub (ws' := (wd10 cyI cyJ cyZ q_Sc q_row n_row a_row)) [0, 2] (by decide) rfl
  refine cal_r [0, 2] [1] (va_runV (As := []) (rest := []) ⟨hx, hb, hml, hown, hts⟩ (c_X4_cleared l dC dI cyI cyJ cyZ N (if nI n_row = 0 then 1 else 0) (if nI n_row = 0 then 50001 else 0) r1z H.size q_Sc q_row  n_row a_row hr1z) (cwV 0 hts gX7_leastPrimes_X4_cleared rfl rfl rfl ⟨rfl, hd_X4_cleared⟩ ⟨Nat.le_of_ble_eq_true rfl, Nat.le_of_ble_eq_true rfl⟩) ⟨pC.blind, va_recv hK hPc (ci := 4) (q0 := 0) rfl rfl, pC.pre hPc hG hDc⟩ rfl rfl hl.1 rfl (lv_room (Nat.le_of_ble_eq_true rfl)) dX7_leastPrimes_4 ⟨b2z.1, b2z.2⟩) hP hD hS hA rfl rfl rfl (by decide) (fun x4z u3z H locs _ hP hD hS => ?_)
  have hP : va_P (dC, dI) vwCl (wd12 cyI cyJ cyZ q_Sc q_Tb x4z q_all q_apart r1z.1 r1z.2) H := hP.sub [1, 0, 2] rfl
  have hD : va_D A (wd12 cyI cyJ cyZ q_Sc q_Tb x4z q_all q_apart r1z.1 r1z.2) := hD.sub [1, 0, 2] (by decide) rfl
  refine lv_astore_n (lv' := [(1, .ref x4z), (0, .ref q_Tb)]) hx hb dX7_leastPrimes_7 rfl hl (by decide) rfl (fun ls hl => ?_)
  refine lv_iconst (v := (2 : Int32)) hx hb dX7_leastPrimes_8 (by decide) ?_
  refine lv_istore_n (lv' := [(2, .int (2 : Int32)), (1, .ref x4z), (0, .ref q_Tb)]) hx hb dX7_leastPrimes_9 rfl hl (by decide) rfl (fun ls hl => ?_)
  exact k_X7_leastPrimes_10 C0 N MC MS res q_Sc q_Tb q_all q_apart r1z.1 (0 + (if nI n_row = 0 then 1 else 0)) (0 + (if nI n_row = 0 then 50001 else 0)) N (2 : Int32) r1z.2 x4z h _ _ hP hD hS _ (lv_sub hl [1, 0] rfl)
set_option maxRecDepth 100000 in
set_option maxHeartbeats 4000000 in
theorem c_X7_leastPrimes (l : Launch) (dC : Nat → ClassId) (dI : Nat → Nat → Nat) (cyI cyJ cyZ : ClassId) (N : Nat) (MC MS : Nat) (res : Nat × (Nat → Int32)) (sz : Nat) (q_Sc : Nat) (q_Tb : Nat) (q_row : Nat) (q_all : Nat) (q_apart : Nat) (n_row : Nat) (a_row : Nat → Int32) (h : f_X7_leastPrimes N MC MS  n_row a_row = some res) : Met l yX7_leastPrimes wsX7_leastPrimes (rm_X7_leastPrimes MC MS) (pC dC dI cyI cyJ cyZ [.ref q_Tb] sz (wd12 cyI cyJ cyZ q_Sc q_Tb q_row q_all q_apart n_row a_row)) (va_Qr (fun (_ : Unit) => True) (bR dC dI (fun (u : Unit) (a : Nat) => (wd12 cyI cyJ cyZ q_Sc q_Tb a q_all q_apart res.1 res.2)) (va_A (wd12 cyI cyJ cyZ q_Sc q_Tb q_row q_all q_apart n_row a_row) sz)) (va_A (wd12 cyI cyJ cyZ q_Sc q_Tb q_row q_all q_apart n_row a_row) sz)) MC MS (va_A (wd12 cyI cyJ cyZ q_Sc q_Tb q_row q_all q_apart n_row a_row) sz) := by
  refine Met.ofW (cc := cX7_leastPrimes) (maxL := 4) (ret := (some (.array .int))) (by decide) rfl ?_
  intro p e s m args below meth c s₁ B hml hv
  obtain ⟨rfl, hsz, hP, hG, hD0⟩ := hv
  have hx := B.exec
  have hb := B.bytes
  have hr := B.returns
  have hts := atoms_spec (ws := wsX7_leastPrimes) B.pre
  have hown : s.vm.findClass RX7 = some m.cls := findClass_of_methodNamed B.named
  have hlocks := B.notSynchronized
  subst hsz
  have hD := hD0.self (sz := s.heap.size)
  generalize hAe : va_A (wd12 cyI cyJ cyZ q_Sc q_Tb q_row q_all q_apart n_row a_row) s.heap.size = A at hD ⊢
  have hA : ∀ q : Nat, s.heap.size ≤ q → A q := fun q h => by rw [← hAe]; exact Or.inr h
  have hS : va_S A s.heap s.heap [] := va_S.rf
  have hl := lv_entry ([.ref q_Tb]) (n := 4) (Nat.le_of_ble_eq_true rfl)
  rw [lg_entry_eq]
  generalize (lg_sl ([.ref q_Tb]) ++ List.replicate (4 - (lg_sl ([.ref q_Tb])).length) Slot.unset).toArray = ls at hl ⊢
  have hl : lv_has ls 4 [(0, .ref q_Tb)] := hl
  exact k_X7_leastPrimes_0 ⟨hx, hb, hr, hml, hown, hts, hlocks, hG, hA⟩ N MC MS res q_Sc q_Tb q_all q_apart n_row a_row q_row h _ _ hP hD hS _ hl
/-- the cells Tb, all, apart, PaI -/
abbrev wd13 (cyI cyJ cyZ : ClassId) (q_Tb : Nat) (q_all : Nat) (q_apart : Nat) (q_PaI : Nat) (q_Sc : Nat) (n_all : Nat) (a_all : Nat → Int32) (n_apart : Nat) (a_apart : Nat → Int32) (n_PaI : Nat) (a_PaI : Nat → Int32) : va_W := [(q_Tb, .inr (7, [.ref q_Sc, .ref q_all, .ref q_apart])), (q_all, .inl (cyI, n_all, .inl a_all)), (q_apart, .inl (cyI, n_apart, .inl a_apart)), (q_PaI, .inl (cyI, n_PaI, .inl a_PaI))]
abbrev rm_X7_fillIn : Room := { frames := 0, cells := 0, slots := 0, locals := 0 }
theorem hd_X7_fillIn : yX7_fillIn.cls ≠ "java/lang/invoke/MethodHandle" ∧ yX7_fillIn.cls ≠ "java/lang/invoke/VarHandle" ∧ (parseMethodDescriptor yX7_fillIn.desc).map (fun d => d.parameters.length) = some 1 := by decide +kernel
theorem iw_X7_fillIn_X7 : ∀ w ∈ wsX70, w ∈ wsX7_fillIn := List.forall_mem_cons.mpr ⟨List.mem_of_getElem? (i := 3) rfl, List.forall_mem_cons.mpr ⟨List.mem_of_getElem? (i := 4) rfl, List.forall_mem_cons.mpr ⟨List.mem_of_getElem? (i := 5) rfl, fun _ h => absurd h List.not_mem_nil⟩⟩⟩
def j_X7_fillIn_110 (N : Nat) (k_16 : (Int32 × (Nat → Int32) × (Nat → Int32)) → Option ((Nat → Int32) × (Nat → Int32))) (v2 : Int32) (v4 : Int32) (v5 : Int32) (v6 : Int32) (n_all : Nat) (a_all : Nat → Int32) (n_apart : Nat) (a_apart : Nat → Int32) : Option ((Nat → Int32) × (Nat → Int32)) :=
  if v4 < (1 : Int32) then
    xl (v2 + (1 : Int32)) fun y13z =>
    k_16 (y13z, a_all, a_apart)
  else
    if v2 ≤ v4 then
      xl (v2 + (1 : Int32)) fun y15z =>
      k_16 (y15z, a_all, a_apart)
    else
      if v4 < 0 ∨ n_all ≤ v4.toNatClampNeg then
        none
      else
        xl ((a_all v4.toNatClampNeg) * v6) fun y17z =>
        if v2 < 0 ∨ n_all ≤ v2.toNatClampNeg then
          none
        else
          if v4 < 0 ∨ n_apart ≤ v4.toNatClampNeg then
            none
          else
            xl ((a_apart v4.toNatClampNeg) * (v5 + (1 : Int32))) fun y20z =>
            if v2 < 0 ∨ n_apart ≤ v2.toNatClampNeg then
              none
            else
              xl (v2 + (1 : Int32)) fun y22z =>
              k_16 (y22z, upd a_all v2.toNatClampNeg y17z, upd a_apart v2.toNatClampNeg y20z)
set_option maxRecDepth 100000 in
set_option maxHeartbeats 4000000 in
theorem k_X7_fillIn_110 {p : Program} {l : Launch} {e : Env} {s : State} {m : MethodId} {args : Array Value} {below : List Frame} {meth : Method} {c : Code} {dC : Nat → ClassId} {dI : Nat → Nat → Nat} {cyI cyJ cyZ : ClassId} {A : Nat → Prop} (C0 : mC p s m meth c args cX7_fillIn none 8 RX7 wsX7_fillIn (gK dC dI cyI cyJ cyZ) A) (N : Nat) (res : (Nat → Int32) × (Nat → Int32)) (q_Tb : Nat) (q_all : Nat) (q_apart : Nat) (q_PaI : Nat) (q_Sc : Nat) (v4 : Int32) (v5 : Int32) (v6 : Int32) (n_all : Nat) (n_apart : Nat) (n_PaI : Nat) (a_PaI : Nat → Int32) (k_16 : (Int32 × (Nat → Int32) × (Nat → Int32)) → Option ((Nat → Int32) × (Nat → Int32))) (hk_16 : ∀ (v2 : Int32) (a_all : Nat → Int32) (a_apart : Nat → Int32), k_16 (v2, a_all, a_apart) = some res → ∀ (H : Heap) (locs : List Loc), va_P (dC, dI) vwCl (wd13 cyI cyJ cyZ q_Tb q_all q_apart q_PaI q_Sc n_all a_all n_apart a_apart n_PaI a_PaI) H → va_D A (wd13 cyI cyJ cyZ q_Tb q_all q_apart q_PaI q_Sc n_all a_all n_apart a_apart n_PaI a_PaI) → va_S A s.heap H locs → ∀ (ls : Array Slot), lv_has ls 8 [(0, .ref q_Tb), (1, .ref q_PaI), (2, .int v2)] → W p l e (headSpec wsX7_fillIn rm_X7_fillIn).room s m args below meth c H locs 0 0 (MQ below (va_Qv (fun (_ : Unit) => True) (bW dC dI (fun (u : Unit) => (wd13 cyI cyJ cyZ q_Tb q_all q_apart q_PaI q_Sc n_all res.1 n_apart res.2 n_PaI a_PaI)) A) A) args s 0 0 A) (F0 m 16 ls [])) (v2 : Int32) (a_all : Nat → Int32) (a_apart : Nat → Int32) (h : j_X7_fillIn_110 N k_16 v2 v4 v5 v6 n_all a_all n_apart a_apart = some res) : ∀ (H : Heap) (locs : List Loc), va_P (dC, dI) vwCl (wd13 cyI cyJ cyZ q_Tb q_all q_apart q_PaI q_Sc n_all a_all n_apart a_apart n_PaI a_PaI) H → va_D A (wd13 cyI cyJ cyZ q_Tb q_all q_apart q_PaI q_Sc n_all a_all n_apart a_apart n_PaI a_PaI) → va_S A s.heap H locs → ∀ (ls : Array Slot), lv_has ls 8 [(0, .ref q_Tb), (1, .ref q_PaI), (2, .int v2), (4, .int v4), (5, .int v5), (6, .int v6)] → W p l e (headSpec wsX7_fillIn rm_X7_fillIn).room s m args below meth c H locs 0 0 (MQ below (va_Qv (fun (_ : Unit) => True) (bW dC dI (fun (u : Unit) => (wd13 cyI cyJ cyZ q_Tb q_all q_apart q_PaI q_Sc n_all res.1 n_apart res.2 n_PaI a_PaI)) A) A) args s 0 0 A) (F0 m 110 ls []) := by
  obtain ⟨hx, hb, hr, hml, hown, hts, hlocks, hG, hA⟩ := id C0
  have hK := hG.1
  intro H locs hP hD hS ls hl
  unfold j_X7_fillIn_110 at h
  refine lv_iload hx hb dX7_fillIn_110 (lv_at hl 3 rfl) ?_
  refine lv_iconst (v := (1 : Int32)) hx hb dX7_fillIn_112 (by decide) ?_
  refine lv_icmp_lt (tgt := 156) hx hb dX7_fillIn_113 (by decide) (fun c12z => ?_) (fun c12z => ?_)
  · have h := xt h c12z
    obtain ⟨y13z, ey13z⟩ : ∃ z : Int32, z = v2 + (1 : Int32) := ⟨_, rfl⟩
    have h := xl_at h ey13z
    refine lv_iinc (v := y13z) (lv' := [(2, .int y13z), (0, .ref q_Tb), (1, .ref q_PaI), (4, .int v4), (5, .int v5), (6, .int v6)]) hx hb dX7_fillIn_156 hl (k := 2) rfl (by rw [ey13z]; rfl) (by decide) rfl (fun ls hl => ?_)
    refine lv_goto (tgt := 16) hx hb dX7_fillIn_159 (by decide) ?_
    exact hk_16 y13z a_all a_apart h _ _ hP hD hS _ (lv_sub hl [1, 2, 0] rfl)
  · have h := xf h c12z
    refine lv_iload hx hb dX7_fillIn_116 (lv_at hl 3 rfl) ?_
    refine lv_iload_n hx hb dX7_fillIn_118 rfl (lv_at hl 2 rfl) ?_
    refine lv_icmp_ge (tgt := 156) hx hb dX7_fillIn_119 (by decide) (fun c14z => ?_) (fun c14z => ?_)
    · have h := xt h c14z
      obtain ⟨y15z, ey15z⟩ : ∃ z : Int32, z = v2 + (1 : Int32) := ⟨_, rfl⟩
      have h := xl_at h ey15z
      refine lv_iinc (v := y15z) (lv' := [(2, .int y15z), (0, .ref q_Tb), (1, .ref q_PaI), (4, .int v4), (5, .int v5), (6, .int v6)]) hx hb dX7_fillIn_156 hl (k := 2) rfl (by rw [ey15z]; rfl) (by decide) rfl (fun ls hl => ?_)
      refine lv_goto (tgt := 16) hx hb dX7_fillIn_159 (by decide) ?_
      exact hk_16 y15z a_all a_apart h _ _ hP hD hS _ (lv_sub hl [1, 2, 0] rfl)
    · have h := xf h c14z
      refine lv_aload_n hx hb dX7_fillIn_122 rfl (lv_at hl 0 rfl) ?_
      refine va_get (D := (dC, dI)) (ci := 7) (v := .ref q_all) (C := RX7) (T := TX7) (N := 3) hx hb hts iw_X7_fillIn_X7 hown hK hP 0 rfl rfl 1 (by decide) (hts (.fieldLink RX7 9 "GoesInto$Tables" "all" "[I") (List.mem_of_getElem? (i := 1) rfl)) (fun _ h9 => h9) rfl dX7_fillIn_123 ?_
      refine lv_iload_n hx hb dX7_fillIn_126 rfl (lv_at hl 2 rfl) ?_
      refine lv_aload_n hx hb dX7_fillIn_127 rfl (lv_at hl 0 rfl) ?_
      refine va_get (D := (dC, dI)) (ci := 7) (v := .ref q_all) (C := RX7) (T := TX7) (N := 3) hx hb hts iw_X7_fillIn_X7 hown hK hP 0 rfl rfl 1 (by decide) (hts (.fieldLink RX7 9 "GoesInto$Tables" "all" "[I") (List.mem_of_getElem? (i := 1) rfl)) (fun _ h9 => h9) rfl dX7_fillIn_128 ?_
      refine lv_iload hx hb dX7_fillIn_131 (lv_at hl 3 rfl) ?_
      obtain ⟨b16z, h⟩ := xn h
      refine va_iald hx hb hK hP 1 0 rfl rfl b16z dX7_fillIn_133 ?_
      refine lv_iload hx hb dX7_fillIn_134 (lv_at hl 5 rfl) ?_
      refine lv_imul hx hb dX7_fillIn_136 ?_
      refine lv_topi (fun y17z ey17z => ?_)
      have h := xl_at h ey17z
      obtain ⟨b18z, h⟩ := xn h
      refine va_iast hx hb hK hP hD hS 1 0 rfl rfl b18z dX7_fillIn_137 (fun H locs hP hD hS => ?_)
      have hP : va_P (dC, dI) vwCl (wd13 cyI cyJ cyZ q_Tb q_all q_apart q_PaI q_Sc n_all (upd a_all v2.toNatClampNeg y17z) n_apart a_apart n_PaI a_PaI) H := hP
      have hD : va_D A (wd13 cyI cyJ cyZ q_Tb q_all q_apart q_PaI q_Sc n_all (upd a_all v2.toNatClampNeg y17z) n_apart a_apart n_PaI a_PaI) := hD
      refine lv_aload_n hx hb dX7_fillIn_138 rfl (lv_at hl 0 rfl) ?_
      refine va_get (D := (dC, dI)) (ci := 7) (v := .ref q_apart) (C := RX7) (T := TX7) (N := 3) hx hb hts iw_X7_fillIn_X7 hown hK hP 0 rfl rfl 2 (by decide) (hts (.fieldLink RX7 15 "GoesInto$Tables" "apart" "[I") (List.mem_of_getElem? (i := 2) rfl)) (fun _ h9 => h9) rfl dX7_fillIn_139 ?_
      refine lv_iload_n hx hb dX7_fillIn_142 rfl (lv_at hl 2 rfl) ?_
      refine lv_aload_n hx hb dX7_fillIn_143 rfl (lv_at hl 0 rfl) ?_
      refine va_get (D := (dC, dI)) (ci := 7) (v := .ref q_apart) (C := RX7) (T := TX7) (N := 3) hx hb hts iw_X7_fillIn_X7 hown hK hP 0 rfl rfl 2 (by decide) (hts (.fieldLink RX7 15 "GoesInto$Tables" "apart" "[I") (List.mem_of_getElem? (i := 2) rfl)) (fun _ h9 => h9) rfl dX7_fillIn_144 ?_
      refine lv_iload hx hb dX7_fillIn_147 (lv_at hl 3 rfl) ?_
      obtain ⟨b19z, h⟩ := xn h
      refine va_iald hx hb hK hP 2 0 rfl rfl b19z dX7_fillIn_149 ?_
      refine lv_iload hx hb dX7_fillIn_150 (lv_at hl 4 rfl) ?_
      refine lv_iconst (v := (1 : Int32)) hx hb dX7_fillIn_152 (by decide) ?_
      refine lv_iadd hx hb dX7_fillIn_153 ?_
      refine lv_imul hx hb dX7_fillIn_154 ?_
      refine lv_topi (fun y20z ey20z => ?_)
      have h := xl_at h ey20z
      obtain ⟨b21z, h⟩ := xn h
      refine va_iast hx hb hK hP hD hS 2 0 rfl rfl b21z dX7_fillIn_155 (fun H locs hP hD hS => ?_)
      have hP : va_P (dC, dI) vwCl (wd13 cyI cyJ cyZ q_Tb q_all q_apart q_PaI q_Sc n_all (upd a_all v2.toNatClampNeg y17z) n_apart (upd a_apart v2.toNatClampNeg y20z) n_PaI a_PaI) H := hP
      have hD : va_D A (wd13 cyI cyJ cyZ q_Tb q_all q_apart q_PaI q_Sc n_all (upd a_all v2.toNatClampNeg y17z) n_apart (upd a_apart v2.toNatClampNeg y20z) n_PaI a_PaI) := hD
      obtain ⟨y22z, ey22z⟩ : ∃ z : Int32, z = v2 + (1 : Int32) := ⟨_, rfl⟩
      have h := xl_at h ey22z
      refine lv_iinc (v := y22z) (lv' := [(2, .int y22z), (0, .ref q_Tb), (1, .ref q_PaI), (4, .int v4), (5, .int v5), (6, .int v6)]) hx hb dX7_fillIn_156 hl (k := 2) rfl (by rw [ey22z]; rfl) (by decide) rfl (fun ls hl => ?_)
      refine lv_goto (tgt := 16) hx hb dX7_fillIn_159 (by decide) ?_
      exact hk_16 y22z (upd a_all v2.toNatClampNeg y17z) (upd a_apart v2.toNatClampNeg y20z) h _ _ hP hD hS _ (lv_sub hl [1, 2, 0] rfl)
def s_X7_fillIn_71 (N : Nat) (k_16 : (Int32 × (Nat → Int32) × (Nat → Int32)) → Option ((Nat → Int32) × (Nat → Int32))) (v2 : Int32) (v3 : Int32) (n_all : Nat) (a_all : Nat → Int32) (n_apart : Nat) (a_apart : Nat → Int32) (k_71 : (Int32 × Int32 × Int32 × Int32) → Option ((Nat → Int32) × (Nat → Int32))) (v4 : Int32) (v5 : Int32) (v6 : Int32) (v7 : Int32) : Option ((Nat → Int32) × (Nat → Int32)) :=
  if (32 : Int32) ≤ v7 then
    j_X7_fillIn_110 N k_16 v2 v4 v5 v6 n_all a_all n_apart a_apart
  else
    if v3 = 0 then
      none
    else
      if (v4 - v4 / v3 * v3) = 0 then
        xl (v4 / v3) fun y25z =>
        xl (v5 * v3) fun y26z =>
        xl (v6 + y26z) fun y27z =>
        xl (v7 + (1 : Int32)) fun y28z =>
        k_71 (y25z, y26z, y27z, y28z)
      else
        j_X7_fillIn_110 N k_16 v2 v4 v5 v6 n_all a_all n_apart a_apart
def l_X7_fillIn_71 (N : Nat) (k_16 : (Int32 × (Nat → Int32) × (Nat → Int32)) → Option ((Nat → Int32) × (Nat → Int32))) (v2 : Int32) (v3 : Int32) (n_all : Nat) (a_all : Nat → Int32) (n_apart : Nat) (a_apart : Nat → Int32) (n : Nat) (z : Int32 × Int32 × Int32 × Int32) : Option ((Nat → Int32) × (Nat → Int32)) := lp (fun k z => s_X7_fillIn_71 N k_16 v2 v3 n_all a_all n_apart a_apart k z.1 z.2.1 z.2.2.1 z.2.2.2) n z
set_option maxRecDepth 100000 in
set_option maxHeartbeats 4000000 in
theorem k_X7_fillIn_71 {p : Program} {l : Launch} {e : Env} {s : State} {m : MethodId} {args : Array Value} {below : List Frame} {meth : Method} {c : Code} {dC : Nat → ClassId} {dI : Nat → Nat → Nat} {cyI cyJ cyZ : ClassId} {A : Nat → Prop} (C0 : mC p s m meth c args cX7_fillIn none 8 RX7 wsX7_fillIn (gK dC dI cyI cyJ cyZ) A) (N : Nat) (res : (Nat → Int32) × (Nat → Int32)) (q_Tb : Nat) (q_all : Nat) (q_apart : Nat) (q_PaI : Nat) (q_Sc : Nat) (v3 : Int32) (n_all : Nat) (n_apart : Nat) (n_PaI : Nat) (a_PaI : Nat → Int32) (k_16 : (Int32 × (Nat → Int32) × (Nat → Int32)) → Option ((Nat → Int32) × (Nat → Int32))) (hk_16 : ∀ (v2 : Int32) (a_all : Nat → Int32) (a_apart : Nat → Int32), k_16 (v2, a_all, a_apart) = some res → ∀ (H : Heap) (locs : List Loc), va_P (dC, dI) vwCl (wd13 cyI cyJ cyZ q_Tb q_all q_apart q_PaI q_Sc n_all a_all n_apart a_apart n_PaI a_PaI) H → va_D A (wd13 cyI cyJ cyZ q_Tb q_all q_apart q_PaI q_Sc n_all a_all n_apart a_apart n_PaI a_PaI) → va_S A s.heap H locs → ∀ (ls : Array Slot), lv_has ls 8 [(0, .ref q_Tb), (1, .ref q_PaI), (2, .int v2)] → W p l e (headSpec wsX7_fillIn rm_X7_fillIn).room s m args below meth c H locs 0 0 (MQ below (va_Qv (fun (_ : Unit) => True) (bW dC dI (fun (u : Unit) => (wd13 cyI cyJ cyZ q_Tb q_all q_apart q_PaI q_Sc n_all res.1 n_apart res.2 n_PaI a_PaI)) A) A) args s 0 0 A) (F0 m 16 ls [])) (v2 : Int32) (a_all : Nat → Int32) (a_apart : Nat → Int32) : ∀ (n : Nat) (v4 : Int32) (v5 : Int32) (v6 : Int32) (v7 : Int32), l_X7_fillIn_71 N k_16 v2 v3 n_all a_all n_apart a_apart n (v4, v5, v6, v7) = some res → ∀ (H : Heap) (locs : List Loc), va_P (dC, dI) vwCl (wd13 cyI cyJ cyZ q_Tb q_all q_apart q_PaI q_Sc n_all a_all n_apart a_apart n_PaI a_PaI) H → va_D A (wd13 cyI cyJ cyZ q_Tb q_all q_apart q_PaI q_Sc n_all a_all n_apart a_apart n_PaI a_PaI) → va_S A s.heap H locs → ∀ (ls : Array Slot), lv_has ls 8 [(0, .ref q_Tb), (1, .ref q_PaI), (2, .int v2), (3, .int v3), (4, .int v4), (5, .int v5), (6, .int v6), (7, .int v7)] → W p l e (headSpec wsX7_fillIn rm_X7_fillIn).room s m args below meth c H locs 0 0 (MQ below (va_Qv (fun (_ : Unit) => True) (bW dC dI (fun (u : Unit) => (wd13 cyI cyJ cyZ q_Tb q_all q_apart q_PaI q_Sc n_all res.1 n_apart res.2 n_PaI a_PaI)) A) A) args s 0 0 A) (F0 m 71 ls []) := by
  obtain ⟨hx, hb, hr, hml, hown, hts, hlocks, hG, hA⟩ := id C0
  have hK := hG.1
  intro n
  induction n with
  | zero =>
    intro v4 v5 v6 v7 h
    cases h
  | succ n ih =>
    intro v4 v5 v6 v7 h H locs hP hD hS ls hl
    have h : s_X7_fillIn_71 N k_16 v2 v3 n_all a_all n_apart a_apart (l_X7_fillIn_71 N k_16 v2 v3 n_all a_all n_apart a_apart n) v4 v5 v6 v7 = some res := h
    unfold s_X7_fillIn_71 at h
    refine lv_iload hx hb dX7_fillIn_71 (lv_at hl 7 rfl) ?_
    refine lv_bipush (v := (32 : Int32)) hx hb dX7_fillIn_73 (by decide) ?_
    refine lv_icmp_ge (tgt := 110) hx hb dX7_fillIn_75 (by decide) (fun c11z => ?_) (fun c11z => ?_)
    · have h := xt h c11z
      exact k_X7_fillIn_110 C0 N res q_Tb q_all q_apart q_PaI q_Sc v4 v5 v6 n_all n_apart n_PaI a_PaI k_16 hk_16 v2 a_all a_apart  h _ _ hP hD hS _ (lv_sub hl [0, 1, 2, 4, 5, 6] rfl)
    · have h := xf h c11z
      refine lv_iload hx hb dX7_fillIn_78 (lv_at hl 4 rfl) ?_
      refine lv_iload_n hx hb dX7_fillIn_80 rfl (lv_at hl 3 rfl) ?_
      obtain ⟨b23z, h⟩ := xn h
      refine lv_irem hx hb dX7_fillIn_81 b23z ?_
      refine lv_if_ne (tgt := 110) hx hb dX7_fillIn_82 (by decide) (fun c24z => ?_) (fun c24z => ?_)
      · have h := xf h c24z
        exact k_X7_fillIn_110 C0 N res q_Tb q_all q_apart q_PaI q_Sc v4 v5 v6 n_all n_apart n_PaI a_PaI k_16 hk_16 v2 a_all a_apart  h _ _ hP hD hS _ (lv_sub hl [0, 1, 2, 4, 5, 6] rfl)
      · have h := xt h c24z
        refine lv_iload hx hb dX7_fillIn_85 (lv_at hl 4 rfl) ?_
        refine lv_iload_n hx hb dX7_fillIn_87 rfl (lv_at hl 3 rfl) ?_
        refine lv_idiv hx hb dX7_fillIn_88 b23z ?_
        refine lv_topi (fun y25z ey25z => ?_)
        have h := xl_at h ey25z
        refine lv_istore (lv' := [(4, .int y25z), (0, .ref q_Tb), (1, .ref q_PaI), (2, .int v2), (3, .int v3), (5, .int v5), (6, .int v6), (7, .int v7)]) hx hb dX7_fillIn_89 hl (by decide) rfl (fun ls hl => ?_)
        refine lv_iload hx hb dX7_fillIn_91 (lv_at hl 5 rfl) ?_
        refine lv_iload_n hx hb dX7_fillIn_93 rfl (lv_at hl 4 rfl) ?_
        refine lv_imul hx hb dX7_fillIn_94 ?_
        refine lv_topi (fun y26z ey26z => ?_)
        have h := xl_at h ey26z
        refine lv_istore (lv' := [(5, .int y26z), (4, .int y25z), (0, .ref q_Tb), (1, .ref q_PaI), (2, .int v2), (3, .int v3), (6, .int v6), (7, .int v7)]) hx hb dX7_fillIn_95 hl (by decide) rfl (fun ls hl => ?_)
        refine lv_iload hx hb dX7_fillIn_97 (lv_at hl 6 rfl) ?_
        refine lv_iload hx hb dX7_fillIn_99 (lv_at hl 0 rfl) ?_
        refine lv_iadd hx hb dX7_fillIn_101 ?_
        refine lv_topi (fun y27z ey27z => ?_)
        have h := xl_at h ey27z
        refine lv_istore (lv' := [(6, .int y27z), (5, .int y26z), (4, .int y25z), (0, .ref q_Tb), (1, .ref q_PaI), (2, .int v2), (3, .int v3), (7, .int v7)]) hx hb dX7_fillIn_102 hl (by decide) rfl (fun ls hl => ?_)
        obtain ⟨y28z, ey28z⟩ : ∃ z : Int32, z = v7 + (1 : Int32) := ⟨_, rfl⟩
        have h := xl_at h ey28z
        refine lv_iinc (v := y28z) (lv' := [(7, .int y28z), (6, .int y27z), (5, .int y26z), (4, .int y25z), (0, .ref q_Tb), (1, .ref q_PaI), (2, .int v2), (3, .int v3)]) hx hb dX7_fillIn_104 hl (k := 7) rfl (by rw [ey28z]; rfl) (by decide) rfl (fun ls hl => ?_)
        refine lv_goto (tgt := 71) hx hb dX7_fillIn_107 (by decide) ?_
        exact ih y25z y26z y27z y28z h _ _ hP hD hS _ (lv_sub hl [4, 5, 6, 7, 3, 2, 1, 0] rfl)
def j_X7_fillIn_54 (N : Nat) (k_16 : (Int32 × (Nat → Int32) × (Nat → Int32)) → Option ((Nat → Int32) × (Nat → Int32))) (v2 : Int32) (s0 : Int32) (n_all : Nat) (a_all : Nat → Int32) (n_apart : Nat) (a_apart : Nat → Int32) : Option ((Nat → Int32) × (Nat → Int32)) :=
  if s0 = 0 then
    none
  else
    xl (v2 / s0) fun y9z =>
    xl ((1 : Int32) + s0) fun y10z =>
    l_X7_fillIn_71 N k_16 v2 s0 n_all a_all n_apart a_apart N (y9z, s0, y10z, (0 : Int32))
set_option maxRecDepth 100000 in
set_option maxHeartbeats 4000000 in
theorem k_X7_fillIn_54 {p : Program} {l : Launch} {e : Env} {s : State} {m : MethodId} {args : Array Value} {below : List Frame} {meth : Method} {c : Code} {dC : Nat → ClassId} {dI : Nat → Nat → Nat} {cyI cyJ cyZ : ClassId} {A : Nat → Prop} (C0 : mC p s m meth c args cX7_fillIn none 8 RX7 wsX7_fillIn (gK dC dI cyI cyJ cyZ) A) (N : Nat) (res : (Nat → Int32) × (Nat → Int32)) (q_Tb : Nat) (q_all : Nat) (q_apart : Nat) (q_PaI : Nat) (q_Sc : Nat) (s0 : Int32) (n_all : Nat) (n_apart : Nat) (n_PaI : Nat) (a_PaI : Nat → Int32) (k_16 : (Int32 × (Nat → Int32) × (Nat → Int32)) → Option ((Nat → Int32) × (Nat → Int32))) (hk_16 : ∀ (v2 : Int32) (a_all : Nat → Int32) (a_apart : Nat → Int32), k_16 (v2, a_all, a_apart) = some res → ∀ (H : Heap) (locs : List Loc), va_P (dC, dI) vwCl (wd13 cyI cyJ cyZ q_Tb q_all q_apart q_PaI q_Sc n_all a_all n_apart a_apart n_PaI a_PaI) H → va_D A (wd13 cyI cyJ cyZ q_Tb q_all q_apart q_PaI q_Sc n_all a_all n_apart a_apart n_PaI a_PaI) → va_S A s.heap H locs → ∀ (ls : Array Slot), lv_has ls 8 [(0, .ref q_Tb), (1, .ref q_PaI), (2, .int v2)] → W p l e (headSpec wsX7_fillIn rm_X7_fillIn).room s m args below meth c H locs 0 0 (MQ below (va_Qv (fun (_ : Unit) => True) (bW dC dI (fun (u : Unit) => (wd13 cyI cyJ cyZ q_Tb q_all q_apart q_PaI q_Sc n_all res.1 n_apart res.2 n_PaI a_PaI)) A) A) args s 0 0 A) (F0 m 16 ls [])) (v2 : Int32) (a_all : Nat → Int32) (a_apart : Nat → Int32) (h : j_X7_fillIn_54 N k_16 v2 s0 n_all a_all n_apart a_apart = some res) : ∀ (H : Heap) (locs : List Loc), va_P (dC, dI) vwCl (wd13 cyI cyJ cyZ q_Tb q_all q_apart q_PaI q_Sc n_all a_all n_apart a_apart n_PaI a_PaI) H → va_D A (wd13 cyI cyJ cyZ q_Tb q_all q_apart q_PaI q_Sc n_all a_all n_apart a_apart n_PaI a_PaI) → va_S A s.heap H locs → ∀ (ls : Array Slot), lv_has ls 8 [(0, .ref q_Tb), (1, .ref q_PaI), (2, .int v2)] → W p l e (headSpec wsX7_fillIn rm_X7_fillIn).room s m args below meth c H locs 0 0 (MQ below (va_Qv (fun (_ : Unit) => True) (bW dC dI (fun (u : Unit) => (wd13 cyI cyJ cyZ q_Tb q_all q_apart q_PaI q_Sc n_all res.1 n_apart res.2 n_PaI a_PaI)) A) A) args s 0 0 A) (F0 m 54 ls [.int s0]) := by
  obtain ⟨hx, hb, hr, hml, hown, hts, hlocks, hG, hA⟩ := id C0
  have hK := hG.1
  intro H locs hP hD hS ls hl
  unfold j_X7_fillIn_54 at h
  refine lv_istore_n (lv' := [(3, .int s0), (0, .ref q_Tb), (1, .ref q_PaI), (2, .int v2)]) hx hb dX7_fillIn_54 rfl hl (by decide) rfl (fun ls hl => ?_)
  refine lv_iload_n hx hb dX7_fillIn_55 rfl (lv_at hl 3 rfl) ?_
  refine lv_iload_n hx hb dX7_fillIn_56 rfl (lv_at hl 0 rfl) ?_
  obtain ⟨b8z, h⟩ := xn h
  refine lv_idiv hx hb dX7_fillIn_57 b8z ?_
  refine lv_topi (fun y9z ey9z => ?_)
  have h := xl_at h ey9z
  refine lv_istore (lv' := [(4, .int y9z), (3, .int s0), (0, .ref q_Tb), (1, .ref q_PaI), (2, .int v2)]) hx hb dX7_fillIn_58 hl (by decide) rfl (fun ls hl => ?_)
  refine lv_iload_n hx hb dX7_fillIn_60 rfl (lv_at hl 1 rfl) ?_
  refine lv_istore (lv' := [(5, .int s0), (4, .int y9z), (3, .int s0), (0, .ref q_Tb), (1, .ref q_PaI), (2, .int v2)]) hx hb dX7_fillIn_61 hl (by decide) rfl (fun ls hl => ?_)
  refine lv_iconst (v := (1 : Int32)) hx hb dX7_fillIn_63 (by decide) ?_
  refine lv_iload_n hx hb dX7_fillIn_64 rfl (lv_at hl 2 rfl) ?_
  refine lv_iadd hx hb dX7_fillIn_65 ?_
  refine lv_topi (fun y10z ey10z => ?_)
  have h := xl_at h ey10z
  refine lv_istore (lv' := [(6, .int y10z), (5, .int s0), (4, .int y9z), (3, .int s0), (0, .ref q_Tb), (1, .ref q_PaI), (2, .int v2)]) hx hb dX7_fillIn_66 hl (by decide) rfl (fun ls hl => ?_)
  refine lv_iconst (v := (0 : Int32)) hx hb dX7_fillIn_68 (by decide) ?_
  refine lv_istore (lv' := [(7, .int (0 : Int32)), (6, .int y10z), (5, .int s0), (4, .int y9z), (3, .int s0), (0, .ref q_Tb), (1, .ref q_PaI), (2, .int v2)]) hx hb dX7_fillIn_69 hl (by decide) rfl (fun ls hl => ?_)
  exact k_X7_fillIn_71 C0 N res q_Tb q_all q_apart q_PaI q_Sc s0 n_all n_apart n_PaI a_PaI k_16 hk_16 v2 a_all a_apart N y9z s0 y10z (0 : Int32) h _ _ hP hD hS _ (lv_sub hl [5, 6, 7, 4, 3, 2, 1, 0] rfl)
def s_X7_fillIn_16 (N : Nat) (n_all : Nat) (n_apart : Nat) (n_PaI : Nat) (a_PaI : Nat → Int32) (k_16 : (Int32 × (Nat → Int32) × (Nat → Int32)) → Option ((Nat → Int32) × (Nat → Int32))) (v2 : Int32) (a_all : Nat → Int32) (a_apart : Nat → Int32) : Option ((Nat → Int32) × (Nat → Int32)) :=
  if (nI n_all) ≤ v2 then
    some (a_all, a_apart)
  else
    if (nI n_apart) ≤ v2 then
      some (a_all, a_apart)
    else
      if (nI n_PaI) ≤ v2 then
        some (a_all, a_apart)
      else
        if v2 < 0 ∨ n_PaI ≤ v2.toNatClampNeg then
          none
        else
          if (2 : Int32) ≤ (a_PaI v2.toNatClampNeg) then
            j_X7_fillIn_54 N k_16 v2 (a_PaI v2.toNatClampNeg) n_all a_all n_apart a_apart
          else
            j_X7_fillIn_54 N k_16 v2 v2 n_all a_all n_apart a_apart
def l_X7_fillIn_16 (N : Nat) (n_all : Nat) (n_apart : Nat) (n_PaI : Nat) (a_PaI : Nat → Int32) (n : Nat) (z : Int32 × (Nat → Int32) × (Nat → Int32)) : Option ((Nat → Int32) × (Nat → Int32)) := lp (fun k z => s_X7_fillIn_16 N n_all n_apart n_PaI a_PaI k z.1 z.2.1 z.2.2) n z
set_option maxRecDepth 100000 in
set_option maxHeartbeats 4000000 in
theorem k_X7_fillIn_16 {p : Program} {l : Launch} {e : Env} {s : State} {m : MethodId} {args : Array Value} {below : List Frame} {meth : Method} {c : Code} {dC : Nat → ClassId} {dI : Nat → Nat → Nat} {cyI cyJ cyZ : ClassId} {A : Nat → Prop} (C0 : mC p s m meth c args cX7_fillIn none 8 RX7 wsX7_fillIn (gK dC dI cyI cyJ cyZ) A) (N : Nat) (res : (Nat → Int32) × (Nat → Int32)) (q_Tb : Nat) (q_all : Nat) (q_apart : Nat) (q_PaI : Nat) (q_Sc : Nat) (n_all : Nat) (n_apart : Nat) (n_PaI : Nat) (a_PaI : Nat → Int32) : ∀ (n : Nat) (v2 : Int32) (a_all : Nat → Int32) (a_apart : Nat → Int32), l_X7_fillIn_16 N n_all n_apart n_PaI a_PaI n (v2, a_all, a_apart) = some res → ∀ (H : Heap) (locs : List Loc), va_P (dC, dI) vwCl (wd13 cyI cyJ cyZ q_Tb q_all q_apart q_PaI q_Sc n_all a_all n_apart a_apart n_PaI a_PaI) H → va_D A (wd13 cyI cyJ cyZ q_Tb q_all q_apart q_PaI q_Sc n_all a_all n_apart a_apart n_PaI a_PaI) → va_S A s.heap H locs → ∀ (ls : Array Slot), lv_has ls 8 [(0, .ref q_Tb), (1, .ref q_PaI), (2, .int v2)] → W p l e (headSpec wsX7_fillIn rm_X7_fillIn).room s m args below meth c H locs 0 0 (MQ below (va_Qv (fun (_ : Unit) => True) (bW dC dI (fun (u : Unit) => (wd13 cyI cyJ cyZ q_Tb q_all q_apart q_PaI q_Sc n_all res.1 n_apart res.2 n_PaI a_PaI)) A) A) args s 0 0 A) (F0 m 16 ls []) := by
  obtain ⟨hx, hb, hr, hml, hown, hts, hlocks, hG, hA⟩ := id C0
  have hK := hG.1
  intro n
  induction n with
  | zero =>
    intro v2 a_all a_apart h
    cases h
  | succ n ih =>
    intro v2 a_all a_apart h H locs hP hD hS ls hl
    have h : s_X7_fillIn_16 N n_all n_apart n_PaI a_PaI (l_X7_fillIn_16 N n_all n_apart n_PaI a_PaI n) v2 a_all a_apart = some res := h
    unfold s_X7_fillIn_16 at h
    refine lv_iload_n hx hb dX7_fillIn_16 rfl (lv_at hl 2 rfl) ?_
    refine lv_aload_n hx hb dX7_fillIn_17 rfl (lv_at hl 0 rfl) ?_
    refine va_get (D := (dC, dI)) (ci := 7) (v := .ref q_all) (C := RX7) (T := TX7) (N := 3) hx hb hts iw_X7_fillIn_X7 hown hK hP 0 rfl rfl 1 (by decide) (hts (.fieldLink RX7 9 "GoesInto$Tables" "all" "[I") (List.mem_of_getElem? (i := 1) rfl)) (fun _ h9 => h9) rfl dX7_fillIn_18 ?_
    refine va_alen (v := nI n_all) hx hb hK hP 1 0 rfl rfl rfl dX7_fillIn_21 ?_
    refine lv_icmp_ge (tgt := 162) hx hb dX7_fillIn_22 (by decide) (fun c3z => ?_) (fun c3z => ?_)
    · have h := xt h c3z
      obtain rfl := Option.some.inj h
      exact W.vret hx hb hr (fun t ht hW => ⟨⟨(), rfl, trivial, by rw [ht]; exact hP, hD⟩, hS.F ht⟩) hS.2.2 dX7_fillIn_162 hlocks
    · have h := xf h c3z
      refine lv_iload_n hx hb dX7_fillIn_25 rfl (lv_at hl 2 rfl) ?_
      refine lv_aload_n hx hb dX7_fillIn_26 rfl (lv_at hl 0 rfl) ?_
      refine va_get (D := (dC, dI)) (ci := 7) (v := .ref q_apart) (C := RX7) (T := TX7) (N := 3) hx hb hts iw_X7_fillIn_X7 hown hK hP 0 rfl rfl 2 (by decide) (hts (.fieldLink RX7 15 "GoesInto$Tables" "apart" "[I") (List.mem_of_getElem? (i := 2) rfl)) (fun _ h9 => h9) rfl dX7_fillIn_27 ?_
      refine va_alen (v := nI n_apart) hx hb hK hP 2 0 rfl rfl rfl dX7_fillIn_30 ?_
      refine lv_icmp_ge (tgt := 162) hx hb dX7_fillIn_31 (by decide) (fun c4z => ?_) (fun c4z => ?_)
      · have h := xt h c4z
        obtain rfl := Option.some.inj h
        exact W.vret hx hb hr (fun t ht hW => ⟨⟨(), rfl, trivial, by rw [ht]; exact hP, hD⟩, hS.F ht⟩) hS.2.2 dX7_fillIn_162 hlocks
      · have h := xf h c4z
        refine lv_iload_n hx hb dX7_fillIn_34 rfl (lv_at hl 2 rfl) ?_
        refine lv_aload_n hx hb dX7_fillIn_35 rfl (lv_at hl 1 rfl) ?_
        refine va_alen (v := nI n_PaI) hx hb hK hP 3 0 rfl rfl rfl dX7_fillIn_36 ?_
        refine lv_icmp_ge (tgt := 162) hx hb dX7_fillIn_37 (by decide) (fun c5z => ?_) (fun c5z => ?_)
        · have h := xt h c5z
          obtain rfl := Option.some.inj h
          exact W.vret hx hb hr (fun t ht hW => ⟨⟨(), rfl, trivial, by rw [ht]; exact hP, hD⟩, hS.F ht⟩) hS.2.2 dX7_fillIn_162 hlocks
        · have h := xf h c5z
          refine lv_aload_n hx hb dX7_fillIn_40 rfl (lv_at hl 1 rfl) ?_
          refine lv_iload_n hx hb dX7_fillIn_41 rfl (lv_at hl 2 rfl) ?_
          obtain ⟨b6z, h⟩ := xn h
          refine va_iald hx hb hK hP 3 0 rfl rfl b6z dX7_fillIn_42 ?_
          refine lv_iconst (v := (2 : Int32)) hx hb dX7_fillIn_43 (by decide) ?_
          refine lv_icmp_ge (tgt := 51) hx hb dX7_fillIn_44 (by decide) (fun c7z => ?_) (fun c7z => ?_)
          · have h := xt h c7z
            refine lv_aload_n hx hb dX7_fillIn_51 rfl (lv_at hl 1 rfl) ?_
            refine lv_iload_n hx hb dX7_fillIn_52 rfl (lv_at hl 2 rfl) ?_
            refine va_iald hx hb hK hP 3 0 rfl rfl b6z dX7_fillIn_53 ?_
            exact k_X7_fillIn_54 C0 N res q_Tb q_all q_apart q_PaI q_Sc (a_PaI v2.toNatClampNeg) n_all n_apart n_PaI a_PaI _ ih v2 a_all a_apart  h _ _ hP hD hS _ (lv_sub hl [0, 1, 2] rfl)
          · have h := xf h c7z
            refine lv_iload_n hx hb dX7_fillIn_47 rfl (lv_at hl 2 rfl) ?_
            refine lv_goto (tgt := 54) hx hb dX7_fillIn_48 (by decide) ?_
            exact k_X7_fillIn_54 C0 N res q_Tb q_all q_apart q_PaI q_Sc v2 n_all n_apart n_PaI a_PaI _ ih v2 a_all a_apart  h _ _ hP hD hS _ (lv_sub hl [0, 1, 2] rfl)
def f_X7_fillIn (N : Nat) (n_all : Nat) (a_all : Nat → Int32) (n_apart : Nat) (a_apart : Nat → Int32) (n_PaI : Nat) (a_PaI : Nat → Int32) : Option ((Nat → Int32) × (Nat → Int32)) :=
  if (1 : Int32) < 0 ∨ n_all ≤ (1 : Int32).toNatClampNeg then
    none
  else
    if (1 : Int32) < 0 ∨ n_apart ≤ (1 : Int32).toNatClampNeg then
      none
    else
      l_X7_fillIn_16 N n_all n_apart n_PaI a_PaI N ((2 : Int32), upd a_all (1 : Int32).toNatClampNeg (1 : Int32), upd a_apart (1 : Int32).toNatClampNeg (1 : Int32))
set_option maxRecDepth 100000 in
set_option maxHeartbeats 4000000 in
theorem k_X7_fillIn_0 {p : Program} {l : Launch} {e : Env} {s : State} {m : MethodId} {args : Array Value} {below : List Frame} {meth : Method} {c : Code} {dC : Nat → ClassId} {dI : Nat → Nat → Nat} {cyI cyJ cyZ : ClassId} {A : Nat → Prop} (C0 : mC p s m meth c args cX7_fillIn none 8 RX7 wsX7_fillIn (gK dC dI cyI cyJ cyZ) A) (N : Nat) (res : (Nat → Int32) × (Nat → Int32)) (q_Tb : Nat) (q_all : Nat) (q_apart : Nat) (q_PaI : Nat) (q_Sc : Nat) (n_all : Nat) (a_all : Nat → Int32) (n_apart : Nat) (a_apart : Nat → Int32) (n_PaI : Nat) (a_PaI : Nat → Int32) (h : f_X7_fillIn N n_all a_all n_apart a_apart n_PaI a_PaI = some res) : ∀ (H : Heap) (locs : List Loc), va_P (dC, dI) vwCl (wd13 cyI cyJ cyZ q_Tb q_all q_apart q_PaI q_Sc n_all a_all n_apart a_apart n_PaI a_PaI) H → va_D A (wd13 cyI cyJ cyZ q_Tb q_all q_apart q_PaI q_Sc n_all a_all n_apart a_apart n_PaI a_PaI) → va_S A s.heap H locs → ∀ (ls : Array Slot), lv_has ls 8 [(0, .ref q_Tb), (1, .ref q_PaI)] → W p l e (headSpec wsX7_fillIn rm_X7_fillIn).room s m args below meth c H locs 0 0 (MQ below (va_Qv (fun (_ : Unit) => True) (bW dC dI (fun (u : Unit) => (wd13 cyI cyJ cyZ q_Tb q_all q_apart q_PaI q_Sc n_all res.1 n_apart res.2 n_PaI a_PaI)) A) A) args s 0 0 A) (F0 m 0 ls []) := by
  obtain ⟨hx, hb, hr, hml, hown, hts, hlocks, hG, hA⟩ := id C0
  have hK := hG.1
  intro H locs hP hD hS ls hl
  unfold f_X7_fillIn at h
  refine lv_aload_n hx hb dX7_fillIn_0 rfl (lv_at hl 0 rfl) ?_
  refine va_get (D := (dC, dI)) (ci := 7) (v := .ref q_all) (C := RX7) (T := TX7) (N := 3) hx hb hts iw_X7_fillIn_X7 hown hK hP 0 rfl rfl 1 (by decide) (hts (.fieldLink RX7 9 "GoesInto$Tables" "all" "[I") (List.mem_of_getElem? (i := 1) rfl)) (fun _ h9 => h9) rfl dX7_fillIn_1 ?_
  refine lv_iconst (v := (1 : Int32)) hx hb dX7_fillIn_4 (by decide) ?_
  refine lv_iconst (v := (1 : Int32)) hx hb dX7_fillIn_5 (by decide) ?_
  obtain ⟨b1z, h⟩ := xn h
  refine va_iast hx hb hK hP hD hS 1 0 rfl rfl b1z dX7_fillIn_6 (fun H locs hP hD hS => ?_)
  have hP : va_P (dC, dI) vwCl (wd13 cyI cyJ cyZ q_Tb q_all q_apart q_PaI q_Sc n_all (upd a_all (1 : Int32).toNatClampNeg (1 : Int32)) n_apart a_apart n_PaI a_PaI) H := hP
  have hD : va_D A (wd13 cyI cyJ cyZ q_Tb q_all q_apart q_PaI q_Sc n_all (upd a_all (1 : Int32).toNatClampNeg (1 : Int32)) n_apart a_apart n_PaI a_PaI) := hD
  refine lv_aload_n hx hb dX7_fillIn_7 rfl (lv_at hl 0 rfl) ?_
  refine va_get (D := (dC, dI)) (ci := 7) (v := .ref q_apart) (C := RX7) (T := TX7) (N := 3) hx hb hts iw_X7_fillIn_X7 hown hK hP 0 rfl rfl 2 (by decide) (hts (.fieldLink RX7 15 "GoesInto$Tables" "apart" "[I") (List.mem_of_getElem? (i := 2) rfl)) (fun _ h9 => h9) rfl dX7_fillIn_8 ?_
  refine lv_iconst (v := (1 : Int32)) hx hb dX7_fillIn_11 (by decide) ?_
  refine lv_iconst (v := (1 : Int32)) hx hb dX7_fillIn_12 (by decide) ?_
  obtain ⟨b2z, h⟩ := xn h
  refine va_iast hx hb hK hP hD hS 2 0 rfl rfl b2z dX7_fillIn_13 (fun H locs hP hD hS => ?_)
  have hP : va_P (dC, dI) vwCl (wd13 cyI cyJ cyZ q_Tb q_all q_apart q_PaI q_Sc n_all (upd a_all (1 : Int32).toNatClampNeg (1 : Int32)) n_apart (upd a_apart (1 : Int32).toNatClampNeg (1 : Int32)) n_PaI a_PaI) H := hP
  have hD : va_D A (wd13 cyI cyJ cyZ q_Tb q_all q_apart q_PaI q_Sc n_all (upd a_all (1 : Int32).toNatClampNeg (1 : Int32)) n_apart (upd a_apart (1 : Int32).toNatClampNeg (1 : Int32)) n_PaI a_PaI) := hD
  refine lv_iconst (v := (2 : Int32)) hx hb dX7_fillIn_14 (by decide) ?_
  refine lv_istore_n (lv' := [(2, .int (2 : Int32)), (0, .ref q_Tb), (1, .ref q_PaI)]) hx hb dX7_fillIn_15 rfl hl (by decide) rfl (fun ls hl => ?_)
  exact k_X7_fillIn_16 C0 N res q_Tb q_all q_apart q_PaI q_Sc n_all n_apart n_PaI a_PaI N (2 : Int32) (upd a_all (1 : Int32).toNatClampNeg (1 : Int32)) (upd a_apart (1 : Int32).toNatClampNeg (1 : Int32)) h _ _ hP hD hS _ (lv_sub hl [1, 2, 0] rfl)
set_option maxRecDepth 100000 in
set_option maxHeartbeats 4000000 in
theorem c_X7_fillIn (l : Launch) (dC : Nat → ClassId) (dI : Nat → Nat → Nat) (cyI cyJ cyZ : ClassId) (N : Nat) (res : (Nat → Int32) × (Nat → Int32)) (sz : Nat) (q_Tb : Nat) (q_all : Nat) (q_apart : Nat) (q_PaI : Nat) (q_Sc : Nat) (n_all : Nat) (a_all : Nat → Int32) (n_apart : Nat) (a_apart : Nat → Int32) (n_PaI : Nat) (a_PaI : Nat → Int32) (h : f_X7_fillIn N  n_all a_all n_apart a_apart n_PaI a_PaI = some res) : Met l yX7_fillIn wsX7_fillIn rm_X7_fillIn (pC dC dI cyI cyJ cyZ [.ref q_Tb, .ref q_PaI] sz (wd13 cyI cyJ cyZ q_Tb q_all q_apart q_PaI q_Sc n_all a_all n_apart a_apart n_PaI a_PaI)) (va_Qv (fun (_ : Unit) => True) (bW dC dI (fun (u : Unit) => (wd13 cyI cyJ cyZ q_Tb q_all q_apart q_PaI q_Sc n_all res.1 n_apart res.2 n_PaI a_PaI)) (va_A (wd13 cyI cyJ cyZ q_Tb q_all q_apart q_PaI q_Sc n_all a_all n_apart a_apart n_PaI a_PaI) sz)) (va_A (wd13 cyI cyJ cyZ q_Tb q_all q_apart q_PaI q_Sc n_all a_all n_apart a_apart n_PaI a_PaI) sz)) 0 0 (va_A (wd13 cyI cyJ cyZ q_Tb q_all q_apart q_PaI q_Sc n_all a_all n_apart a_apart n_PaI a_PaI) sz) := by
  refine Met.ofW (cc := cX7_fillIn) (maxL := 8) (ret := none) (by decide) rfl ?_
  intro p e s m args below meth c s₁ B hml hv
  obtain ⟨rfl, hsz, hP, hG, hD0⟩ := hv
  have hx := B.exec
  have hb := B.bytes
  have hr := B.returns
  have hts := atoms_spec (ws := wsX7_fillIn) B.pre
  have hown : s.vm.findClass RX7 = some m.cls := findClass_of_methodNamed B.named
  have hlocks := B.notSynchronized
  subst hsz
  have hD := hD0.self (sz := s.heap.size)
  generalize hAe : va_A (wd13 cyI cyJ cyZ q_Tb q_all q_apart q_PaI q_Sc n_all a_all n_apart a_apart n_PaI a_PaI) s.heap.size = A at hD ⊢
  have hA : ∀ q : Nat, s.heap.size ≤ q → A q := fun q h => by rw [← hAe]; exact Or.inr h
  have hS : va_S A s.heap s.heap [] := va_S.rf
  have hl := lv_entry ([.ref q_Tb, .ref q_PaI]) (n := 8) (Nat.le_of_ble_eq_true rfl)
  rw [lg_entry_eq]
  generalize (lg_sl ([.ref q_Tb, .ref q_PaI]) ++ List.replicate (8 - (lg_sl ([.ref q_Tb, .ref q_PaI])).length) Slot.unset).toArray = ls at hl ⊢
  have hl : lv_has ls 8 [(0, .ref q_Tb), (1, .ref q_PaI)] := hl
  exact k_X7_fillIn_0 ⟨hx, hb, hr, hml, hown, hts, hlocks, hG, hA⟩ N res q_Tb q_all q_apart q_PaI q_Sc n_all a_all n_apart a_apart n_PaI a_PaI  h _ _ hP hD hS _ hl
/-- the cells Sc, Tb, row, all, apart -/
abbrev wd14 (cyI cyJ cyZ : ClassId) (q_Sc : Nat) (q_Tb : Nat) (q_row : Nat) (q_all : Nat) (q_apart : Nat) (n_row : Nat) (a_row : Nat → Int32) (n_all : Nat) (a_all : Nat → Int32) (n_apart : Nat) (a_apart : Nat → Int32) : va_W := [(q_Sc, .inr (4, [.ref q_row])), (q_Tb, .inr (7, [.ref q_Sc, .ref q_all, .ref q_apart])), (q_row, .inl (cyI, n_row, .inl a_row)), (q_all, .inl (cyI, n_all, .inl a_all)), (q_apart, .inl (cyI, n_apart, .inl a_apart))]
abbrev rm_X7_prepare (MC MS : Nat) : Room := { frames := 3, cells := MC, slots := MS, locals := 67 }
theorem hd_X7_prepare : yX7_prepare.cls ≠ "java/lang/invoke/MethodHandle" ∧ yX7_prepare.cls ≠ "java/lang/invoke/VarHandle" ∧ (parseMethodDescriptor yX7_prepare.desc).map (fun d => d.parameters.length) = some 0 := by decide +kernel
theorem iw_X7_prepare_X4 : ∀ w ∈ wsX40, w ∈ wsX7_prepare := List.forall_mem_cons.mpr ⟨List.mem_of_getElem? (i := 33) rfl, fun _ h => absurd h List.not_mem_nil⟩
theorem iw_X7_prepare_X7 : ∀ w ∈ wsX70, w ∈ wsX7_prepare := List.forall_mem_cons.mpr ⟨List.mem_of_getElem? (i := 30) rfl, List.forall_mem_cons.mpr ⟨List.mem_of_getElem? (i := 31) rfl, List.forall_mem_cons.mpr ⟨List.mem_of_getElem? (i := 32) rfl, fun _ h => absurd h List.not_mem_nil⟩⟩⟩
def f_X7_prepare (N : Nat) (MC : Nat) (MS : Nat) (n_row : Nat) (a_row : Nat → Int32) (n_all : Nat) (a_all : Nat → Int32) (n_apart : Nat) (a_apart : Nat → Int32) : Option (Nat × (Nat → Int32) × Nat × (Nat → Int32) × Nat × (Nat → Int32)) :=
  if (nI n_all) ≤ 0 then
    if 0 + 1 ≤ MC ∧ 0 + 50001 ≤ MS then
      if 0 + 1 + 1 ≤ MC ∧ 0 + 50001 + 50001 ≤ MS then
        if 0 + 1 + 1 + (if nI n_row = 0 then 1 else 0) ≤ MC ∧ 0 + 50001 + 50001 + (if nI n_row = 0 then 50001 else 0) ≤ MS then
          Option.bind (f_X7_leastPrimes N (if nI n_row = 0 then 1 else 0) (if nI n_row = 0 then 50001 else 0)  n_row a_row) fun r6z =>
          if 0 + 1 + 1 + (if nI n_row = 0 then 1 else 0) ≤ MC ∧ 0 + 50001 + 50001 + (if nI n_row = 0 then 50001 else 0) ≤ MS then
            Option.bind (f_X7_fillIn N  50001 (fun _ => 0) 50001 (fun _ => 0) r6z.1 r6z.2) fun r10z =>
            if 0 + 1 + 1 + (if nI n_row = 0 then 1 else 0) ≤ MC ∧ 0 + 50001 + 50001 + (if nI n_row = 0 then 50001 else 0) ≤ MS then
              some (r6z.1, r6z.2, 50001, r10z.1, 50001, r10z.2)
            else
              none
          else
            none
        else
          none
      else
        none
    else
      none
  else
    if 0 ≤ MC ∧ 0 ≤ MS then
      some (n_row, a_row, n_all, a_all, n_apart, a_apart)
    else
      none
set_option maxRecDepth 100000 in
set_option maxHeartbeats 4000000 in
theorem k_X7_prepare_0 {p : Program} {l : Launch} {e : Env} {s : State} {m : MethodId} {args : Array Value} {below : List Frame} {meth : Method} {c : Code} {dC : Nat → ClassId} {dI : Nat → Nat → Nat} {cyI cyJ cyZ : ClassId} {A : Nat → Prop} (C0 : mC p s m meth c args cX7_prepare none 1 RX7 wsX7_prepare (gK dC dI cyI cyJ cyZ) A) (N : Nat) (MC MS : Nat) (res : Nat × (Nat → Int32) × Nat × (Nat → Int32) × Nat × (Nat → Int32)) (q_Sc : Nat) (q_Tb : Nat) (n_row : Nat) (a_row : Nat → Int32) (n_all : Nat) (a_all : Nat → Int32) (n_apart : Nat) (a_apart : Nat → Int32) (q_row : Nat) (q_all : Nat) (q_apart : Nat) (h : f_X7_prepare N MC MS n_row a_row n_all a_all n_apart a_apart = some res) : ∀ (H : Heap) (locs : List Loc), va_P (dC, dI) vwCl (wd14 cyI cyJ cyZ q_Sc q_Tb q_row q_all q_apart n_row a_row n_all a_all n_apart a_apart) H → va_D A (wd14 cyI cyJ cyZ q_Sc q_Tb q_row q_all q_apart n_row a_row n_all a_all n_apart a_apart) → va_S A s.heap H locs → ∀ (ls : Array Slot), lv_has ls 1 [(0, .ref q_Tb)] → W p l e (headSpec wsX7_prepare (rm_X7_prepare MC MS)).room s m args below meth c H locs 0 0 (MQ below (va_Qv (fun (_ : Nat × Nat × Nat) => True) (bW dC dI (fun (u : Nat × Nat × Nat) => (wd14 cyI cyJ cyZ q_Sc q_Tb u.1 u.2.1 u.2.2 res.1 res.2.1 res.2.2.1 res.2.2.2.1 res.2.2.2.2.1 res.2.2.2.2.2)) A) A) args s MC MS A) (F0 m 0 ls []) := by
  obtain ⟨hx, hb, hr, hml, hown, hts, hlocks, hG, hA⟩ := id C0
  have hK := hG.1
  intro H locs hP hD hS ls hl
  unfold f_X7_prepare at h
  refine lv_aload_n hx hb dX7_prepare_0 rfl (lv_at hl 0 rfl) ?_
  refine va_get (D := (dC, dI)) (ci := 7) (v := .ref q_all) (C := RX7) (T := TX7) (N := 3) hx hb hts iw_X7_prepare_X7 hown hK hP 1 rfl rfl 1 (by decide) (hts (.fieldLink RX7 9 "GoesInto$Tables" "all" "[I") (List.mem_of_getElem? (i := 1) rfl)) (fun _ h9 => h9) rfl dX7_prepare_1 ?_
  refine va_alen (v := nI n_all) hx hb hK hP 3 0 rfl rfl rfl dX7_prepare_4 ?_
  refine lv_if_le (tgt := 9) hx hb dX7_prepare_5 (by decide) (fun c1z => ?_) (fun c1z => ?_)
  · have h := xt h c1z
    refine lv_aload_n hx hb dX7_prepare_9 rfl (lv_at hl 0 rfl) ?_
    refine lv_ldc (v := (50001 : Int32)) hx hb hown (hts (.constant RX7 22 (50001)) (List.mem_of_getElem? (i := 2) rfl)) dX7_prepare_10 ?_
    obtain ⟨b2z, h⟩ := xa h
    refine va_newa (atype := .int) (ty := .int) (N' := 50001) (a0 := (50001, .inl (fun _ => 0))) hx hb (hts (.arrayClass .int) (List.mem_of_getElem? (i := 3) rfl)) rfl hK hP hD hS hA (fun cA => xvc_i cA 50001) (by decide +kernel) (by decide +kernel) (by decide +kernel) b2z.1 b2z.2 dX7_prepare_12 (fun q3z cA H hK9 hP hD hS => ?_)
    obtain rfl := (xcy (Or.inl rfl) 3 0 hK9 rfl rfl).symm
    have hP : va_P (dC, dI) vwCl ((wd14 cyI cyJ cyZ q_Sc q_Tb q_row q_all q_apart n_row a_row n_all a_all n_apart a_apart) ++ [(q3z, .inl (cyI, 50001, .inl (fun _ => 0)))]) H := hP
    have hD : va_D A ((wd14 cyI cyJ cyZ q_Sc q_Tb q_row q_all q_apart n_row a_row n_all a_all n_apart a_apart) ++ [(q3z, .inl (cyI, 50001, .inl (fun _ => 0)))]) := hD
    refine va_put (D := (dC, dI)) (ci := 7) (v := .ref q3z) (ty := .array .int) (C := RX7) (T := TX7) (N := 3) hx hb hts iw_X7_prepare_X7 tyX7 tyX7_ok nmX7 hown hK hP hD hS 1 rfl rfl 1 (by decide) (hts (.fieldLink RX7 9 "GoesInto$Tables" "all" "[I") (List.mem_of_getElem? (i := 1) rfl)) (fun _ h9 => h9) rfl (tyX7_ok 1 (by decide)) rfl rfl (Nat.le_of_ble_eq_true rfl) dX7_prepare_14 (fun H locs hP hD hS => ?_)
    have hP : va_P (dC, dI) vwCl (wd14 cyI cyJ cyZ q_Sc q_Tb q_row q3z q_apart n_row a_row 50001 (fun _ => 0) n_apart a_apart) H := hP.sub [0, 1, 2, 5, 4] rfl
    have hD : va_D A (wd14 cyI cyJ cyZ q_Sc q_Tb q_row q3z q_apart n_row a_row 50001 (fun _ => 0) n_apart a_apart) := hD.sub [0, 1, 2, 5, 4] (by decide) rfl
    refine lv_aload_n hx hb dX7_prepare_17 rfl (lv_at hl 0 rfl) ?_
    refine lv_ldc (v := (50001 : Int32)) hx hb hown (hts (.constant RX7 22 (50001)) (List.mem_of_getElem? (i := 2) rfl)) dX7_prepare_18 ?_
    obtain ⟨b4z, h⟩ := xa h
    refine va_newa (atype := .int) (ty := .int) (N' := 50001) (a0 := (50001, .inl (fun _ => 0))) hx hb (hts (.arrayClass .int) (List.mem_of_getElem? (i := 3) rfl)) rfl hK hP hD hS hA (fun cA => xvc_i cA 50001) (by decide +kernel) (by decide +kernel) (by decide +kernel) b4z.1 b4z.2 dX7_prepare_20 (fun q5z cA H hK9 hP hD hS => ?_)
    obtain rfl := (xcy (Or.inl rfl) 3 0 hK9 rfl rfl).symm
    have hP : va_P (dC, dI) vwCl ((wd14 cyI cyJ cyZ q_Sc q_Tb q_row q3z q_apart n_row a_row 50001 (fun _ => 0) n_apart a_apart) ++ [(q5z, .inl (cyI, 50001, .inl (fun _ => 0)))]) H := hP
    have hD : va_D A ((wd14 cyI cyJ cyZ q_Sc q_Tb q_row q3z q_apart n_row a_row 50001 (fun _ => 0) n_apart a_apart) ++ [(q5z, .inl (cyI, 50001, .inl (fun _ => 0)))]) := hD
    refine va_put (D := (dC, dI)) (ci := 7) (v := .ref q5z) (ty := .array .int) (C := RX7) (T := TX7) (N := 3) hx hb hts iw_X7_prepare_X7 tyX7 tyX7_ok nmX7 hown hK hP hD hS 1 rfl rfl 2 (by decide) (hts (.fieldLink RX7 15 "GoesInto$Tables" "apart" "[I") (List.mem_of_getElem? (i := 4) rfl)) (fun _ h9 => h9) rfl (tyX7_ok 2 (by decide)) rfl rfl (Nat.le_of_ble_eq_true rfl) dX7_prepare_22 (fun H locs hP hD hS => ?_)
    have hP : va_P (dC, dI) vwCl (wd14 cyI cyJ cyZ q_Sc q_Tb q_row q3z q5z n_row a_row 50001 (fun _ => 0) 50001 (fun _ => 0)) H := hP.sub [0, 1, 2, 3, 5] rfl
    have hD : va_D A (wd14 cyI cyJ cyZ q_Sc q_Tb q_row q3z q5z n_row a_row 50001 (fun _ => 0) 50001 (fun _ => 0)) := hD.sub [0, 1, 2, 3, 5] (by decide) rfl
    refine lv_aload_n hx hb dX7_prepare_25 rfl (lv_at hl 0 rfl) ?_
    refine lv_aload_n hx hb dX7_prepare_26 rfl (lv_at hl 0 rfl) ?_
    obtain ⟨b7z, h⟩ := xa h
    obtain ⟨r6z, hr6z, h⟩ := xb_at h
    have hPc := hP.sub (ws' := (wd12 cyI cyJ cyZ q_Sc q_Tb q_row q3z q5z n_row a_row)) [0, 1, 2] rfl
    have hDc := hD.sub (ws' := (wd12 cyI cyJ cyZ q_Sc q_Tb q_row q3z q5z n_row a_row)) [0, 1, 2] (by decide) rfl
    refine cal_r [0, 1, 2] [3, 4] (va_runV (As := []) (rest := [.ref q_Tb]) ⟨hx, hb, hml, hown, hts⟩ (c_X7_leastPrimes l dC dI cyI cyJ cyZ N (if nI n_row = 0 then 1 else 0) (if nI n_row = 0 then 50001 else 0) r6z H.size q_Sc q_Tb q_row q3z q5z  n_row a_row hr6z) (cwV 0 hts gX7_prepare_X7_leastPrimes rfl rfl rfl ⟨rfl, hd_X7_leastPrimes⟩ ⟨Nat.le_of_ble_eq_true rfl, Nat.le_of_ble_eq_true rfl⟩) ⟨pC.blind, va_recv hK hPc (ci := 7) (q0 := 1) rfl rfl, pC.pre hPc hG hDc⟩ rfl rfl hl.1 rfl (lv_room (Nat.le_of_ble_eq_true rfl)) dX7_prepare_27 ⟨b7z.1, b7z.2⟩) hP hD hS hA rfl rfl rfl (by decide) (fun x9z u8z H locs _ hP hD hS => ?_)
    have hP : va_P (dC, dI) vwCl (wd14 cyI cyJ cyZ q_Sc q_Tb x9z q3z q5z r6z.1 r6z.2 50001 (fun _ => 0) 50001 (fun _ => 0)) H := hP.sub [2, 3, 4, 0, 1] rfl
    have hD : va_D A (wd14 cyI cyJ cyZ q_Sc q_Tb x9z q3z q5z r6z.1 r6z.2 50001 (fun _ => 0) 50001 (fun _ => 0)) := hD.sub [2, 3, 4, 0, 1] (by decide) rfl
    obtain ⟨b11z, h⟩ := xa h
    obtain ⟨r10z, hr10z, h⟩ := xb_at h
    have hPc := hP.sub (ws' := (wd13 cyI cyJ cyZ q_Tb q3z q5z x9z q_Sc 50001 (fun _ => 0) 50001 (fun _ => 0) r6z.1 r6z.2)) [1, 3, 4, 2] rfl
    have hDc := hD.sub (ws' := (wd13 cyI cyJ cyZ q_Tb q3z q5z x9z q_Sc 50001 (fun _ => 0) 50001 (fun _ => 0) r6z.1 r6z.2)) [1, 3, 4, 2] (by decide) rfl
    refine cal_v [1, 3, 4, 2] [0] (va_runV (As := [.ref x9z]) (rest := []) ⟨hx, hb, hml, hown, hts⟩ (c_X7_fillIn l dC dI cyI cyJ cyZ N r10z H.size q_Tb q3z q5z x9z q_Sc  50001 (fun _ => 0) 50001 (fun _ => 0) r6z.1 r6z.2 hr10z) (cwV 1 hts gX7_prepare_X7_fillIn rfl rfl rfl ⟨rfl, hd_X7_fillIn⟩ ⟨Nat.le_of_ble_eq_true rfl, Nat.le_of_ble_eq_true rfl⟩) ⟨pC.blind, va_recv hK hPc (ci := 7) (q0 := 0) rfl rfl, pC.pre hPc hG hDc⟩ rfl rfl hl.1 rfl (lv_room (Nat.le_of_ble_eq_true rfl)) dX7_prepare_30 ⟨b11z.1, b11z.2⟩) hP hD hS hA rfl rfl rfl (by decide) (fun u12z H locs _ hP hD hS => ?_)
    have hP : va_P (dC, dI) vwCl (wd14 cyI cyJ cyZ q_Sc q_Tb x9z q3z q5z r6z.1 r6z.2 50001 r10z.1 50001 r10z.2) H := hP.sub [0, 1, 4, 2, 3] rfl
    have hD : va_D A (wd14 cyI cyJ cyZ q_Sc q_Tb x9z q3z q5z r6z.1 r6z.2 50001 r10z.1 50001 r10z.2) := hD.sub [0, 1, 4, 2, 3] (by decide) rfl
    obtain ⟨b14z, h⟩ := xa h
    refine W.widen (k := MC) (n := MS) b14z.1 b14z.2 ?_
    obtain rfl := Option.some.inj h
    exact W.vret hx hb hr (fun t ht hW => ⟨⟨(x9z, q3z, q5z), rfl, trivial, by rw [ht]; exact hP, hD⟩, hS.F ht⟩) hS.2.2 dX7_prepare_33 hlocks
  · have h := xf h c1z
    obtain ⟨b15z, h⟩ := xa h
    refine W.widen (k := MC) (n := MS) b15z.1 b15z.2 ?_
    obtain rfl := Option.some.inj h
    exact W.vret hx hb hr (fun t ht hW => ⟨⟨(q_row, q_all, q_apart), rfl, trivial, by rw [ht]; exact hP, hD⟩, hS.F ht⟩) hS.2.2 dX7_prepare_8 hlocks
set_option maxRecDepth 100000 in
set_option maxHeartbeats 4000000 in
theorem c_X7_prepare (l : Launch) (dC : Nat → ClassId) (dI : Nat → Nat → Nat) (cyI cyJ cyZ : ClassId) (N : Nat) (MC MS : Nat) (res : Nat × (Nat → Int32) × Nat × (Nat → Int32) × Nat × (Nat → Int32)) (sz : Nat) (q_Sc : Nat) (q_Tb : Nat) (q_row : Nat) (q_all : Nat) (q_apart : Nat) (n_row : Nat) (a_row : Nat → Int32) (n_all : Nat) (a_all : Nat → Int32) (n_apart : Nat) (a_apart : Nat → Int32) (h : f_X7_prepare N MC MS  n_row a_row n_all a_all n_apart a_apart = some res) : Met l yX7_prepare wsX7_prepare (rm_X7_prepare MC MS) (pC dC dI cyI cyJ cyZ [.ref q_Tb] sz (wd14 cyI cyJ cyZ q_Sc q_Tb q_row q_all q_apart n_row a_row n_all a_all n_apart a_apart)) (va_Qv (fun (_ : Nat × Nat × Nat) => True) (bW dC dI (fun (u : Nat × Nat × Nat) => (wd14 cyI cyJ cyZ q_Sc q_Tb u.1 u.2.1 u.2.2 res.1 res.2.1 res.2.2.1 res.2.2.2.1 res.2.2.2.2.1 res.2.2.2.2.2)) (va_A (wd14 cyI cyJ cyZ q_Sc q_Tb q_row q_all q_apart n_row a_row n_all a_all n_apart a_apart) sz)) (va_A (wd14 cyI cyJ cyZ q_Sc q_Tb q_row q_all q_apart n_row a_row n_all a_all n_apart a_apart) sz)) MC MS (va_A (wd14 cyI cyJ cyZ q_Sc q_Tb q_row q_all q_apart n_row a_row n_all a_all n_apart a_apart) sz) := by
  refine Met.ofW (cc := cX7_prepare) (maxL := 1) (ret := none) (by decide) rfl ?_
  intro p e s m args below meth c s₁ B hml hv
  obtain ⟨rfl, hsz, hP, hG, hD0⟩ := hv
  have hx := B.exec
  have hb := B.bytes
  have hr := B.returns
  have hts := atoms_spec (ws := wsX7_prepare) B.pre
  have hown : s.vm.findClass RX7 = some m.cls := findClass_of_methodNamed B.named
  have hlocks := B.notSynchronized
  subst hsz
  have hD := hD0.self (sz := s.heap.size)
  generalize hAe : va_A (wd14 cyI cyJ cyZ q_Sc q_Tb q_row q_all q_apart n_row a_row n_all a_all n_apart a_apart) s.heap.size = A at hD ⊢
  have hA : ∀ q : Nat, s.heap.size ≤ q → A q := fun q h => by rw [← hAe]; exact Or.inr h
  have hS : va_S A s.heap s.heap [] := va_S.rf
  have hl := lv_entry ([.ref q_Tb]) (n := 1) (Nat.le_of_ble_eq_true rfl)
  rw [lg_entry_eq]
  generalize (lg_sl ([.ref q_Tb]) ++ List.replicate (1 - (lg_sl ([.ref q_Tb])).length) Slot.unset).toArray = ls at hl ⊢
  have hl : lv_has ls 1 [(0, .ref q_Tb)] := hl
  exact k_X7_prepare_0 ⟨hx, hb, hr, hml, hown, hts, hlocks, hG, hA⟩ N MC MS res q_Sc q_Tb n_row a_row n_all a_all n_apart a_apart q_row q_all q_apart h _ _ hP hD hS _ hl
/-- the cells Tb, all, apart -/
abbrev wd15 (cyI cyJ cyZ : ClassId) (q_Tb : Nat) (q_all : Nat) (q_apart : Nat) (q_Sc : Nat) (n_all : Nat) (a_all : Nat → Int32) (n_apart : Nat) (a_apart : Nat → Int32) : va_W := [(q_Tb, .inr (7, [.ref q_Sc, .ref q_all, .ref q_apart])), (q_all, .inl (cyI, n_all, .inl a_all)), (q_apart, .inl (cyI, n_apart, .inl a_apart))]
abbrev rm_X7_summed : Room := { frames := 0, cells := 0, slots := 0, locals := 0 }
theorem hd_X7_summed : yX7_summed.cls ≠ "java/lang/invoke/MethodHandle" ∧ yX7_summed.cls ≠ "java/lang/invoke/VarHandle" ∧ (parseMethodDescriptor yX7_summed.desc).map (fun d => d.parameters.length) = some 2 := by decide +kernel
theorem iw_X7_summed_X7 : ∀ w ∈ wsX70, w ∈ wsX7_summed := List.forall_mem_cons.mpr ⟨List.mem_of_getElem? (i := 3) rfl, List.forall_mem_cons.mpr ⟨List.mem_of_getElem? (i := 4) rfl, List.forall_mem_cons.mpr ⟨List.mem_of_getElem? (i := 5) rfl, fun _ h => absurd h List.not_mem_nil⟩⟩⟩
def f_X7_summed (N : Nat) (v1 : Int32) (v2 : Int32) (n_all : Nat) (a_all : Nat → Int32) (n_apart : Nat) (a_apart : Nat → Int32) : Option (Int32) :=
  if v2 < (1 : Int32) then
    some (0 : Int32)
  else
    if (nI n_all) ≤ v2 then
      some (0 : Int32)
    else
      if v2 < (nI n_apart) then
        if v1 = (0 : Int32) then
          if v2 < 0 ∨ n_all ≤ v2.toNatClampNeg then
            none
          else
            some (a_all v2.toNatClampNeg)
        else
          if v1 = (1 : Int32) then
            if v2 < 0 ∨ n_all ≤ v2.toNatClampNeg then
              none
            else
              some ((a_all v2.toNatClampNeg) - v2)
          else
            if v1 = (2 : Int32) then
              if v2 < 0 ∨ n_apart ≤ v2.toNatClampNeg then
                none
              else
                some ((a_apart v2.toNatClampNeg) - v2)
            else
              if v2 = (1 : Int32) then
                some (0 : Int32)
              else
                if v2 < 0 ∨ n_all ≤ v2.toNatClampNeg then
                  none
                else
                  some (((a_all v2.toNatClampNeg) - v2) - (1 : Int32))
      else
        some (0 : Int32)
set_option maxRecDepth 100000 in
set_option maxHeartbeats 4000000 in
theorem k_X7_summed_0 {p : Program} {l : Launch} {e : Env} {s : State} {m : MethodId} {args : Array Value} {below : List Frame} {meth : Method} {c : Code} {dC : Nat → ClassId} {dI : Nat → Nat → Nat} {cyI cyJ cyZ : ClassId} {A : Nat → Prop} (C0 : mC p s m meth c args cX7_summed (some .int) 3 RX7 wsX7_summed (gK dC dI cyI cyJ cyZ) A) (N : Nat) (res : Int32) (q_Tb : Nat) (q_all : Nat) (q_apart : Nat) (q_Sc : Nat) (v1 : Int32) (v2 : Int32) (n_all : Nat) (a_all : Nat → Int32) (n_apart : Nat) (a_apart : Nat → Int32) (h : f_X7_summed N v1 v2 n_all a_all n_apart a_apart = some res) : ∀ (H : Heap) (locs : List Loc), va_P (dC, dI) vwCl (wd15 cyI cyJ cyZ q_Tb q_all q_apart q_Sc n_all a_all n_apart a_apart) H → va_D A (wd15 cyI cyJ cyZ q_Tb q_all q_apart q_Sc n_all a_all n_apart a_apart) → va_S A s.heap H locs → ∀ (ls : Array Slot), lv_has ls 3 [(0, .ref q_Tb), (1, .int v1), (2, .int v2)] → W p l e (headSpec wsX7_summed rm_X7_summed).room s m args below meth c H locs 0 0 (MQ below (va_Qi (fun (r : Int32) (_ : Unit) => r = res) (bW dC dI (fun (u : Unit) => (wd15 cyI cyJ cyZ q_Tb q_all q_apart q_Sc n_all a_all n_apart a_apart)) A) A) args s 0 0 A) (F0 m 0 ls []) := by
  obtain ⟨hx, hb, hr, hml, hown, hts, hlocks, hG, hA⟩ := id C0
  have hK := hG.1
  intro H locs hP hD hS ls hl
  unfold f_X7_summed at h
  refine lv_iload_n hx hb dX7_summed_0 rfl (lv_at hl 2 rfl) ?_
  refine lv_iconst (v := (1 : Int32)) hx hb dX7_summed_1 (by decide) ?_
  refine lv_icmp_lt (tgt := 23) hx hb dX7_summed_2 (by decide) (fun c1z => ?_) (fun c1z => ?_)
  · have h := xt h c1z
    refine lv_iconst (v := (0 : Int32)) hx hb dX7_summed_23 (by decide) ?_
    obtain rfl := Option.some.inj h
    exact W.iret (v := (0 : Int32)) hx hb hr (fun t ht hW => ⟨⟨_, (), rfl, rfl, by rw [ht]; exact hP, hD⟩, hS.F ht⟩) hS.2.2 dX7_summed_24 hlocks
  · have h := xf h c1z
    refine lv_iload_n hx hb dX7_summed_5 rfl (lv_at hl 2 rfl) ?_
    refine lv_aload_n hx hb dX7_summed_6 rfl (lv_at hl 0 rfl) ?_
    refine va_get (D := (dC, dI)) (ci := 7) (v := .ref q_all) (C := RX7) (T := TX7) (N := 3) hx hb hts iw_X7_summed_X7 hown hK hP 0 rfl rfl 1 (by decide) (hts (.fieldLink RX7 9 "GoesInto$Tables" "all" "[I") (List.mem_of_getElem? (i := 1) rfl)) (fun _ h9 => h9) rfl dX7_summed_7 ?_
    refine va_alen (v := nI n_all) hx hb hK hP 1 0 rfl rfl rfl dX7_summed_10 ?_
    refine lv_icmp_ge (tgt := 23) hx hb dX7_summed_11 (by decide) (fun c2z => ?_) (fun c2z => ?_)
    · have h := xt h c2z
      refine lv_iconst (v := (0 : Int32)) hx hb dX7_summed_23 (by decide) ?_
      obtain rfl := Option.some.inj h
      exact W.iret (v := (0 : Int32)) hx hb hr (fun t ht hW => ⟨⟨_, (), rfl, rfl, by rw [ht]; exact hP, hD⟩, hS.F ht⟩) hS.2.2 dX7_summed_24 hlocks
    · have h := xf h c2z
      refine lv_iload_n hx hb dX7_summed_14 rfl (lv_at hl 2 rfl) ?_
      refine lv_aload_n hx hb dX7_summed_15 rfl (lv_at hl 0 rfl) ?_
      refine va_get (D := (dC, dI)) (ci := 7) (v := .ref q_apart) (C := RX7) (T := TX7) (N := 3) hx hb hts iw_X7_summed_X7 hown hK hP 0 rfl rfl 2 (by decide) (hts (.fieldLink RX7 15 "GoesInto$Tables" "apart" "[I") (List.mem_of_getElem? (i := 2) rfl)) (fun _ h9 => h9) rfl dX7_summed_16 ?_
      refine va_alen (v := nI n_apart) hx hb hK hP 2 0 rfl rfl rfl dX7_summed_19 ?_
      refine lv_icmp_lt (tgt := 25) hx hb dX7_summed_20 (by decide) (fun c3z => ?_) (fun c3z => ?_)
      · have h := xt h c3z
        refine lv_iload_n hx hb dX7_summed_25 rfl (lv_at hl 1 rfl) ?_
        rcases Decidable.em (v1 = (0 : Int32)) with c4z | c4z
        · have h := xt h c4z
          refine lv_tableIn (tgt := 52) (off := 26) hx hb dX7_summed_26 (by rw [c4z]; decide) (by rw [c4z]; decide) (by rw [c4z]; decide +kernel) (by decide) ?_
          refine lv_aload_n hx hb dX7_summed_52 rfl (lv_at hl 0 rfl) ?_
          refine va_get (D := (dC, dI)) (ci := 7) (v := .ref q_all) (C := RX7) (T := TX7) (N := 3) hx hb hts iw_X7_summed_X7 hown hK hP 0 rfl rfl 1 (by decide) (hts (.fieldLink RX7 9 "GoesInto$Tables" "all" "[I") (List.mem_of_getElem? (i := 1) rfl)) (fun _ h9 => h9) rfl dX7_summed_53 ?_
          refine lv_iload_n hx hb dX7_summed_56 rfl (lv_at hl 2 rfl) ?_
          obtain ⟨b5z, h⟩ := xn h
          refine va_iald hx hb hK hP 1 0 rfl rfl b5z dX7_summed_57 ?_
          obtain rfl := Option.some.inj h
          exact W.iret (v := a_all v2.toNatClampNeg) hx hb hr (fun t ht hW => ⟨⟨_, (), rfl, rfl, by rw [ht]; exact hP, hD⟩, hS.F ht⟩) hS.2.2 dX7_summed_58 hlocks
        · have h := xf h c4z
          rcases Decidable.em (v1 = (1 : Int32)) with c6z | c6z
          · have h := xt h c6z
            refine lv_tableIn (tgt := 59) (off := 33) hx hb dX7_summed_26 (by rw [c6z]; decide) (by rw [c6z]; decide) (by rw [c6z]; decide +kernel) (by decide) ?_
            refine lv_aload_n hx hb dX7_summed_59 rfl (lv_at hl 0 rfl) ?_
            refine va_get (D := (dC, dI)) (ci := 7) (v := .ref q_all) (C := RX7) (T := TX7) (N := 3) hx hb hts iw_X7_summed_X7 hown hK hP 0 rfl rfl 1 (by decide) (hts (.fieldLink RX7 9 "GoesInto$Tables" "all" "[I") (List.mem_of_getElem? (i := 1) rfl)) (fun _ h9 => h9) rfl dX7_summed_60 ?_
            refine lv_iload_n hx hb dX7_summed_63 rfl (lv_at hl 2 rfl) ?_
            obtain ⟨b7z, h⟩ := xn h
            refine va_iald hx hb hK hP 1 0 rfl rfl b7z dX7_summed_64 ?_
            refine lv_iload_n hx hb dX7_summed_65 rfl (lv_at hl 2 rfl) ?_
            refine lv_isub hx hb dX7_summed_66 ?_
            obtain rfl := Option.some.inj h
            exact W.iret (v := (a_all v2.toNatClampNeg) - v2) hx hb hr (fun t ht hW => ⟨⟨_, (), rfl, rfl, by rw [ht]; exact hP, hD⟩, hS.F ht⟩) hS.2.2 dX7_summed_67 hlocks
          · have h := xf h c6z
            rcases Decidable.em (v1 = (2 : Int32)) with c8z | c8z
            · have h := xt h c8z
              refine lv_tableIn (tgt := 68) (off := 42) hx hb dX7_summed_26 (by rw [c8z]; decide) (by rw [c8z]; decide) (by rw [c8z]; decide +kernel) (by decide) ?_
              refine lv_aload_n hx hb dX7_summed_68 rfl (lv_at hl 0 rfl) ?_
              refine va_get (D := (dC, dI)) (ci := 7) (v := .ref q_apart) (C := RX7) (T := TX7) (N := 3) hx hb hts iw_X7_summed_X7 hown hK hP 0 rfl rfl 2 (by decide) (hts (.fieldLink RX7 15 "GoesInto$Tables" "apart" "[I") (List.mem_of_getElem? (i := 2) rfl)) (fun _ h9 => h9) rfl dX7_summed_69 ?_
              refine lv_iload_n hx hb dX7_summed_72 rfl (lv_at hl 2 rfl) ?_
              obtain ⟨b9z, h⟩ := xn h
              refine va_iald hx hb hK hP 2 0 rfl rfl b9z dX7_summed_73 ?_
              refine lv_iload_n hx hb dX7_summed_74 rfl (lv_at hl 2 rfl) ?_
              refine lv_isub hx hb dX7_summed_75 ?_
              obtain rfl := Option.some.inj h
              exact W.iret (v := (a_apart v2.toNatClampNeg) - v2) hx hb hr (fun t ht hW => ⟨⟨_, (), rfl, rfl, by rw [ht]; exact hP, hD⟩, hS.F ht⟩) hS.2.2 dX7_summed_76 hlocks
            · have h := xf h c8z
              have tc4z := lv_neT (a := 0) c4z (by decide)
              have tc6z := lv_neT (a := 1) c6z (by decide)
              have tc8z := lv_neT (a := 2) c8z (by decide)
              refine lv_tableOut (tgt := 77) hx hb dX7_summed_26 (by omega) (by decide) ?_
              refine lv_iload_n hx hb dX7_summed_77 rfl (lv_at hl 2 rfl) ?_
              refine lv_iconst (v := (1 : Int32)) hx hb dX7_summed_78 (by decide) ?_
              refine lv_icmp_ne (tgt := 86) hx hb dX7_summed_79 (by decide) (fun c10z => ?_) (fun c10z => ?_)
              · have h := xf h c10z
                refine lv_aload_n hx hb dX7_summed_86 rfl (lv_at hl 0 rfl) ?_
                refine va_get (D := (dC, dI)) (ci := 7) (v := .ref q_all) (C := RX7) (T := TX7) (N := 3) hx hb hts iw_X7_summed_X7 hown hK hP 0 rfl rfl 1 (by decide) (hts (.fieldLink RX7 9 "GoesInto$Tables" "all" "[I") (List.mem_of_getElem? (i := 1) rfl)) (fun _ h9 => h9) rfl dX7_summed_87 ?_
                refine lv_iload_n hx hb dX7_summed_90 rfl (lv_at hl 2 rfl) ?_
                obtain ⟨b11z, h⟩ := xn h
                refine va_iald hx hb hK hP 1 0 rfl rfl b11z dX7_summed_91 ?_
                refine lv_iload_n hx hb dX7_summed_92 rfl (lv_at hl 2 rfl) ?_
                refine lv_isub hx hb dX7_summed_93 ?_
                refine lv_iconst (v := (1 : Int32)) hx hb dX7_summed_94 (by decide) ?_
                refine lv_isub hx hb dX7_summed_95 ?_
                obtain rfl := Option.some.inj h
                exact W.iret (v := ((a_all v2.toNatClampNeg) - v2) - (1 : Int32)) hx hb hr (fun t ht hW => ⟨⟨_, (), rfl, rfl, by rw [ht]; exact hP, hD⟩, hS.F ht⟩) hS.2.2 dX7_summed_96 hlocks
              · have h := xt h c10z
                refine lv_iconst (v := (0 : Int32)) hx hb dX7_summed_82 (by decide) ?_
                refine lv_goto (tgt := 96) hx hb dX7_summed_83 (by decide) ?_
                obtain rfl := Option.some.inj h
                exact W.iret (v := (0 : Int32)) hx hb hr (fun t ht hW => ⟨⟨_, (), rfl, rfl, by rw [ht]; exact hP, hD⟩, hS.F ht⟩) hS.2.2 dX7_summed_96 hlocks
      · have h := xf h c3z
        refine lv_iconst (v := (0 : Int32)) hx hb dX7_summed_23 (by decide) ?_
        obtain rfl := Option.some.inj h
        exact W.iret (v := (0 : Int32)) hx hb hr (fun t ht hW => ⟨⟨_, (), rfl, rfl, by rw [ht]; exact hP, hD⟩, hS.F ht⟩) hS.2.2 dX7_summed_24 hlocks
set_option maxRecDepth 100000 in
set_option maxHeartbeats 4000000 in
theorem c_X7_summed (l : Launch) (dC : Nat → ClassId) (dI : Nat → Nat → Nat) (cyI cyJ cyZ : ClassId) (N : Nat) (res : Int32) (sz : Nat) (q_Tb : Nat) (q_all : Nat) (q_apart : Nat) (q_Sc : Nat) (v1 : Int32) (v2 : Int32) (n_all : Nat) (a_all : Nat → Int32) (n_apart : Nat) (a_apart : Nat → Int32) (h : f_X7_summed N v1 v2 n_all a_all n_apart a_apart = some res) : Met l yX7_summed wsX7_summed rm_X7_summed (pC dC dI cyI cyJ cyZ [.ref q_Tb, .int v1, .int v2] sz (wd15 cyI cyJ cyZ q_Tb q_all q_apart q_Sc n_all a_all n_apart a_apart)) (va_Qi (fun (r : Int32) (_ : Unit) => r = res) (bW dC dI (fun (u : Unit) => (wd15 cyI cyJ cyZ q_Tb q_all q_apart q_Sc n_all a_all n_apart a_apart)) (va_A (wd15 cyI cyJ cyZ q_Tb q_all q_apart q_Sc n_all a_all n_apart a_apart) sz)) (va_A (wd15 cyI cyJ cyZ q_Tb q_all q_apart q_Sc n_all a_all n_apart a_apart) sz)) 0 0 (va_A (wd15 cyI cyJ cyZ q_Tb q_all q_apart q_Sc n_all a_all n_apart a_apart) sz) := by
  refine Met.ofW (cc := cX7_summed) (maxL := 3) (ret := (some .int)) (by decide) rfl ?_
  intro p e s m args below meth c s₁ B hml hv
  obtain ⟨rfl, hsz, hP, hG, hD0⟩ := hv
  have hx := B.exec
  have hb := B.bytes
  have hr := B.returns
  have hts := atoms_spec (ws := wsX7_summed) B.pre
  have hown : s.vm.findClass RX7 = some m.cls := findClass_of_methodNamed B.named
  have hlocks := B.notSynchronized
  subst hsz
  have hD := hD0.self (sz := s.heap.size)
  generalize hAe : va_A (wd15 cyI cyJ cyZ q_Tb q_all q_apart q_Sc n_all a_all n_apart a_apart) s.heap.size = A at hD ⊢
  have hA : ∀ q : Nat, s.heap.size ≤ q → A q := fun q h => by rw [← hAe]; exact Or.inr h
  have hS : va_S A s.heap s.heap [] := va_S.rf
  have hl := lv_entry ([.ref q_Tb, .int v1, .int v2]) (n := 3) (Nat.le_of_ble_eq_true rfl)
  rw [lg_entry_eq]
  generalize (lg_sl ([.ref q_Tb, .int v1, .int v2]) ++ List.replicate (3 - (lg_sl ([.ref q_Tb, .int v1, .int v2])).length) Slot.unset).toArray = ls at hl ⊢
  have hl : lv_has ls 3 [(0, .ref q_Tb), (1, .int v1), (2, .int v2)] := hl
  exact k_X7_summed_0 ⟨hx, hb, hr, hml, hown, hts, hlocks, hG, hA⟩ N res q_Tb q_all q_apart q_Sc v1 v2 n_all a_all n_apart a_apart  h _ _ hP hD hS _ hl
