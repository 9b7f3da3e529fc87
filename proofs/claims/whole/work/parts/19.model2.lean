abbrev rm_X12_weigh : Room := { frames := 0, cells := 0, slots := 0, locals := 0 }
theorem hd_X12_weigh : yX12_weigh.cls ≠ "java/lang/invoke/MethodHandle" ∧ yX12_weigh.cls ≠ "java/lang/invoke/VarHandle" ∧ (parseMethodDescriptor yX12_weigh.desc).map (fun d => d.parameters.length) = some 1 := by decide +kernel
theorem iw_X12_weigh_X12 : ∀ w ∈ wsX120, w ∈ wsX12_weigh := List.forall_mem_cons.mpr ⟨List.mem_of_getElem? (i := 2) rfl, List.forall_mem_cons.mpr ⟨List.mem_of_getElem? (i := 3) rfl, List.forall_mem_cons.mpr ⟨List.mem_of_getElem? (i := 4) rfl, List.forall_mem_cons.mpr ⟨List.mem_of_getElem? (i := 5) rfl, List.forall_mem_cons.mpr ⟨List.mem_of_getElem? (i := 6) rfl, List.forall_mem_cons.mpr ⟨List.mem_of_getElem? (i := 7) rfl, List.forall_mem_cons.mpr ⟨List.mem_of_getElem? (i := 8) rfl, List.forall_mem_cons.mpr ⟨List.mem_of_getElem? (i := 9) rfl, List.forall_mem_cons.mpr ⟨List.mem_of_getElem? (i := 10) rfl, List.forall_mem_cons.mpr ⟨List.mem_of_getElem? (i := 11) rfl, List.forall_mem_cons.mpr ⟨List.mem_of_getElem? (i := 12) rfl, List.forall_mem_cons.mpr ⟨List.mem_of_getElem? (i := 13) rfl, List.forall_mem_cons.mpr ⟨List.mem_of_getElem? (i := 14) rfl, List.forall_mem_cons.mpr ⟨List.mem_of_getElem? (i := 15) rfl, List.forall_mem_cons.mpr ⟨List.mem_of_getElem? (i := 16) rfl, List.forall_mem_cons.mpr ⟨List.mem_of_getElem? (i := 17) rfl, List.forall_mem_cons.mpr ⟨List.mem_of_getElem? (i := 18) rfl, List.forall_mem_cons.mpr ⟨List.mem_of_getElem? (i := 19) rfl, List.forall_mem_cons.mpr ⟨List.mem_of_getElem? (i := 20) rfl, List.forall_mem_cons.mpr ⟨List.mem_of_getElem? (i := 21) rfl, List.forall_mem_cons.mpr ⟨List.mem_of_getElem? (i := 22) rfl, fun _ h => absurd h List.not_mem_nil⟩⟩⟩⟩⟩⟩⟩⟩⟩⟩⟩⟩⟩⟩⟩⟩⟩⟩⟩⟩⟩
def f_X12_weigh (N : Nat) (v1 : Int32) (a_mtable : Nat → Int32) : Option (Int32) :=
  if v1 < 0 ∨ 50001 ≤ v1.toNatClampNeg then
    none
  else
    xl ((a_mtable v1.toNatClampNeg) - v1) fun y2z =>
    if v1 ≤ y2z then
      if y2z = v1 then
        some (1 : Int32)
      else
        some (2 : Int32)
    else
      some (0 : Int32)
set_option maxRecDepth 100000 in
set_option maxHeartbeats 4000000 in
theorem k_X12_weigh_0 {p : Program} {l : Launch} {e : Env} {s : State} {m : MethodId} {args : Array Value} {below : List Frame} {meth : Method} {c : Code} {dC : Nat → ClassId} {dI : Nat → Nat → Nat} {cyI cyJ cyZ : ClassId} {A : Nat → Prop} (C0 : mC p s m meth c args cX12_weigh (some .int) 3 RX12 wsX12_weigh (gK dC dI cyI cyJ cyZ) A) (N : Nat) (res : Int32) (q_Md : Nat) (q_mtable : Nat) (q_mtext : Nat) (q_mprimes : Nat) (q_mtold : Nat) (q_mstretch : Nat) (q_mfewest : Nat) (q_misOdd : Nat) (q_misHigh : Nat) (q_misTop : Nat) (q_mbits : Nat) (q_mpile : Nat) (v1 : Int32) (m_length : Int32) (m_primeMany : Int32) (m_toldMany : Int32) (m_fate : Int32) (m_tail : Int32) (m_round : Int32) (m_tableKind : Int32) (m_areLaid : Int32) (m_unlike : Int32) (m_isFree : Int32) (a_mtable : Nat → Int32) (h : f_X12_weigh N v1 a_mtable = some res) : ∀ (H : Heap) (locs : List Loc), va_P (dC, dI) vwCl (wd59 cyI cyJ cyZ q_Md q_mtable q_mtext q_mprimes q_mtold q_mstretch q_mfewest q_misOdd q_misHigh q_misTop q_mbits q_mpile m_length m_primeMany m_toldMany m_fate m_tail m_round m_tableKind m_areLaid m_unlike m_isFree a_mtable) H → va_D A (wd59 cyI cyJ cyZ q_Md q_mtable q_mtext q_mprimes q_mtold q_mstretch q_mfewest q_misOdd q_misHigh q_misTop q_mbits q_mpile m_length m_primeMany m_toldMany m_fate m_tail m_round m_tableKind m_areLaid m_unlike m_isFree a_mtable) → va_S A s.heap H locs → ∀ (ls : Array Slot), lv_has ls 3 [(0, .ref q_Md), (1, .int v1)] → W p l e (headSpec wsX12_weigh rm_X12_weigh).room s m args below meth c H locs 0 0 (MQ below (va_Qi (fun (r : Int32) (_ : Unit) => r = res) (bW dC dI (fun (u : Unit) => (wd59 cyI cyJ cyZ q_Md q_mtable q_mtext q_mprimes q_mtold q_mstretch q_mfewest q_misOdd q_misHigh q_misTop q_mbits q_mpile m_length m_primeMany m_toldMany m_fate m_tail m_round m_tableKind m_areLaid m_unlike m_isFree a_mtable)) A) A) args s 0 0 A) (F0 m 0 ls []) := by
  obtain ⟨hx, hb, hr, hml, hown, hts, hlocks, hG, hA⟩ := id C0
  have hK := hG.1
  intro H locs hP hD hS ls hl
  unfold f_X12_weigh at h
  refine lv_aload_n hx hb dX12_weigh_0 rfl (lv_at hl 0 rfl) ?_
  refine va_get (D := (dC, dI)) (ci := 12) (v := .ref q_mtable) (C := RX12) (T := TX12) (N := 21) hx hb hts iw_X12_weigh_X12 hown hK hP 0 rfl rfl 10 (by decide) (hts (.fieldLink RX12 21 "GoesIntoModel" "table" "[I") (List.mem_of_getElem? (i := 1) rfl)) (fun _ h9 => h9) rfl dX12_weigh_1 ?_
  refine lv_iload_n hx hb dX12_weigh_4 rfl (lv_at hl 1 rfl) ?_
  obtain ⟨b1z, h⟩ := xn h
  refine va_iald hx hb hK hP 1 0 rfl rfl b1z dX12_weigh_5 ?_
  refine lv_iload_n hx hb dX12_weigh_6 rfl (lv_at hl 1 rfl) ?_
  refine lv_isub hx hb dX12_weigh_7 ?_
  refine lv_topi (fun y2z ey2z => ?_)
  have h := xl_at h ey2z
  refine lv_istore_n (lv' := [(2, .int y2z), (0, .ref q_Md), (1, .int v1)]) hx hb dX12_weigh_8 rfl hl (by decide) rfl (fun ls hl => ?_)
  refine lv_iload_n hx hb dX12_weigh_9 rfl (lv_at hl 0 rfl) ?_
  refine lv_iload_n hx hb dX12_weigh_10 rfl (lv_at hl 2 rfl) ?_
  refine lv_icmp_ge (tgt := 18) hx hb dX12_weigh_11 (by decide) (fun c3z => ?_) (fun c3z => ?_)
  · have h := xt h c3z
    refine lv_iload_n hx hb dX12_weigh_18 rfl (lv_at hl 0 rfl) ?_
    refine lv_iload_n hx hb dX12_weigh_19 rfl (lv_at hl 2 rfl) ?_
    refine lv_icmp_ne (tgt := 27) hx hb dX12_weigh_20 (by decide) (fun c4z => ?_) (fun c4z => ?_)
    · have h := xf h c4z
      refine lv_iconst (v := (2 : Int32)) hx hb dX12_weigh_27 (by decide) ?_
      obtain rfl := Option.some.inj h
      exact W.iret (v := (2 : Int32)) hx hb hr (fun t ht hW => ⟨⟨_, (), rfl, rfl, by rw [ht]; exact hP, hD⟩, hS.F ht⟩) hS.2.2 dX12_weigh_28 hlocks
    · have h := xt h c4z
      refine lv_iconst (v := (1 : Int32)) hx hb dX12_weigh_23 (by decide) ?_
      refine lv_goto (tgt := 28) hx hb dX12_weigh_24 (by decide) ?_
      obtain rfl := Option.some.inj h
      exact W.iret (v := (1 : Int32)) hx hb hr (fun t ht hW => ⟨⟨_, (), rfl, rfl, by rw [ht]; exact hP, hD⟩, hS.F ht⟩) hS.2.2 dX12_weigh_28 hlocks
  · have h := xf h c3z
    refine lv_iconst (v := (0 : Int32)) hx hb dX12_weigh_14 (by decide) ?_
    refine lv_goto (tgt := 28) hx hb dX12_weigh_15 (by decide) ?_
    obtain rfl := Option.some.inj h
    exact W.iret (v := (0 : Int32)) hx hb hr (fun t ht hW => ⟨⟨_, (), rfl, rfl, by rw [ht]; exact hP, hD⟩, hS.F ht⟩) hS.2.2 dX12_weigh_28 hlocks
set_option maxRecDepth 100000 in
set_option maxHeartbeats 4000000 in
theorem c_X12_weigh (l : Launch) (dC : Nat → ClassId) (dI : Nat → Nat → Nat) (cyI cyJ cyZ : ClassId) (N : Nat) (res : Int32) (sz : Nat) (q_Md : Nat) (q_mtable : Nat) (q_mtext : Nat) (q_mprimes : Nat) (q_mtold : Nat) (q_mstretch : Nat) (q_mfewest : Nat) (q_misOdd : Nat) (q_misHigh : Nat) (q_misTop : Nat) (q_mbits : Nat) (q_mpile : Nat) (v1 : Int32) (m_length : Int32) (m_primeMany : Int32) (m_toldMany : Int32) (m_fate : Int32) (m_tail : Int32) (m_round : Int32) (m_tableKind : Int32) (m_areLaid : Int32) (m_unlike : Int32) (m_isFree : Int32) (a_mtable : Nat → Int32) (h : f_X12_weigh N v1 a_mtable = some res) : Met l yX12_weigh wsX12_weigh rm_X12_weigh (pC dC dI cyI cyJ cyZ [.ref q_Md, .int v1] sz (wd59 cyI cyJ cyZ q_Md q_mtable q_mtext q_mprimes q_mtold q_mstretch q_mfewest q_misOdd q_misHigh q_misTop q_mbits q_mpile m_length m_primeMany m_toldMany m_fate m_tail m_round m_tableKind m_areLaid m_unlike m_isFree a_mtable)) (va_Qi (fun (r : Int32) (_ : Unit) => r = res) (bW dC dI (fun (u : Unit) => (wd59 cyI cyJ cyZ q_Md q_mtable q_mtext q_mprimes q_mtold q_mstretch q_mfewest q_misOdd q_misHigh q_misTop q_mbits q_mpile m_length m_primeMany m_toldMany m_fate m_tail m_round m_tableKind m_areLaid m_unlike m_isFree a_mtable)) (va_A (wd59 cyI cyJ cyZ q_Md q_mtable q_mtext q_mprimes q_mtold q_mstretch q_mfewest q_misOdd q_misHigh q_misTop q_mbits q_mpile m_length m_primeMany m_toldMany m_fate m_tail m_round m_tableKind m_areLaid m_unlike m_isFree a_mtable) sz)) (va_A (wd59 cyI cyJ cyZ q_Md q_mtable q_mtext q_mprimes q_mtold q_mstretch q_mfewest q_misOdd q_misHigh q_misTop q_mbits q_mpile m_length m_primeMany m_toldMany m_fate m_tail m_round m_tableKind m_areLaid m_unlike m_isFree a_mtable) sz)) 0 0 (va_A (wd59 cyI cyJ cyZ q_Md q_mtable q_mtext q_mprimes q_mtold q_mstretch q_mfewest q_misOdd q_misHigh q_misTop q_mbits q_mpile m_length m_primeMany m_toldMany m_fate m_tail m_round m_tableKind m_areLaid m_unlike m_isFree a_mtable) sz) := by
  refine Met.ofW (cc := cX12_weigh) (maxL := 3) (ret := (some .int)) (by decide) rfl ?_
  intro p e s m args below meth c s₁ B hml hv
  obtain ⟨rfl, hsz, hP, hG, hD0⟩ := hv
  have hx := B.exec
  have hb := B.bytes
  have hr := B.returns
  have hts := atoms_spec (ws := wsX12_weigh) B.pre
  have hown : s.vm.findClass RX12 = some m.cls := findClass_of_methodNamed B.named
  have hlocks := B.notSynchronized
  subst hsz
  have hD := hD0.self (sz := s.heap.size)
  generalize hAe : va_A (wd59 cyI cyJ cyZ q_Md q_mtable q_mtext q_mprimes q_mtold q_mstretch q_mfewest q_misOdd q_misHigh q_misTop q_mbits q_mpile m_length m_primeMany m_toldMany m_fate m_tail m_round m_tableKind m_areLaid m_unlike m_isFree a_mtable) s.heap.size = A at hD ⊢
  have hA : ∀ q : Nat, s.heap.size ≤ q → A q := fun q h => by rw [← hAe]; exact Or.inr h
  have hS : va_S A s.heap s.heap [] := va_S.rf
  have hl := lv_entry ([.ref q_Md, .int v1]) (n := 3) (Nat.le_of_ble_eq_true rfl)
  rw [lg_entry_eq]
  generalize (lg_sl ([.ref q_Md, .int v1]) ++ List.replicate (3 - (lg_sl ([.ref q_Md, .int v1])).length) Slot.unset).toArray = ls at hl ⊢
  have hl : lv_has ls 3 [(0, .ref q_Md), (1, .int v1)] := hl
  exact k_X12_weigh_0 ⟨hx, hb, hr, hml, hown, hts, hlocks, hG, hA⟩ N res q_Md q_mtable q_mtext q_mprimes q_mtold q_mstretch q_mfewest q_misOdd q_misHigh q_misTop q_mbits q_mpile v1 m_length m_primeMany m_toldMany m_fate m_tail m_round m_tableKind m_areLaid m_unlike m_isFree a_mtable  h _ _ hP hD hS _ hl
abbrev rm_X12_sortOf : Room := { frames := 1, cells := 0, slots := 0, locals := 22 }
theorem hd_X12_sortOf : yX12_sortOf.cls ≠ "java/lang/invoke/MethodHandle" ∧ yX12_sortOf.cls ≠ "java/lang/invoke/VarHandle" ∧ (parseMethodDescriptor yX12_sortOf.desc).map (fun d => d.parameters.length) = some 1 := by decide +kernel
theorem iw_X12_sortOf_X12 : ∀ w ∈ wsX120, w ∈ wsX12_sortOf := List.forall_mem_cons.mpr ⟨List.mem_of_getElem? (i := 7) rfl, List.forall_mem_cons.mpr ⟨List.mem_of_getElem? (i := 8) rfl, List.forall_mem_cons.mpr ⟨List.mem_of_getElem? (i := 9) rfl, List.forall_mem_cons.mpr ⟨List.mem_of_getElem? (i := 10) rfl, List.forall_mem_cons.mpr ⟨List.mem_of_getElem? (i := 11) rfl, List.forall_mem_cons.mpr ⟨List.mem_of_getElem? (i := 12) rfl, List.forall_mem_cons.mpr ⟨List.mem_of_getElem? (i := 13) rfl, List.forall_mem_cons.mpr ⟨List.mem_of_getElem? (i := 14) rfl, List.forall_mem_cons.mpr ⟨List.mem_of_getElem? (i := 15) rfl, List.forall_mem_cons.mpr ⟨List.mem_of_getElem? (i := 16) rfl, List.forall_mem_cons.mpr ⟨List.mem_of_getElem? (i := 17) rfl, List.forall_mem_cons.mpr ⟨List.mem_of_getElem? (i := 18) rfl, List.forall_mem_cons.mpr ⟨List.mem_of_getElem? (i := 19) rfl, List.forall_mem_cons.mpr ⟨List.mem_of_getElem? (i := 20) rfl, List.forall_mem_cons.mpr ⟨List.mem_of_getElem? (i := 21) rfl, List.forall_mem_cons.mpr ⟨List.mem_of_getElem? (i := 22) rfl, List.forall_mem_cons.mpr ⟨List.mem_of_getElem? (i := 23) rfl, List.forall_mem_cons.mpr ⟨List.mem_of_getElem? (i := 24) rfl, List.forall_mem_cons.mpr ⟨List.mem_of_getElem? (i := 25) rfl, List.forall_mem_cons.mpr ⟨List.mem_of_getElem? (i := 26) rfl, List.forall_mem_cons.mpr ⟨List.mem_of_getElem? (i := 27) rfl, fun _ h => absurd h List.not_mem_nil⟩⟩⟩⟩⟩⟩⟩⟩⟩⟩⟩⟩⟩⟩⟩⟩⟩⟩⟩⟩⟩
def s_X12_sortOf_15 (N : Nat) (v1 : Int32) (a_mtable : Nat → Int32) (k_15 : (Int32) → Option (Int32)) (v3 : Int32) : Option (Int32) :=
  if (v1 / (2 : Int32)) < v3 then
    some (3 : Int32)
  else
    if v3 = 0 then
      none
    else
      if (v1 - v1 / v3 * v3) = 0 then
        Option.bind (f_X12_weigh N v3 a_mtable) fun r9z =>
        if r9z = (2 : Int32) then
          some (2 : Int32)
        else
          xl (v3 + (1 : Int32)) fun y13z =>
          k_15 y13z
      else
        xl (v3 + (1 : Int32)) fun y8z =>
        k_15 y8z
def l_X12_sortOf_15 (N : Nat) (v1 : Int32) (a_mtable : Nat → Int32) (n : Nat) (z : Int32) : Option (Int32) := lp (fun k z => s_X12_sortOf_15 N v1 a_mtable k z) n z
set_option maxRecDepth 100000 in
set_option maxHeartbeats 4000000 in
theorem k_X12_sortOf_15 {p : Program} {l : Launch} {e : Env} {s : State} {m : MethodId} {args : Array Value} {below : List Frame} {meth : Method} {c : Code} {dC : Nat → ClassId} {dI : Nat → Nat → Nat} {cyI cyJ cyZ : ClassId} {A : Nat → Prop} (C0 : mC p s m meth c args cX12_sortOf (some .int) 4 RX12 wsX12_sortOf (gK dC dI cyI cyJ cyZ) A) (N : Nat) (res : Int32) (q_Md : Nat) (q_mtable : Nat) (q_mtext : Nat) (q_mprimes : Nat) (q_mtold : Nat) (q_mstretch : Nat) (q_mfewest : Nat) (q_misOdd : Nat) (q_misHigh : Nat) (q_misTop : Nat) (q_mbits : Nat) (q_mpile : Nat) (v1 : Int32) (m_length : Int32) (m_primeMany : Int32) (m_toldMany : Int32) (m_fate : Int32) (m_tail : Int32) (m_round : Int32) (m_tableKind : Int32) (m_areLaid : Int32) (m_unlike : Int32) (m_isFree : Int32) (a_mtable : Nat → Int32) : ∀ (n : Nat) (v3 : Int32), l_X12_sortOf_15 N v1 a_mtable n v3 = some res → ∀ (H : Heap) (locs : List Loc), va_P (dC, dI) vwCl (wd59 cyI cyJ cyZ q_Md q_mtable q_mtext q_mprimes q_mtold q_mstretch q_mfewest q_misOdd q_misHigh q_misTop q_mbits q_mpile m_length m_primeMany m_toldMany m_fate m_tail m_round m_tableKind m_areLaid m_unlike m_isFree a_mtable) H → va_D A (wd59 cyI cyJ cyZ q_Md q_mtable q_mtext q_mprimes q_mtold q_mstretch q_mfewest q_misOdd q_misHigh q_misTop q_mbits q_mpile m_length m_primeMany m_toldMany m_fate m_tail m_round m_tableKind m_areLaid m_unlike m_isFree a_mtable) → va_S A s.heap H locs → ∀ (ls : Array Slot), lv_has ls 4 [(0, .ref q_Md), (1, .int v1), (3, .int v3)] → W p l e (headSpec wsX12_sortOf rm_X12_sortOf).room s m args below meth c H locs 0 0 (MQ below (va_Qi (fun (r : Int32) (_ : Unit) => r = res) (bW dC dI (fun (u : Unit) => (wd59 cyI cyJ cyZ q_Md q_mtable q_mtext q_mprimes q_mtold q_mstretch q_mfewest q_misOdd q_misHigh q_misTop q_mbits q_mpile m_length m_primeMany m_toldMany m_fate m_tail m_round m_tableKind m_areLaid m_unlike m_isFree a_mtable)) A) A) args s 0 0 A) (F0 m 15 ls []) := by
  obtain ⟨hx, hb, hr, hml, hown, hts, hlocks, hG, hA⟩ := id C0
  have hK := hG.1
  intro n
  induction n with
  | zero =>
    intro v3 h
    cases h
  | succ n ih =>
    intro v3 h H locs hP hD hS ls hl
    have h : s_X12_sortOf_15 N v1 a_mtable (l_X12_sortOf_15 N v1 a_mtable n) v3 = some res := h
    unfold s_X12_sortOf_15 at h
    refine lv_iload_n hx hb dX12_sortOf_15 rfl (lv_at hl 2 rfl) ?_
    refine lv_iload_n hx hb dX12_sortOf_16 rfl (lv_at hl 1 rfl) ?_
    refine lv_iconst (v := (2 : Int32)) hx hb dX12_sortOf_17 (by decide) ?_
    refine lv_idiv hx hb dX12_sortOf_18 (by decide) ?_
    refine lv_icmp_gt (tgt := 45) hx hb dX12_sortOf_19 (by decide) (fun c5z => ?_) (fun c5z => ?_)
    · have h := xt h c5z
      refine lv_iconst (v := (3 : Int32)) hx hb dX12_sortOf_45 (by decide) ?_
      obtain rfl := Option.some.inj h
      exact W.iret (v := (3 : Int32)) hx hb hr (fun t ht hW => ⟨⟨_, (), rfl, rfl, by rw [ht]; exact hP, hD⟩, hS.F ht⟩) hS.2.2 dX12_sortOf_46 hlocks
    · have h := xf h c5z
      refine lv_iload_n hx hb dX12_sortOf_22 rfl (lv_at hl 1 rfl) ?_
      refine lv_iload_n hx hb dX12_sortOf_23 rfl (lv_at hl 2 rfl) ?_
      obtain ⟨b6z, h⟩ := xn h
      refine lv_irem hx hb dX12_sortOf_24 b6z ?_
      refine lv_if_ne (tgt := 39) hx hb dX12_sortOf_25 (by decide) (fun c7z => ?_) (fun c7z => ?_)
      · have h := xf h c7z
        obtain ⟨y8z, ey8z⟩ : ∃ z : Int32, z = v3 + (1 : Int32) := ⟨_, rfl⟩
        have h := xl_at h ey8z
        refine lv_iinc (v := y8z) (lv' := [(3, .int y8z), (0, .ref q_Md), (1, .int v1)]) hx hb dX12_sortOf_39 hl (k := 2) rfl (by rw [ey8z]; rfl) (by decide) rfl (fun ls hl => ?_)
        refine lv_goto (tgt := 15) hx hb dX12_sortOf_42 (by decide) ?_
        exact ih y8z h _ _ hP hD hS _ (lv_sub hl [1, 2, 0] rfl)
      · have h := xt h c7z
        refine lv_aload_n hx hb dX12_sortOf_28 rfl (lv_at hl 0 rfl) ?_
        refine lv_iload_n hx hb dX12_sortOf_29 rfl (lv_at hl 2 rfl) ?_
        obtain ⟨r9z, hr9z, h⟩ := xb_at h
        have hPc := hP.sub (ws' := (wd59 cyI cyJ cyZ q_Md q_mtable q_mtext q_mprimes q_mtold q_mstretch q_mfewest q_misOdd q_misHigh q_misTop q_mbits q_mpile m_length m_primeMany m_toldMany m_fate m_tail m_round m_tableKind m_areLaid m_unlike m_isFree a_mtable)) [0, 1] rfl
        have hDc := hD.sub (ws' := (wd59 cyI cyJ cyZ q_Md q_mtable q_mtext q_mprimes q_mtold q_mstretch q_mfewest q_misOdd q_misHigh q_misTop q_mbits q_mpile m_length m_primeMany m_toldMany m_fate m_tail m_round m_tableKind m_areLaid m_unlike m_isFree a_mtable)) [0, 1] (by decide) rfl
        refine cal_i [0, 1] [] (va_runV (As := [.int v3]) (rest := []) ⟨hx, hb, hml, hown, hts⟩ (c_X12_weigh l dC dI cyI cyJ cyZ N r9z H.size q_Md q_mtable q_mtext q_mprimes q_mtold q_mstretch q_mfewest q_misOdd q_misHigh q_misTop q_mbits q_mpile v3 m_length m_primeMany m_toldMany m_fate m_tail m_round m_tableKind m_areLaid m_unlike m_isFree a_mtable hr9z) (cwV 1 hts gX12_sortOf_X12_weigh rfl rfl rfl ⟨rfl, hd_X12_weigh⟩ ⟨Nat.le_of_ble_eq_true rfl, Nat.le_of_ble_eq_true rfl⟩) ⟨pC.blind, va_recv hK hPc (ci := 12) (q0 := 0) rfl rfl, pC.pre hPc hG hDc⟩ rfl rfl hl.1 rfl (lv_room (Nat.le_of_ble_eq_true rfl)) dX12_sortOf_30 ⟨Nat.zero_le _, Nat.zero_le _⟩) hP hD hS hA rfl rfl rfl (by decide) (fun x11z u10z H locs hw hP hD hS => ?_)
        obtain rfl := hw.symm
        have hP : va_P (dC, dI) vwCl (wd59 cyI cyJ cyZ q_Md q_mtable q_mtext q_mprimes q_mtold q_mstretch q_mfewest q_misOdd q_misHigh q_misTop q_mbits q_mpile m_length m_primeMany m_toldMany m_fate m_tail m_round m_tableKind m_areLaid m_unlike m_isFree a_mtable) H := hP.sub [0, 1] rfl
        have hD : va_D A (wd59 cyI cyJ cyZ q_Md q_mtable q_mtext q_mprimes q_mtold q_mstretch q_mfewest q_misOdd q_misHigh q_misTop q_mbits q_mpile m_length m_primeMany m_toldMany m_fate m_tail m_round m_tableKind m_areLaid m_unlike m_isFree a_mtable) := hD.sub [0, 1] (by decide) rfl
        refine lv_iconst (v := (2 : Int32)) hx hb dX12_sortOf_33 (by decide) ?_
        refine lv_icmp_ne (tgt := 39) hx hb dX12_sortOf_34 (by decide) (fun c12z => ?_) (fun c12z => ?_)
        · have h := xf h c12z
          obtain ⟨y13z, ey13z⟩ : ∃ z : Int32, z = v3 + (1 : Int32) := ⟨_, rfl⟩
          have h := xl_at h ey13z
          refine lv_iinc (v := y13z) (lv' := [(3, .int y13z), (0, .ref q_Md), (1, .int v1)]) hx hb dX12_sortOf_39 hl (k := 2) rfl (by rw [ey13z]; rfl) (by decide) rfl (fun ls hl => ?_)
          refine lv_goto (tgt := 15) hx hb dX12_sortOf_42 (by decide) ?_
          exact ih y13z h _ _ hP hD hS _ (lv_sub hl [1, 2, 0] rfl)
        · have h := xt h c12z
          refine lv_iconst (v := (2 : Int32)) hx hb dX12_sortOf_37 (by decide) ?_
          obtain rfl := Option.some.inj h
          exact W.iret (v := (2 : Int32)) hx hb hr (fun t ht hW => ⟨⟨_, (), rfl, rfl, by rw [ht]; exact hP, hD⟩, hS.F ht⟩) hS.2.2 dX12_sortOf_38 hlocks
def f_X12_sortOf (N : Nat) (v1 : Int32) (a_mtable : Nat → Int32) : Option (Int32) :=
  Option.bind (f_X12_weigh N v1 a_mtable) fun r1z =>
  if (2 : Int32) ≤ r1z then
    l_X12_sortOf_15 N v1 a_mtable N (2 : Int32)
  else
    some r1z
set_option maxRecDepth 100000 in
set_option maxHeartbeats 4000000 in
theorem k_X12_sortOf_0 {p : Program} {l : Launch} {e : Env} {s : State} {m : MethodId} {args : Array Value} {below : List Frame} {meth : Method} {c : Code} {dC : Nat → ClassId} {dI : Nat → Nat → Nat} {cyI cyJ cyZ : ClassId} {A : Nat → Prop} (C0 : mC p s m meth c args cX12_sortOf (some .int) 4 RX12 wsX12_sortOf (gK dC dI cyI cyJ cyZ) A) (N : Nat) (res : Int32) (q_Md : Nat) (q_mtable : Nat) (q_mtext : Nat) (q_mprimes : Nat) (q_mtold : Nat) (q_mstretch : Nat) (q_mfewest : Nat) (q_misOdd : Nat) (q_misHigh : Nat) (q_misTop : Nat) (q_mbits : Nat) (q_mpile : Nat) (v1 : Int32) (m_length : Int32) (m_primeMany : Int32) (m_toldMany : Int32) (m_fate : Int32) (m_tail : Int32) (m_round : Int32) (m_tableKind : Int32) (m_areLaid : Int32) (m_unlike : Int32) (m_isFree : Int32) (a_mtable : Nat → Int32) (h : f_X12_sortOf N v1 a_mtable = some res) : ∀ (H : Heap) (locs : List Loc), va_P (dC, dI) vwCl (wd59 cyI cyJ cyZ q_Md q_mtable q_mtext q_mprimes q_mtold q_mstretch q_mfewest q_misOdd q_misHigh q_misTop q_mbits q_mpile m_length m_primeMany m_toldMany m_fate m_tail m_round m_tableKind m_areLaid m_unlike m_isFree a_mtable) H → va_D A (wd59 cyI cyJ cyZ q_Md q_mtable q_mtext q_mprimes q_mtold q_mstretch q_mfewest q_misOdd q_misHigh q_misTop q_mbits q_mpile m_length m_primeMany m_toldMany m_fate m_tail m_round m_tableKind m_areLaid m_unlike m_isFree a_mtable) → va_S A s.heap H locs → ∀ (ls : Array Slot), lv_has ls 4 [(0, .ref q_Md), (1, .int v1)] → W p l e (headSpec wsX12_sortOf rm_X12_sortOf).room s m args below meth c H locs 0 0 (MQ below (va_Qi (fun (r : Int32) (_ : Unit) => r = res) (bW dC dI (fun (u : Unit) => (wd59 cyI cyJ cyZ q_Md q_mtable q_mtext q_mprimes q_mtold q_mstretch q_mfewest q_misOdd q_misHigh q_misTop q_mbits q_mpile m_length m_primeMany m_toldMany m_fate m_tail m_round m_tableKind m_areLaid m_unlike m_isFree a_mtable)) A) A) args s 0 0 A) (F0 m 0 ls []) := by
  obtain ⟨hx, hb, hr, hml, hown, hts, hlocks, hG, hA⟩ := id C0
  have hK := hG.1
  intro H locs hP hD hS ls hl
  unfold f_X12_sortOf at h
  refine lv_aload_n hx hb dX12_sortOf_0 rfl (lv_at hl 0 rfl) ?_
  refine lv_iload_n hx hb dX12_sortOf_1 rfl (lv_at hl 1 rfl) ?_
  obtain ⟨r1z, hr1z, h⟩ := xb_at h
  have hPc := hP.sub (ws' := (wd59 cyI cyJ cyZ q_Md q_mtable q_mtext q_mprimes q_mtold q_mstretch q_mfewest q_misOdd q_misHigh q_misTop q_mbits q_mpile m_length m_primeMany m_toldMany m_fate m_tail m_round m_tableKind m_areLaid m_unlike m_isFree a_mtable)) [0, 1] rfl
  have hDc := hD.sub (ws' := (wd59 cyI cyJ cyZ q_Md q_mtable q_mtext q_mprimes q_mtold q_mstretch q_mfewest q_misOdd q_misHigh q_misTop q_mbits q_mpile m_length m_primeMany m_toldMany m_fate m_tail m_round m_tableKind m_areLaid m_unlike m_isFree a_mtable)) [0, 1] (by decide) rfl
  refine cal_i [0, 1] [] (va_runV (As := [.int v1]) (rest := []) ⟨hx, hb, hml, hown, hts⟩ (c_X12_weigh l dC dI cyI cyJ cyZ N r1z H.size q_Md q_mtable q_mtext q_mprimes q_mtold q_mstretch q_mfewest q_misOdd q_misHigh q_misTop q_mbits q_mpile v1 m_length m_primeMany m_toldMany m_fate m_tail m_round m_tableKind m_areLaid m_unlike m_isFree a_mtable hr1z) (cwV 1 hts gX12_sortOf_X12_weigh rfl rfl rfl ⟨rfl, hd_X12_weigh⟩ ⟨Nat.le_of_ble_eq_true rfl, Nat.le_of_ble_eq_true rfl⟩) ⟨pC.blind, va_recv hK hPc (ci := 12) (q0 := 0) rfl rfl, pC.pre hPc hG hDc⟩ rfl rfl hl.1 rfl (lv_room (Nat.le_of_ble_eq_true rfl)) dX12_sortOf_2 ⟨Nat.zero_le _, Nat.zero_le _⟩) hP hD hS hA rfl rfl rfl (by decide) (fun x3z u2z H locs hw hP hD hS => ?_)
  obtain rfl := hw.symm
  have hP : va_P (dC, dI) vwCl (wd59 cyI cyJ cyZ q_Md q_mtable q_mtext q_mprimes q_mtold q_mstretch q_mfewest q_misOdd q_misHigh q_misTop q_mbits q_mpile m_length m_primeMany m_toldMany m_fate m_tail m_round m_tableKind m_areLaid m_unlike m_isFree a_mtable) H := hP.sub [0, 1] rfl
  have hD : va_D A (wd59 cyI cyJ cyZ q_Md q_mtable q_mtext q_mprimes q_mtold q_mstretch q_mfewest q_misOdd q_misHigh q_misTop q_mbits q_mpile m_length m_primeMany m_toldMany m_fate m_tail m_round m_tableKind m_areLaid m_unlike m_isFree a_mtable) := hD.sub [0, 1] (by decide) rfl
  refine lv_istore_n (lv' := [(2, .int r1z), (0, .ref q_Md), (1, .int v1)]) hx hb dX12_sortOf_5 rfl hl (by decide) rfl (fun ls hl => ?_)
  refine lv_iload_n hx hb dX12_sortOf_6 rfl (lv_at hl 0 rfl) ?_
  refine lv_iconst (v := (2 : Int32)) hx hb dX12_sortOf_7 (by decide) ?_
  refine lv_icmp_ge (tgt := 13) hx hb dX12_sortOf_8 (by decide) (fun c4z => ?_) (fun c4z => ?_)
  · have h := xt h c4z
    refine lv_iconst (v := (2 : Int32)) hx hb dX12_sortOf_13 (by decide) ?_
    refine lv_istore_n (lv' := [(3, .int (2 : Int32)), (2, .int r1z), (0, .ref q_Md), (1, .int v1)]) hx hb dX12_sortOf_14 rfl hl (by decide) rfl (fun ls hl => ?_)
    exact k_X12_sortOf_15 C0 N res q_Md q_mtable q_mtext q_mprimes q_mtold q_mstretch q_mfewest q_misOdd q_misHigh q_misTop q_mbits q_mpile v1 m_length m_primeMany m_toldMany m_fate m_tail m_round m_tableKind m_areLaid m_unlike m_isFree a_mtable N (2 : Int32) h _ _ hP hD hS _ (lv_sub hl [2, 3, 0] rfl)
  · have h := xf h c4z
    refine lv_iload_n hx hb dX12_sortOf_11 rfl (lv_at hl 0 rfl) ?_
    obtain rfl := Option.some.inj h
    exact W.iret (v := r1z) hx hb hr (fun t ht hW => ⟨⟨_, (), rfl, rfl, by rw [ht]; exact hP, hD⟩, hS.F ht⟩) hS.2.2 dX12_sortOf_12 hlocks
set_option maxRecDepth 100000 in
set_option maxHeartbeats 4000000 in
theorem c_X12_sortOf (l : Launch) (dC : Nat → ClassId) (dI : Nat → Nat → Nat) (cyI cyJ cyZ : ClassId) (N : Nat) (res : Int32) (sz : Nat) (q_Md : Nat) (q_mtable : Nat) (q_mtext : Nat) (q_mprimes : Nat) (q_mtold : Nat) (q_mstretch : Nat) (q_mfewest : Nat) (q_misOdd : Nat) (q_misHigh : Nat) (q_misTop : Nat) (q_mbits : Nat) (q_mpile : Nat) (v1 : Int32) (m_length : Int32) (m_primeMany : Int32) (m_toldMany : Int32) (m_fate : Int32) (m_tail : Int32) (m_round : Int32) (m_tableKind : Int32) (m_areLaid : Int32) (m_unlike : Int32) (m_isFree : Int32) (a_mtable : Nat → Int32) (h : f_X12_sortOf N v1 a_mtable = some res) : Met l yX12_sortOf wsX12_sortOf rm_X12_sortOf (pC dC dI cyI cyJ cyZ [.ref q_Md, .int v1] sz (wd59 cyI cyJ cyZ q_Md q_mtable q_mtext q_mprimes q_mtold q_mstretch q_mfewest q_misOdd q_misHigh q_misTop q_mbits q_mpile m_length m_primeMany m_toldMany m_fate m_tail m_round m_tableKind m_areLaid m_unlike m_isFree a_mtable)) (va_Qi (fun (r : Int32) (_ : Unit) => r = res) (bW dC dI (fun (u : Unit) => (wd59 cyI cyJ cyZ q_Md q_mtable q_mtext q_mprimes q_mtold q_mstretch q_mfewest q_misOdd q_misHigh q_misTop q_mbits q_mpile m_length m_primeMany m_toldMany m_fate m_tail m_round m_tableKind m_areLaid m_unlike m_isFree a_mtable)) (va_A (wd59 cyI cyJ cyZ q_Md q_mtable q_mtext q_mprimes q_mtold q_mstretch q_mfewest q_misOdd q_misHigh q_misTop q_mbits q_mpile m_length m_primeMany m_toldMany m_fate m_tail m_round m_tableKind m_areLaid m_unlike m_isFree a_mtable) sz)) (va_A (wd59 cyI cyJ cyZ q_Md q_mtable q_mtext q_mprimes q_mtold q_mstretch q_mfewest q_misOdd q_misHigh q_misTop q_mbits q_mpile m_length m_primeMany m_toldMany m_fate m_tail m_round m_tableKind m_areLaid m_unlike m_isFree a_mtable) sz)) 0 0 (va_A (wd59 cyI cyJ cyZ q_Md q_mtable q_mtext q_mprimes q_mtold q_mstretch q_mfewest q_misOdd q_misHigh q_misTop q_mbits q_mpile m_length m_primeMany m_toldMany m_fate m_tail m_round m_tableKind m_areLaid m_unlike m_isFree a_mtable) sz) := by
  refine Met.ofW (cc := cX12_sortOf) (maxL := 4) (ret := (some .int)) (by decide) rfl ?_
  intro p e s m args below meth c s₁ B hml hv
  obtain ⟨rfl, hsz, hP, hG, hD0⟩ := hv
  have hx := B.exec
  have hb := B.bytes
  have hr := B.returns
  have hts := atoms_spec (ws := wsX12_sortOf) B.pre
  have hown : s.vm.findClass RX12 = some m.cls := findClass_of_methodNamed B.named
  have hlocks := B.notSynchronized
  subst hsz
  have hD := hD0.self (sz := s.heap.size)
  generalize hAe : va_A (wd59 cyI cyJ cyZ q_Md q_mtable q_mtext q_mprimes q_mtold q_mstretch q_mfewest q_misOdd q_misHigh q_misTop q_mbits q_mpile m_length m_primeMany m_toldMany m_fate m_tail m_round m_tableKind m_areLaid m_unlike m_isFree a_mtable) s.heap.size = A at hD ⊢
  have hA : ∀ q : Nat, s.heap.size ≤ q → A q := fun q h => by rw [← hAe]; exact Or.inr h
  have hS : va_S A s.heap s.heap [] := va_S.rf
  have hl := lv_entry ([.ref q_Md, .int v1]) (n := 4) (Nat.le_of_ble_eq_true rfl)
  rw [lg_entry_eq]
  generalize (lg_sl ([.ref q_Md, .int v1]) ++ List.replicate (4 - (lg_sl ([.ref q_Md, .int v1])).length) Slot.unset).toArray = ls at hl ⊢
  have hl : lv_has ls 4 [(0, .ref q_Md), (1, .int v1)] := hl
  exact k_X12_sortOf_0 ⟨hx, hb, hr, hml, hown, hts, hlocks, hG, hA⟩ N res q_Md q_mtable q_mtext q_mprimes q_mtold q_mstretch q_mfewest q_misOdd q_misHigh q_misTop q_mbits q_mpile v1 m_length m_primeMany m_toldMany m_fate m_tail m_round m_tableKind m_areLaid m_unlike m_isFree a_mtable  h _ _ hP hD hS _ hl
abbrev rm_X12_sort : Room := { frames := 4, cells := 0, slots := 0, locals := 107 }
theorem hd_X12_sort : yX12_sort.cls ≠ "java/lang/invoke/MethodHandle" ∧ yX12_sort.cls ≠ "java/lang/invoke/VarHandle" ∧ (parseMethodDescriptor yX12_sort.desc).map (fun d => d.parameters.length) = some 1 := by decide +kernel
theorem iw_X12_sort_X12 : ∀ w ∈ wsX120, w ∈ wsX12_sort := List.forall_mem_cons.mpr ⟨List.mem_of_getElem? (i := 36) rfl, List.forall_mem_cons.mpr ⟨List.mem_of_getElem? (i := 37) rfl, List.forall_mem_cons.mpr ⟨List.mem_of_getElem? (i := 38) rfl, List.forall_mem_cons.mpr ⟨List.mem_of_getElem? (i := 39) rfl, List.forall_mem_cons.mpr ⟨List.mem_of_getElem? (i := 40) rfl, List.forall_mem_cons.mpr ⟨List.mem_of_getElem? (i := 41) rfl, List.forall_mem_cons.mpr ⟨List.mem_of_getElem? (i := 42) rfl, List.forall_mem_cons.mpr ⟨List.mem_of_getElem? (i := 43) rfl, List.forall_mem_cons.mpr ⟨List.mem_of_getElem? (i := 44) rfl, List.forall_mem_cons.mpr ⟨List.mem_of_getElem? (i := 45) rfl, List.forall_mem_cons.mpr ⟨List.mem_of_getElem? (i := 46) rfl, List.forall_mem_cons.mpr ⟨List.mem_of_getElem? (i := 47) rfl, List.forall_mem_cons.mpr ⟨List.mem_of_getElem? (i := 48) rfl, List.forall_mem_cons.mpr ⟨List.mem_of_getElem? (i := 49) rfl, List.forall_mem_cons.mpr ⟨List.mem_of_getElem? (i := 50) rfl, List.forall_mem_cons.mpr ⟨List.mem_of_getElem? (i := 51) rfl, List.forall_mem_cons.mpr ⟨List.mem_of_getElem? (i := 52) rfl, List.forall_mem_cons.mpr ⟨List.mem_of_getElem? (i := 53) rfl, List.forall_mem_cons.mpr ⟨List.mem_of_getElem? (i := 54) rfl, List.forall_mem_cons.mpr ⟨List.mem_of_getElem? (i := 55) rfl, List.forall_mem_cons.mpr ⟨List.mem_of_getElem? (i := 56) rfl, fun _ h => absurd h List.not_mem_nil⟩⟩⟩⟩⟩⟩⟩⟩⟩⟩⟩⟩⟩⟩⟩⟩⟩⟩⟩⟩⟩
def f_X12_sort (N : Nat) (v1 : Int32) (m_primeMany : Int32) (m_tableKind : Int32) (a_mprimes : Nat → Int64) (a_mtable : Nat → Int32) : Option (Int32 × Int32 × Int32 × (Nat → Int64) × (Nat → Int32)) :=
  Option.bind (f_X12_in N v1.toInt64 (1 : Int64) (50000 : Int64)) fun r1z =>
  if r1z = 0 then
    some ((-1 : Int32), m_primeMany, m_tableKind, a_mprimes, a_mtable)
  else
    Option.bind (f_X12_layTable N (0 : Int32) m_primeMany m_tableKind a_mprimes a_mtable) fun r5z =>
    Option.bind (f_X12_sortOf N v1 r5z.2.2.2) fun r8z =>
    some (r8z, r5z.1, r5z.2.1, r5z.2.2.1, r5z.2.2.2)
set_option maxRecDepth 100000 in
set_option maxHeartbeats 4000000 in
theorem k_X12_sort_0 {p : Program} {l : Launch} {e : Env} {s : State} {m : MethodId} {args : Array Value} {below : List Frame} {meth : Method} {c : Code} {dC : Nat → ClassId} {dI : Nat → Nat → Nat} {cyI cyJ cyZ : ClassId} {A : Nat → Prop} (C0 : mC p s m meth c args cX12_sort (some .int) 2 RX12 wsX12_sort (gK dC dI cyI cyJ cyZ) A) (N : Nat) (res : Int32 × Int32 × Int32 × (Nat → Int64) × (Nat → Int32)) (q_Md : Nat) (q_mprimes : Nat) (q_mtable : Nat) (q_mtext : Nat) (q_mtold : Nat) (q_mstretch : Nat) (q_mfewest : Nat) (q_misOdd : Nat) (q_misHigh : Nat) (q_misTop : Nat) (q_mbits : Nat) (q_mpile : Nat) (v1 : Int32) (m_length : Int32) (m_primeMany : Int32) (m_toldMany : Int32) (m_fate : Int32) (m_tail : Int32) (m_round : Int32) (m_tableKind : Int32) (m_areLaid : Int32) (m_unlike : Int32) (m_isFree : Int32) (a_mprimes : Nat → Int64) (a_mtable : Nat → Int32) (h : f_X12_sort N v1 m_primeMany m_tableKind a_mprimes a_mtable = some res) : ∀ (H : Heap) (locs : List Loc), va_P (dC, dI) vwCl (wd58 cyI cyJ cyZ q_Md q_mprimes q_mtable q_mtext q_mtold q_mstretch q_mfewest q_misOdd q_misHigh q_misTop q_mbits q_mpile m_length m_primeMany m_toldMany m_fate m_tail m_round m_tableKind m_areLaid m_unlike m_isFree a_mprimes a_mtable) H → va_D A (wd58 cyI cyJ cyZ q_Md q_mprimes q_mtable q_mtext q_mtold q_mstretch q_mfewest q_misOdd q_misHigh q_misTop q_mbits q_mpile m_length m_primeMany m_toldMany m_fate m_tail m_round m_tableKind m_areLaid m_unlike m_isFree a_mprimes a_mtable) → va_S A s.heap H locs → ∀ (ls : Array Slot), lv_has ls 2 [(0, .ref q_Md), (1, .int v1)] → W p l e (headSpec wsX12_sort rm_X12_sort).room s m args below meth c H locs 0 0 (MQ below (va_Qi (fun (r : Int32) (_ : Unit) => r = res.1) (bW dC dI (fun (u : Unit) => (wd58 cyI cyJ cyZ q_Md q_mprimes q_mtable q_mtext q_mtold q_mstretch q_mfewest q_misOdd q_misHigh q_misTop q_mbits q_mpile m_length res.2.1 m_toldMany m_fate m_tail m_round res.2.2.1 m_areLaid m_unlike m_isFree res.2.2.2.1 res.2.2.2.2)) A) A) args s 0 0 A) (F0 m 0 ls []) := by
  obtain ⟨hx, hb, hr, hml, hown, hts, hlocks, hG, hA⟩ := id C0
  have hK := hG.1
  intro H locs hP hD hS ls hl
  unfold f_X12_sort at h
  refine lv_iload_n hx hb dX12_sort_0 rfl (lv_at hl 1 rfl) ?_
  refine lv_i2l (v := v1.toInt64) hx hb dX12_sort_1 rfl ?_
  refine lv_lconst (v := (1 : Int64)) hx hb dX12_sort_2 (by decide) ?_
  refine lv_ldc2 (v := (50000 : Int64)) hx hb hown (hts (.constantLong RX12 106 (50000)) (List.mem_of_getElem? (i := 1) rfl)) dX12_sort_3 ?_
  obtain ⟨r1z, hr1z, h⟩ := xb_at h
  have hPc := hP.sub (ws' := (wd37 cyI cyJ cyZ)) [] rfl
  have hDc := hD.sub (ws' := (wd37 cyI cyJ cyZ)) [] (by decide) rfl
  refine cal_i [] [0, 1, 2] (va_runS (As := [.long v1.toInt64, .long (1 : Int64), .long (50000 : Int64)]) (rest := []) ⟨hx, hb, hml, hown, hts⟩ (c_X12_in l dC dI cyI cyJ cyZ N r1z H.size  v1.toInt64 (1 : Int64) (50000 : Int64)  hr1z) (va_cwS 3 hts gX12_sort_X12_in rfl rfl rfl hd_X12_in ⟨Nat.le_of_ble_eq_true rfl, Nat.le_of_ble_eq_true rfl⟩) ⟨pC.blind, pC.pre hPc hG hDc⟩ rfl rfl hl.1 rfl (lv_room (Nat.le_of_ble_eq_true rfl)) dX12_sort_6 ⟨Nat.zero_le _, Nat.zero_le _⟩) hP hD hS hA rfl rfl rfl (by decide) (fun x3z u2z H locs hw hP hD hS => ?_)
  obtain rfl := hw.symm
  have hP : va_P (dC, dI) vwCl (wd58 cyI cyJ cyZ q_Md q_mprimes q_mtable q_mtext q_mtold q_mstretch q_mfewest q_misOdd q_misHigh q_misTop q_mbits q_mpile m_length m_primeMany m_toldMany m_fate m_tail m_round m_tableKind m_areLaid m_unlike m_isFree a_mprimes a_mtable) H := hP.sub [0, 1, 2] rfl
  have hD : va_D A (wd58 cyI cyJ cyZ q_Md q_mprimes q_mtable q_mtext q_mtold q_mstretch q_mfewest q_misOdd q_misHigh q_misTop q_mbits q_mpile m_length m_primeMany m_toldMany m_fate m_tail m_round m_tableKind m_areLaid m_unlike m_isFree a_mprimes a_mtable) := hD.sub [0, 1, 2] (by decide) rfl
  refine lv_if_ne (tgt := 14) hx hb dX12_sort_9 (by decide) (fun c4z => ?_) (fun c4z => ?_)
  · have h := xf h c4z
    refine lv_aload_n hx hb dX12_sort_14 rfl (lv_at hl 0 rfl) ?_
    refine lv_iconst (v := (0 : Int32)) hx hb dX12_sort_15 (by decide) ?_
    obtain ⟨r5z, hr5z, h⟩ := xb_at h
    have hPc := hP.sub (ws' := (wd58 cyI cyJ cyZ q_Md q_mprimes q_mtable q_mtext q_mtold q_mstretch q_mfewest q_misOdd q_misHigh q_misTop q_mbits q_mpile m_length m_primeMany m_toldMany m_fate m_tail m_round m_tableKind m_areLaid m_unlike m_isFree a_mprimes a_mtable)) [0, 1, 2] rfl
    have hDc := hD.sub (ws' := (wd58 cyI cyJ cyZ q_Md q_mprimes q_mtable q_mtext q_mtold q_mstretch q_mfewest q_misOdd q_misHigh q_misTop q_mbits q_mpile m_length m_primeMany m_toldMany m_fate m_tail m_round m_tableKind m_areLaid m_unlike m_isFree a_mprimes a_mtable)) [0, 1, 2] (by decide) rfl
    refine cal_v [0, 1, 2] [] (va_runV (As := [.int (0 : Int32)]) (rest := []) ⟨hx, hb, hml, hown, hts⟩ (c_X12_layTable l dC dI cyI cyJ cyZ N r5z H.size q_Md q_mprimes q_mtable q_mtext q_mtold q_mstretch q_mfewest q_misOdd q_misHigh q_misTop q_mbits q_mpile (0 : Int32) m_length m_primeMany m_toldMany m_fate m_tail m_round m_tableKind m_areLaid m_unlike m_isFree a_mprimes a_mtable hr5z) (cwV 1 hts gX12_sort_X12_layTable rfl rfl rfl ⟨rfl, hd_X12_layTable⟩ ⟨Nat.le_of_ble_eq_true rfl, Nat.le_of_ble_eq_true rfl⟩) ⟨pC.blind, va_recv hK hPc (ci := 12) (q0 := 0) rfl rfl, pC.pre hPc hG hDc⟩ rfl rfl hl.1 rfl (lv_room (Nat.le_of_ble_eq_true rfl)) dX12_sort_16 ⟨Nat.zero_le _, Nat.zero_le _⟩) hP hD hS hA rfl rfl rfl (by decide) (fun u6z H locs _ hP hD hS => ?_)
    have hP : va_P (dC, dI) vwCl (wd58 cyI cyJ cyZ q_Md q_mprimes q_mtable q_mtext q_mtold q_mstretch q_mfewest q_misOdd q_misHigh q_misTop q_mbits q_mpile m_length r5z.1 m_toldMany m_fate m_tail m_round r5z.2.1 m_areLaid m_unlike m_isFree r5z.2.2.1 r5z.2.2.2) H := hP.sub [0, 1, 2] rfl
    have hD : va_D A (wd58 cyI cyJ cyZ q_Md q_mprimes q_mtable q_mtext q_mtold q_mstretch q_mfewest q_misOdd q_misHigh q_misTop q_mbits q_mpile m_length r5z.1 m_toldMany m_fate m_tail m_round r5z.2.1 m_areLaid m_unlike m_isFree r5z.2.2.1 r5z.2.2.2) := hD.sub [0, 1, 2] (by decide) rfl
    refine lv_aload_n hx hb dX12_sort_19 rfl (lv_at hl 0 rfl) ?_
    refine lv_iload_n hx hb dX12_sort_20 rfl (lv_at hl 1 rfl) ?_
    obtain ⟨r8z, hr8z, h⟩ := xb_at h
    have hPc := hP.sub (ws' := (wd59 cyI cyJ cyZ q_Md q_mtable q_mtext q_mprimes q_mtold q_mstretch q_mfewest q_misOdd q_misHigh q_misTop q_mbits q_mpile m_length r5z.1 m_toldMany m_fate m_tail m_round r5z.2.1 m_areLaid m_unlike m_isFree r5z.2.2.2)) [0, 2] rfl
    have hDc := hD.sub (ws' := (wd59 cyI cyJ cyZ q_Md q_mtable q_mtext q_mprimes q_mtold q_mstretch q_mfewest q_misOdd q_misHigh q_misTop q_mbits q_mpile m_length r5z.1 m_toldMany m_fate m_tail m_round r5z.2.1 m_areLaid m_unlike m_isFree r5z.2.2.2)) [0, 2] (by decide) rfl
    refine cal_i [0, 2] [1] (va_runV (As := [.int v1]) (rest := []) ⟨hx, hb, hml, hown, hts⟩ (c_X12_sortOf l dC dI cyI cyJ cyZ N r8z H.size q_Md q_mtable q_mtext q_mprimes q_mtold q_mstretch q_mfewest q_misOdd q_misHigh q_misTop q_mbits q_mpile v1 m_length r5z.1 m_toldMany m_fate m_tail m_round r5z.2.1 m_areLaid m_unlike m_isFree r5z.2.2.2 hr8z) (cwV 1 hts gX12_sort_X12_sortOf rfl rfl rfl ⟨rfl, hd_X12_sortOf⟩ ⟨Nat.le_of_ble_eq_true rfl, Nat.le_of_ble_eq_true rfl⟩) ⟨pC.blind, va_recv hK hPc (ci := 12) (q0 := 0) rfl rfl, pC.pre hPc hG hDc⟩ rfl rfl hl.1 rfl (lv_room (Nat.le_of_ble_eq_true rfl)) dX12_sort_21 ⟨Nat.zero_le _, Nat.zero_le _⟩) hP hD hS hA rfl rfl rfl (by decide) (fun x10z u9z H locs hw hP hD hS => ?_)
    obtain rfl := hw.symm
    have hP : va_P (dC, dI) vwCl (wd58 cyI cyJ cyZ q_Md q_mprimes q_mtable q_mtext q_mtold q_mstretch q_mfewest q_misOdd q_misHigh q_misTop q_mbits q_mpile m_length r5z.1 m_toldMany m_fate m_tail m_round r5z.2.1 m_areLaid m_unlike m_isFree r5z.2.2.1 r5z.2.2.2) H := hP.sub [1, 0, 2] rfl
    have hD : va_D A (wd58 cyI cyJ cyZ q_Md q_mprimes q_mtable q_mtext q_mtold q_mstretch q_mfewest q_misOdd q_misHigh q_misTop q_mbits q_mpile m_length r5z.1 m_toldMany m_fate m_tail m_round r5z.2.1 m_areLaid m_unlike m_isFree r5z.2.2.1 r5z.2.2.2) := hD.sub [1, 0, 2] (by decide) rfl
    obtain rfl := Option.some.inj h
    exact W.iret (v := r8z) hx hb hr (fun t ht hW => ⟨⟨_, (), rfl, rfl, by rw [ht]; exact hP, hD⟩, hS.F ht⟩) hS.2.2 dX12_sort_24 hlocks
  · have h := xt h c4z
    refine lv_iconst (v := (-1 : Int32)) hx hb dX12_sort_12 (by decide) ?_
    obtain rfl := Option.some.inj h
    exact W.iret (v := (-1 : Int32)) hx hb hr (fun t ht hW => ⟨⟨_, (), rfl, rfl, by rw [ht]; exact hP, hD⟩, hS.F ht⟩) hS.2.2 dX12_sort_13 hlocks
set_option maxRecDepth 100000 in
set_option maxHeartbeats 4000000 in
theorem c_X12_sort (l : Launch) (dC : Nat → ClassId) (dI : Nat → Nat → Nat) (cyI cyJ cyZ : ClassId) (N : Nat) (res : Int32 × Int32 × Int32 × (Nat → Int64) × (Nat → Int32)) (sz : Nat) (q_Md : Nat) (q_mprimes : Nat) (q_mtable : Nat) (q_mtext : Nat) (q_mtold : Nat) (q_mstretch : Nat) (q_mfewest : Nat) (q_misOdd : Nat) (q_misHigh : Nat) (q_misTop : Nat) (q_mbits : Nat) (q_mpile : Nat) (v1 : Int32) (m_length : Int32) (m_primeMany : Int32) (m_toldMany : Int32) (m_fate : Int32) (m_tail : Int32) (m_round : Int32) (m_tableKind : Int32) (m_areLaid : Int32) (m_unlike : Int32) (m_isFree : Int32) (a_mprimes : Nat → Int64) (a_mtable : Nat → Int32) (h : f_X12_sort N v1 m_primeMany m_tableKind a_mprimes a_mtable = some res) : Met l yX12_sort wsX12_sort rm_X12_sort (pC dC dI cyI cyJ cyZ [.ref q_Md, .int v1] sz (wd58 cyI cyJ cyZ q_Md q_mprimes q_mtable q_mtext q_mtold q_mstretch q_mfewest q_misOdd q_misHigh q_misTop q_mbits q_mpile m_length m_primeMany m_toldMany m_fate m_tail m_round m_tableKind m_areLaid m_unlike m_isFree a_mprimes a_mtable)) (va_Qi (fun (r : Int32) (_ : Unit) => r = res.1) (bW dC dI (fun (u : Unit) => (wd58 cyI cyJ cyZ q_Md q_mprimes q_mtable q_mtext q_mtold q_mstretch q_mfewest q_misOdd q_misHigh q_misTop q_mbits q_mpile m_length res.2.1 m_toldMany m_fate m_tail m_round res.2.2.1 m_areLaid m_unlike m_isFree res.2.2.2.1 res.2.2.2.2)) (va_A (wd58 cyI cyJ cyZ q_Md q_mprimes q_mtable q_mtext q_mtold q_mstretch q_mfewest q_misOdd q_misHigh q_misTop q_mbits q_mpile m_length m_primeMany m_toldMany m_fate m_tail m_round m_tableKind m_areLaid m_unlike m_isFree a_mprimes a_mtable) sz)) (va_A (wd58 cyI cyJ cyZ q_Md q_mprimes q_mtable q_mtext q_mtold q_mstretch q_mfewest q_misOdd q_misHigh q_misTop q_mbits q_mpile m_length m_primeMany m_toldMany m_fate m_tail m_round m_tableKind m_areLaid m_unlike m_isFree a_mprimes a_mtable) sz)) 0 0 (va_A (wd58 cyI cyJ cyZ q_Md q_mprimes q_mtable q_mtext q_mtold q_mstretch q_mfewest q_misOdd q_misHigh q_misTop q_mbits q_mpile m_length m_primeMany m_toldMany m_fate m_tail m_round m_tableKind m_areLaid m_unlike m_isFree a_mprimes a_mtable) sz) := by
  refine Met.ofW (cc := cX12_sort) (maxL := 2) (ret := (some .int)) (by decide) rfl ?_
  intro p e s m args below meth c s₁ B hml hv
  obtain ⟨rfl, hsz, hP, hG, hD0⟩ := hv
  have hx := B.exec
  have hb := B.bytes
  have hr := B.returns
  have hts := atoms_spec (ws := wsX12_sort) B.pre
  have hown : s.vm.findClass RX12 = some m.cls := findClass_of_methodNamed B.named
  have hlocks := B.notSynchronized
  subst hsz
  have hD := hD0.self (sz := s.heap.size)
  generalize hAe : va_A (wd58 cyI cyJ cyZ q_Md q_mprimes q_mtable q_mtext q_mtold q_mstretch q_mfewest q_misOdd q_misHigh q_misTop q_mbits q_mpile m_length m_primeMany m_toldMany m_fate m_tail m_round m_tableKind m_areLaid m_unlike m_isFree a_mprimes a_mtable) s.heap.size = A at hD ⊢
  have hA : ∀ q : Nat, s.heap.size ≤ q → A q := fun q h => by rw [← hAe]; exact Or.inr h
  have hS : va_S A s.heap s.heap [] := va_S.rf
  have hl := lv_entry ([.ref q_Md, .int v1]) (n := 2) (Nat.le_of_ble_eq_true rfl)
  rw [lg_entry_eq]
  generalize (lg_sl ([.ref q_Md, .int v1]) ++ List.replicate (2 - (lg_sl ([.ref q_Md, .int v1])).length) Slot.unset).toArray = ls at hl ⊢
  have hl : lv_has ls 2 [(0, .ref q_Md), (1, .int v1)] := hl
  exact k_X12_sort_0 ⟨hx, hb, hr, hml, hown, hts, hlocks, hG, hA⟩ N res q_Md q_mprimes q_mtable q_mtext q_mtold q_mstretch q_mfewest q_misOdd q_misHigh q_misTop q_mbits q_mpile v1 m_length m_primeMany m_toldMany m_fate m_tail m_round m_tableKind m_areLaid m_unlike m_isFree a_mprimes a_mtable  h _ _ hP hD hS _ hl
/-- the cells Md, mfewest -/
abbrev wd61 (cyI cyJ cyZ : ClassId) (q_Md : Nat) (q_mfewest : Nat) (q_mtext : Nat) (q_mprimes : Nat) (q_mtold : Nat) (q_mtable : Nat) (q_mstretch : Nat) (q_misOdd : Nat) (q_misHigh : Nat) (q_misTop : Nat) (q_mbits : Nat) (q_mpile : Nat) (m_length : Int32) (m_primeMany : Int32) (m_toldMany : Int32) (m_fate : Int32) (m_tail : Int32) (m_round : Int32) (m_tableKind : Int32) (m_areLaid : Int32) (m_unlike : Int32) (m_isFree : Int32) (a_mfewest : Nat → Int32) : va_W := [(q_Md, .inr (12, [.int m_length, .ref q_mtext, .int m_primeMany, .ref q_mprimes, .int m_toldMany, .ref q_mtold, .int m_fate, .int m_tail, .int m_round, .int m_tableKind, .ref q_mtable, .ref q_mstretch, .ref q_mfewest, .int m_areLaid, .ref q_misOdd, .ref q_misHigh, .ref q_misTop, .ref q_mbits, .int m_unlike, .int m_isFree, .ref q_mpile])), (q_mfewest, .inl (cyI, 5001, .inl a_mfewest))]
abbrev rm_X12_made : Room := { frames := 1, cells := 0, slots := 0, locals := 25 }
theorem hd_X12_made : yX12_made.cls ≠ "java/lang/invoke/MethodHandle" ∧ yX12_made.cls ≠ "java/lang/invoke/VarHandle" ∧ (parseMethodDescriptor yX12_made.desc).map (fun d => d.parameters.length) = some 1 := by decide +kernel
theorem iw_X12_made_X12 : ∀ w ∈ wsX120, w ∈ wsX12_made := List.forall_mem_cons.mpr ⟨List.mem_of_getElem? (i := 8) rfl, List.forall_mem_cons.mpr ⟨List.mem_of_getElem? (i := 9) rfl, List.forall_mem_cons.mpr ⟨List.mem_of_getElem? (i := 10) rfl, List.forall_mem_cons.mpr ⟨List.mem_of_getElem? (i := 11) rfl, List.forall_mem_cons.mpr ⟨List.mem_of_getElem? (i := 12) rfl, List.forall_mem_cons.mpr ⟨List.mem_of_getElem? (i := 13) rfl, List.forall_mem_cons.mpr ⟨List.mem_of_getElem? (i := 14) rfl, List.forall_mem_cons.mpr ⟨List.mem_of_getElem? (i := 15) rfl, List.forall_mem_cons.mpr ⟨List.mem_of_getElem? (i := 16) rfl, List.forall_mem_cons.mpr ⟨List.mem_of_getElem? (i := 17) rfl, List.forall_mem_cons.mpr ⟨List.mem_of_getElem? (i := 18) rfl, List.forall_mem_cons.mpr ⟨List.mem_of_getElem? (i := 19) rfl, List.forall_mem_cons.mpr ⟨List.mem_of_getElem? (i := 20) rfl, List.forall_mem_cons.mpr ⟨List.mem_of_getElem? (i := 21) rfl, List.forall_mem_cons.mpr ⟨List.mem_of_getElem? (i := 22) rfl, List.forall_mem_cons.mpr ⟨List.mem_of_getElem? (i := 23) rfl, List.forall_mem_cons.mpr ⟨List.mem_of_getElem? (i := 24) rfl, List.forall_mem_cons.mpr ⟨List.mem_of_getElem? (i := 25) rfl, List.forall_mem_cons.mpr ⟨List.mem_of_getElem? (i := 26) rfl, List.forall_mem_cons.mpr ⟨List.mem_of_getElem? (i := 27) rfl, List.forall_mem_cons.mpr ⟨List.mem_of_getElem? (i := 28) rfl, fun _ h => absurd h List.not_mem_nil⟩⟩⟩⟩⟩⟩⟩⟩⟩⟩⟩⟩⟩⟩⟩⟩⟩⟩⟩⟩⟩
def j_X12_made_114 (N : Nat) (v1 : Int32) (a_mfewest : Nat → Int32) : Option (Int32 × (Nat → Int32)) :=
  if v1 < 0 ∨ 5001 ≤ v1.toNatClampNeg then
    none
  else
    if (1000000 : Int32) ≤ (a_mfewest v1.toNatClampNeg) then
      some ((-4 : Int32), a_mfewest)
    else
      some (a_mfewest v1.toNatClampNeg, a_mfewest)
set_option maxRecDepth 100000 in
set_option maxHeartbeats 4000000 in
theorem k_X12_made_114 {p : Program} {l : Launch} {e : Env} {s : State} {m : MethodId} {args : Array Value} {below : List Frame} {meth : Method} {c : Code} {dC : Nat → ClassId} {dI : Nat → Nat → Nat} {cyI cyJ cyZ : ClassId} {A : Nat → Prop} (C0 : mC p s m meth c args cX12_made (some .int) 5 RX12 wsX12_made (gK dC dI cyI cyJ cyZ) A) (N : Nat) (res : Int32 × (Nat → Int32)) (q_Md : Nat) (q_mfewest : Nat) (q_mtext : Nat) (q_mprimes : Nat) (q_mtold : Nat) (q_mtable : Nat) (q_mstretch : Nat) (q_misOdd : Nat) (q_misHigh : Nat) (q_misTop : Nat) (q_mbits : Nat) (q_mpile : Nat) (v1 : Int32) (m_length : Int32) (m_primeMany : Int32) (m_toldMany : Int32) (m_fate : Int32) (m_tail : Int32) (m_round : Int32) (m_tableKind : Int32) (m_areLaid : Int32) (m_unlike : Int32) (m_isFree : Int32) (a_mfewest : Nat → Int32) (h : j_X12_made_114 N v1 a_mfewest = some res) : ∀ (H : Heap) (locs : List Loc), va_P (dC, dI) vwCl (wd61 cyI cyJ cyZ q_Md q_mfewest q_mtext q_mprimes q_mtold q_mtable q_mstretch q_misOdd q_misHigh q_misTop q_mbits q_mpile m_length m_primeMany m_toldMany m_fate m_tail m_round m_tableKind m_areLaid m_unlike m_isFree a_mfewest) H → va_D A (wd61 cyI cyJ cyZ q_Md q_mfewest q_mtext q_mprimes q_mtold q_mtable q_mstretch q_misOdd q_misHigh q_misTop q_mbits q_mpile m_length m_primeMany m_toldMany m_fate m_tail m_round m_tableKind m_areLaid m_unlike m_isFree a_mfewest) → va_S A s.heap H locs → ∀ (ls : Array Slot), lv_has ls 5 [(0, .ref q_Md), (1, .int v1)] → W p l e (headSpec wsX12_made rm_X12_made).room s m args below meth c H locs 0 0 (MQ below (va_Qi (fun (r : Int32) (_ : Unit) => r = res.1) (bW dC dI (fun (u : Unit) => (wd61 cyI cyJ cyZ q_Md q_mfewest q_mtext q_mprimes q_mtold q_mtable q_mstretch q_misOdd q_misHigh q_misTop q_mbits q_mpile m_length m_primeMany m_toldMany m_fate m_tail m_round m_tableKind m_areLaid m_unlike m_isFree res.2)) A) A) args s 0 0 A) (F0 m 114 ls []) := by
  obtain ⟨hx, hb, hr, hml, hown, hts, hlocks, hG, hA⟩ := id C0
  have hK := hG.1
  intro H locs hP hD hS ls hl
  unfold j_X12_made_114 at h
  refine lv_aload_n hx hb dX12_made_114 rfl (lv_at hl 0 rfl) ?_
  refine va_get (D := (dC, dI)) (ci := 12) (v := .ref q_mfewest) (C := RX12) (T := TX12) (N := 21) hx hb hts iw_X12_made_X12 hown hK hP 0 rfl rfl 12 (by decide) (hts (.fieldLink RX12 27 "GoesIntoModel" "fewest" "[I") (List.mem_of_getElem? (i := 2) rfl)) (fun _ h9 => h9) rfl dX12_made_115 ?_
  refine lv_iload_n hx hb dX12_made_118 rfl (lv_at hl 1 rfl) ?_
  obtain ⟨b8z, h⟩ := xn h
  refine va_iald hx hb hK hP 1 0 rfl rfl b8z dX12_made_119 ?_
  refine lv_ldc (v := (1000000 : Int32)) hx hb hown (hts (.constant RX12 145 (1000000)) (List.mem_of_getElem? (i := 3) rfl)) dX12_made_120 ?_
  refine lv_icmp_ge (tgt := 134) hx hb dX12_made_122 (by decide) (fun c9z => ?_) (fun c9z => ?_)
  · have h := xt h c9z
    refine lv_bipush (v := (-4 : Int32)) hx hb dX12_made_134 (by decide) ?_
    obtain rfl := Option.some.inj h
    exact W.iret (v := (-4 : Int32)) hx hb hr (fun t ht hW => ⟨⟨_, (), rfl, rfl, by rw [ht]; exact hP, hD⟩, hS.F ht⟩) hS.2.2 dX12_made_136 hlocks
  · have h := xf h c9z
    refine lv_aload_n hx hb dX12_made_125 rfl (lv_at hl 0 rfl) ?_
    refine va_get (D := (dC, dI)) (ci := 12) (v := .ref q_mfewest) (C := RX12) (T := TX12) (N := 21) hx hb hts iw_X12_made_X12 hown hK hP 0 rfl rfl 12 (by decide) (hts (.fieldLink RX12 27 "GoesIntoModel" "fewest" "[I") (List.mem_of_getElem? (i := 2) rfl)) (fun _ h9 => h9) rfl dX12_made_126 ?_
    refine lv_iload_n hx hb dX12_made_129 rfl (lv_at hl 1 rfl) ?_
    refine va_iald hx hb hK hP 1 0 rfl rfl b8z dX12_made_130 ?_
    refine lv_goto (tgt := 136) hx hb dX12_made_131 (by decide) ?_
    obtain rfl := Option.some.inj h
    exact W.iret (v := a_mfewest v1.toNatClampNeg) hx hb hr (fun t ht hW => ⟨⟨_, (), rfl, rfl, by rw [ht]; exact hP, hD⟩, hS.F ht⟩) hS.2.2 dX12_made_136 hlocks
def j_X12_made_101 (N : Nat) (k_57 : (Int32 × (Nat → Int32)) → Option (Int32 × (Nat → Int32))) (v3 : Int32) (s0 : Int32) (s1 : Int32) (a_mfewest : Nat → Int32) : Option (Int32 × (Nat → Int32)) :=
  if s1 < 0 ∨ 5001 ≤ s1.toNatClampNeg then
    none
  else
    xl (v3 + (-1 : Int32)) fun y21z =>
    k_57 (y21z, upd a_mfewest s1.toNatClampNeg s0)
set_option maxRecDepth 100000 in
set_option maxHeartbeats 4000000 in
theorem k_X12_made_101 {p : Program} {l : Launch} {e : Env} {s : State} {m : MethodId} {args : Array Value} {below : List Frame} {meth : Method} {c : Code} {dC : Nat → ClassId} {dI : Nat → Nat → Nat} {cyI cyJ cyZ : ClassId} {A : Nat → Prop} (C0 : mC p s m meth c args cX12_made (some .int) 5 RX12 wsX12_made (gK dC dI cyI cyJ cyZ) A) (N : Nat) (res : Int32 × (Nat → Int32)) (q_Md : Nat) (q_mfewest : Nat) (q_mtext : Nat) (q_mprimes : Nat) (q_mtold : Nat) (q_mtable : Nat) (q_mstretch : Nat) (q_misOdd : Nat) (q_misHigh : Nat) (q_misTop : Nat) (q_mbits : Nat) (q_mpile : Nat) (v1 : Int32) (s0 : Int32) (s1 : Int32) (m_length : Int32) (m_primeMany : Int32) (m_toldMany : Int32) (m_fate : Int32) (m_tail : Int32) (m_round : Int32) (m_tableKind : Int32) (m_areLaid : Int32) (m_unlike : Int32) (m_isFree : Int32) (v2 : Int32) (k_57 : (Int32 × (Nat → Int32)) → Option (Int32 × (Nat → Int32))) (hk_57 : ∀ (v3 : Int32) (a_mfewest : Nat → Int32), k_57 (v3, a_mfewest) = some res → ∀ (H : Heap) (locs : List Loc), va_P (dC, dI) vwCl (wd61 cyI cyJ cyZ q_Md q_mfewest q_mtext q_mprimes q_mtold q_mtable q_mstretch q_misOdd q_misHigh q_misTop q_mbits q_mpile m_length m_primeMany m_toldMany m_fate m_tail m_round m_tableKind m_areLaid m_unlike m_isFree a_mfewest) H → va_D A (wd61 cyI cyJ cyZ q_Md q_mfewest q_mtext q_mprimes q_mtold q_mtable q_mstretch q_misOdd q_misHigh q_misTop q_mbits q_mpile m_length m_primeMany m_toldMany m_fate m_tail m_round m_tableKind m_areLaid m_unlike m_isFree a_mfewest) → va_S A s.heap H locs → ∀ (ls : Array Slot), lv_has ls 5 [(0, .ref q_Md), (1, .int v1), (2, .int v2), (3, .int v3)] → W p l e (headSpec wsX12_made rm_X12_made).room s m args below meth c H locs 0 0 (MQ below (va_Qi (fun (r : Int32) (_ : Unit) => r = res.1) (bW dC dI (fun (u : Unit) => (wd61 cyI cyJ cyZ q_Md q_mfewest q_mtext q_mprimes q_mtold q_mtable q_mstretch q_misOdd q_misHigh q_misTop q_mbits q_mpile m_length m_primeMany m_toldMany m_fate m_tail m_round m_tableKind m_areLaid m_unlike m_isFree res.2)) A) A) args s 0 0 A) (F0 m 57 ls [])) (v3 : Int32) (a_mfewest : Nat → Int32) (h : j_X12_made_101 N k_57 v3 s0 s1 a_mfewest = some res) : ∀ (H : Heap) (locs : List Loc), va_P (dC, dI) vwCl (wd61 cyI cyJ cyZ q_Md q_mfewest q_mtext q_mprimes q_mtold q_mtable q_mstretch q_misOdd q_misHigh q_misTop q_mbits q_mpile m_length m_primeMany m_toldMany m_fate m_tail m_round m_tableKind m_areLaid m_unlike m_isFree a_mfewest) H → va_D A (wd61 cyI cyJ cyZ q_Md q_mfewest q_mtext q_mprimes q_mtold q_mtable q_mstretch q_misOdd q_misHigh q_misTop q_mbits q_mpile m_length m_primeMany m_toldMany m_fate m_tail m_round m_tableKind m_areLaid m_unlike m_isFree a_mfewest) → va_S A s.heap H locs → ∀ (ls : Array Slot), lv_has ls 5 [(0, .ref q_Md), (1, .int v1), (2, .int v2), (3, .int v3)] → W p l e (headSpec wsX12_made rm_X12_made).room s m args below meth c H locs 0 0 (MQ below (va_Qi (fun (r : Int32) (_ : Unit) => r = res.1) (bW dC dI (fun (u : Unit) => (wd61 cyI cyJ cyZ q_Md q_mfewest q_mtext q_mprimes q_mtold q_mtable q_mstretch q_misOdd q_misHigh q_misTop q_mbits q_mpile m_length m_primeMany m_toldMany m_fate m_tail m_round m_tableKind m_areLaid m_unlike m_isFree res.2)) A) A) args s 0 0 A) (F0 m 101 ls [.int s0, .int s1, .ref q_mfewest]) := by
  obtain ⟨hx, hb, hr, hml, hown, hts, hlocks, hG, hA⟩ := id C0
  have hK := hG.1
  intro H locs hP hD hS ls hl
  unfold j_X12_made_101 at h
  obtain ⟨b20z, h⟩ := xn h
  refine va_iast hx hb hK hP hD hS 1 0 rfl rfl b20z dX12_made_101 (fun H locs hP hD hS => ?_)
  have hP : va_P (dC, dI) vwCl (wd61 cyI cyJ cyZ q_Md q_mfewest q_mtext q_mprimes q_mtold q_mtable q_mstretch q_misOdd q_misHigh q_misTop q_mbits q_mpile m_length m_primeMany m_toldMany m_fate m_tail m_round m_tableKind m_areLaid m_unlike m_isFree (upd a_mfewest s1.toNatClampNeg s0)) H := hP
  have hD : va_D A (wd61 cyI cyJ cyZ q_Md q_mfewest q_mtext q_mprimes q_mtold q_mtable q_mstretch q_misOdd q_misHigh q_misTop q_mbits q_mpile m_length m_primeMany m_toldMany m_fate m_tail m_round m_tableKind m_areLaid m_unlike m_isFree (upd a_mfewest s1.toNatClampNeg s0)) := hD
  obtain ⟨y21z, ey21z⟩ : ∃ z : Int32, z = v3 + (-1 : Int32) := ⟨_, rfl⟩
  have h := xl_at h ey21z
  refine lv_iinc (v := y21z) (lv' := [(3, .int y21z), (0, .ref q_Md), (1, .int v1), (2, .int v2)]) hx hb dX12_made_102 hl (k := 3) rfl (by rw [ey21z]; rfl) (by decide) rfl (fun ls hl => ?_)
  refine lv_goto (tgt := 57) hx hb dX12_made_105 (by decide) ?_
  exact hk_57 y21z (upd a_mfewest s1.toNatClampNeg s0) h _ _ hP hD hS _ (lv_sub hl [1, 2, 3, 0] rfl)
def s_X12_made_57 (N : Nat) (k_44 : (Int32 × (Nat → Int32)) → Option (Int32 × (Nat → Int32))) (v2 : Int32) (k_57 : (Int32 × (Nat → Int32)) → Option (Int32 × (Nat → Int32))) (v3 : Int32) (a_mfewest : Nat → Int32) : Option (Int32 × (Nat → Int32)) :=
  if v3 < v2 then
    xl (v2 + (1 : Int32)) fun y14z =>
    k_44 (y14z, a_mfewest)
  else
    xl (v3 - v2) fun y15z =>
    if y15z < 0 ∨ 5001 ≤ y15z.toNatClampNeg then
      none
    else
      xl ((a_mfewest y15z.toNatClampNeg) + (1 : Int32)) fun y17z =>
      if v3 < 0 ∨ 5001 ≤ v3.toNatClampNeg then
        none
      else
        if (a_mfewest v3.toNatClampNeg) ≤ y17z then
          j_X12_made_101 N k_57 v3 (a_mfewest v3.toNatClampNeg) v3 a_mfewest
        else
          j_X12_made_101 N k_57 v3 y17z v3 a_mfewest
def l_X12_made_57 (N : Nat) (k_44 : (Int32 × (Nat → Int32)) → Option (Int32 × (Nat → Int32))) (v2 : Int32) (n : Nat) (z : Int32 × (Nat → Int32)) : Option (Int32 × (Nat → Int32)) := lp (fun k z => s_X12_made_57 N k_44 v2 k z.1 z.2) n z
set_option maxRecDepth 100000 in
set_option maxHeartbeats 4000000 in
theorem k_X12_made_57 {p : Program} {l : Launch} {e : Env} {s : State} {m : MethodId} {args : Array Value} {below : List Frame} {meth : Method} {c : Code} {dC : Nat → ClassId} {dI : Nat → Nat → Nat} {cyI cyJ cyZ : ClassId} {A : Nat → Prop} (C0 : mC p s m meth c args cX12_made (some .int) 5 RX12 wsX12_made (gK dC dI cyI cyJ cyZ) A) (N : Nat) (res : Int32 × (Nat → Int32)) (q_Md : Nat) (q_mfewest : Nat) (q_mtext : Nat) (q_mprimes : Nat) (q_mtold : Nat) (q_mtable : Nat) (q_mstretch : Nat) (q_misOdd : Nat) (q_misHigh : Nat) (q_misTop : Nat) (q_mbits : Nat) (q_mpile : Nat) (v1 : Int32) (m_length : Int32) (m_primeMany : Int32) (m_toldMany : Int32) (m_fate : Int32) (m_tail : Int32) (m_round : Int32) (m_tableKind : Int32) (m_areLaid : Int32) (m_unlike : Int32) (m_isFree : Int32) (k_44 : (Int32 × (Nat → Int32)) → Option (Int32 × (Nat → Int32))) (hk_44 : ∀ (v2 : Int32) (a_mfewest : Nat → Int32), k_44 (v2, a_mfewest) = some res → ∀ (H : Heap) (locs : List Loc), va_P (dC, dI) vwCl (wd61 cyI cyJ cyZ q_Md q_mfewest q_mtext q_mprimes q_mtold q_mtable q_mstretch q_misOdd q_misHigh q_misTop q_mbits q_mpile m_length m_primeMany m_toldMany m_fate m_tail m_round m_tableKind m_areLaid m_unlike m_isFree a_mfewest) H → va_D A (wd61 cyI cyJ cyZ q_Md q_mfewest q_mtext q_mprimes q_mtold q_mtable q_mstretch q_misOdd q_misHigh q_misTop q_mbits q_mpile m_length m_primeMany m_toldMany m_fate m_tail m_round m_tableKind m_areLaid m_unlike m_isFree a_mfewest) → va_S A s.heap H locs → ∀ (ls : Array Slot), lv_has ls 5 [(0, .ref q_Md), (1, .int v1), (2, .int v2)] → W p l e (headSpec wsX12_made rm_X12_made).room s m args below meth c H locs 0 0 (MQ below (va_Qi (fun (r : Int32) (_ : Unit) => r = res.1) (bW dC dI (fun (u : Unit) => (wd61 cyI cyJ cyZ q_Md q_mfewest q_mtext q_mprimes q_mtold q_mtable q_mstretch q_misOdd q_misHigh q_misTop q_mbits q_mpile m_length m_primeMany m_toldMany m_fate m_tail m_round m_tableKind m_areLaid m_unlike m_isFree res.2)) A) A) args s 0 0 A) (F0 m 44 ls [])) (v2 : Int32) : ∀ (n : Nat) (v3 : Int32) (a_mfewest : Nat → Int32), l_X12_made_57 N k_44 v2 n (v3, a_mfewest) = some res → ∀ (H : Heap) (locs : List Loc), va_P (dC, dI) vwCl (wd61 cyI cyJ cyZ q_Md q_mfewest q_mtext q_mprimes q_mtold q_mtable q_mstretch q_misOdd q_misHigh q_misTop q_mbits q_mpile m_length m_primeMany m_toldMany m_fate m_tail m_round m_tableKind m_areLaid m_unlike m_isFree a_mfewest) H → va_D A (wd61 cyI cyJ cyZ q_Md q_mfewest q_mtext q_mprimes q_mtold q_mtable q_mstretch q_misOdd q_misHigh q_misTop q_mbits q_mpile m_length m_primeMany m_toldMany m_fate m_tail m_round m_tableKind m_areLaid m_unlike m_isFree a_mfewest) → va_S A s.heap H locs → ∀ (ls : Array Slot), lv_has ls 5 [(0, .ref q_Md), (1, .int v1), (2, .int v2), (3, .int v3)] → W p l e (headSpec wsX12_made rm_X12_made).room s m args below meth c H locs 0 0 (MQ below (va_Qi (fun (r : Int32) (_ : Unit) => r = res.1) (bW dC dI (fun (u : Unit) => (wd61 cyI cyJ cyZ q_Md q_mfewest q_mtext q_mprimes q_mtold q_mtable q_mstretch q_misOdd q_misHigh q_misTop q_mbits q_mpile m_length m_primeMany m_toldMany m_fate m_tail m_round m_tableKind m_areLaid m_unlike m_isFree res.2)) A) A) args s 0 0 A) (F0 m 57 ls []) := by
  obtain ⟨hx, hb, hr, hml, hown, hts, hlocks, hG, hA⟩ := id C0
  have hK := hG.1
  intro n
  induction n with
  | zero =>
    intro v3 a_mfewest h
    cases h
  | succ n ih =>
    intro v3 a_mfewest h H locs hP hD hS ls hl
    have h : s_X12_made_57 N k_44 v2 (l_X12_made_57 N k_44 v2 n) v3 a_mfewest = some res := h
    unfold s_X12_made_57 at h
    refine lv_iload_n hx hb dX12_made_57 rfl (lv_at hl 3 rfl) ?_
    refine lv_iload_n hx hb dX12_made_58 rfl (lv_at hl 2 rfl) ?_
    refine lv_icmp_lt (tgt := 108) hx hb dX12_made_59 (by decide) (fun c13z => ?_) (fun c13z => ?_)
    · have h := xt h c13z
      obtain ⟨y14z, ey14z⟩ : ∃ z : Int32, z = v2 + (1 : Int32) := ⟨_, rfl⟩
      have h := xl_at h ey14z
      refine lv_iinc (v := y14z) (lv' := [(2, .int y14z), (0, .ref q_Md), (1, .int v1), (3, .int v3)]) hx hb dX12_made_108 hl (k := 2) rfl (by rw [ey14z]; rfl) (by decide) rfl (fun ls hl => ?_)
      refine lv_goto (tgt := 44) hx hb dX12_made_111 (by decide) ?_
      exact hk_44 y14z a_mfewest h _ _ hP hD hS _ (lv_sub hl [1, 2, 0] rfl)
    · have h := xf h c13z
      refine lv_aload_n hx hb dX12_made_62 rfl (lv_at hl 0 rfl) ?_
      refine va_get (D := (dC, dI)) (ci := 12) (v := .ref q_mfewest) (C := RX12) (T := TX12) (N := 21) hx hb hts iw_X12_made_X12 hown hK hP 0 rfl rfl 12 (by decide) (hts (.fieldLink RX12 27 "GoesIntoModel" "fewest" "[I") (List.mem_of_getElem? (i := 2) rfl)) (fun _ h9 => h9) rfl dX12_made_63 ?_
      refine lv_iload_n hx hb dX12_made_66 rfl (lv_at hl 3 rfl) ?_
      refine lv_iload_n hx hb dX12_made_67 rfl (lv_at hl 2 rfl) ?_
      refine lv_isub hx hb dX12_made_68 ?_
      refine lv_topi (fun y15z ey15z => ?_)
      have h := xl_at h ey15z
      obtain ⟨b16z, h⟩ := xn h
      refine va_iald hx hb hK hP 1 0 rfl rfl b16z dX12_made_69 ?_
      refine lv_iconst (v := (1 : Int32)) hx hb dX12_made_70 (by decide) ?_
      refine lv_iadd hx hb dX12_made_71 ?_
      refine lv_topi (fun y17z ey17z => ?_)
      have h := xl_at h ey17z
      refine lv_istore (lv' := [(4, .int y17z), (0, .ref q_Md), (1, .int v1), (2, .int v2), (3, .int v3)]) hx hb dX12_made_72 hl (by decide) rfl (fun ls hl => ?_)
      refine lv_aload_n hx hb dX12_made_74 rfl (lv_at hl 1 rfl) ?_
      refine va_get (D := (dC, dI)) (ci := 12) (v := .ref q_mfewest) (C := RX12) (T := TX12) (N := 21) hx hb hts iw_X12_made_X12 hown hK hP 0 rfl rfl 12 (by decide) (hts (.fieldLink RX12 27 "GoesIntoModel" "fewest" "[I") (List.mem_of_getElem? (i := 2) rfl)) (fun _ h9 => h9) rfl dX12_made_75 ?_
      refine lv_iload_n hx hb dX12_made_78 rfl (lv_at hl 4 rfl) ?_
      refine lv_iload hx hb dX12_made_79 (lv_at hl 0 rfl) ?_
      refine lv_aload_n hx hb dX12_made_81 rfl (lv_at hl 1 rfl) ?_
      refine va_get (D := (dC, dI)) (ci := 12) (v := .ref q_mfewest) (C := RX12) (T := TX12) (N := 21) hx hb hts iw_X12_made_X12 hown hK hP 0 rfl rfl 12 (by decide) (hts (.fieldLink RX12 27 "GoesIntoModel" "fewest" "[I") (List.mem_of_getElem? (i := 2) rfl)) (fun _ h9 => h9) rfl dX12_made_82 ?_
      refine lv_iload_n hx hb dX12_made_85 rfl (lv_at hl 4 rfl) ?_
      obtain ⟨b18z, h⟩ := xn h
      refine va_iald hx hb hK hP 1 0 rfl rfl b18z dX12_made_86 ?_
      refine lv_icmp_ge (tgt := 95) hx hb dX12_made_87 (by decide) (fun c19z => ?_) (fun c19z => ?_)
      · have h := xt h c19z
        refine lv_aload_n hx hb dX12_made_95 rfl (lv_at hl 1 rfl) ?_
        refine va_get (D := (dC, dI)) (ci := 12) (v := .ref q_mfewest) (C := RX12) (T := TX12) (N := 21) hx hb hts iw_X12_made_X12 hown hK hP 0 rfl rfl 12 (by decide) (hts (.fieldLink RX12 27 "GoesIntoModel" "fewest" "[I") (List.mem_of_getElem? (i := 2) rfl)) (fun _ h9 => h9) rfl dX12_made_96 ?_
        refine lv_iload_n hx hb dX12_made_99 rfl (lv_at hl 4 rfl) ?_
        refine va_iald hx hb hK hP 1 0 rfl rfl b18z dX12_made_100 ?_
        exact k_X12_made_101 C0 N res q_Md q_mfewest q_mtext q_mprimes q_mtold q_mtable q_mstretch q_misOdd q_misHigh q_misTop q_mbits q_mpile v1 (a_mfewest v3.toNatClampNeg) v3 m_length m_primeMany m_toldMany m_fate m_tail m_round m_tableKind m_areLaid m_unlike m_isFree v2 _ ih v3 a_mfewest  h _ _ hP hD hS _ (lv_sub hl [1, 2, 3, 4] rfl)
      · have h := xf h c19z
        refine lv_iload hx hb dX12_made_90 (lv_at hl 0 rfl) ?_
        refine lv_goto (tgt := 101) hx hb dX12_made_92 (by decide) ?_
        exact k_X12_made_101 C0 N res q_Md q_mfewest q_mtext q_mprimes q_mtold q_mtable q_mstretch q_misOdd q_misHigh q_misTop q_mbits q_mpile v1 y17z v3 m_length m_primeMany m_toldMany m_fate m_tail m_round m_tableKind m_areLaid m_unlike m_isFree v2 _ ih v3 a_mfewest  h _ _ hP hD hS _ (lv_sub hl [1, 2, 3, 4] rfl)
def s_X12_made_44 (N : Nat) (v1 : Int32) (k_44 : (Int32 × (Nat → Int32)) → Option (Int32 × (Nat → Int32))) (v2 : Int32) (a_mfewest : Nat → Int32) : Option (Int32 × (Nat → Int32)) :=
  if v1 ≤ v2 then
    j_X12_made_114 N v1 a_mfewest
  else
    if v2 = 0 then
      none
    else
      if (v1 - v1 / v2 * v2) = 0 then
        l_X12_made_57 N k_44 v2 N (v1, a_mfewest)
      else
        xl (v2 + (1 : Int32)) fun y12z =>
        k_44 (y12z, a_mfewest)
def l_X12_made_44 (N : Nat) (v1 : Int32) (n : Nat) (z : Int32 × (Nat → Int32)) : Option (Int32 × (Nat → Int32)) := lp (fun k z => s_X12_made_44 N v1 k z.1 z.2) n z
set_option maxRecDepth 100000 in
set_option maxHeartbeats 4000000 in
theorem k_X12_made_44 {p : Program} {l : Launch} {e : Env} {s : State} {m : MethodId} {args : Array Value} {below : List Frame} {meth : Method} {c : Code} {dC : Nat → ClassId} {dI : Nat → Nat → Nat} {cyI cyJ cyZ : ClassId} {A : Nat → Prop} (C0 : mC p s m meth c args cX12_made (some .int) 5 RX12 wsX12_made (gK dC dI cyI cyJ cyZ) A) (N : Nat) (res : Int32 × (Nat → Int32)) (q_Md : Nat) (q_mfewest : Nat) (q_mtext : Nat) (q_mprimes : Nat) (q_mtold : Nat) (q_mtable : Nat) (q_mstretch : Nat) (q_misOdd : Nat) (q_misHigh : Nat) (q_misTop : Nat) (q_mbits : Nat) (q_mpile : Nat) (v1 : Int32) (m_length : Int32) (m_primeMany : Int32) (m_toldMany : Int32) (m_fate : Int32) (m_tail : Int32) (m_round : Int32) (m_tableKind : Int32) (m_areLaid : Int32) (m_unlike : Int32) (m_isFree : Int32) : ∀ (n : Nat) (v2 : Int32) (a_mfewest : Nat → Int32), l_X12_made_44 N v1 n (v2, a_mfewest) = some res → ∀ (H : Heap) (locs : List Loc), va_P (dC, dI) vwCl (wd61 cyI cyJ cyZ q_Md q_mfewest q_mtext q_mprimes q_mtold q_mtable q_mstretch q_misOdd q_misHigh q_misTop q_mbits q_mpile m_length m_primeMany m_toldMany m_fate m_tail m_round m_tableKind m_areLaid m_unlike m_isFree a_mfewest) H → va_D A (wd61 cyI cyJ cyZ q_Md q_mfewest q_mtext q_mprimes q_mtold q_mtable q_mstretch q_misOdd q_misHigh q_misTop q_mbits q_mpile m_length m_primeMany m_toldMany m_fate m_tail m_round m_tableKind m_areLaid m_unlike m_isFree a_mfewest) → va_S A s.heap H locs → ∀ (ls : Array Slot), lv_has ls 5 [(0, .ref q_Md), (1, .int v1), (2, .int v2)] → W p l e (headSpec wsX12_made rm_X12_made).room s m args below meth c H locs 0 0 (MQ below (va_Qi (fun (r : Int32) (_ : Unit) => r = res.1) (bW dC dI (fun (u : Unit) => (wd61 cyI cyJ cyZ q_Md q_mfewest q_mtext q_mprimes q_mtold q_mtable q_mstretch q_misOdd q_misHigh q_misTop q_mbits q_mpile m_length m_primeMany m_toldMany m_fate m_tail m_round m_tableKind m_areLaid m_unlike m_isFree res.2)) A) A) args s 0 0 A) (F0 m 44 ls []) := by
  obtain ⟨hx, hb, hr, hml, hown, hts, hlocks, hG, hA⟩ := id C0
  have hK := hG.1
  intro n
  induction n with
  | zero =>
    intro v2 a_mfewest h
    cases h
  | succ n ih =>
    intro v2 a_mfewest h H locs hP hD hS ls hl
    have h : s_X12_made_44 N v1 (l_X12_made_44 N v1 n) v2 a_mfewest = some res := h
    unfold s_X12_made_44 at h
    refine lv_iload_n hx hb dX12_made_44 rfl (lv_at hl 2 rfl) ?_
    refine lv_iload_n hx hb dX12_made_45 rfl (lv_at hl 1 rfl) ?_
    refine lv_icmp_ge (tgt := 114) hx hb dX12_made_46 (by decide) (fun c7z => ?_) (fun c7z => ?_)
    · have h := xt h c7z
      exact k_X12_made_114 C0 N res q_Md q_mfewest q_mtext q_mprimes q_mtold q_mtable q_mstretch q_misOdd q_misHigh q_misTop q_mbits q_mpile v1 m_length m_primeMany m_toldMany m_fate m_tail m_round m_tableKind m_areLaid m_unlike m_isFree a_mfewest  h _ _ hP hD hS _ (lv_sub hl [0, 1] rfl)
    · have h := xf h c7z
      refine lv_iload_n hx hb dX12_made_49 rfl (lv_at hl 1 rfl) ?_
      refine lv_iload_n hx hb dX12_made_50 rfl (lv_at hl 2 rfl) ?_
      obtain ⟨b10z, h⟩ := xn h
      refine lv_irem hx hb dX12_made_51 b10z ?_
      refine lv_if_ne (tgt := 108) hx hb dX12_made_52 (by decide) (fun c11z => ?_) (fun c11z => ?_)
      · have h := xf h c11z
        obtain ⟨y12z, ey12z⟩ : ∃ z : Int32, z = v2 + (1 : Int32) := ⟨_, rfl⟩
        have h := xl_at h ey12z
        refine lv_iinc (v := y12z) (lv' := [(2, .int y12z), (0, .ref q_Md), (1, .int v1)]) hx hb dX12_made_108 hl (k := 2) rfl (by rw [ey12z]; rfl) (by decide) rfl (fun ls hl => ?_)
        refine lv_goto (tgt := 44) hx hb dX12_made_111 (by decide) ?_
        exact ih y12z a_mfewest h _ _ hP hD hS _ (lv_sub hl [1, 2, 0] rfl)
      · have h := xt h c11z
        refine lv_iload_n hx hb dX12_made_55 rfl (lv_at hl 1 rfl) ?_
        refine lv_istore_n (lv' := [(3, .int v1), (0, .ref q_Md), (1, .int v1), (2, .int v2)]) hx hb dX12_made_56 rfl hl (by decide) rfl (fun ls hl => ?_)
        exact k_X12_made_57 C0 N res q_Md q_mfewest q_mtext q_mprimes q_mtold q_mtable q_mstretch q_misOdd q_misHigh q_misTop q_mbits q_mpile v1 m_length m_primeMany m_toldMany m_fate m_tail m_round m_tableKind m_areLaid m_unlike m_isFree _ ih v2 N v1 a_mfewest h _ _ hP hD hS _ (lv_sub hl [1, 2, 3, 0] rfl)
def j_X12_made_35 (N : Nat) (v1 : Int32) (a_mfewest : Nat → Int32) : Option (Int32 × (Nat → Int32)) :=
  if (0 : Int32) < 0 ∨ 5001 ≤ (0 : Int32).toNatClampNeg then
    none
  else
    l_X12_made_44 N v1 N ((1 : Int32), upd a_mfewest (0 : Int32).toNatClampNeg (0 : Int32))
set_option maxRecDepth 100000 in
set_option maxHeartbeats 4000000 in
theorem k_X12_made_35 {p : Program} {l : Launch} {e : Env} {s : State} {m : MethodId} {args : Array Value} {below : List Frame} {meth : Method} {c : Code} {dC : Nat → ClassId} {dI : Nat → Nat → Nat} {cyI cyJ cyZ : ClassId} {A : Nat → Prop} (C0 : mC p s m meth c args cX12_made (some .int) 5 RX12 wsX12_made (gK dC dI cyI cyJ cyZ) A) (N : Nat) (res : Int32 × (Nat → Int32)) (q_Md : Nat) (q_mfewest : Nat) (q_mtext : Nat) (q_mprimes : Nat) (q_mtold : Nat) (q_mtable : Nat) (q_mstretch : Nat) (q_misOdd : Nat) (q_misHigh : Nat) (q_misTop : Nat) (q_mbits : Nat) (q_mpile : Nat) (v1 : Int32) (m_length : Int32) (m_primeMany : Int32) (m_toldMany : Int32) (m_fate : Int32) (m_tail : Int32) (m_round : Int32) (m_tableKind : Int32) (m_areLaid : Int32) (m_unlike : Int32) (m_isFree : Int32) (a_mfewest : Nat → Int32) (h : j_X12_made_35 N v1 a_mfewest = some res) : ∀ (H : Heap) (locs : List Loc), va_P (dC, dI) vwCl (wd61 cyI cyJ cyZ q_Md q_mfewest q_mtext q_mprimes q_mtold q_mtable q_mstretch q_misOdd q_misHigh q_misTop q_mbits q_mpile m_length m_primeMany m_toldMany m_fate m_tail m_round m_tableKind m_areLaid m_unlike m_isFree a_mfewest) H → va_D A (wd61 cyI cyJ cyZ q_Md q_mfewest q_mtext q_mprimes q_mtold q_mtable q_mstretch q_misOdd q_misHigh q_misTop q_mbits q_mpile m_length m_primeMany m_toldMany m_fate m_tail m_round m_tableKind m_areLaid m_unlike m_isFree a_mfewest) → va_S A s.heap H locs → ∀ (ls : Array Slot), lv_has ls 5 [(0, .ref q_Md), (1, .int v1)] → W p l e (headSpec wsX12_made rm_X12_made).room s m args below meth c H locs 0 0 (MQ below (va_Qi (fun (r : Int32) (_ : Unit) => r = res.1) (bW dC dI (fun (u : Unit) => (wd61 cyI cyJ cyZ q_Md q_mfewest q_mtext q_mprimes q_mtold q_mtable q_mstretch q_misOdd q_misHigh q_misTop q_mbits q_mpile m_length m_primeMany m_toldMany m_fate m_tail m_round m_tableKind m_areLaid m_unlike m_isFree res.2)) A) A) args s 0 0 A) (F0 m 35 ls []) := by
  obtain ⟨hx, hb, hr, hml, hown, hts, hlocks, hG, hA⟩ := id C0
  have hK := hG.1
  intro H locs hP hD hS ls hl
  unfold j_X12_made_35 at h
  refine lv_aload_n hx hb dX12_made_35 rfl (lv_at hl 0 rfl) ?_
  refine va_get (D := (dC, dI)) (ci := 12) (v := .ref q_mfewest) (C := RX12) (T := TX12) (N := 21) hx hb hts iw_X12_made_X12 hown hK hP 0 rfl rfl 12 (by decide) (hts (.fieldLink RX12 27 "GoesIntoModel" "fewest" "[I") (List.mem_of_getElem? (i := 2) rfl)) (fun _ h9 => h9) rfl dX12_made_36 ?_
  refine lv_iconst (v := (0 : Int32)) hx hb dX12_made_39 (by decide) ?_
  refine lv_iconst (v := (0 : Int32)) hx hb dX12_made_40 (by decide) ?_
  obtain ⟨b6z, h⟩ := xn h
  refine va_iast hx hb hK hP hD hS 1 0 rfl rfl b6z dX12_made_41 (fun H locs hP hD hS => ?_)
  have hP : va_P (dC, dI) vwCl (wd61 cyI cyJ cyZ q_Md q_mfewest q_mtext q_mprimes q_mtold q_mtable q_mstretch q_misOdd q_misHigh q_misTop q_mbits q_mpile m_length m_primeMany m_toldMany m_fate m_tail m_round m_tableKind m_areLaid m_unlike m_isFree (upd a_mfewest (0 : Int32).toNatClampNeg (0 : Int32))) H := hP
  have hD : va_D A (wd61 cyI cyJ cyZ q_Md q_mfewest q_mtext q_mprimes q_mtold q_mtable q_mstretch q_misOdd q_misHigh q_misTop q_mbits q_mpile m_length m_primeMany m_toldMany m_fate m_tail m_round m_tableKind m_areLaid m_unlike m_isFree (upd a_mfewest (0 : Int32).toNatClampNeg (0 : Int32))) := hD
  refine lv_iconst (v := (1 : Int32)) hx hb dX12_made_42 (by decide) ?_
  refine lv_istore_n (lv' := [(2, .int (1 : Int32)), (0, .ref q_Md), (1, .int v1)]) hx hb dX12_made_43 rfl hl (by decide) rfl (fun ls hl => ?_)
  exact k_X12_made_44 C0 N res q_Md q_mfewest q_mtext q_mprimes q_mtold q_mtable q_mstretch q_misOdd q_misHigh q_misTop q_mbits q_mpile v1 m_length m_primeMany m_toldMany m_fate m_tail m_round m_tableKind m_areLaid m_unlike m_isFree N (1 : Int32) (upd a_mfewest (0 : Int32).toNatClampNeg (0 : Int32)) h _ _ hP hD hS _ (lv_sub hl [1, 2, 0] rfl)
def s_X12_made_16 (N : Nat) (v1 : Int32) (k_16 : (Int32 × (Nat → Int32)) → Option (Int32 × (Nat → Int32))) (v2 : Int32) (a_mfewest : Nat → Int32) : Option (Int32 × (Nat → Int32)) :=
  if v1 < v2 then
    j_X12_made_35 N v1 a_mfewest
  else
    if v2 < 0 ∨ 5001 ≤ v2.toNatClampNeg then
      none
    else
      xl (v2 + (1 : Int32)) fun y23z =>
      k_16 (y23z, upd a_mfewest v2.toNatClampNeg (1000000 : Int32))
def l_X12_made_16 (N : Nat) (v1 : Int32) (n : Nat) (z : Int32 × (Nat → Int32)) : Option (Int32 × (Nat → Int32)) := lp (fun k z => s_X12_made_16 N v1 k z.1 z.2) n z
set_option maxRecDepth 100000 in
set_option maxHeartbeats 4000000 in
theorem k_X12_made_16 {p : Program} {l : Launch} {e : Env} {s : State} {m : MethodId} {args : Array Value} {below : List Frame} {meth : Method} {c : Code} {dC : Nat → ClassId} {dI : Nat → Nat → Nat} {cyI cyJ cyZ : ClassId} {A : Nat → Prop} (C0 : mC p s m meth c args cX12_made (some .int) 5 RX12 wsX12_made (gK dC dI cyI cyJ cyZ) A) (N : Nat) (res : Int32 × (Nat → Int32)) (q_Md : Nat) (q_mfewest : Nat) (q_mtext : Nat) (q_mprimes : Nat) (q_mtold : Nat) (q_mtable : Nat) (q_mstretch : Nat) (q_misOdd : Nat) (q_misHigh : Nat) (q_misTop : Nat) (q_mbits : Nat) (q_mpile : Nat) (v1 : Int32) (m_length : Int32) (m_primeMany : Int32) (m_toldMany : Int32) (m_fate : Int32) (m_tail : Int32) (m_round : Int32) (m_tableKind : Int32) (m_areLaid : Int32) (m_unlike : Int32) (m_isFree : Int32) : ∀ (n : Nat) (v2 : Int32) (a_mfewest : Nat → Int32), l_X12_made_16 N v1 n (v2, a_mfewest) = some res → ∀ (H : Heap) (locs : List Loc), va_P (dC, dI) vwCl (wd61 cyI cyJ cyZ q_Md q_mfewest q_mtext q_mprimes q_mtold q_mtable q_mstretch q_misOdd q_misHigh q_misTop q_mbits q_mpile m_length m_primeMany m_toldMany m_fate m_tail m_round m_tableKind m_areLaid m_unlike m_isFree a_mfewest) H → va_D A (wd61 cyI cyJ cyZ q_Md q_mfewest q_mtext q_mprimes q_mtold q_mtable q_mstretch q_misOdd q_misHigh q_misTop q_mbits q_mpile m_length m_primeMany m_toldMany m_fate m_tail m_round m_tableKind m_areLaid m_unlike m_isFree a_mfewest) → va_S A s.heap H locs → ∀ (ls : Array Slot), lv_has ls 5 [(0, .ref q_Md), (1, .int v1), (2, .int v2)] → W p l e (headSpec wsX12_made rm_X12_made).room s m args below meth c H locs 0 0 (MQ below (va_Qi (fun (r : Int32) (_ : Unit) => r = res.1) (bW dC dI (fun (u : Unit) => (wd61 cyI cyJ cyZ q_Md q_mfewest q_mtext q_mprimes q_mtold q_mtable q_mstretch q_misOdd q_misHigh q_misTop q_mbits q_mpile m_length m_primeMany m_toldMany m_fate m_tail m_round m_tableKind m_areLaid m_unlike m_isFree res.2)) A) A) args s 0 0 A) (F0 m 16 ls []) := by
  obtain ⟨hx, hb, hr, hml, hown, hts, hlocks, hG, hA⟩ := id C0
  have hK := hG.1
  intro n
  induction n with
  | zero =>
    intro v2 a_mfewest h
    cases h
  | succ n ih =>
    intro v2 a_mfewest h H locs hP hD hS ls hl
    have h : s_X12_made_16 N v1 (l_X12_made_16 N v1 n) v2 a_mfewest = some res := h
    unfold s_X12_made_16 at h
    refine lv_iload_n hx hb dX12_made_16 rfl (lv_at hl 2 rfl) ?_
    refine lv_iload_n hx hb dX12_made_17 rfl (lv_at hl 1 rfl) ?_
    refine lv_icmp_gt (tgt := 35) hx hb dX12_made_18 (by decide) (fun c5z => ?_) (fun c5z => ?_)
    · have h := xt h c5z
      exact k_X12_made_35 C0 N res q_Md q_mfewest q_mtext q_mprimes q_mtold q_mtable q_mstretch q_misOdd q_misHigh q_misTop q_mbits q_mpile v1 m_length m_primeMany m_toldMany m_fate m_tail m_round m_tableKind m_areLaid m_unlike m_isFree a_mfewest  h _ _ hP hD hS _ (lv_sub hl [0, 1] rfl)
    · have h := xf h c5z
      refine lv_aload_n hx hb dX12_made_21 rfl (lv_at hl 0 rfl) ?_
      refine va_get (D := (dC, dI)) (ci := 12) (v := .ref q_mfewest) (C := RX12) (T := TX12) (N := 21) hx hb hts iw_X12_made_X12 hown hK hP 0 rfl rfl 12 (by decide) (hts (.fieldLink RX12 27 "GoesIntoModel" "fewest" "[I") (List.mem_of_getElem? (i := 2) rfl)) (fun _ h9 => h9) rfl dX12_made_22 ?_
      refine lv_iload_n hx hb dX12_made_25 rfl (lv_at hl 2 rfl) ?_
      refine lv_ldc (v := (1000000 : Int32)) hx hb hown (hts (.constant RX12 145 (1000000)) (List.mem_of_getElem? (i := 3) rfl)) dX12_made_26 ?_
      obtain ⟨b22z, h⟩ := xn h
      refine va_iast hx hb hK hP hD hS 1 0 rfl rfl b22z dX12_made_28 (fun H locs hP hD hS => ?_)
      have hP : va_P (dC, dI) vwCl (wd61 cyI cyJ cyZ q_Md q_mfewest q_mtext q_mprimes q_mtold q_mtable q_mstretch q_misOdd q_misHigh q_misTop q_mbits q_mpile m_length m_primeMany m_toldMany m_fate m_tail m_round m_tableKind m_areLaid m_unlike m_isFree (upd a_mfewest v2.toNatClampNeg (1000000 : Int32))) H := hP
      have hD : va_D A (wd61 cyI cyJ cyZ q_Md q_mfewest q_mtext q_mprimes q_mtold q_mtable q_mstretch q_misOdd q_misHigh q_misTop q_mbits q_mpile m_length m_primeMany m_toldMany m_fate m_tail m_round m_tableKind m_areLaid m_unlike m_isFree (upd a_mfewest v2.toNatClampNeg (1000000 : Int32))) := hD
      obtain ⟨y23z, ey23z⟩ : ∃ z : Int32, z = v2 + (1 : Int32) := ⟨_, rfl⟩
      have h := xl_at h ey23z
      refine lv_iinc (v := y23z) (lv' := [(2, .int y23z), (0, .ref q_Md), (1, .int v1)]) hx hb dX12_made_29 hl (k := 2) rfl (by rw [ey23z]; rfl) (by decide) rfl (fun ls hl => ?_)
      refine lv_goto (tgt := 16) hx hb dX12_made_32 (by decide) ?_
      exact ih y23z (upd a_mfewest v2.toNatClampNeg (1000000 : Int32)) h _ _ hP hD hS _ (lv_sub hl [1, 2, 0] rfl)
def f_X12_made (N : Nat) (v1 : Int32) (a_mfewest : Nat → Int32) : Option (Int32 × (Nat → Int32)) :=
  Option.bind (f_X12_in N v1.toInt64 (1 : Int64) (5000 : Int64)) fun r1z =>
  if r1z = 0 then
    some ((-1 : Int32), a_mfewest)
  else
    l_X12_made_16 N v1 N ((1 : Int32), a_mfewest)
set_option maxRecDepth 100000 in
set_option maxHeartbeats 4000000 in
theorem k_X12_made_0 {p : Program} {l : Launch} {e : Env} {s : State} {m : MethodId} {args : Array Value} {below : List Frame} {meth : Method} {c : Code} {dC : Nat → ClassId} {dI : Nat → Nat → Nat} {cyI cyJ cyZ : ClassId} {A : Nat → Prop} (C0 : mC p s m meth c args cX12_made (some .int) 5 RX12 wsX12_made (gK dC dI cyI cyJ cyZ) A) (N : Nat) (res : Int32 × (Nat → Int32)) (q_Md : Nat) (q_mfewest : Nat) (q_mtext : Nat) (q_mprimes : Nat) (q_mtold : Nat) (q_mtable : Nat) (q_mstretch : Nat) (q_misOdd : Nat) (q_misHigh : Nat) (q_misTop : Nat) (q_mbits : Nat) (q_mpile : Nat) (v1 : Int32) (m_length : Int32) (m_primeMany : Int32) (m_toldMany : Int32) (m_fate : Int32) (m_tail : Int32) (m_round : Int32) (m_tableKind : Int32) (m_areLaid : Int32) (m_unlike : Int32) (m_isFree : Int32) (a_mfewest : Nat → Int32) (h : f_X12_made N v1 a_mfewest = some res) : ∀ (H : Heap) (locs : List Loc), va_P (dC, dI) vwCl (wd61 cyI cyJ cyZ q_Md q_mfewest q_mtext q_mprimes q_mtold q_mtable q_mstretch q_misOdd q_misHigh q_misTop q_mbits q_mpile m_length m_primeMany m_toldMany m_fate m_tail m_round m_tableKind m_areLaid m_unlike m_isFree a_mfewest) H → va_D A (wd61 cyI cyJ cyZ q_Md q_mfewest q_mtext q_mprimes q_mtold q_mtable q_mstretch q_misOdd q_misHigh q_misTop q_mbits q_mpile m_length m_primeMany m_toldMany m_fate m_tail m_round m_tableKind m_areLaid m_unlike m_isFree a_mfewest) → va_S A s.heap H locs → ∀ (ls : Array Slot), lv_has ls 5 [(0, .ref q_Md), (1, .int v1)] → W p l e (headSpec wsX12_made rm_X12_made).room s m args below meth c H locs 0 0 (MQ below (va_Qi (fun (r : Int32) (_ : Unit) => r = res.1) (bW dC dI (fun (u : Unit) => (wd61 cyI cyJ cyZ q_Md q_mfewest q_mtext q_mprimes q_mtold q_mtable q_mstretch q_misOdd q_misHigh q_misTop q_mbits q_mpile m_length m_primeMany m_toldMany m_fate m_tail m_round m_tableKind m_areLaid m_unlike m_isFree res.2)) A) A) args s 0 0 A) (F0 m 0 ls []) := by
  obtain ⟨hx, hb, hr, hml, hown, hts, hlocks, hG, hA⟩ := id C0
  have hK := hG.1
  intro H locs hP hD hS ls hl
  unfold f_X12_made at h
  refine lv_iload_n hx hb dX12_made_0 rfl (lv_at hl 1 rfl) ?_
  refine lv_i2l (v := v1.toInt64) hx hb dX12_made_1 rfl ?_
  refine lv_lconst (v := (1 : Int64)) hx hb dX12_made_2 (by decide) ?_
  refine lv_ldc2 (v := (5000 : Int64)) hx hb hown (hts (.constantLong RX12 143 (5000)) (List.mem_of_getElem? (i := 1) rfl)) dX12_made_3 ?_
  obtain ⟨r1z, hr1z, h⟩ := xb_at h
  have hPc := hP.sub (ws' := (wd37 cyI cyJ cyZ)) [] rfl
  have hDc := hD.sub (ws' := (wd37 cyI cyJ cyZ)) [] (by decide) rfl
  refine cal_i [] [0, 1] (va_runS (As := [.long v1.toInt64, .long (1 : Int64), .long (5000 : Int64)]) (rest := []) ⟨hx, hb, hml, hown, hts⟩ (c_X12_in l dC dI cyI cyJ cyZ N r1z H.size  v1.toInt64 (1 : Int64) (5000 : Int64)  hr1z) (va_cwS 3 hts gX12_made_X12_in rfl rfl rfl hd_X12_in ⟨Nat.le_of_ble_eq_true rfl, Nat.le_of_ble_eq_true rfl⟩) ⟨pC.blind, pC.pre hPc hG hDc⟩ rfl rfl hl.1 rfl (lv_room (Nat.le_of_ble_eq_true rfl)) dX12_made_6 ⟨Nat.zero_le _, Nat.zero_le _⟩) hP hD hS hA rfl rfl rfl (by decide) (fun x3z u2z H locs hw hP hD hS => ?_)
  obtain rfl := hw.symm
  have hP : va_P (dC, dI) vwCl (wd61 cyI cyJ cyZ q_Md q_mfewest q_mtext q_mprimes q_mtold q_mtable q_mstretch q_misOdd q_misHigh q_misTop q_mbits q_mpile m_length m_primeMany m_toldMany m_fate m_tail m_round m_tableKind m_areLaid m_unlike m_isFree a_mfewest) H := hP.sub [0, 1] rfl
  have hD : va_D A (wd61 cyI cyJ cyZ q_Md q_mfewest q_mtext q_mprimes q_mtold q_mtable q_mstretch q_misOdd q_misHigh q_misTop q_mbits q_mpile m_length m_primeMany m_toldMany m_fate m_tail m_round m_tableKind m_areLaid m_unlike m_isFree a_mfewest) := hD.sub [0, 1] (by decide) rfl
  refine lv_if_ne (tgt := 14) hx hb dX12_made_9 (by decide) (fun c4z => ?_) (fun c4z => ?_)
  · have h := xf h c4z
    refine lv_iconst (v := (1 : Int32)) hx hb dX12_made_14 (by decide) ?_
    refine lv_istore_n (lv' := [(2, .int (1 : Int32)), (0, .ref q_Md), (1, .int v1)]) hx hb dX12_made_15 rfl hl (by decide) rfl (fun ls hl => ?_)
    exact k_X12_made_16 C0 N res q_Md q_mfewest q_mtext q_mprimes q_mtold q_mtable q_mstretch q_misOdd q_misHigh q_misTop q_mbits q_mpile v1 m_length m_primeMany m_toldMany m_fate m_tail m_round m_tableKind m_areLaid m_unlike m_isFree N (1 : Int32) a_mfewest h _ _ hP hD hS _ (lv_sub hl [1, 2, 0] rfl)
  · have h := xt h c4z
    refine lv_iconst (v := (-1 : Int32)) hx hb dX12_made_12 (by decide) ?_
    obtain rfl := Option.some.inj h
    exact W.iret (v := (-1 : Int32)) hx hb hr (fun t ht hW => ⟨⟨_, (), rfl, rfl, by rw [ht]; exact hP, hD⟩, hS.F ht⟩) hS.2.2 dX12_made_13 hlocks
set_option maxRecDepth 100000 in
set_option maxHeartbeats 4000000 in
theorem c_X12_made (l : Launch) (dC : Nat → ClassId) (dI : Nat → Nat → Nat) (cyI cyJ cyZ : ClassId) (N : Nat) (res : Int32 × (Nat → Int32)) (sz : Nat) (q_Md : Nat) (q_mfewest : Nat) (q_mtext : Nat) (q_mprimes : Nat) (q_mtold : Nat) (q_mtable : Nat) (q_mstretch : Nat) (q_misOdd : Nat) (q_misHigh : Nat) (q_misTop : Nat) (q_mbits : Nat) (q_mpile : Nat) (v1 : Int32) (m_length : Int32) (m_primeMany : Int32) (m_toldMany : Int32) (m_fate : Int32) (m_tail : Int32) (m_round : Int32) (m_tableKind : Int32) (m_areLaid : Int32) (m_unlike : Int32) (m_isFree : Int32) (a_mfewest : Nat → Int32) (h : f_X12_made N v1 a_mfewest = some res) : Met l yX12_made wsX12_made rm_X12_made (pC dC dI cyI cyJ cyZ [.ref q_Md, .int v1] sz (wd61 cyI cyJ cyZ q_Md q_mfewest q_mtext q_mprimes q_mtold q_mtable q_mstretch q_misOdd q_misHigh q_misTop q_mbits q_mpile m_length m_primeMany m_toldMany m_fate m_tail m_round m_tableKind m_areLaid m_unlike m_isFree a_mfewest)) (va_Qi (fun (r : Int32) (_ : Unit) => r = res.1) (bW dC dI (fun (u : Unit) => (wd61 cyI cyJ cyZ q_Md q_mfewest q_mtext q_mprimes q_mtold q_mtable q_mstretch q_misOdd q_misHigh q_misTop q_mbits q_mpile m_length m_primeMany m_toldMany m_fate m_tail m_round m_tableKind m_areLaid m_unlike m_isFree res.2)) (va_A (wd61 cyI cyJ cyZ q_Md q_mfewest q_mtext q_mprimes q_mtold q_mtable q_mstretch q_misOdd q_misHigh q_misTop q_mbits q_mpile m_length m_primeMany m_toldMany m_fate m_tail m_round m_tableKind m_areLaid m_unlike m_isFree a_mfewest) sz)) (va_A (wd61 cyI cyJ cyZ q_Md q_mfewest q_mtext q_mprimes q_mtold q_mtable q_mstretch q_misOdd q_misHigh q_misTop q_mbits q_mpile m_length m_primeMany m_toldMany m_fate m_tail m_round m_tableKind m_areLaid m_unlike m_isFree a_mfewest) sz)) 0 0 (va_A (wd61 cyI cyJ cyZ q_Md q_mfewest q_mtext q_mprimes q_mtold q_mtable q_mstretch q_misOdd q_misHigh q_misTop q_mbits q_mpile m_length m_primeMany m_toldMany m_fate m_tail m_round m_tableKind m_areLaid m_unlike m_isFree a_mfewest) sz) := by
  refine Met.ofW (cc := cX12_made) (maxL := 5) (ret := (some .int)) (by decide) rfl ?_
  intro p e s m args below meth c s₁ B hml hv
  obtain ⟨rfl, hsz, hP, hG, hD0⟩ := hv
  have hx := B.exec
  have hb := B.bytes
  have hr := B.returns
  have hts := atoms_spec (ws := wsX12_made) B.pre
  have hown : s.vm.findClass RX12 = some m.cls := findClass_of_methodNamed B.named
  have hlocks := B.notSynchronized
  subst hsz
  have hD := hD0.self (sz := s.heap.size)
  generalize hAe : va_A (wd61 cyI cyJ cyZ q_Md q_mfewest q_mtext q_mprimes q_mtold q_mtable q_mstretch q_misOdd q_misHigh q_misTop q_mbits q_mpile m_length m_primeMany m_toldMany m_fate m_tail m_round m_tableKind m_areLaid m_unlike m_isFree a_mfewest) s.heap.size = A at hD ⊢
  have hA : ∀ q : Nat, s.heap.size ≤ q → A q := fun q h => by rw [← hAe]; exact Or.inr h
  have hS : va_S A s.heap s.heap [] := va_S.rf
  have hl := lv_entry ([.ref q_Md, .int v1]) (n := 5) (Nat.le_of_ble_eq_true rfl)
  rw [lg_entry_eq]
  generalize (lg_sl ([.ref q_Md, .int v1]) ++ List.replicate (5 - (lg_sl ([.ref q_Md, .int v1])).length) Slot.unset).toArray = ls at hl ⊢
  have hl : lv_has ls 5 [(0, .ref q_Md), (1, .int v1)] := hl
  exact k_X12_made_0 ⟨hx, hb, hr, hml, hown, hts, hlocks, hG, hA⟩ N res q_Md q_mfewest q_mtext q_mprimes q_mtold q_mtable q_mstretch q_misOdd q_misHigh q_misTop q_mbits q_mpile v1 m_length m_primeMany m_toldMany m_fate m_tail m_round m_tableKind m_areLaid m_unlike m_isFree a_mfewest  h _ _ hP hD hS _ hl
abbrev rm_X12_falling : Room := { frames := 4, cells := 0, slots := 0, locals := 107 }
theorem hd_X12_falling : yX12_falling.cls ≠ "java/lang/invoke/MethodHandle" ∧ yX12_falling.cls ≠ "java/lang/invoke/VarHandle" ∧ (parseMethodDescriptor yX12_falling.desc).map (fun d => d.parameters.length) = some 4 := by decide +kernel
theorem iw_X12_falling_X12 : ∀ w ∈ wsX120, w ∈ wsX12_falling := List.forall_mem_cons.mpr ⟨List.mem_of_getElem? (i := 33) rfl, List.forall_mem_cons.mpr ⟨List.mem_of_getElem? (i := 34) rfl, List.forall_mem_cons.mpr ⟨List.mem_of_getElem? (i := 35) rfl, List.forall_mem_cons.mpr ⟨List.mem_of_getElem? (i := 36) rfl, List.forall_mem_cons.mpr ⟨List.mem_of_getElem? (i := 37) rfl, List.forall_mem_cons.mpr ⟨List.mem_of_getElem? (i := 38) rfl, List.forall_mem_cons.mpr ⟨List.mem_of_getElem? (i := 39) rfl, List.forall_mem_cons.mpr ⟨List.mem_of_getElem? (i := 40) rfl, List.forall_mem_cons.mpr ⟨List.mem_of_getElem? (i := 41) rfl, List.forall_mem_cons.mpr ⟨List.mem_of_getElem? (i := 42) rfl, List.forall_mem_cons.mpr ⟨List.mem_of_getElem? (i := 43) rfl, List.forall_mem_cons.mpr ⟨List.mem_of_getElem? (i := 44) rfl, List.forall_mem_cons.mpr ⟨List.mem_of_getElem? (i := 45) rfl, List.forall_mem_cons.mpr ⟨List.mem_of_getElem? (i := 46) rfl, List.forall_mem_cons.mpr ⟨List.mem_of_getElem? (i := 47) rfl, List.forall_mem_cons.mpr ⟨List.mem_of_getElem? (i := 48) rfl, List.forall_mem_cons.mpr ⟨List.mem_of_getElem? (i := 49) rfl, List.forall_mem_cons.mpr ⟨List.mem_of_getElem? (i := 50) rfl, List.forall_mem_cons.mpr ⟨List.mem_of_getElem? (i := 51) rfl, List.forall_mem_cons.mpr ⟨List.mem_of_getElem? (i := 52) rfl, List.forall_mem_cons.mpr ⟨List.mem_of_getElem? (i := 53) rfl, fun _ h => absurd h List.not_mem_nil⟩⟩⟩⟩⟩⟩⟩⟩⟩⟩⟩⟩⟩⟩⟩⟩⟩⟩⟩⟩⟩
def j_X12_falling_111 (N : Nat) (k_57 : (Int32 × Int32) → Option (Int32 × Int32 × Int32 × (Nat → Int64) × (Nat → Int32))) (v2 : Int32) (v4 : Int32) (v5 : Int32) (v6 : Int32) (v7 : Int32) : Option (Int32 × Int32 × Int32 × (Nat → Int64) × (Nat → Int32)) :=
  if v7 = v2 then
    if v4 < v2 then
      xl (v5 + (0 : Int32)) fun y26z =>
      xl (v6 + (1 : Int32)) fun y27z =>
      k_57 (y26z, y27z)
    else
      xl (v5 + (1 : Int32)) fun y28z =>
      xl (v6 + (1 : Int32)) fun y29z =>
      k_57 (y28z, y29z)
  else
    xl (v5 + (0 : Int32)) fun y23z =>
    xl (v6 + (1 : Int32)) fun y24z =>
    k_57 (y23z, y24z)
set_option maxRecDepth 100000 in
set_option maxHeartbeats 4000000 in
theorem k_X12_falling_111 {p : Program} {l : Launch} {e : Env} {s : State} {m : MethodId} {args : Array Value} {below : List Frame} {meth : Method} {c : Code} {dC : Nat → ClassId} {dI : Nat → Nat → Nat} {cyI cyJ cyZ : ClassId} {A : Nat → Prop} (C0 : mC p s m meth c args cX12_falling (some .int) 9 RX12 wsX12_falling (gK dC dI cyI cyJ cyZ) A) (N : Nat) (res : Int32 × Int32 × Int32 × (Nat → Int64) × (Nat → Int32)) (q_Md : Nat) (q_mprimes : Nat) (q_mtable : Nat) (q_mtext : Nat) (q_mtold : Nat) (q_mstretch : Nat) (q_mfewest : Nat) (q_misOdd : Nat) (q_misHigh : Nat) (q_misTop : Nat) (q_mbits : Nat) (q_mpile : Nat) (v2 : Int32) (v3 : Int32) (v4 : Int32) (v7 : Int32) (m_length : Int32) (m_primeMany : Int32) (m_toldMany : Int32) (m_fate : Int32) (m_tail : Int32) (m_round : Int32) (m_tableKind : Int32) (m_areLaid : Int32) (m_unlike : Int32) (m_isFree : Int32) (a_mprimes : Nat → Int64) (a_mtable : Nat → Int32) (k_57 : (Int32 × Int32) → Option (Int32 × Int32 × Int32 × (Nat → Int64) × (Nat → Int32))) (hk_57 : ∀ (v5 : Int32) (v6 : Int32), k_57 (v5, v6) = some res → ∀ (H : Heap) (locs : List Loc), va_P (dC, dI) vwCl (wd58 cyI cyJ cyZ q_Md q_mprimes q_mtable q_mtext q_mtold q_mstretch q_mfewest q_misOdd q_misHigh q_misTop q_mbits q_mpile m_length m_primeMany m_toldMany m_fate m_tail m_round m_tableKind m_areLaid m_unlike m_isFree a_mprimes a_mtable) H → va_D A (wd58 cyI cyJ cyZ q_Md q_mprimes q_mtable q_mtext q_mtold q_mstretch q_mfewest q_misOdd q_misHigh q_misTop q_mbits q_mpile m_length m_primeMany m_toldMany m_fate m_tail m_round m_tableKind m_areLaid m_unlike m_isFree a_mprimes a_mtable) → va_S A s.heap H locs → ∀ (ls : Array Slot), lv_has ls 9 [(0, .ref q_Md), (2, .int v2), (3, .int v3), (4, .int v4), (5, .int v5), (6, .int v6)] → W p l e (headSpec wsX12_falling rm_X12_falling).room s m args below meth c H locs 0 0 (MQ below (va_Qi (fun (r : Int32) (_ : Unit) => r = res.1) (bW dC dI (fun (u : Unit) => (wd58 cyI cyJ cyZ q_Md q_mprimes q_mtable q_mtext q_mtold q_mstretch q_mfewest q_misOdd q_misHigh q_misTop q_mbits q_mpile m_length res.2.1 m_toldMany m_fate m_tail m_round res.2.2.1 m_areLaid m_unlike m_isFree res.2.2.2.1 res.2.2.2.2)) A) A) args s 0 0 A) (F0 m 57 ls [])) (v5 : Int32) (v6 : Int32) (h : j_X12_falling_111 N k_57 v2 v4 v5 v6 v7 = some res) : ∀ (H : Heap) (locs : List Loc), va_P (dC, dI) vwCl (wd58 cyI cyJ cyZ q_Md q_mprimes q_mtable q_mtext q_mtold q_mstretch q_mfewest q_misOdd q_misHigh q_misTop q_mbits q_mpile m_length m_primeMany m_toldMany m_fate m_tail m_round m_tableKind m_areLaid m_unlike m_isFree a_mprimes a_mtable) H → va_D A (wd58 cyI cyJ cyZ q_Md q_mprimes q_mtable q_mtext q_mtold q_mstretch q_mfewest q_misOdd q_misHigh q_misTop q_mbits q_mpile m_length m_primeMany m_toldMany m_fate m_tail m_round m_tableKind m_areLaid m_unlike m_isFree a_mprimes a_mtable) → va_S A s.heap H locs → ∀ (ls : Array Slot), lv_has ls 9 [(0, .ref q_Md), (2, .int v2), (3, .int v3), (4, .int v4), (5, .int v5), (6, .int v6), (7, .int v7)] → W p l e (headSpec wsX12_falling rm_X12_falling).room s m args below meth c H locs 0 0 (MQ below (va_Qi (fun (r : Int32) (_ : Unit) => r = res.1) (bW dC dI (fun (u : Unit) => (wd58 cyI cyJ cyZ q_Md q_mprimes q_mtable q_mtext q_mtold q_mstretch q_mfewest q_misOdd q_misHigh q_misTop q_mbits q_mpile m_length res.2.1 m_toldMany m_fate m_tail m_round res.2.2.1 m_areLaid m_unlike m_isFree res.2.2.2.1 res.2.2.2.2)) A) A) args s 0 0 A) (F0 m 111 ls []) := by
  obtain ⟨hx, hb, hr, hml, hown, hts, hlocks, hG, hA⟩ := id C0
  have hK := hG.1
  intro H locs hP hD hS ls hl
  unfold j_X12_falling_111 at h
  refine lv_iload hx hb dX12_falling_111 (lv_at hl 4 rfl) ?_
  refine lv_iload hx hb dX12_falling_113 (lv_at hl 6 rfl) ?_
  refine lv_iload_n hx hb dX12_falling_115 rfl (lv_at hl 1 rfl) ?_
  refine lv_icmp_ne (tgt := 129) hx hb dX12_falling_116 (by decide) (fun c22z => ?_) (fun c22z => ?_)
  · have h := xf h c22z
    refine lv_iconst (v := (0 : Int32)) hx hb dX12_falling_129 (by decide) ?_
    refine lv_iadd hx hb dX12_falling_130 ?_
    refine lv_topi (fun y23z ey23z => ?_)
    have h := xl_at h ey23z
    refine lv_istore (lv' := [(5, .int y23z), (0, .ref q_Md), (2, .int v2), (3, .int v3), (4, .int v4), (6, .int v6), (7, .int v7)]) hx hb dX12_falling_131 hl (by decide) rfl (fun ls hl => ?_)
    obtain ⟨y24z, ey24z⟩ : ∃ z : Int32, z = v6 + (1 : Int32) := ⟨_, rfl⟩
    have h := xl_at h ey24z
    refine lv_iinc (v := y24z) (lv' := [(6, .int y24z), (5, .int y23z), (0, .ref q_Md), (2, .int v2), (3, .int v3), (4, .int v4), (7, .int v7)]) hx hb dX12_falling_133 hl (k := 5) rfl (by rw [ey24z]; rfl) (by decide) rfl (fun ls hl => ?_)
    refine lv_goto (tgt := 57) hx hb dX12_falling_136 (by decide) ?_
    exact hk_57 y23z y24z h _ _ hP hD hS _ (lv_sub hl [2, 3, 4, 5, 1, 0] rfl)
  · have h := xt h c22z
    refine lv_iload_n hx hb dX12_falling_119 rfl (lv_at hl 1 rfl) ?_
    refine lv_iload hx hb dX12_falling_120 (lv_at hl 3 rfl) ?_
    refine lv_icmp_gt (tgt := 129) hx hb dX12_falling_122 (by decide) (fun c25z => ?_) (fun c25z => ?_)
    · have h := xt h c25z
      refine lv_iconst (v := (0 : Int32)) hx hb dX12_falling_129 (by decide) ?_
      refine lv_iadd hx hb dX12_falling_130 ?_
      refine lv_topi (fun y26z ey26z => ?_)
      have h := xl_at h ey26z
      refine lv_istore (lv' := [(5, .int y26z), (0, .ref q_Md), (2, .int v2), (3, .int v3), (4, .int v4), (6, .int v6), (7, .int v7)]) hx hb dX12_falling_131 hl (by decide) rfl (fun ls hl => ?_)
      obtain ⟨y27z, ey27z⟩ : ∃ z : Int32, z = v6 + (1 : Int32) := ⟨_, rfl⟩
      have h := xl_at h ey27z
      refine lv_iinc (v := y27z) (lv' := [(6, .int y27z), (5, .int y26z), (0, .ref q_Md), (2, .int v2), (3, .int v3), (4, .int v4), (7, .int v7)]) hx hb dX12_falling_133 hl (k := 5) rfl (by rw [ey27z]; rfl) (by decide) rfl (fun ls hl => ?_)
      refine lv_goto (tgt := 57) hx hb dX12_falling_136 (by decide) ?_
      exact hk_57 y26z y27z h _ _ hP hD hS _ (lv_sub hl [2, 3, 4, 5, 1, 0] rfl)
    · have h := xf h c25z
      refine lv_iconst (v := (1 : Int32)) hx hb dX12_falling_125 (by decide) ?_
      refine lv_goto (tgt := 130) hx hb dX12_falling_126 (by decide) ?_
      refine lv_iadd hx hb dX12_falling_130 ?_
      refine lv_topi (fun y28z ey28z => ?_)
      have h := xl_at h ey28z
      refine lv_istore (lv' := [(5, .int y28z), (0, .ref q_Md), (2, .int v2), (3, .int v3), (4, .int v4), (6, .int v6), (7, .int v7)]) hx hb dX12_falling_131 hl (by decide) rfl (fun ls hl => ?_)
      obtain ⟨y29z, ey29z⟩ : ∃ z : Int32, z = v6 + (1 : Int32) := ⟨_, rfl⟩
      have h := xl_at h ey29z
      refine lv_iinc (v := y29z) (lv' := [(6, .int y29z), (5, .int y28z), (0, .ref q_Md), (2, .int v2), (3, .int v3), (4, .int v4), (7, .int v7)]) hx hb dX12_falling_133 hl (k := 5) rfl (by rw [ey29z]; rfl) (by decide) rfl (fun ls hl => ?_)
      refine lv_goto (tgt := 57) hx hb dX12_falling_136 (by decide) ?_
      exact hk_57 y28z y29z h _ _ hP hD hS _ (lv_sub hl [2, 3, 4, 5, 1, 0] rfl)
def s_X12_falling_71 (N : Nat) (k_57 : (Int32 × Int32) → Option (Int32 × Int32 × Int32 × (Nat → Int64) × (Nat → Int32))) (v2 : Int32) (v3 : Int32) (v4 : Int32) (v5 : Int32) (v6 : Int32) (a_mtable : Nat → Int32) (k_71 : (Int32 × Int32) → Option (Int32 × Int32 × Int32 × (Nat → Int64) × (Nat → Int32))) (v7 : Int32) (v8 : Int32) : Option (Int32 × Int32 × Int32 × (Nat → Int64) × (Nat → Int32)) :=
  if v3 ≤ v8 then
    j_X12_falling_111 N k_57 v2 v4 v5 v6 v7
  else
    if v7 = v2 then
      j_X12_falling_111 N k_57 v2 v4 v5 v6 v7
    else
      Option.bind (f_X12_in N v7.toInt64 (1 : Int64) v4.toInt64) fun r31z =>
      if r31z = 0 then
        j_X12_falling_111 N k_57 v2 v4 v5 v6 v7
      else
        if v7 < 0 ∨ 50001 ≤ v7.toNatClampNeg then
          none
        else
          xl (a_mtable v7.toNatClampNeg) fun y36z =>
          xl (v8 + (1 : Int32)) fun y37z =>
          k_71 (y36z, y37z)
def l_X12_falling_71 (N : Nat) (k_57 : (Int32 × Int32) → Option (Int32 × Int32 × Int32 × (Nat → Int64) × (Nat → Int32))) (v2 : Int32) (v3 : Int32) (v4 : Int32) (v5 : Int32) (v6 : Int32) (a_mtable : Nat → Int32) (n : Nat) (z : Int32 × Int32) : Option (Int32 × Int32 × Int32 × (Nat → Int64) × (Nat → Int32)) := lp (fun k z => s_X12_falling_71 N k_57 v2 v3 v4 v5 v6 a_mtable k z.1 z.2) n z
set_option maxRecDepth 100000 in
set_option maxHeartbeats 4000000 in
theorem k_X12_falling_71 {p : Program} {l : Launch} {e : Env} {s : State} {m : MethodId} {args : Array Value} {below : List Frame} {meth : Method} {c : Code} {dC : Nat → ClassId} {dI : Nat → Nat → Nat} {cyI cyJ cyZ : ClassId} {A : Nat → Prop} (C0 : mC p s m meth c args cX12_falling (some .int) 9 RX12 wsX12_falling (gK dC dI cyI cyJ cyZ) A) (N : Nat) (res : Int32 × Int32 × Int32 × (Nat → Int64) × (Nat → Int32)) (q_Md : Nat) (q_mprimes : Nat) (q_mtable : Nat) (q_mtext : Nat) (q_mtold : Nat) (q_mstretch : Nat) (q_mfewest : Nat) (q_misOdd : Nat) (q_misHigh : Nat) (q_misTop : Nat) (q_mbits : Nat) (q_mpile : Nat) (v2 : Int32) (v3 : Int32) (v4 : Int32) (m_length : Int32) (m_primeMany : Int32) (m_toldMany : Int32) (m_fate : Int32) (m_tail : Int32) (m_round : Int32) (m_tableKind : Int32) (m_areLaid : Int32) (m_unlike : Int32) (m_isFree : Int32) (a_mprimes : Nat → Int64) (a_mtable : Nat → Int32) (k_57 : (Int32 × Int32) → Option (Int32 × Int32 × Int32 × (Nat → Int64) × (Nat → Int32))) (hk_57 : ∀ (v5 : Int32) (v6 : Int32), k_57 (v5, v6) = some res → ∀ (H : Heap) (locs : List Loc), va_P (dC, dI) vwCl (wd58 cyI cyJ cyZ q_Md q_mprimes q_mtable q_mtext q_mtold q_mstretch q_mfewest q_misOdd q_misHigh q_misTop q_mbits q_mpile m_length m_primeMany m_toldMany m_fate m_tail m_round m_tableKind m_areLaid m_unlike m_isFree a_mprimes a_mtable) H → va_D A (wd58 cyI cyJ cyZ q_Md q_mprimes q_mtable q_mtext q_mtold q_mstretch q_mfewest q_misOdd q_misHigh q_misTop q_mbits q_mpile m_length m_primeMany m_toldMany m_fate m_tail m_round m_tableKind m_areLaid m_unlike m_isFree a_mprimes a_mtable) → va_S A s.heap H locs → ∀ (ls : Array Slot), lv_has ls 9 [(0, .ref q_Md), (2, .int v2), (3, .int v3), (4, .int v4), (5, .int v5), (6, .int v6)] → W p l e (headSpec wsX12_falling rm_X12_falling).room s m args below meth c H locs 0 0 (MQ below (va_Qi (fun (r : Int32) (_ : Unit) => r = res.1) (bW dC dI (fun (u : Unit) => (wd58 cyI cyJ cyZ q_Md q_mprimes q_mtable q_mtext q_mtold q_mstretch q_mfewest q_misOdd q_misHigh q_misTop q_mbits q_mpile m_length res.2.1 m_toldMany m_fate m_tail m_round res.2.2.1 m_areLaid m_unlike m_isFree res.2.2.2.1 res.2.2.2.2)) A) A) args s 0 0 A) (F0 m 57 ls [])) (v5 : Int32) (v6 : Int32) : ∀ (n : Nat) (v7 : Int32) (v8 : Int32), l_X12_falling_71 N k_57 v2 v3 v4 v5 v6 a_mtable n (v7, v8) = some res → ∀ (H : Heap) (locs : List Loc), va_P (dC, dI) vwCl (wd58 cyI cyJ cyZ q_Md q_mprimes q_mtable q_mtext q_mtold q_mstretch q_mfewest q_misOdd q_misHigh q_misTop q_mbits q_mpile m_length m_primeMany m_toldMany m_fate m_tail m_round m_tableKind m_areLaid m_unlike m_isFree a_mprimes a_mtable) H → va_D A (wd58 cyI cyJ cyZ q_Md q_mprimes q_mtable q_mtext q_mtold q_mstretch q_mfewest q_misOdd q_misHigh q_misTop q_mbits q_mpile m_length m_primeMany m_toldMany m_fate m_tail m_round m_tableKind m_areLaid m_unlike m_isFree a_mprimes a_mtable) → va_S A s.heap H locs → ∀ (ls : Array Slot), lv_has ls 9 [(0, .ref q_Md), (2, .int v2), (3, .int v3), (4, .int v4), (5, .int v5), (6, .int v6), (7, .int v7), (8, .int v8)] → W p l e (headSpec wsX12_falling rm_X12_falling).room s m args below meth c H locs 0 0 (MQ below (va_Qi (fun (r : Int32) (_ : Unit) => r = res.1) (bW dC dI (fun (u : Unit) => (wd58 cyI cyJ cyZ q_Md q_mprimes q_mtable q_mtext q_mtold q_mstretch q_mfewest q_misOdd q_misHigh q_misTop q_mbits q_mpile m_length res.2.1 m_toldMany m_fate m_tail m_round res.2.2.1 m_areLaid m_unlike m_isFree res.2.2.2.1 res.2.2.2.2)) A) A) args s 0 0 A) (F0 m 71 ls []) := by
  obtain ⟨hx, hb, hr, hml, hown, hts, hlocks, hG, hA⟩ := id C0
  have hK := hG.1
  intro n
  induction n with
  | zero =>
    intro v7 v8 h
    cases h
  | succ n ih =>
    intro v7 v8 h H locs hP hD hS ls hl
    have h : s_X12_falling_71 N k_57 v2 v3 v4 v5 v6 a_mtable (l_X12_falling_71 N k_57 v2 v3 v4 v5 v6 a_mtable n) v7 v8 = some res := h
    unfold s_X12_falling_71 at h
    refine lv_iload hx hb dX12_falling_71 (lv_at hl 7 rfl) ?_
    refine lv_iload_n hx hb dX12_falling_73 rfl (lv_at hl 2 rfl) ?_
    refine lv_icmp_ge (tgt := 111) hx hb dX12_falling_74 (by decide) (fun c21z => ?_) (fun c21z => ?_)
    · have h := xt h c21z
      exact k_X12_falling_111 C0 N res q_Md q_mprimes q_mtable q_mtext q_mtold q_mstretch q_mfewest q_misOdd q_misHigh q_misTop q_mbits q_mpile v2 v3 v4 v7 m_length m_primeMany m_toldMany m_fate m_tail m_round m_tableKind m_areLaid m_unlike m_isFree a_mprimes a_mtable k_57 hk_57 v5 v6  h _ _ hP hD hS _ (lv_sub hl [0, 1, 2, 3, 4, 5, 6] rfl)
    · have h := xf h c21z
      refine lv_iload hx hb dX12_falling_77 (lv_at hl 6 rfl) ?_
      refine lv_iload_n hx hb dX12_falling_79 rfl (lv_at hl 1 rfl) ?_
      refine lv_icmp_eq (tgt := 111) hx hb dX12_falling_80 (by decide) (fun c30z => ?_) (fun c30z => ?_)
      · have h := xt h c30z
        exact k_X12_falling_111 C0 N res q_Md q_mprimes q_mtable q_mtext q_mtold q_mstretch q_mfewest q_misOdd q_misHigh q_misTop q_mbits q_mpile v2 v3 v4 v7 m_length m_primeMany m_toldMany m_fate m_tail m_round m_tableKind m_areLaid m_unlike m_isFree a_mprimes a_mtable k_57 hk_57 v5 v6  h _ _ hP hD hS _ (lv_sub hl [0, 1, 2, 3, 4, 5, 6] rfl)
      · have h := xf h c30z
        refine lv_iload hx hb dX12_falling_83 (lv_at hl 6 rfl) ?_
        refine lv_i2l (v := v7.toInt64) hx hb dX12_falling_85 rfl ?_
        refine lv_lconst (v := (1 : Int64)) hx hb dX12_falling_86 (by decide) ?_
        refine lv_iload hx hb dX12_falling_87 (lv_at hl 3 rfl) ?_
        refine lv_i2l (v := v4.toInt64) hx hb dX12_falling_89 rfl ?_
        obtain ⟨r31z, hr31z, h⟩ := xb_at h
        have hPc := hP.sub (ws' := (wd37 cyI cyJ cyZ)) [] rfl
        have hDc := hD.sub (ws' := (wd37 cyI cyJ cyZ)) [] (by decide) rfl
        refine cal_i [] [0, 1, 2] (va_runS (As := [.long v7.toInt64, .long (1 : Int64), .long v4.toInt64]) (rest := []) ⟨hx, hb, hml, hown, hts⟩ (c_X12_in l dC dI cyI cyJ cyZ N r31z H.size  v7.toInt64 (1 : Int64) v4.toInt64  hr31z) (va_cwS 3 hts gX12_falling_X12_in rfl rfl rfl hd_X12_in ⟨Nat.le_of_ble_eq_true rfl, Nat.le_of_ble_eq_true rfl⟩) ⟨pC.blind, pC.pre hPc hG hDc⟩ rfl rfl hl.1 rfl (lv_room (Nat.le_of_ble_eq_true rfl)) dX12_falling_90 ⟨Nat.zero_le _, Nat.zero_le _⟩) hP hD hS hA rfl rfl rfl (by decide) (fun x33z u32z H locs hw hP hD hS => ?_)
        obtain rfl := hw.symm
        have hP : va_P (dC, dI) vwCl (wd58 cyI cyJ cyZ q_Md q_mprimes q_mtable q_mtext q_mtold q_mstretch q_mfewest q_misOdd q_misHigh q_misTop q_mbits q_mpile m_length m_primeMany m_toldMany m_fate m_tail m_round m_tableKind m_areLaid m_unlike m_isFree a_mprimes a_mtable) H := hP.sub [0, 1, 2] rfl
        have hD : va_D A (wd58 cyI cyJ cyZ q_Md q_mprimes q_mtable q_mtext q_mtold q_mstretch q_mfewest q_misOdd q_misHigh q_misTop q_mbits q_mpile m_length m_primeMany m_toldMany m_fate m_tail m_round m_tableKind m_areLaid m_unlike m_isFree a_mprimes a_mtable) := hD.sub [0, 1, 2] (by decide) rfl
        refine lv_if_eq (tgt := 111) hx hb dX12_falling_93 (by decide) (fun c34z => ?_) (fun c34z => ?_)
        · have h := xt h c34z
          exact k_X12_falling_111 C0 N res q_Md q_mprimes q_mtable q_mtext q_mtold q_mstretch q_mfewest q_misOdd q_misHigh q_misTop q_mbits q_mpile v2 v3 v4 v7 m_length m_primeMany m_toldMany m_fate m_tail m_round m_tableKind m_areLaid m_unlike m_isFree a_mprimes a_mtable k_57 hk_57 v5 v6  h _ _ hP hD hS _ (lv_sub hl [0, 1, 2, 3, 4, 5, 6] rfl)
        · have h := xf h c34z
          refine lv_aload_n hx hb dX12_falling_96 rfl (lv_at hl 0 rfl) ?_
          refine va_get (D := (dC, dI)) (ci := 12) (v := .ref q_mtable) (C := RX12) (T := TX12) (N := 21) hx hb hts iw_X12_falling_X12 hown hK hP 0 rfl rfl 10 (by decide) (hts (.fieldLink RX12 21 "GoesIntoModel" "table" "[I") (List.mem_of_getElem? (i := 4) rfl)) (fun _ h9 => h9) rfl dX12_falling_97 ?_
          refine lv_iload hx hb dX12_falling_100 (lv_at hl 6 rfl) ?_
          obtain ⟨b35z, h⟩ := xn h
          refine va_iald hx hb hK hP 2 0 rfl rfl b35z dX12_falling_102 ?_
          refine lv_topi (fun y36z ey36z => ?_)
          have h := xl_at h ey36z
          refine lv_istore (lv' := [(7, .int y36z), (0, .ref q_Md), (2, .int v2), (3, .int v3), (4, .int v4), (5, .int v5), (6, .int v6), (8, .int v8)]) hx hb dX12_falling_103 hl (by decide) rfl (fun ls hl => ?_)
          obtain ⟨y37z, ey37z⟩ : ∃ z : Int32, z = v8 + (1 : Int32) := ⟨_, rfl⟩
          have h := xl_at h ey37z
          refine lv_iinc (v := y37z) (lv' := [(8, .int y37z), (7, .int y36z), (0, .ref q_Md), (2, .int v2), (3, .int v3), (4, .int v4), (5, .int v5), (6, .int v6)]) hx hb dX12_falling_105 hl (k := 7) rfl (by rw [ey37z]; rfl) (by decide) rfl (fun ls hl => ?_)
          refine lv_goto (tgt := 71) hx hb dX12_falling_108 (by decide) ?_
          exact ih y36z y37z h _ _ hP hD hS _ (lv_sub hl [2, 3, 4, 5, 6, 7, 1, 0] rfl)
def s_X12_falling_57 (N : Nat) (v2 : Int32) (v3 : Int32) (v4 : Int32) (m_primeMany : Int32) (m_tableKind : Int32) (a_mprimes : Nat → Int64) (a_mtable : Nat → Int32) (k_57 : (Int32 × Int32) → Option (Int32 × Int32 × Int32 × (Nat → Int64) × (Nat → Int32))) (v5 : Int32) (v6 : Int32) : Option (Int32 × Int32 × Int32 × (Nat → Int64) × (Nat → Int32)) :=
  if v4 < v6 then
    some (v5, m_primeMany, m_tableKind, a_mprimes, a_mtable)
  else
    l_X12_falling_71 N k_57 v2 v3 v4 v5 v6 a_mtable N (v6, (0 : Int32))
def l_X12_falling_57 (N : Nat) (v2 : Int32) (v3 : Int32) (v4 : Int32) (m_primeMany : Int32) (m_tableKind : Int32) (a_mprimes : Nat → Int64) (a_mtable : Nat → Int32) (n : Nat) (z : Int32 × Int32) : Option (Int32 × Int32 × Int32 × (Nat → Int64) × (Nat → Int32)) := lp (fun k z => s_X12_falling_57 N v2 v3 v4 m_primeMany m_tableKind a_mprimes a_mtable k z.1 z.2) n z
set_option maxRecDepth 100000 in
set_option maxHeartbeats 4000000 in
theorem k_X12_falling_57 {p : Program} {l : Launch} {e : Env} {s : State} {m : MethodId} {args : Array Value} {below : List Frame} {meth : Method} {c : Code} {dC : Nat → ClassId} {dI : Nat → Nat → Nat} {cyI cyJ cyZ : ClassId} {A : Nat → Prop} (C0 : mC p s m meth c args cX12_falling (some .int) 9 RX12 wsX12_falling (gK dC dI cyI cyJ cyZ) A) (N : Nat) (res : Int32 × Int32 × Int32 × (Nat → Int64) × (Nat → Int32)) (q_Md : Nat) (q_mprimes : Nat) (q_mtable : Nat) (q_mtext : Nat) (q_mtold : Nat) (q_mstretch : Nat) (q_mfewest : Nat) (q_misOdd : Nat) (q_misHigh : Nat) (q_misTop : Nat) (q_mbits : Nat) (q_mpile : Nat) (v2 : Int32) (v3 : Int32) (v4 : Int32) (m_length : Int32) (m_primeMany : Int32) (m_toldMany : Int32) (m_fate : Int32) (m_tail : Int32) (m_round : Int32) (m_tableKind : Int32) (m_areLaid : Int32) (m_unlike : Int32) (m_isFree : Int32) (a_mprimes : Nat → Int64) (a_mtable : Nat → Int32) : ∀ (n : Nat) (v5 : Int32) (v6 : Int32), l_X12_falling_57 N v2 v3 v4 m_primeMany m_tableKind a_mprimes a_mtable n (v5, v6) = some res → ∀ (H : Heap) (locs : List Loc), va_P (dC, dI) vwCl (wd58 cyI cyJ cyZ q_Md q_mprimes q_mtable q_mtext q_mtold q_mstretch q_mfewest q_misOdd q_misHigh q_misTop q_mbits q_mpile m_length m_primeMany m_toldMany m_fate m_tail m_round m_tableKind m_areLaid m_unlike m_isFree a_mprimes a_mtable) H → va_D A (wd58 cyI cyJ cyZ q_Md q_mprimes q_mtable q_mtext q_mtold q_mstretch q_mfewest q_misOdd q_misHigh q_misTop q_mbits q_mpile m_length m_primeMany m_toldMany m_fate m_tail m_round m_tableKind m_areLaid m_unlike m_isFree a_mprimes a_mtable) → va_S A s.heap H locs → ∀ (ls : Array Slot), lv_has ls 9 [(0, .ref q_Md), (2, .int v2), (3, .int v3), (4, .int v4), (5, .int v5), (6, .int v6)] → W p l e (headSpec wsX12_falling rm_X12_falling).room s m args below meth c H locs 0 0 (MQ below (va_Qi (fun (r : Int32) (_ : Unit) => r = res.1) (bW dC dI (fun (u : Unit) => (wd58 cyI cyJ cyZ q_Md q_mprimes q_mtable q_mtext q_mtold q_mstretch q_mfewest q_misOdd q_misHigh q_misTop q_mbits q_mpile m_length res.2.1 m_toldMany m_fate m_tail m_round res.2.2.1 m_areLaid m_unlike m_isFree res.2.2.2.1 res.2.2.2.2)) A) A) args s 0 0 A) (F0 m 57 ls []) := by
  obtain ⟨hx, hb, hr, hml, hown, hts, hlocks, hG, hA⟩ := id C0
  have hK := hG.1
  intro n
  induction n with
  | zero =>
    intro v5 v6 h
    cases h
  | succ n ih =>
    intro v5 v6 h H locs hP hD hS ls hl
    have h : s_X12_falling_57 N v2 v3 v4 m_primeMany m_tableKind a_mprimes a_mtable (l_X12_falling_57 N v2 v3 v4 m_primeMany m_tableKind a_mprimes a_mtable n) v5 v6 = some res := h
    unfold s_X12_falling_57 at h
    refine lv_iload hx hb dX12_falling_57 (lv_at hl 5 rfl) ?_
    refine lv_iload hx hb dX12_falling_59 (lv_at hl 3 rfl) ?_
    refine lv_icmp_gt (tgt := 139) hx hb dX12_falling_61 (by decide) (fun c20z => ?_) (fun c20z => ?_)
    · have h := xt h c20z
      refine lv_iload hx hb dX12_falling_139 (lv_at hl 4 rfl) ?_
      obtain rfl := Option.some.inj h
      exact W.iret (v := v5) hx hb hr (fun t ht hW => ⟨⟨_, (), rfl, rfl, by rw [ht]; exact hP, hD⟩, hS.F ht⟩) hS.2.2 dX12_falling_141 hlocks
    · have h := xf h c20z
      refine lv_iload hx hb dX12_falling_64 (lv_at hl 5 rfl) ?_
      refine lv_istore (lv' := [(7, .int v6), (0, .ref q_Md), (2, .int v2), (3, .int v3), (4, .int v4), (5, .int v5), (6, .int v6)]) hx hb dX12_falling_66 hl (by decide) rfl (fun ls hl => ?_)
      refine lv_iconst (v := (0 : Int32)) hx hb dX12_falling_68 (by decide) ?_
      refine lv_istore (lv' := [(8, .int (0 : Int32)), (7, .int v6), (0, .ref q_Md), (2, .int v2), (3, .int v3), (4, .int v4), (5, .int v5), (6, .int v6)]) hx hb dX12_falling_69 hl (by decide) rfl (fun ls hl => ?_)
      exact k_X12_falling_71 C0 N res q_Md q_mprimes q_mtable q_mtext q_mtold q_mstretch q_mfewest q_misOdd q_misHigh q_misTop q_mbits q_mpile v2 v3 v4 m_length m_primeMany m_toldMany m_fate m_tail m_round m_tableKind m_areLaid m_unlike m_isFree a_mprimes a_mtable _ ih v5 v6 N v6 (0 : Int32) h _ _ hP hD hS _ (lv_sub hl [2, 3, 4, 5, 6, 7, 1, 0] rfl)
def f_X12_falling (N : Nat) (v1 : Int32) (v2 : Int32) (v3 : Int32) (v4 : Int32) (m_primeMany : Int32) (m_tableKind : Int32) (a_mprimes : Nat → Int64) (a_mtable : Nat → Int32) : Option (Int32 × Int32 × Int32 × (Nat → Int64) × (Nat → Int32)) :=
  Option.bind (f_X12_in N v1.toInt64 (1 : Int64) (3 : Int64)) fun r1z =>
  if r1z = 0 then
    some ((-1 : Int32), m_primeMany, m_tableKind, a_mprimes, a_mtable)
  else
    Option.bind (f_X12_in N v2.toInt64 (1 : Int64) (50000 : Int64)) fun r5z =>
    if r5z = 0 then
      some ((-1 : Int32), m_primeMany, m_tableKind, a_mprimes, a_mtable)
    else
      Option.bind (f_X12_in N v3.toInt64 (0 : Int64) (50 : Int64)) fun r9z =>
      if r9z = 0 then
        some ((-1 : Int32), m_primeMany, m_tableKind, a_mprimes, a_mtable)
      else
        Option.bind (f_X12_isBound N v4) fun r13z =>
        if r13z = 0 then
          some ((-1 : Int32), m_primeMany, m_tableKind, a_mprimes, a_mtable)
        else
          Option.bind (f_X12_layTable N v1 m_primeMany m_tableKind a_mprimes a_mtable) fun r17z =>
          l_X12_falling_57 N v2 v3 v4 r17z.1 r17z.2.1 r17z.2.2.1 r17z.2.2.2 N ((0 : Int32), (1 : Int32))
set_option maxRecDepth 100000 in
set_option maxHeartbeats 4000000 in
theorem k_X12_falling_0 {p : Program} {l : Launch} {e : Env} {s : State} {m : MethodId} {args : Array Value} {below : List Frame} {meth : Method} {c : Code} {dC : Nat → ClassId} {dI : Nat → Nat → Nat} {cyI cyJ cyZ : ClassId} {A : Nat → Prop} (C0 : mC p s m meth c args cX12_falling (some .int) 9 RX12 wsX12_falling (gK dC dI cyI cyJ cyZ) A) (N : Nat) (res : Int32 × Int32 × Int32 × (Nat → Int64) × (Nat → Int32)) (q_Md : Nat) (q_mprimes : Nat) (q_mtable : Nat) (q_mtext : Nat) (q_mtold : Nat) (q_mstretch : Nat) (q_mfewest : Nat) (q_misOdd : Nat) (q_misHigh : Nat) (q_misTop : Nat) (q_mbits : Nat) (q_mpile : Nat) (v1 : Int32) (v2 : Int32) (v3 : Int32) (v4 : Int32) (m_length : Int32) (m_primeMany : Int32) (m_toldMany : Int32) (m_fate : Int32) (m_tail : Int32) (m_round : Int32) (m_tableKind : Int32) (m_areLaid : Int32) (m_unlike : Int32) (m_isFree : Int32) (a_mprimes : Nat → Int64) (a_mtable : Nat → Int32) (h : f_X12_falling N v1 v2 v3 v4 m_primeMany m_tableKind a_mprimes a_mtable = some res) : ∀ (H : Heap) (locs : List Loc), va_P (dC, dI) vwCl (wd58 cyI cyJ cyZ q_Md q_mprimes q_mtable q_mtext q_mtold q_mstretch q_mfewest q_misOdd q_misHigh q_misTop q_mbits q_mpile m_length m_primeMany m_toldMany m_fate m_tail m_round m_tableKind m_areLaid m_unlike m_isFree a_mprimes a_mtable) H → va_D A (wd58 cyI cyJ cyZ q_Md q_mprimes q_mtable q_mtext q_mtold q_mstretch q_mfewest q_misOdd q_misHigh q_misTop q_mbits q_mpile m_length m_primeMany m_toldMany m_fate m_tail m_round m_tableKind m_areLaid m_unlike m_isFree a_mprimes a_mtable) → va_S A s.heap H locs → ∀ (ls : Array Slot), lv_has ls 9 [(0, .ref q_Md), (1, .int v1), (2, .int v2), (3, .int v3), (4, .int v4)] → W p l e (headSpec wsX12_falling rm_X12_falling).room s m args below meth c H locs 0 0 (MQ below (va_Qi (fun (r : Int32) (_ : Unit) => r = res.1) (bW dC dI (fun (u : Unit) => (wd58 cyI cyJ cyZ q_Md q_mprimes q_mtable q_mtext q_mtold q_mstretch q_mfewest q_misOdd q_misHigh q_misTop q_mbits q_mpile m_length res.2.1 m_toldMany m_fate m_tail m_round res.2.2.1 m_areLaid m_unlike m_isFree res.2.2.2.1 res.2.2.2.2)) A) A) args s 0 0 A) (F0 m 0 ls []) := by
  obtain ⟨hx, hb, hr, hml, hown, hts, hlocks, hG, hA⟩ := id C0
  have hK := hG.1
  intro H locs hP hD hS ls hl
  unfold f_X12_falling at h
  refine lv_iload_n hx hb dX12_falling_0 rfl (lv_at hl 1 rfl) ?_
  refine lv_i2l (v := v1.toInt64) hx hb dX12_falling_1 rfl ?_
  refine lv_lconst (v := (1 : Int64)) hx hb dX12_falling_2 (by decide) ?_
  refine lv_ldc2 (v := (3 : Int64)) hx hb hown (hts (.constantLong RX12 69 (3)) (List.mem_of_getElem? (i := 1) rfl)) dX12_falling_3 ?_
  obtain ⟨r1z, hr1z, h⟩ := xb_at h
  have hPc := hP.sub (ws' := (wd37 cyI cyJ cyZ)) [] rfl
  have hDc := hD.sub (ws' := (wd37 cyI cyJ cyZ)) [] (by decide) rfl
  refine cal_i [] [0, 1, 2] (va_runS (As := [.long v1.toInt64, .long (1 : Int64), .long (3 : Int64)]) (rest := []) ⟨hx, hb, hml, hown, hts⟩ (c_X12_in l dC dI cyI cyJ cyZ N r1z H.size  v1.toInt64 (1 : Int64) (3 : Int64)  hr1z) (va_cwS 3 hts gX12_falling_X12_in rfl rfl rfl hd_X12_in ⟨Nat.le_of_ble_eq_true rfl, Nat.le_of_ble_eq_true rfl⟩) ⟨pC.blind, pC.pre hPc hG hDc⟩ rfl rfl hl.1 rfl (lv_room (Nat.le_of_ble_eq_true rfl)) dX12_falling_6 ⟨Nat.zero_le _, Nat.zero_le _⟩) hP hD hS hA rfl rfl rfl (by decide) (fun x3z u2z H locs hw hP hD hS => ?_)
  obtain rfl := hw.symm
  have hP : va_P (dC, dI) vwCl (wd58 cyI cyJ cyZ q_Md q_mprimes q_mtable q_mtext q_mtold q_mstretch q_mfewest q_misOdd q_misHigh q_misTop q_mbits q_mpile m_length m_primeMany m_toldMany m_fate m_tail m_round m_tableKind m_areLaid m_unlike m_isFree a_mprimes a_mtable) H := hP.sub [0, 1, 2] rfl
  have hD : va_D A (wd58 cyI cyJ cyZ q_Md q_mprimes q_mtable q_mtext q_mtold q_mstretch q_mfewest q_misOdd q_misHigh q_misTop q_mbits q_mpile m_length m_primeMany m_toldMany m_fate m_tail m_round m_tableKind m_areLaid m_unlike m_isFree a_mprimes a_mtable) := hD.sub [0, 1, 2] (by decide) rfl
  refine lv_if_eq (tgt := 44) hx hb dX12_falling_9 (by decide) (fun c4z => ?_) (fun c4z => ?_)
  · have h := xt h c4z
    refine lv_iconst (v := (-1 : Int32)) hx hb dX12_falling_44 (by decide) ?_
    obtain rfl := Option.some.inj h
    exact W.iret (v := (-1 : Int32)) hx hb hr (fun t ht hW => ⟨⟨_, (), rfl, rfl, by rw [ht]; exact hP, hD⟩, hS.F ht⟩) hS.2.2 dX12_falling_45 hlocks
  · have h := xf h c4z
    refine lv_iload_n hx hb dX12_falling_12 rfl (lv_at hl 2 rfl) ?_
    refine lv_i2l (v := v2.toInt64) hx hb dX12_falling_13 rfl ?_
    refine lv_lconst (v := (1 : Int64)) hx hb dX12_falling_14 (by decide) ?_
    refine lv_ldc2 (v := (50000 : Int64)) hx hb hown (hts (.constantLong RX12 106 (50000)) (List.mem_of_getElem? (i := 2) rfl)) dX12_falling_15 ?_
    obtain ⟨r5z, hr5z, h⟩ := xb_at h
    have hPc := hP.sub (ws' := (wd37 cyI cyJ cyZ)) [] rfl
    have hDc := hD.sub (ws' := (wd37 cyI cyJ cyZ)) [] (by decide) rfl
    refine cal_i [] [0, 1, 2] (va_runS (As := [.long v2.toInt64, .long (1 : Int64), .long (50000 : Int64)]) (rest := []) ⟨hx, hb, hml, hown, hts⟩ (c_X12_in l dC dI cyI cyJ cyZ N r5z H.size  v2.toInt64 (1 : Int64) (50000 : Int64)  hr5z) (va_cwS 3 hts gX12_falling_X12_in rfl rfl rfl hd_X12_in ⟨Nat.le_of_ble_eq_true rfl, Nat.le_of_ble_eq_true rfl⟩) ⟨pC.blind, pC.pre hPc hG hDc⟩ rfl rfl hl.1 rfl (lv_room (Nat.le_of_ble_eq_true rfl)) dX12_falling_18 ⟨Nat.zero_le _, Nat.zero_le _⟩) hP hD hS hA rfl rfl rfl (by decide) (fun x7z u6z H locs hw hP hD hS => ?_)
    obtain rfl := hw.symm
    have hP : va_P (dC, dI) vwCl (wd58 cyI cyJ cyZ q_Md q_mprimes q_mtable q_mtext q_mtold q_mstretch q_mfewest q_misOdd q_misHigh q_misTop q_mbits q_mpile m_length m_primeMany m_toldMany m_fate m_tail m_round m_tableKind m_areLaid m_unlike m_isFree a_mprimes a_mtable) H := hP.sub [0, 1, 2] rfl
    have hD : va_D A (wd58 cyI cyJ cyZ q_Md q_mprimes q_mtable q_mtext q_mtold q_mstretch q_mfewest q_misOdd q_misHigh q_misTop q_mbits q_mpile m_length m_primeMany m_toldMany m_fate m_tail m_round m_tableKind m_areLaid m_unlike m_isFree a_mprimes a_mtable) := hD.sub [0, 1, 2] (by decide) rfl
    refine lv_if_eq (tgt := 44) hx hb dX12_falling_21 (by decide) (fun c8z => ?_) (fun c8z => ?_)
    · have h := xt h c8z
      refine lv_iconst (v := (-1 : Int32)) hx hb dX12_falling_44 (by decide) ?_
      obtain rfl := Option.some.inj h
      exact W.iret (v := (-1 : Int32)) hx hb hr (fun t ht hW => ⟨⟨_, (), rfl, rfl, by rw [ht]; exact hP, hD⟩, hS.F ht⟩) hS.2.2 dX12_falling_45 hlocks
    · have h := xf h c8z
      refine lv_iload_n hx hb dX12_falling_24 rfl (lv_at hl 3 rfl) ?_
      refine lv_i2l (v := v3.toInt64) hx hb dX12_falling_25 rfl ?_
      refine lv_lconst (v := (0 : Int64)) hx hb dX12_falling_26 (by decide) ?_
      refine lv_ldc2 (v := (50 : Int64)) hx hb hown (hts (.constantLong RX12 146 (50)) (List.mem_of_getElem? (i := 3) rfl)) dX12_falling_27 ?_
      obtain ⟨r9z, hr9z, h⟩ := xb_at h
      have hPc := hP.sub (ws' := (wd37 cyI cyJ cyZ)) [] rfl
      have hDc := hD.sub (ws' := (wd37 cyI cyJ cyZ)) [] (by decide) rfl
      refine cal_i [] [0, 1, 2] (va_runS (As := [.long v3.toInt64, .long (0 : Int64), .long (50 : Int64)]) (rest := []) ⟨hx, hb, hml, hown, hts⟩ (c_X12_in l dC dI cyI cyJ cyZ N r9z H.size  v3.toInt64 (0 : Int64) (50 : Int64)  hr9z) (va_cwS 3 hts gX12_falling_X12_in rfl rfl rfl hd_X12_in ⟨Nat.le_of_ble_eq_true rfl, Nat.le_of_ble_eq_true rfl⟩) ⟨pC.blind, pC.pre hPc hG hDc⟩ rfl rfl hl.1 rfl (lv_room (Nat.le_of_ble_eq_true rfl)) dX12_falling_30 ⟨Nat.zero_le _, Nat.zero_le _⟩) hP hD hS hA rfl rfl rfl (by decide) (fun x11z u10z H locs hw hP hD hS => ?_)
      obtain rfl := hw.symm
      have hP : va_P (dC, dI) vwCl (wd58 cyI cyJ cyZ q_Md q_mprimes q_mtable q_mtext q_mtold q_mstretch q_mfewest q_misOdd q_misHigh q_misTop q_mbits q_mpile m_length m_primeMany m_toldMany m_fate m_tail m_round m_tableKind m_areLaid m_unlike m_isFree a_mprimes a_mtable) H := hP.sub [0, 1, 2] rfl
      have hD : va_D A (wd58 cyI cyJ cyZ q_Md q_mprimes q_mtable q_mtext q_mtold q_mstretch q_mfewest q_misOdd q_misHigh q_misTop q_mbits q_mpile m_length m_primeMany m_toldMany m_fate m_tail m_round m_tableKind m_areLaid m_unlike m_isFree a_mprimes a_mtable) := hD.sub [0, 1, 2] (by decide) rfl
      refine lv_if_eq (tgt := 44) hx hb dX12_falling_33 (by decide) (fun c12z => ?_) (fun c12z => ?_)
      · have h := xt h c12z
        refine lv_iconst (v := (-1 : Int32)) hx hb dX12_falling_44 (by decide) ?_
        obtain rfl := Option.some.inj h
        exact W.iret (v := (-1 : Int32)) hx hb hr (fun t ht hW => ⟨⟨_, (), rfl, rfl, by rw [ht]; exact hP, hD⟩, hS.F ht⟩) hS.2.2 dX12_falling_45 hlocks
      · have h := xf h c12z
        refine lv_iload hx hb dX12_falling_36 (lv_at hl 4 rfl) ?_
        obtain ⟨r13z, hr13z, h⟩ := xb_at h
        have hPc := hP.sub (ws' := (wd37 cyI cyJ cyZ)) [] rfl
        have hDc := hD.sub (ws' := (wd37 cyI cyJ cyZ)) [] (by decide) rfl
        refine cal_i [] [0, 1, 2] (va_runS (As := [.int v4]) (rest := []) ⟨hx, hb, hml, hown, hts⟩ (c_X12_isBound l dC dI cyI cyJ cyZ N r13z H.size  v4  hr13z) (va_cwS 1 hts gX12_falling_X12_isBound rfl rfl rfl hd_X12_isBound ⟨Nat.le_of_ble_eq_true rfl, Nat.le_of_ble_eq_true rfl⟩) ⟨pC.blind, pC.pre hPc hG hDc⟩ rfl rfl hl.1 rfl (lv_room (Nat.le_of_ble_eq_true rfl)) dX12_falling_38 ⟨Nat.zero_le _, Nat.zero_le _⟩) hP hD hS hA rfl rfl rfl (by decide) (fun x15z u14z H locs hw hP hD hS => ?_)
        obtain rfl := hw.symm
        have hP : va_P (dC, dI) vwCl (wd58 cyI cyJ cyZ q_Md q_mprimes q_mtable q_mtext q_mtold q_mstretch q_mfewest q_misOdd q_misHigh q_misTop q_mbits q_mpile m_length m_primeMany m_toldMany m_fate m_tail m_round m_tableKind m_areLaid m_unlike m_isFree a_mprimes a_mtable) H := hP.sub [0, 1, 2] rfl
        have hD : va_D A (wd58 cyI cyJ cyZ q_Md q_mprimes q_mtable q_mtext q_mtold q_mstretch q_mfewest q_misOdd q_misHigh q_misTop q_mbits q_mpile m_length m_primeMany m_toldMany m_fate m_tail m_round m_tableKind m_areLaid m_unlike m_isFree a_mprimes a_mtable) := hD.sub [0, 1, 2] (by decide) rfl
        refine lv_if_ne (tgt := 46) hx hb dX12_falling_41 (by decide) (fun c16z => ?_) (fun c16z => ?_)
        · have h := xf h c16z
          refine lv_aload_n hx hb dX12_falling_46 rfl (lv_at hl 0 rfl) ?_
          refine lv_iload_n hx hb dX12_falling_47 rfl (lv_at hl 1 rfl) ?_
          obtain ⟨r17z, hr17z, h⟩ := xb_at h
          have hPc := hP.sub (ws' := (wd58 cyI cyJ cyZ q_Md q_mprimes q_mtable q_mtext q_mtold q_mstretch q_mfewest q_misOdd q_misHigh q_misTop q_mbits q_mpile m_length m_primeMany m_toldMany m_fate m_tail m_round m_tableKind m_areLaid m_unlike m_isFree a_mprimes a_mtable)) [0, 1, 2] rfl
          have hDc := hD.sub (ws' := (wd58 cyI cyJ cyZ q_Md q_mprimes q_mtable q_mtext q_mtold q_mstretch q_mfewest q_misOdd q_misHigh q_misTop q_mbits q_mpile m_length m_primeMany m_toldMany m_fate m_tail m_round m_tableKind m_areLaid m_unlike m_isFree a_mprimes a_mtable)) [0, 1, 2] (by decide) rfl
          refine cal_v [0, 1, 2] [] (va_runV (As := [.int v1]) (rest := []) ⟨hx, hb, hml, hown, hts⟩ (c_X12_layTable l dC dI cyI cyJ cyZ N r17z H.size q_Md q_mprimes q_mtable q_mtext q_mtold q_mstretch q_mfewest q_misOdd q_misHigh q_misTop q_mbits q_mpile v1 m_length m_primeMany m_toldMany m_fate m_tail m_round m_tableKind m_areLaid m_unlike m_isFree a_mprimes a_mtable hr17z) (cwV 1 hts gX12_falling_X12_layTable rfl rfl rfl ⟨rfl, hd_X12_layTable⟩ ⟨Nat.le_of_ble_eq_true rfl, Nat.le_of_ble_eq_true rfl⟩) ⟨pC.blind, va_recv hK hPc (ci := 12) (q0 := 0) rfl rfl, pC.pre hPc hG hDc⟩ rfl rfl hl.1 rfl (lv_room (Nat.le_of_ble_eq_true rfl)) dX12_falling_48 ⟨Nat.zero_le _, Nat.zero_le _⟩) hP hD hS hA rfl rfl rfl (by decide) (fun u18z H locs _ hP hD hS => ?_)
          have hP : va_P (dC, dI) vwCl (wd58 cyI cyJ cyZ q_Md q_mprimes q_mtable q_mtext q_mtold q_mstretch q_mfewest q_misOdd q_misHigh q_misTop q_mbits q_mpile m_length r17z.1 m_toldMany m_fate m_tail m_round r17z.2.1 m_areLaid m_unlike m_isFree r17z.2.2.1 r17z.2.2.2) H := hP.sub [0, 1, 2] rfl
          have hD : va_D A (wd58 cyI cyJ cyZ q_Md q_mprimes q_mtable q_mtext q_mtold q_mstretch q_mfewest q_misOdd q_misHigh q_misTop q_mbits q_mpile m_length r17z.1 m_toldMany m_fate m_tail m_round r17z.2.1 m_areLaid m_unlike m_isFree r17z.2.2.1 r17z.2.2.2) := hD.sub [0, 1, 2] (by decide) rfl
          refine lv_iconst (v := (0 : Int32)) hx hb dX12_falling_51 (by decide) ?_
          refine lv_istore (lv' := [(5, .int (0 : Int32)), (0, .ref q_Md), (1, .int v1), (2, .int v2), (3, .int v3), (4, .int v4)]) hx hb dX12_falling_52 hl (by decide) rfl (fun ls hl => ?_)
          refine lv_iconst (v := (1 : Int32)) hx hb dX12_falling_54 (by decide) ?_
          refine lv_istore (lv' := [(6, .int (1 : Int32)), (5, .int (0 : Int32)), (0, .ref q_Md), (1, .int v1), (2, .int v2), (3, .int v3), (4, .int v4)]) hx hb dX12_falling_55 hl (by decide) rfl (fun ls hl => ?_)
          exact k_X12_falling_57 C0 N res q_Md q_mprimes q_mtable q_mtext q_mtold q_mstretch q_mfewest q_misOdd q_misHigh q_misTop q_mbits q_mpile v2 v3 v4 m_length r17z.1 m_toldMany m_fate m_tail m_round r17z.2.1 m_areLaid m_unlike m_isFree r17z.2.2.1 r17z.2.2.2 N (0 : Int32) (1 : Int32) h _ _ hP hD hS _ (lv_sub hl [2, 4, 5, 6, 1, 0] rfl)
        · have h := xt h c16z
          refine lv_iconst (v := (-1 : Int32)) hx hb dX12_falling_44 (by decide) ?_
          obtain rfl := Option.some.inj h
          exact W.iret (v := (-1 : Int32)) hx hb hr (fun t ht hW => ⟨⟨_, (), rfl, rfl, by rw [ht]; exact hP, hD⟩, hS.F ht⟩) hS.2.2 dX12_falling_45 hlocks
set_option maxRecDepth 100000 in
set_option maxHeartbeats 4000000 in
theorem c_X12_falling (l : Launch) (dC : Nat → ClassId) (dI : Nat → Nat → Nat) (cyI cyJ cyZ : ClassId) (N : Nat) (res : Int32 × Int32 × Int32 × (Nat → Int64) × (Nat → Int32)) (sz : Nat) (q_Md : Nat) (q_mprimes : Nat) (q_mtable : Nat) (q_mtext : Nat) (q_mtold : Nat) (q_mstretch : Nat) (q_mfewest : Nat) (q_misOdd : Nat) (q_misHigh : Nat) (q_misTop : Nat) (q_mbits : Nat) (q_mpile : Nat) (v1 : Int32) (v2 : Int32) (v3 : Int32) (v4 : Int32) (m_length : Int32) (m_primeMany : Int32) (m_toldMany : Int32) (m_fate : Int32) (m_tail : Int32) (m_round : Int32) (m_tableKind : Int32) (m_areLaid : Int32) (m_unlike : Int32) (m_isFree : Int32) (a_mprimes : Nat → Int64) (a_mtable : Nat → Int32) (h : f_X12_falling N v1 v2 v3 v4 m_primeMany m_tableKind a_mprimes a_mtable = some res) : Met l yX12_falling wsX12_falling rm_X12_falling (pC dC dI cyI cyJ cyZ [.ref q_Md, .int v1, .int v2, .int v3, .int v4] sz (wd58 cyI cyJ cyZ q_Md q_mprimes q_mtable q_mtext q_mtold q_mstretch q_mfewest q_misOdd q_misHigh q_misTop q_mbits q_mpile m_length m_primeMany m_toldMany m_fate m_tail m_round m_tableKind m_areLaid m_unlike m_isFree a_mprimes a_mtable)) (va_Qi (fun (r : Int32) (_ : Unit) => r = res.1) (bW dC dI (fun (u : Unit) => (wd58 cyI cyJ cyZ q_Md q_mprimes q_mtable q_mtext q_mtold q_mstretch q_mfewest q_misOdd q_misHigh q_misTop q_mbits q_mpile m_length res.2.1 m_toldMany m_fate m_tail m_round res.2.2.1 m_areLaid m_unlike m_isFree res.2.2.2.1 res.2.2.2.2)) (va_A (wd58 cyI cyJ cyZ q_Md q_mprimes q_mtable q_mtext q_mtold q_mstretch q_mfewest q_misOdd q_misHigh q_misTop q_mbits q_mpile m_length m_primeMany m_toldMany m_fate m_tail m_round m_tableKind m_areLaid m_unlike m_isFree a_mprimes a_mtable) sz)) (va_A (wd58 cyI cyJ cyZ q_Md q_mprimes q_mtable q_mtext q_mtold q_mstretch q_mfewest q_misOdd q_misHigh q_misTop q_mbits q_mpile m_length m_primeMany m_toldMany m_fate m_tail m_round m_tableKind m_areLaid m_unlike m_isFree a_mprimes a_mtable) sz)) 0 0 (va_A (wd58 cyI cyJ cyZ q_Md q_mprimes q_mtable q_mtext q_mtold q_mstretch q_mfewest q_misOdd q_misHigh q_misTop q_mbits q_mpile m_length m_primeMany m_toldMany m_fate m_tail m_round m_tableKind m_areLaid m_unlike m_isFree a_mprimes a_mtable) sz) := by
  refine Met.ofW (cc := cX12_falling) (maxL := 9) (ret := (some .int)) (by decide) rfl ?_
  intro p e s m args below meth c s₁ B hml hv
  obtain ⟨rfl, hsz, hP, hG, hD0⟩ := hv
  have hx := B.exec
  have hb := B.bytes
  have hr := B.returns
  have hts := atoms_spec (ws := wsX12_falling) B.pre
  have hown : s.vm.findClass RX12 = some m.cls := findClass_of_methodNamed B.named
  have hlocks := B.notSynchronized
  subst hsz
  have hD := hD0.self (sz := s.heap.size)
  generalize hAe : va_A (wd58 cyI cyJ cyZ q_Md q_mprimes q_mtable q_mtext q_mtold q_mstretch q_mfewest q_misOdd q_misHigh q_misTop q_mbits q_mpile m_length m_primeMany m_toldMany m_fate m_tail m_round m_tableKind m_areLaid m_unlike m_isFree a_mprimes a_mtable) s.heap.size = A at hD ⊢
  have hA : ∀ q : Nat, s.heap.size ≤ q → A q := fun q h => by rw [← hAe]; exact Or.inr h
  have hS : va_S A s.heap s.heap [] := va_S.rf
  have hl := lv_entry ([.ref q_Md, .int v1, .int v2, .int v3, .int v4]) (n := 9) (Nat.le_of_ble_eq_true rfl)
  rw [lg_entry_eq]
  generalize (lg_sl ([.ref q_Md, .int v1, .int v2, .int v3, .int v4]) ++ List.replicate (9 - (lg_sl ([.ref q_Md, .int v1, .int v2, .int v3, .int v4])).length) Slot.unset).toArray = ls at hl ⊢
  have hl : lv_has ls 9 [(0, .ref q_Md), (1, .int v1), (2, .int v2), (3, .int v3), (4, .int v4)] := hl
  exact k_X12_falling_0 ⟨hx, hb, hr, hml, hown, hts, hlocks, hG, hA⟩ N res q_Md q_mprimes q_mtable q_mtext q_mtold q_mstretch q_mfewest q_misOdd q_misHigh q_misTop q_mbits q_mpile v1 v2 v3 v4 m_length m_primeMany m_toldMany m_fate m_tail m_round m_tableKind m_areLaid m_unlike m_isFree a_mprimes a_mtable  h _ _ hP hD hS _ hl
/-- the cells Md, mbits -/
abbrev wd62 (cyI cyJ cyZ : ClassId) (q_Md : Nat) (q_mbits : Nat) (q_mtext : Nat) (q_mprimes : Nat) (q_mtold : Nat) (q_mtable : Nat) (q_mstretch : Nat) (q_mfewest : Nat) (q_misOdd : Nat) (q_misHigh : Nat) (q_misTop : Nat) (q_mpile : Nat) (m_length : Int32) (m_primeMany : Int32) (m_toldMany : Int32) (m_fate : Int32) (m_tail : Int32) (m_round : Int32) (m_tableKind : Int32) (m_areLaid : Int32) (m_unlike : Int32) (m_isFree : Int32) (a_mbits : Nat → Int64) : va_W := [(q_Md, .inr (12, [.int m_length, .ref q_mtext, .int m_primeMany, .ref q_mprimes, .int m_toldMany, .ref q_mtold, .int m_fate, .int m_tail, .int m_round, .int m_tableKind, .ref q_mtable, .ref q_mstretch, .ref q_mfewest, .int m_areLaid, .ref q_misOdd, .ref q_misHigh, .ref q_misTop, .ref q_mbits, .int m_unlike, .int m_isFree, .ref q_mpile])), (q_mbits, .inl (cyJ, 80, .inr (.inl a_mbits)))]
abbrev rm_X12_isMade : Room := { frames := 0, cells := 0, slots := 0, locals := 0 }
theorem hd_X12_isMade : yX12_isMade.cls ≠ "java/lang/invoke/MethodHandle" ∧ yX12_isMade.cls ≠ "java/lang/invoke/VarHandle" ∧ (parseMethodDescriptor yX12_isMade.desc).map (fun d => d.parameters.length) = some 1 := by decide +kernel
theorem iw_X12_isMade_X12 : ∀ w ∈ wsX120, w ∈ wsX12_isMade := List.forall_mem_cons.mpr ⟨List.mem_of_getElem? (i := 2) rfl, List.forall_mem_cons.mpr ⟨List.mem_of_getElem? (i := 3) rfl, List.forall_mem_cons.mpr ⟨List.mem_of_getElem? (i := 4) rfl, List.forall_mem_cons.mpr ⟨List.mem_of_getElem? (i := 5) rfl, List.forall_mem_cons.mpr ⟨List.mem_of_getElem? (i := 6) rfl, List.forall_mem_cons.mpr ⟨List.mem_of_getElem? (i := 7) rfl, List.forall_mem_cons.mpr ⟨List.mem_of_getElem? (i := 8) rfl, List.forall_mem_cons.mpr ⟨List.mem_of_getElem? (i := 9) rfl, List.forall_mem_cons.mpr ⟨List.mem_of_getElem? (i := 10) rfl, List.forall_mem_cons.mpr ⟨List.mem_of_getElem? (i := 11) rfl, List.forall_mem_cons.mpr ⟨List.mem_of_getElem? (i := 12) rfl, List.forall_mem_cons.mpr ⟨List.mem_of_getElem? (i := 13) rfl, List.forall_mem_cons.mpr ⟨List.mem_of_getElem? (i := 14) rfl, List.forall_mem_cons.mpr ⟨List.mem_of_getElem? (i := 15) rfl, List.forall_mem_cons.mpr ⟨List.mem_of_getElem? (i := 16) rfl, List.forall_mem_cons.mpr ⟨List.mem_of_getElem? (i := 17) rfl, List.forall_mem_cons.mpr ⟨List.mem_of_getElem? (i := 18) rfl, List.forall_mem_cons.mpr ⟨List.mem_of_getElem? (i := 19) rfl, List.forall_mem_cons.mpr ⟨List.mem_of_getElem? (i := 20) rfl, List.forall_mem_cons.mpr ⟨List.mem_of_getElem? (i := 21) rfl, List.forall_mem_cons.mpr ⟨List.mem_of_getElem? (i := 22) rfl, fun _ h => absurd h List.not_mem_nil⟩⟩⟩⟩⟩⟩⟩⟩⟩⟩⟩⟩⟩⟩⟩⟩⟩⟩⟩⟩⟩
def j_X12_isMade_137 (N : Nat) (v1 : Int32) (a_mbits : Nat → Int64) : Option (Int32 × (Nat → Int64)) :=
  xl (v1 / (64 : Int32)) fun y4z =>
  if y4z < 0 ∨ 80 ≤ y4z.toNatClampNeg then
    none
  else
    if (((a_mbits y4z.toNatClampNeg) >>> ((v1 - v1 / (64 : Int32) * (64 : Int32)).toInt64 &&& 63)) &&& (1 : Int64)) = (1 : Int64) then
      some ((1 : Int32), a_mbits)
    else
      some ((0 : Int32), a_mbits)
set_option maxRecDepth 100000 in
set_option maxHeartbeats 4000000 in
theorem k_X12_isMade_137 {p : Program} {l : Launch} {e : Env} {s : State} {m : MethodId} {args : Array Value} {below : List Frame} {meth : Method} {c : Code} {dC : Nat → ClassId} {dI : Nat → Nat → Nat} {cyI cyJ cyZ : ClassId} {A : Nat → Prop} (C0 : mC p s m meth c args cX12_isMade (some .boolean) 8 RX12 wsX12_isMade (gK dC dI cyI cyJ cyZ) A) (N : Nat) (res : Int32 × (Nat → Int64)) (q_Md : Nat) (q_mbits : Nat) (q_mtext : Nat) (q_mprimes : Nat) (q_mtold : Nat) (q_mtable : Nat) (q_mstretch : Nat) (q_mfewest : Nat) (q_misOdd : Nat) (q_misHigh : Nat) (q_misTop : Nat) (q_mpile : Nat) (v1 : Int32) (m_length : Int32) (m_primeMany : Int32) (m_toldMany : Int32) (m_fate : Int32) (m_tail : Int32) (m_round : Int32) (m_tableKind : Int32) (m_areLaid : Int32) (m_unlike : Int32) (m_isFree : Int32) (a_mbits : Nat → Int64) (h : j_X12_isMade_137 N v1 a_mbits = some res) : ∀ (H : Heap) (locs : List Loc), va_P (dC, dI) vwCl (wd62 cyI cyJ cyZ q_Md q_mbits q_mtext q_mprimes q_mtold q_mtable q_mstretch q_mfewest q_misOdd q_misHigh q_misTop q_mpile m_length m_primeMany m_toldMany m_fate m_tail m_round m_tableKind m_areLaid m_unlike m_isFree a_mbits) H → va_D A (wd62 cyI cyJ cyZ q_Md q_mbits q_mtext q_mprimes q_mtold q_mtable q_mstretch q_mfewest q_misOdd q_misHigh q_misTop q_mpile m_length m_primeMany m_toldMany m_fate m_tail m_round m_tableKind m_areLaid m_unlike m_isFree a_mbits) → va_S A s.heap H locs → ∀ (ls : Array Slot), lv_has ls 8 [(0, .ref q_Md), (1, .int v1)] → W p l e (headSpec wsX12_isMade rm_X12_isMade).room s m args below meth c H locs 0 0 (MQ below (va_Qi (fun (r : Int32) (_ : Unit) => r = res.1) (bW dC dI (fun (u : Unit) => (wd62 cyI cyJ cyZ q_Md q_mbits q_mtext q_mprimes q_mtold q_mtable q_mstretch q_mfewest q_misOdd q_misHigh q_misTop q_mpile m_length m_primeMany m_toldMany m_fate m_tail m_round m_tableKind m_areLaid m_unlike m_isFree res.2)) A) A) args s 0 0 A) (F0 m 137 ls []) := by
  obtain ⟨hx, hb, hr, hml, hown, hts, hlocks, hG, hA⟩ := id C0
  have hK := hG.1
  intro H locs hP hD hS ls hl
  unfold j_X12_isMade_137 at h
  refine lv_aload_n hx hb dX12_isMade_137 rfl (lv_at hl 0 rfl) ?_
  refine va_get (D := (dC, dI)) (ci := 12) (v := .ref q_mbits) (C := RX12) (T := TX12) (N := 21) hx hb hts iw_X12_isMade_X12 hown hK hP 0 rfl rfl 17 (by decide) (hts (.fieldLink RX12 40 "GoesIntoModel" "bits" "[J") (List.mem_of_getElem? (i := 1) rfl)) (fun _ h9 => h9) rfl dX12_isMade_138 ?_
  refine lv_iload_n hx hb dX12_isMade_141 rfl (lv_at hl 1 rfl) ?_
  refine lv_bipush (v := (64 : Int32)) hx hb dX12_isMade_142 (by decide) ?_
  refine lv_idiv hx hb dX12_isMade_144 (by decide) ?_
  refine lv_topi (fun y4z ey4z => ?_)
  have h := xl_at h ey4z
  obtain ⟨b5z, h⟩ := xn h
  refine va_lald hx hb hK hP 1 1 rfl rfl b5z dX12_isMade_145 ?_
  refine lv_iload_n hx hb dX12_isMade_146 rfl (lv_at hl 1 rfl) ?_
  refine lv_bipush (v := (64 : Int32)) hx hb dX12_isMade_147 (by decide) ?_
  refine lv_irem hx hb dX12_isMade_149 (by decide) ?_
  refine lv_lshr (v := (a_mbits y4z.toNatClampNeg) >>> ((v1 - v1 / (64 : Int32) * (64 : Int32)).toInt64 &&& 63)) hx hb dX12_isMade_150 rfl ?_
  refine lv_lconst (v := (1 : Int64)) hx hb dX12_isMade_151 (by decide) ?_
  refine lv_land hx hb dX12_isMade_152 ?_
  refine lv_lconst (v := (1 : Int64)) hx hb dX12_isMade_153 (by decide) ?_
  refine W.lcmp hx hb dX12_isMade_154 ?_
  refine lv_if_ne (tgt := 162) hx hb dX12_isMade_155 (by decide) (fun c6z => ?_) (fun c6z => ?_)
  · have c6z := fun z => c6z ((lg_cmp_eq _ _).mpr z)
    have h := xf h c6z
    refine lv_iconst (v := (0 : Int32)) hx hb dX12_isMade_162 (by decide) ?_
    obtain rfl := Option.some.inj h
    exact W.zret (v := (0 : Int32)) hx hb hr rfl (fun t ht hW => ⟨⟨_, (), rfl, rfl, by rw [ht]; exact hP, hD⟩, hS.F ht⟩) hS.2.2 dX12_isMade_163 hlocks
  · have c6z := (lg_cmp_eq _ _).mp c6z
    have h := xt h c6z
    refine lv_iconst (v := (1 : Int32)) hx hb dX12_isMade_158 (by decide) ?_
    refine lv_goto (tgt := 163) hx hb dX12_isMade_159 (by decide) ?_
    obtain rfl := Option.some.inj h
    exact W.zret (v := (1 : Int32)) hx hb hr rfl (fun t ht hW => ⟨⟨_, (), rfl, rfl, by rw [ht]; exact hP, hD⟩, hS.F ht⟩) hS.2.2 dX12_isMade_163 hlocks
def j_X12_isMade_110 (N : Nat) (k_56 : (Int32 × (Nat → Int64)) → Option (Int32 × (Nat → Int64))) (v5 : Int32) (s0 : Int64) (s1 : Int64) (a_mbits : Nat → Int64) : Option (Int32 × (Nat → Int64)) :=
  xl (s1 ||| s0) fun y18z =>
  if v5 < 0 ∨ 80 ≤ v5.toNatClampNeg then
    none
  else
    xl ((a_mbits v5.toNatClampNeg) ||| y18z) fun y20z =>
    xl (v5 + (-1 : Int32)) fun y21z =>
    k_56 (y21z, vp_updL a_mbits v5.toNatClampNeg y20z)
set_option maxRecDepth 100000 in
set_option maxHeartbeats 4000000 in
theorem k_X12_isMade_110 {p : Program} {l : Launch} {e : Env} {s : State} {m : MethodId} {args : Array Value} {below : List Frame} {meth : Method} {c : Code} {dC : Nat → ClassId} {dI : Nat → Nat → Nat} {cyI cyJ cyZ : ClassId} {A : Nat → Prop} (C0 : mC p s m meth c args cX12_isMade (some .boolean) 8 RX12 wsX12_isMade (gK dC dI cyI cyJ cyZ) A) (N : Nat) (res : Int32 × (Nat → Int64)) (q_Md : Nat) (q_mbits : Nat) (q_mtext : Nat) (q_mprimes : Nat) (q_mtold : Nat) (q_mtable : Nat) (q_mstretch : Nat) (q_mfewest : Nat) (q_misOdd : Nat) (q_misHigh : Nat) (q_misTop : Nat) (q_mpile : Nat) (v1 : Int32) (v3 : Int32) (v4 : Int32) (s0 : Int64) (s1 : Int64) (m_length : Int32) (m_primeMany : Int32) (m_toldMany : Int32) (m_fate : Int32) (m_tail : Int32) (m_round : Int32) (m_tableKind : Int32) (m_areLaid : Int32) (m_unlike : Int32) (m_isFree : Int32) (v2 : Int32) (k_56 : (Int32 × (Nat → Int64)) → Option (Int32 × (Nat → Int64))) (hk_56 : ∀ (v5 : Int32) (a_mbits : Nat → Int64), k_56 (v5, a_mbits) = some res → ∀ (H : Heap) (locs : List Loc), va_P (dC, dI) vwCl (wd62 cyI cyJ cyZ q_Md q_mbits q_mtext q_mprimes q_mtold q_mtable q_mstretch q_mfewest q_misOdd q_misHigh q_misTop q_mpile m_length m_primeMany m_toldMany m_fate m_tail m_round m_tableKind m_areLaid m_unlike m_isFree a_mbits) H → va_D A (wd62 cyI cyJ cyZ q_Md q_mbits q_mtext q_mprimes q_mtold q_mtable q_mstretch q_mfewest q_misOdd q_misHigh q_misTop q_mpile m_length m_primeMany m_toldMany m_fate m_tail m_round m_tableKind m_areLaid m_unlike m_isFree a_mbits) → va_S A s.heap H locs → ∀ (ls : Array Slot), lv_has ls 8 [(0, .ref q_Md), (1, .int v1), (2, .int v2), (3, .int v3), (4, .int v4), (5, .int v5)] → W p l e (headSpec wsX12_isMade rm_X12_isMade).room s m args below meth c H locs 0 0 (MQ below (va_Qi (fun (r : Int32) (_ : Unit) => r = res.1) (bW dC dI (fun (u : Unit) => (wd62 cyI cyJ cyZ q_Md q_mbits q_mtext q_mprimes q_mtold q_mtable q_mstretch q_mfewest q_misOdd q_misHigh q_misTop q_mpile m_length m_primeMany m_toldMany m_fate m_tail m_round m_tableKind m_areLaid m_unlike m_isFree res.2)) A) A) args s 0 0 A) (F0 m 56 ls [])) (v5 : Int32) (a_mbits : Nat → Int64) (h : j_X12_isMade_110 N k_56 v5 s0 s1 a_mbits = some res) : ∀ (H : Heap) (locs : List Loc), va_P (dC, dI) vwCl (wd62 cyI cyJ cyZ q_Md q_mbits q_mtext q_mprimes q_mtold q_mtable q_mstretch q_mfewest q_misOdd q_misHigh q_misTop q_mpile m_length m_primeMany m_toldMany m_fate m_tail m_round m_tableKind m_areLaid m_unlike m_isFree a_mbits) H → va_D A (wd62 cyI cyJ cyZ q_Md q_mbits q_mtext q_mprimes q_mtold q_mtable q_mstretch q_mfewest q_misOdd q_misHigh q_misTop q_mpile m_length m_primeMany m_toldMany m_fate m_tail m_round m_tableKind m_areLaid m_unlike m_isFree a_mbits) → va_S A s.heap H locs → ∀ (ls : Array Slot), lv_has ls 8 [(0, .ref q_Md), (1, .int v1), (2, .int v2), (3, .int v3), (4, .int v4), (5, .int v5)] → W p l e (headSpec wsX12_isMade rm_X12_isMade).room s m args below meth c H locs 0 0 (MQ below (va_Qi (fun (r : Int32) (_ : Unit) => r = res.1) (bW dC dI (fun (u : Unit) => (wd62 cyI cyJ cyZ q_Md q_mbits q_mtext q_mprimes q_mtold q_mtable q_mstretch q_mfewest q_misOdd q_misHigh q_misTop q_mpile m_length m_primeMany m_toldMany m_fate m_tail m_round m_tableKind m_areLaid m_unlike m_isFree res.2)) A) A) args s 0 0 A) (F0 m 110 ls [.long s0, .long s1]) := by
  obtain ⟨hx, hb, hr, hml, hown, hts, hlocks, hG, hA⟩ := id C0
  have hK := hG.1
  intro H locs hP hD hS ls hl
  unfold j_X12_isMade_110 at h
  refine lv_lor hx hb dX12_isMade_110 ?_
  refine lv_topl (fun y18z ey18z => ?_)
  have h := xl_at h ey18z
  refine lv_lstore (lv' := [(6, .long y18z), (0, .ref q_Md), (1, .int v1), (2, .int v2), (3, .int v3), (4, .int v4), (5, .int v5)]) hx hb dX12_isMade_111 hl (by decide) rfl (fun ls hl => ?_)
  refine lv_aload_n hx hb dX12_isMade_113 rfl (lv_at hl 1 rfl) ?_
  refine va_get (D := (dC, dI)) (ci := 12) (v := .ref q_mbits) (C := RX12) (T := TX12) (N := 21) hx hb hts iw_X12_isMade_X12 hown hK hP 0 rfl rfl 17 (by decide) (hts (.fieldLink RX12 40 "GoesIntoModel" "bits" "[J") (List.mem_of_getElem? (i := 1) rfl)) (fun _ h9 => h9) rfl dX12_isMade_114 ?_
  refine lv_iload hx hb dX12_isMade_117 (lv_at hl 6 rfl) ?_
  refine lv_dup2_11 hx hb dX12_isMade_119 rfl rfl ?_
  obtain ⟨b19z, h⟩ := xn h
  refine va_lald hx hb hK hP 1 1 rfl rfl b19z dX12_isMade_120 ?_
  refine lv_lload hx hb dX12_isMade_121 (lv_at hl 0 rfl) ?_
  refine lv_lor hx hb dX12_isMade_123 ?_
  refine lv_topl (fun y20z ey20z => ?_)
  have h := xl_at h ey20z
  refine va_last hx hb hK hP hD hS 1 1 rfl rfl b19z dX12_isMade_124 (fun H locs hP hD hS => ?_)
  have hP : va_P (dC, dI) vwCl (wd62 cyI cyJ cyZ q_Md q_mbits q_mtext q_mprimes q_mtold q_mtable q_mstretch q_mfewest q_misOdd q_misHigh q_misTop q_mpile m_length m_primeMany m_toldMany m_fate m_tail m_round m_tableKind m_areLaid m_unlike m_isFree (vp_updL a_mbits v5.toNatClampNeg y20z)) H := hP
  have hD : va_D A (wd62 cyI cyJ cyZ q_Md q_mbits q_mtext q_mprimes q_mtold q_mtable q_mstretch q_mfewest q_misOdd q_misHigh q_misTop q_mpile m_length m_primeMany m_toldMany m_fate m_tail m_round m_tableKind m_areLaid m_unlike m_isFree (vp_updL a_mbits v5.toNatClampNeg y20z)) := hD
  obtain ⟨y21z, ey21z⟩ : ∃ z : Int32, z = v5 + (-1 : Int32) := ⟨_, rfl⟩
  have h := xl_at h ey21z
  refine lv_iinc (v := y21z) (lv' := [(5, .int y21z), (6, .long y18z), (0, .ref q_Md), (1, .int v1), (2, .int v2), (3, .int v3), (4, .int v4)]) hx hb dX12_isMade_125 hl (k := 6) rfl (by rw [ey21z]; rfl) (by decide) rfl (fun ls hl => ?_)
  refine lv_goto (tgt := 56) hx hb dX12_isMade_128 (by decide) ?_
  exact hk_56 y21z (vp_updL a_mbits v5.toNatClampNeg y20z) h _ _ hP hD hS _ (lv_sub hl [2, 3, 4, 5, 6, 0] rfl)
def j_X12_isMade_109 (N : Nat) (k_56 : (Int32 × (Nat → Int64)) → Option (Int32 × (Nat → Int64))) (v5 : Int32) (s0 : Int64) (a_mbits : Nat → Int64) : Option (Int32 × (Nat → Int64)) :=
  j_X12_isMade_110 N k_56 v5 (0 : Int64) s0 a_mbits
set_option maxRecDepth 100000 in
set_option maxHeartbeats 4000000 in
theorem k_X12_isMade_109 {p : Program} {l : Launch} {e : Env} {s : State} {m : MethodId} {args : Array Value} {below : List Frame} {meth : Method} {c : Code} {dC : Nat → ClassId} {dI : Nat → Nat → Nat} {cyI cyJ cyZ : ClassId} {A : Nat → Prop} (C0 : mC p s m meth c args cX12_isMade (some .boolean) 8 RX12 wsX12_isMade (gK dC dI cyI cyJ cyZ) A) (N : Nat) (res : Int32 × (Nat → Int64)) (q_Md : Nat) (q_mbits : Nat) (q_mtext : Nat) (q_mprimes : Nat) (q_mtold : Nat) (q_mtable : Nat) (q_mstretch : Nat) (q_mfewest : Nat) (q_misOdd : Nat) (q_misHigh : Nat) (q_misTop : Nat) (q_mpile : Nat) (v1 : Int32) (v3 : Int32) (v4 : Int32) (s0 : Int64) (m_length : Int32) (m_primeMany : Int32) (m_toldMany : Int32) (m_fate : Int32) (m_tail : Int32) (m_round : Int32) (m_tableKind : Int32) (m_areLaid : Int32) (m_unlike : Int32) (m_isFree : Int32) (v2 : Int32) (k_56 : (Int32 × (Nat → Int64)) → Option (Int32 × (Nat → Int64))) (hk_56 : ∀ (v5 : Int32) (a_mbits : Nat → Int64), k_56 (v5, a_mbits) = some res → ∀ (H : Heap) (locs : List Loc), va_P (dC, dI) vwCl (wd62 cyI cyJ cyZ q_Md q_mbits q_mtext q_mprimes q_mtold q_mtable q_mstretch q_mfewest q_misOdd q_misHigh q_misTop q_mpile m_length m_primeMany m_toldMany m_fate m_tail m_round m_tableKind m_areLaid m_unlike m_isFree a_mbits) H → va_D A (wd62 cyI cyJ cyZ q_Md q_mbits q_mtext q_mprimes q_mtold q_mtable q_mstretch q_mfewest q_misOdd q_misHigh q_misTop q_mpile m_length m_primeMany m_toldMany m_fate m_tail m_round m_tableKind m_areLaid m_unlike m_isFree a_mbits) → va_S A s.heap H locs → ∀ (ls : Array Slot), lv_has ls 8 [(0, .ref q_Md), (1, .int v1), (2, .int v2), (3, .int v3), (4, .int v4), (5, .int v5)] → W p l e (headSpec wsX12_isMade rm_X12_isMade).room s m args below meth c H locs 0 0 (MQ below (va_Qi (fun (r : Int32) (_ : Unit) => r = res.1) (bW dC dI (fun (u : Unit) => (wd62 cyI cyJ cyZ q_Md q_mbits q_mtext q_mprimes q_mtold q_mtable q_mstretch q_mfewest q_misOdd q_misHigh q_misTop q_mpile m_length m_primeMany m_toldMany m_fate m_tail m_round m_tableKind m_areLaid m_unlike m_isFree res.2)) A) A) args s 0 0 A) (F0 m 56 ls [])) (v5 : Int32) (a_mbits : Nat → Int64) (h : j_X12_isMade_109 N k_56 v5 s0 a_mbits = some res) : ∀ (H : Heap) (locs : List Loc), va_P (dC, dI) vwCl (wd62 cyI cyJ cyZ q_Md q_mbits q_mtext q_mprimes q_mtold q_mtable q_mstretch q_mfewest q_misOdd q_misHigh q_misTop q_mpile m_length m_primeMany m_toldMany m_fate m_tail m_round m_tableKind m_areLaid m_unlike m_isFree a_mbits) H → va_D A (wd62 cyI cyJ cyZ q_Md q_mbits q_mtext q_mprimes q_mtold q_mtable q_mstretch q_mfewest q_misOdd q_misHigh q_misTop q_mpile m_length m_primeMany m_toldMany m_fate m_tail m_round m_tableKind m_areLaid m_unlike m_isFree a_mbits) → va_S A s.heap H locs → ∀ (ls : Array Slot), lv_has ls 8 [(0, .ref q_Md), (1, .int v1), (2, .int v2), (3, .int v3), (4, .int v4), (5, .int v5)] → W p l e (headSpec wsX12_isMade rm_X12_isMade).room s m args below meth c H locs 0 0 (MQ below (va_Qi (fun (r : Int32) (_ : Unit) => r = res.1) (bW dC dI (fun (u : Unit) => (wd62 cyI cyJ cyZ q_Md q_mbits q_mtext q_mprimes q_mtold q_mtable q_mstretch q_mfewest q_misOdd q_misHigh q_misTop q_mpile m_length m_primeMany m_toldMany m_fate m_tail m_round m_tableKind m_areLaid m_unlike m_isFree res.2)) A) A) args s 0 0 A) (F0 m 109 ls [.long s0]) := by
  obtain ⟨hx, hb, hr, hml, hown, hts, hlocks, hG, hA⟩ := id C0
  have hK := hG.1
  intro H locs hP hD hS ls hl
  unfold j_X12_isMade_109 at h
  refine lv_lconst (v := (0 : Int64)) hx hb dX12_isMade_109 (by decide) ?_
  exact k_X12_isMade_110 C0 N res q_Md q_mbits q_mtext q_mprimes q_mtold q_mtable q_mstretch q_mfewest q_misOdd q_misHigh q_misTop q_mpile v1 v3 v4 (0 : Int64) s0 m_length m_primeMany m_toldMany m_fate m_tail m_round m_tableKind m_areLaid m_unlike m_isFree v2 k_56 hk_56 v5 a_mbits  h _ _ hP hD hS _ (lv_sub hl [0, 1, 2, 3, 4, 5] rfl)
def s_X12_isMade_56 (N : Nat) (k_30 : (Int32 × (Nat → Int64)) → Option (Int32 × (Nat → Int64))) (v2 : Int32) (v3 : Int32) (v4 : Int32) (k_56 : (Int32 × (Nat → Int64)) → Option (Int32 × (Nat → Int64))) (v5 : Int32) (a_mbits : Nat → Int64) : Option (Int32 × (Nat → Int64)) :=
  if v5 < v3 then
    xl (v2 + (1 : Int32)) fun y13z =>
    k_30 (y13z, a_mbits)
  else
    xl (v5 - v3) fun y14z =>
    if y14z < 0 ∨ 80 ≤ y14z.toNatClampNeg then
      none
    else
      xl ((a_mbits y14z.toNatClampNeg) <<< (v4.toInt64 &&& 63)) fun y16z =>
      if v4 ≤ 0 then
        j_X12_isMade_109 N k_56 v5 y16z a_mbits
      else
        if v5 ≤ v3 then
          j_X12_isMade_109 N k_56 v5 y16z a_mbits
        else
          xl ((v5 - v3) - (1 : Int32)) fun y23z =>
          if y23z < 0 ∨ 80 ≤ y23z.toNatClampNeg then
            none
          else
            j_X12_isMade_110 N k_56 v5 (((a_mbits y23z.toNatClampNeg).toUInt64 >>> (((64 : Int32) - v4).toInt64.toUInt64 &&& Int64.toUInt64 63)).toInt64) y16z a_mbits
def l_X12_isMade_56 (N : Nat) (k_30 : (Int32 × (Nat → Int64)) → Option (Int32 × (Nat → Int64))) (v2 : Int32) (v3 : Int32) (v4 : Int32) (n : Nat) (z : Int32 × (Nat → Int64)) : Option (Int32 × (Nat → Int64)) := lp (fun k z => s_X12_isMade_56 N k_30 v2 v3 v4 k z.1 z.2) n z
set_option maxRecDepth 100000 in
set_option maxHeartbeats 4000000 in
theorem k_X12_isMade_56 {p : Program} {l : Launch} {e : Env} {s : State} {m : MethodId} {args : Array Value} {below : List Frame} {meth : Method} {c : Code} {dC : Nat → ClassId} {dI : Nat → Nat → Nat} {cyI cyJ cyZ : ClassId} {A : Nat → Prop} (C0 : mC p s m meth c args cX12_isMade (some .boolean) 8 RX12 wsX12_isMade (gK dC dI cyI cyJ cyZ) A) (N : Nat) (res : Int32 × (Nat → Int64)) (q_Md : Nat) (q_mbits : Nat) (q_mtext : Nat) (q_mprimes : Nat) (q_mtold : Nat) (q_mtable : Nat) (q_mstretch : Nat) (q_mfewest : Nat) (q_misOdd : Nat) (q_misHigh : Nat) (q_misTop : Nat) (q_mpile : Nat) (v1 : Int32) (v3 : Int32) (v4 : Int32) (m_length : Int32) (m_primeMany : Int32) (m_toldMany : Int32) (m_fate : Int32) (m_tail : Int32) (m_round : Int32) (m_tableKind : Int32) (m_areLaid : Int32) (m_unlike : Int32) (m_isFree : Int32) (k_30 : (Int32 × (Nat → Int64)) → Option (Int32 × (Nat → Int64))) (hk_30 : ∀ (v2 : Int32) (a_mbits : Nat → Int64), k_30 (v2, a_mbits) = some res → ∀ (H : Heap) (locs : List Loc), va_P (dC, dI) vwCl (wd62 cyI cyJ cyZ q_Md q_mbits q_mtext q_mprimes q_mtold q_mtable q_mstretch q_mfewest q_misOdd q_misHigh q_misTop q_mpile m_length m_primeMany m_toldMany m_fate m_tail m_round m_tableKind m_areLaid m_unlike m_isFree a_mbits) H → va_D A (wd62 cyI cyJ cyZ q_Md q_mbits q_mtext q_mprimes q_mtold q_mtable q_mstretch q_mfewest q_misOdd q_misHigh q_misTop q_mpile m_length m_primeMany m_toldMany m_fate m_tail m_round m_tableKind m_areLaid m_unlike m_isFree a_mbits) → va_S A s.heap H locs → ∀ (ls : Array Slot), lv_has ls 8 [(0, .ref q_Md), (1, .int v1), (2, .int v2)] → W p l e (headSpec wsX12_isMade rm_X12_isMade).room s m args below meth c H locs 0 0 (MQ below (va_Qi (fun (r : Int32) (_ : Unit) => r = res.1) (bW dC dI (fun (u : Unit) => (wd62 cyI cyJ cyZ q_Md q_mbits q_mtext q_mprimes q_mtold q_mtable q_mstretch q_mfewest q_misOdd q_misHigh q_misTop q_mpile m_length m_primeMany m_toldMany m_fate m_tail m_round m_tableKind m_areLaid m_unlike m_isFree res.2)) A) A) args s 0 0 A) (F0 m 30 ls [])) (v2 : Int32) : ∀ (n : Nat) (v5 : Int32) (a_mbits : Nat → Int64), l_X12_isMade_56 N k_30 v2 v3 v4 n (v5, a_mbits) = some res → ∀ (H : Heap) (locs : List Loc), va_P (dC, dI) vwCl (wd62 cyI cyJ cyZ q_Md q_mbits q_mtext q_mprimes q_mtold q_mtable q_mstretch q_mfewest q_misOdd q_misHigh q_misTop q_mpile m_length m_primeMany m_toldMany m_fate m_tail m_round m_tableKind m_areLaid m_unlike m_isFree a_mbits) H → va_D A (wd62 cyI cyJ cyZ q_Md q_mbits q_mtext q_mprimes q_mtold q_mtable q_mstretch q_mfewest q_misOdd q_misHigh q_misTop q_mpile m_length m_primeMany m_toldMany m_fate m_tail m_round m_tableKind m_areLaid m_unlike m_isFree a_mbits) → va_S A s.heap H locs → ∀ (ls : Array Slot), lv_has ls 8 [(0, .ref q_Md), (1, .int v1), (2, .int v2), (3, .int v3), (4, .int v4), (5, .int v5)] → W p l e (headSpec wsX12_isMade rm_X12_isMade).room s m args below meth c H locs 0 0 (MQ below (va_Qi (fun (r : Int32) (_ : Unit) => r = res.1) (bW dC dI (fun (u : Unit) => (wd62 cyI cyJ cyZ q_Md q_mbits q_mtext q_mprimes q_mtold q_mtable q_mstretch q_mfewest q_misOdd q_misHigh q_misTop q_mpile m_length m_primeMany m_toldMany m_fate m_tail m_round m_tableKind m_areLaid m_unlike m_isFree res.2)) A) A) args s 0 0 A) (F0 m 56 ls []) := by
  obtain ⟨hx, hb, hr, hml, hown, hts, hlocks, hG, hA⟩ := id C0
  have hK := hG.1
  intro n
  induction n with
  | zero =>
    intro v5 a_mbits h
    cases h
  | succ n ih =>
    intro v5 a_mbits h H locs hP hD hS ls hl
    have h : s_X12_isMade_56 N k_30 v2 v3 v4 (l_X12_isMade_56 N k_30 v2 v3 v4 n) v5 a_mbits = some res := h
    unfold s_X12_isMade_56 at h
    refine lv_iload hx hb dX12_isMade_56 (lv_at hl 5 rfl) ?_
    refine lv_iload_n hx hb dX12_isMade_58 rfl (lv_at hl 3 rfl) ?_
    refine lv_icmp_lt (tgt := 131) hx hb dX12_isMade_59 (by decide) (fun c12z => ?_) (fun c12z => ?_)
    · have h := xt h c12z
      obtain ⟨y13z, ey13z⟩ : ∃ z : Int32, z = v2 + (1 : Int32) := ⟨_, rfl⟩
      have h := xl_at h ey13z
      refine lv_iinc (v := y13z) (lv' := [(2, .int y13z), (0, .ref q_Md), (1, .int v1), (3, .int v3), (4, .int v4), (5, .int v5)]) hx hb dX12_isMade_131 hl (k := 2) rfl (by rw [ey13z]; rfl) (by decide) rfl (fun ls hl => ?_)
      refine lv_goto (tgt := 30) hx hb dX12_isMade_134 (by decide) ?_
      exact hk_30 y13z a_mbits h _ _ hP hD hS _ (lv_sub hl [1, 2, 0] rfl)
    · have h := xf h c12z
      refine lv_aload_n hx hb dX12_isMade_62 rfl (lv_at hl 0 rfl) ?_
      refine va_get (D := (dC, dI)) (ci := 12) (v := .ref q_mbits) (C := RX12) (T := TX12) (N := 21) hx hb hts iw_X12_isMade_X12 hown hK hP 0 rfl rfl 17 (by decide) (hts (.fieldLink RX12 40 "GoesIntoModel" "bits" "[J") (List.mem_of_getElem? (i := 1) rfl)) (fun _ h9 => h9) rfl dX12_isMade_63 ?_
      refine lv_iload hx hb dX12_isMade_66 (lv_at hl 5 rfl) ?_
      refine lv_iload_n hx hb dX12_isMade_68 rfl (lv_at hl 3 rfl) ?_
      refine lv_isub hx hb dX12_isMade_69 ?_
      refine lv_topi (fun y14z ey14z => ?_)
      have h := xl_at h ey14z
      obtain ⟨b15z, h⟩ := xn h
      refine va_lald hx hb hK hP 1 1 rfl rfl b15z dX12_isMade_70 ?_
      refine lv_iload hx hb dX12_isMade_71 (lv_at hl 4 rfl) ?_
      refine lv_lshl (v := (a_mbits y14z.toNatClampNeg) <<< (v4.toInt64 &&& 63)) hx hb dX12_isMade_73 rfl ?_
      refine lv_topl (fun y16z ey16z => ?_)
      have h := xl_at h ey16z
      refine lv_lstore (lv' := [(6, .long y16z), (0, .ref q_Md), (1, .int v1), (2, .int v2), (3, .int v3), (4, .int v4), (5, .int v5)]) hx hb dX12_isMade_74 hl (by decide) rfl (fun ls hl => ?_)
      refine lv_lload hx hb dX12_isMade_76 (lv_at hl 0 rfl) ?_
      refine lv_iload hx hb dX12_isMade_78 (lv_at hl 5 rfl) ?_
      refine lv_if_le (tgt := 109) hx hb dX12_isMade_80 (by decide) (fun c17z => ?_) (fun c17z => ?_)
      · have h := xt h c17z
        exact k_X12_isMade_109 C0 N res q_Md q_mbits q_mtext q_mprimes q_mtold q_mtable q_mstretch q_mfewest q_misOdd q_misHigh q_misTop q_mpile v1 v3 v4 y16z m_length m_primeMany m_toldMany m_fate m_tail m_round m_tableKind m_areLaid m_unlike m_isFree v2 _ ih v5 a_mbits  h _ _ hP hD hS _ (lv_sub hl [1, 2, 3, 4, 5, 6] rfl)
      · have h := xf h c17z
        refine lv_iload hx hb dX12_isMade_83 (lv_at hl 6 rfl) ?_
        refine lv_iload_n hx hb dX12_isMade_85 rfl (lv_at hl 4 rfl) ?_
        refine lv_icmp_le (tgt := 109) hx hb dX12_isMade_86 (by decide) (fun c22z => ?_) (fun c22z => ?_)
        · have h := xt h c22z
          exact k_X12_isMade_109 C0 N res q_Md q_mbits q_mtext q_mprimes q_mtold q_mtable q_mstretch q_mfewest q_misOdd q_misHigh q_misTop q_mpile v1 v3 v4 y16z m_length m_primeMany m_toldMany m_fate m_tail m_round m_tableKind m_areLaid m_unlike m_isFree v2 _ ih v5 a_mbits  h _ _ hP hD hS _ (lv_sub hl [1, 2, 3, 4, 5, 6] rfl)
        · have h := xf h c22z
          refine lv_aload_n hx hb dX12_isMade_89 rfl (lv_at hl 1 rfl) ?_
          refine va_get (D := (dC, dI)) (ci := 12) (v := .ref q_mbits) (C := RX12) (T := TX12) (N := 21) hx hb hts iw_X12_isMade_X12 hown hK hP 0 rfl rfl 17 (by decide) (hts (.fieldLink RX12 40 "GoesIntoModel" "bits" "[J") (List.mem_of_getElem? (i := 1) rfl)) (fun _ h9 => h9) rfl dX12_isMade_90 ?_
          refine lv_iload hx hb dX12_isMade_93 (lv_at hl 6 rfl) ?_
          refine lv_iload_n hx hb dX12_isMade_95 rfl (lv_at hl 4 rfl) ?_
          refine lv_isub hx hb dX12_isMade_96 ?_
          refine lv_iconst (v := (1 : Int32)) hx hb dX12_isMade_97 (by decide) ?_
          refine lv_isub hx hb dX12_isMade_98 ?_
          refine lv_topi (fun y23z ey23z => ?_)
          have h := xl_at h ey23z
          obtain ⟨b24z, h⟩ := xn h
          refine va_lald hx hb hK hP 1 1 rfl rfl b24z dX12_isMade_99 ?_
          refine lv_bipush (v := (64 : Int32)) hx hb dX12_isMade_100 (by decide) ?_
          refine lv_iload hx hb dX12_isMade_102 (lv_at hl 5 rfl) ?_
          refine lv_isub hx hb dX12_isMade_104 ?_
          refine lv_lushr (v := ((a_mbits y23z.toNatClampNeg).toUInt64 >>> (((64 : Int32) - v4).toInt64.toUInt64 &&& Int64.toUInt64 63)).toInt64) hx hb dX12_isMade_105 rfl ?_
          refine lv_goto (tgt := 110) hx hb dX12_isMade_106 (by decide) ?_
          exact k_X12_isMade_110 C0 N res q_Md q_mbits q_mtext q_mprimes q_mtold q_mtable q_mstretch q_mfewest q_misOdd q_misHigh q_misTop q_mpile v1 v3 v4 (((a_mbits y23z.toNatClampNeg).toUInt64 >>> (((64 : Int32) - v4).toInt64.toUInt64 &&& Int64.toUInt64 63)).toInt64) y16z m_length m_primeMany m_toldMany m_fate m_tail m_round m_tableKind m_areLaid m_unlike m_isFree v2 _ ih v5 a_mbits  h _ _ hP hD hS _ (lv_sub hl [1, 2, 3, 4, 5, 6] rfl)
def s_X12_isMade_30 (N : Nat) (v1 : Int32) (k_30 : (Int32 × (Nat → Int64)) → Option (Int32 × (Nat → Int64))) (v2 : Int32) (a_mbits : Nat → Int64) : Option (Int32 × (Nat → Int64)) :=
  if v1 ≤ v2 then
    j_X12_isMade_137 N v1 a_mbits
  else
    if v2 = 0 then
      none
    else
      if (v1 - v1 / v2 * v2) = 0 then
        xl (v2 / (64 : Int32)) fun y10z =>
        xl (v2 - v2 / (64 : Int32) * (64 : Int32)) fun y11z =>
        l_X12_isMade_56 N k_30 v2 y10z y11z N ((79 : Int32), a_mbits)
      else
        xl (v2 + (1 : Int32)) fun y9z =>
        k_30 (y9z, a_mbits)
def l_X12_isMade_30 (N : Nat) (v1 : Int32) (n : Nat) (z : Int32 × (Nat → Int64)) : Option (Int32 × (Nat → Int64)) := lp (fun k z => s_X12_isMade_30 N v1 k z.1 z.2) n z
set_option maxRecDepth 100000 in
set_option maxHeartbeats 4000000 in
theorem k_X12_isMade_30 {p : Program} {l : Launch} {e : Env} {s : State} {m : MethodId} {args : Array Value} {below : List Frame} {meth : Method} {c : Code} {dC : Nat → ClassId} {dI : Nat → Nat → Nat} {cyI cyJ cyZ : ClassId} {A : Nat → Prop} (C0 : mC p s m meth c args cX12_isMade (some .boolean) 8 RX12 wsX12_isMade (gK dC dI cyI cyJ cyZ) A) (N : Nat) (res : Int32 × (Nat → Int64)) (q_Md : Nat) (q_mbits : Nat) (q_mtext : Nat) (q_mprimes : Nat) (q_mtold : Nat) (q_mtable : Nat) (q_mstretch : Nat) (q_mfewest : Nat) (q_misOdd : Nat) (q_misHigh : Nat) (q_misTop : Nat) (q_mpile : Nat) (v1 : Int32) (m_length : Int32) (m_primeMany : Int32) (m_toldMany : Int32) (m_fate : Int32) (m_tail : Int32) (m_round : Int32) (m_tableKind : Int32) (m_areLaid : Int32) (m_unlike : Int32) (m_isFree : Int32) : ∀ (n : Nat) (v2 : Int32) (a_mbits : Nat → Int64), l_X12_isMade_30 N v1 n (v2, a_mbits) = some res → ∀ (H : Heap) (locs : List Loc), va_P (dC, dI) vwCl (wd62 cyI cyJ cyZ q_Md q_mbits q_mtext q_mprimes q_mtold q_mtable q_mstretch q_mfewest q_misOdd q_misHigh q_misTop q_mpile m_length m_primeMany m_toldMany m_fate m_tail m_round m_tableKind m_areLaid m_unlike m_isFree a_mbits) H → va_D A (wd62 cyI cyJ cyZ q_Md q_mbits q_mtext q_mprimes q_mtold q_mtable q_mstretch q_mfewest q_misOdd q_misHigh q_misTop q_mpile m_length m_primeMany m_toldMany m_fate m_tail m_round m_tableKind m_areLaid m_unlike m_isFree a_mbits) → va_S A s.heap H locs → ∀ (ls : Array Slot), lv_has ls 8 [(0, .ref q_Md), (1, .int v1), (2, .int v2)] → W p l e (headSpec wsX12_isMade rm_X12_isMade).room s m args below meth c H locs 0 0 (MQ below (va_Qi (fun (r : Int32) (_ : Unit) => r = res.1) (bW dC dI (fun (u : Unit) => (wd62 cyI cyJ cyZ q_Md q_mbits q_mtext q_mprimes q_mtold q_mtable q_mstretch q_mfewest q_misOdd q_misHigh q_misTop q_mpile m_length m_primeMany m_toldMany m_fate m_tail m_round m_tableKind m_areLaid m_unlike m_isFree res.2)) A) A) args s 0 0 A) (F0 m 30 ls []) := by
  obtain ⟨hx, hb, hr, hml, hown, hts, hlocks, hG, hA⟩ := id C0
  have hK := hG.1
  intro n
  induction n with
  | zero =>
    intro v2 a_mbits h
    cases h
  | succ n ih =>
    intro v2 a_mbits h H locs hP hD hS ls hl
    have h : s_X12_isMade_30 N v1 (l_X12_isMade_30 N v1 n) v2 a_mbits = some res := h
    unfold s_X12_isMade_30 at h
    refine lv_iload_n hx hb dX12_isMade_30 rfl (lv_at hl 2 rfl) ?_
    refine lv_iload_n hx hb dX12_isMade_31 rfl (lv_at hl 1 rfl) ?_
    refine lv_icmp_ge (tgt := 137) hx hb dX12_isMade_32 (by decide) (fun c3z => ?_) (fun c3z => ?_)
    · have h := xt h c3z
      exact k_X12_isMade_137 C0 N res q_Md q_mbits q_mtext q_mprimes q_mtold q_mtable q_mstretch q_mfewest q_misOdd q_misHigh q_misTop q_mpile v1 m_length m_primeMany m_toldMany m_fate m_tail m_round m_tableKind m_areLaid m_unlike m_isFree a_mbits  h _ _ hP hD hS _ (lv_sub hl [0, 1] rfl)
    · have h := xf h c3z
      refine lv_iload_n hx hb dX12_isMade_35 rfl (lv_at hl 1 rfl) ?_
      refine lv_iload_n hx hb dX12_isMade_36 rfl (lv_at hl 2 rfl) ?_
      obtain ⟨b7z, h⟩ := xn h
      refine lv_irem hx hb dX12_isMade_37 b7z ?_
      refine lv_if_ne (tgt := 131) hx hb dX12_isMade_38 (by decide) (fun c8z => ?_) (fun c8z => ?_)
      · have h := xf h c8z
        obtain ⟨y9z, ey9z⟩ : ∃ z : Int32, z = v2 + (1 : Int32) := ⟨_, rfl⟩
        have h := xl_at h ey9z
        refine lv_iinc (v := y9z) (lv' := [(2, .int y9z), (0, .ref q_Md), (1, .int v1)]) hx hb dX12_isMade_131 hl (k := 2) rfl (by rw [ey9z]; rfl) (by decide) rfl (fun ls hl => ?_)
        refine lv_goto (tgt := 30) hx hb dX12_isMade_134 (by decide) ?_
        exact ih y9z a_mbits h _ _ hP hD hS _ (lv_sub hl [1, 2, 0] rfl)
      · have h := xt h c8z
        refine lv_iload_n hx hb dX12_isMade_41 rfl (lv_at hl 2 rfl) ?_
        refine lv_bipush (v := (64 : Int32)) hx hb dX12_isMade_42 (by decide) ?_
        refine lv_idiv hx hb dX12_isMade_44 (by decide) ?_
        refine lv_topi (fun y10z ey10z => ?_)
        have h := xl_at h ey10z
        refine lv_istore_n (lv' := [(3, .int y10z), (0, .ref q_Md), (1, .int v1), (2, .int v2)]) hx hb dX12_isMade_45 rfl hl (by decide) rfl (fun ls hl => ?_)
        refine lv_iload_n hx hb dX12_isMade_46 rfl (lv_at hl 3 rfl) ?_
        refine lv_bipush (v := (64 : Int32)) hx hb dX12_isMade_47 (by decide) ?_
        refine lv_irem hx hb dX12_isMade_49 (by decide) ?_
        refine lv_topi (fun y11z ey11z => ?_)
        have h := xl_at h ey11z
        refine lv_istore (lv' := [(4, .int y11z), (3, .int y10z), (0, .ref q_Md), (1, .int v1), (2, .int v2)]) hx hb dX12_isMade_50 hl (by decide) rfl (fun ls hl => ?_)
        refine lv_bipush (v := (79 : Int32)) hx hb dX12_isMade_52 (by decide) ?_
        refine lv_istore (lv' := [(5, .int (79 : Int32)), (4, .int y11z), (3, .int y10z), (0, .ref q_Md), (1, .int v1), (2, .int v2)]) hx hb dX12_isMade_54 hl (by decide) rfl (fun ls hl => ?_)
        exact k_X12_isMade_56 C0 N res q_Md q_mbits q_mtext q_mprimes q_mtold q_mtable q_mstretch q_mfewest q_misOdd q_misHigh q_misTop q_mpile v1 y10z y11z m_length m_primeMany m_toldMany m_fate m_tail m_round m_tableKind m_areLaid m_unlike m_isFree _ ih v2 N (79 : Int32) a_mbits h _ _ hP hD hS _ (lv_sub hl [3, 4, 5, 2, 1, 0] rfl)
def j_X12_isMade_21 (N : Nat) (v1 : Int32) (a_mbits : Nat → Int64) : Option (Int32 × (Nat → Int64)) :=
  if (0 : Int32) < 0 ∨ 80 ≤ (0 : Int32).toNatClampNeg then
    none
  else
    l_X12_isMade_30 N v1 N ((1 : Int32), vp_updL a_mbits (0 : Int32).toNatClampNeg (1 : Int64))
set_option maxRecDepth 100000 in
set_option maxHeartbeats 4000000 in
theorem k_X12_isMade_21 {p : Program} {l : Launch} {e : Env} {s : State} {m : MethodId} {args : Array Value} {below : List Frame} {meth : Method} {c : Code} {dC : Nat → ClassId} {dI : Nat → Nat → Nat} {cyI cyJ cyZ : ClassId} {A : Nat → Prop} (C0 : mC p s m meth c args cX12_isMade (some .boolean) 8 RX12 wsX12_isMade (gK dC dI cyI cyJ cyZ) A) (N : Nat) (res : Int32 × (Nat → Int64)) (q_Md : Nat) (q_mbits : Nat) (q_mtext : Nat) (q_mprimes : Nat) (q_mtold : Nat) (q_mtable : Nat) (q_mstretch : Nat) (q_mfewest : Nat) (q_misOdd : Nat) (q_misHigh : Nat) (q_misTop : Nat) (q_mpile : Nat) (v1 : Int32) (m_length : Int32) (m_primeMany : Int32) (m_toldMany : Int32) (m_fate : Int32) (m_tail : Int32) (m_round : Int32) (m_tableKind : Int32) (m_areLaid : Int32) (m_unlike : Int32) (m_isFree : Int32) (a_mbits : Nat → Int64) (h : j_X12_isMade_21 N v1 a_mbits = some res) : ∀ (H : Heap) (locs : List Loc), va_P (dC, dI) vwCl (wd62 cyI cyJ cyZ q_Md q_mbits q_mtext q_mprimes q_mtold q_mtable q_mstretch q_mfewest q_misOdd q_misHigh q_misTop q_mpile m_length m_primeMany m_toldMany m_fate m_tail m_round m_tableKind m_areLaid m_unlike m_isFree a_mbits) H → va_D A (wd62 cyI cyJ cyZ q_Md q_mbits q_mtext q_mprimes q_mtold q_mtable q_mstretch q_mfewest q_misOdd q_misHigh q_misTop q_mpile m_length m_primeMany m_toldMany m_fate m_tail m_round m_tableKind m_areLaid m_unlike m_isFree a_mbits) → va_S A s.heap H locs → ∀ (ls : Array Slot), lv_has ls 8 [(0, .ref q_Md), (1, .int v1)] → W p l e (headSpec wsX12_isMade rm_X12_isMade).room s m args below meth c H locs 0 0 (MQ below (va_Qi (fun (r : Int32) (_ : Unit) => r = res.1) (bW dC dI (fun (u : Unit) => (wd62 cyI cyJ cyZ q_Md q_mbits q_mtext q_mprimes q_mtold q_mtable q_mstretch q_mfewest q_misOdd q_misHigh q_misTop q_mpile m_length m_primeMany m_toldMany m_fate m_tail m_round m_tableKind m_areLaid m_unlike m_isFree res.2)) A) A) args s 0 0 A) (F0 m 21 ls []) := by
  obtain ⟨hx, hb, hr, hml, hown, hts, hlocks, hG, hA⟩ := id C0
  have hK := hG.1
  intro H locs hP hD hS ls hl
  unfold j_X12_isMade_21 at h
  refine lv_aload_n hx hb dX12_isMade_21 rfl (lv_at hl 0 rfl) ?_
  refine va_get (D := (dC, dI)) (ci := 12) (v := .ref q_mbits) (C := RX12) (T := TX12) (N := 21) hx hb hts iw_X12_isMade_X12 hown hK hP 0 rfl rfl 17 (by decide) (hts (.fieldLink RX12 40 "GoesIntoModel" "bits" "[J") (List.mem_of_getElem? (i := 1) rfl)) (fun _ h9 => h9) rfl dX12_isMade_22 ?_
  refine lv_iconst (v := (0 : Int32)) hx hb dX12_isMade_25 (by decide) ?_
  refine lv_lconst (v := (1 : Int64)) hx hb dX12_isMade_26 (by decide) ?_
  obtain ⟨b2z, h⟩ := xn h
  refine va_last hx hb hK hP hD hS 1 1 rfl rfl b2z dX12_isMade_27 (fun H locs hP hD hS => ?_)
  have hP : va_P (dC, dI) vwCl (wd62 cyI cyJ cyZ q_Md q_mbits q_mtext q_mprimes q_mtold q_mtable q_mstretch q_mfewest q_misOdd q_misHigh q_misTop q_mpile m_length m_primeMany m_toldMany m_fate m_tail m_round m_tableKind m_areLaid m_unlike m_isFree (vp_updL a_mbits (0 : Int32).toNatClampNeg (1 : Int64))) H := hP
  have hD : va_D A (wd62 cyI cyJ cyZ q_Md q_mbits q_mtext q_mprimes q_mtold q_mtable q_mstretch q_mfewest q_misOdd q_misHigh q_misTop q_mpile m_length m_primeMany m_toldMany m_fate m_tail m_round m_tableKind m_areLaid m_unlike m_isFree (vp_updL a_mbits (0 : Int32).toNatClampNeg (1 : Int64))) := hD
  refine lv_iconst (v := (1 : Int32)) hx hb dX12_isMade_28 (by decide) ?_
  refine lv_istore_n (lv' := [(2, .int (1 : Int32)), (0, .ref q_Md), (1, .int v1)]) hx hb dX12_isMade_29 rfl hl (by decide) rfl (fun ls hl => ?_)
  exact k_X12_isMade_30 C0 N res q_Md q_mbits q_mtext q_mprimes q_mtold q_mtable q_mstretch q_mfewest q_misOdd q_misHigh q_misTop q_mpile v1 m_length m_primeMany m_toldMany m_fate m_tail m_round m_tableKind m_areLaid m_unlike m_isFree N (1 : Int32) (vp_updL a_mbits (0 : Int32).toNatClampNeg (1 : Int64)) h _ _ hP hD hS _ (lv_sub hl [1, 2, 0] rfl)
def s_X12_isMade_2 (N : Nat) (v1 : Int32) (k_2 : (Int32 × (Nat → Int64)) → Option (Int32 × (Nat → Int64))) (v2 : Int32) (a_mbits : Nat → Int64) : Option (Int32 × (Nat → Int64)) :=
  if (80 : Int32) ≤ v2 then
    j_X12_isMade_21 N v1 a_mbits
  else
    if v2 < 0 ∨ 80 ≤ v2.toNatClampNeg then
      none
    else
      xl (v2 + (1 : Int32)) fun y26z =>
      k_2 (y26z, vp_updL a_mbits v2.toNatClampNeg (0 : Int64))
def l_X12_isMade_2 (N : Nat) (v1 : Int32) (n : Nat) (z : Int32 × (Nat → Int64)) : Option (Int32 × (Nat → Int64)) := lp (fun k z => s_X12_isMade_2 N v1 k z.1 z.2) n z
set_option maxRecDepth 100000 in
set_option maxHeartbeats 4000000 in
theorem k_X12_isMade_2 {p : Program} {l : Launch} {e : Env} {s : State} {m : MethodId} {args : Array Value} {below : List Frame} {meth : Method} {c : Code} {dC : Nat → ClassId} {dI : Nat → Nat → Nat} {cyI cyJ cyZ : ClassId} {A : Nat → Prop} (C0 : mC p s m meth c args cX12_isMade (some .boolean) 8 RX12 wsX12_isMade (gK dC dI cyI cyJ cyZ) A) (N : Nat) (res : Int32 × (Nat → Int64)) (q_Md : Nat) (q_mbits : Nat) (q_mtext : Nat) (q_mprimes : Nat) (q_mtold : Nat) (q_mtable : Nat) (q_mstretch : Nat) (q_mfewest : Nat) (q_misOdd : Nat) (q_misHigh : Nat) (q_misTop : Nat) (q_mpile : Nat) (v1 : Int32) (m_length : Int32) (m_primeMany : Int32) (m_toldMany : Int32) (m_fate : Int32) (m_tail : Int32) (m_round : Int32) (m_tableKind : Int32) (m_areLaid : Int32) (m_unlike : Int32) (m_isFree : Int32) : ∀ (n : Nat) (v2 : Int32) (a_mbits : Nat → Int64), l_X12_isMade_2 N v1 n (v2, a_mbits) = some res → ∀ (H : Heap) (locs : List Loc), va_P (dC, dI) vwCl (wd62 cyI cyJ cyZ q_Md q_mbits q_mtext q_mprimes q_mtold q_mtable q_mstretch q_mfewest q_misOdd q_misHigh q_misTop q_mpile m_length m_primeMany m_toldMany m_fate m_tail m_round m_tableKind m_areLaid m_unlike m_isFree a_mbits) H → va_D A (wd62 cyI cyJ cyZ q_Md q_mbits q_mtext q_mprimes q_mtold q_mtable q_mstretch q_mfewest q_misOdd q_misHigh q_misTop q_mpile m_length m_primeMany m_toldMany m_fate m_tail m_round m_tableKind m_areLaid m_unlike m_isFree a_mbits) → va_S A s.heap H locs → ∀ (ls : Array Slot), lv_has ls 8 [(0, .ref q_Md), (1, .int v1), (2, .int v2)] → W p l e (headSpec wsX12_isMade rm_X12_isMade).room s m args below meth c H locs 0 0 (MQ below (va_Qi (fun (r : Int32) (_ : Unit) => r = res.1) (bW dC dI (fun (u : Unit) => (wd62 cyI cyJ cyZ q_Md q_mbits q_mtext q_mprimes q_mtold q_mtable q_mstretch q_mfewest q_misOdd q_misHigh q_misTop q_mpile m_length m_primeMany m_toldMany m_fate m_tail m_round m_tableKind m_areLaid m_unlike m_isFree res.2)) A) A) args s 0 0 A) (F0 m 2 ls []) := by
  obtain ⟨hx, hb, hr, hml, hown, hts, hlocks, hG, hA⟩ := id C0
  have hK := hG.1
  intro n
  induction n with
  | zero =>
    intro v2 a_mbits h
    cases h
  | succ n ih =>
    intro v2 a_mbits h H locs hP hD hS ls hl
    have h : s_X12_isMade_2 N v1 (l_X12_isMade_2 N v1 n) v2 a_mbits = some res := h
    unfold s_X12_isMade_2 at h
    refine lv_iload_n hx hb dX12_isMade_2 rfl (lv_at hl 2 rfl) ?_
    refine lv_bipush (v := (80 : Int32)) hx hb dX12_isMade_3 (by decide) ?_
    refine lv_icmp_ge (tgt := 21) hx hb dX12_isMade_5 (by decide) (fun c1z => ?_) (fun c1z => ?_)
    · have h := xt h c1z
      exact k_X12_isMade_21 C0 N res q_Md q_mbits q_mtext q_mprimes q_mtold q_mtable q_mstretch q_mfewest q_misOdd q_misHigh q_misTop q_mpile v1 m_length m_primeMany m_toldMany m_fate m_tail m_round m_tableKind m_areLaid m_unlike m_isFree a_mbits  h _ _ hP hD hS _ (lv_sub hl [0, 1] rfl)
    · have h := xf h c1z
      refine lv_aload_n hx hb dX12_isMade_8 rfl (lv_at hl 0 rfl) ?_
      refine va_get (D := (dC, dI)) (ci := 12) (v := .ref q_mbits) (C := RX12) (T := TX12) (N := 21) hx hb hts iw_X12_isMade_X12 hown hK hP 0 rfl rfl 17 (by decide) (hts (.fieldLink RX12 40 "GoesIntoModel" "bits" "[J") (List.mem_of_getElem? (i := 1) rfl)) (fun _ h9 => h9) rfl dX12_isMade_9 ?_
      refine lv_iload_n hx hb dX12_isMade_12 rfl (lv_at hl 2 rfl) ?_
      refine lv_lconst (v := (0 : Int64)) hx hb dX12_isMade_13 (by decide) ?_
      obtain ⟨b25z, h⟩ := xn h
      refine va_last hx hb hK hP hD hS 1 1 rfl rfl b25z dX12_isMade_14 (fun H locs hP hD hS => ?_)
      have hP : va_P (dC, dI) vwCl (wd62 cyI cyJ cyZ q_Md q_mbits q_mtext q_mprimes q_mtold q_mtable q_mstretch q_mfewest q_misOdd q_misHigh q_misTop q_mpile m_length m_primeMany m_toldMany m_fate m_tail m_round m_tableKind m_areLaid m_unlike m_isFree (vp_updL a_mbits v2.toNatClampNeg (0 : Int64))) H := hP
      have hD : va_D A (wd62 cyI cyJ cyZ q_Md q_mbits q_mtext q_mprimes q_mtold q_mtable q_mstretch q_mfewest q_misOdd q_misHigh q_misTop q_mpile m_length m_primeMany m_toldMany m_fate m_tail m_round m_tableKind m_areLaid m_unlike m_isFree (vp_updL a_mbits v2.toNatClampNeg (0 : Int64))) := hD
      obtain ⟨y26z, ey26z⟩ : ∃ z : Int32, z = v2 + (1 : Int32) := ⟨_, rfl⟩
      have h := xl_at h ey26z
      refine lv_iinc (v := y26z) (lv' := [(2, .int y26z), (0, .ref q_Md), (1, .int v1)]) hx hb dX12_isMade_15 hl (k := 2) rfl (by rw [ey26z]; rfl) (by decide) rfl (fun ls hl => ?_)
      refine lv_goto (tgt := 2) hx hb dX12_isMade_18 (by decide) ?_
      exact ih y26z (vp_updL a_mbits v2.toNatClampNeg (0 : Int64)) h _ _ hP hD hS _ (lv_sub hl [1, 2, 0] rfl)
def f_X12_isMade (N : Nat) (v1 : Int32) (a_mbits : Nat → Int64) : Option (Int32 × (Nat → Int64)) :=
  l_X12_isMade_2 N v1 N ((0 : Int32), a_mbits)
set_option maxRecDepth 100000 in
set_option maxHeartbeats 4000000 in
theorem k_X12_isMade_0 {p : Program} {l : Launch} {e : Env} {s : State} {m : MethodId} {args : Array Value} {below : List Frame} {meth : Method} {c : Code} {dC : Nat → ClassId} {dI : Nat → Nat → Nat} {cyI cyJ cyZ : ClassId} {A : Nat → Prop} (C0 : mC p s m meth c args cX12_isMade (some .boolean) 8 RX12 wsX12_isMade (gK dC dI cyI cyJ cyZ) A) (N : Nat) (res : Int32 × (Nat → Int64)) (q_Md : Nat) (q_mbits : Nat) (q_mtext : Nat) (q_mprimes : Nat) (q_mtold : Nat) (q_mtable : Nat) (q_mstretch : Nat) (q_mfewest : Nat) (q_misOdd : Nat) (q_misHigh : Nat) (q_misTop : Nat) (q_mpile : Nat) (v1 : Int32) (m_length : Int32) (m_primeMany : Int32) (m_toldMany : Int32) (m_fate : Int32) (m_tail : Int32) (m_round : Int32) (m_tableKind : Int32) (m_areLaid : Int32) (m_unlike : Int32) (m_isFree : Int32) (a_mbits : Nat → Int64) (h : f_X12_isMade N v1 a_mbits = some res) : ∀ (H : Heap) (locs : List Loc), va_P (dC, dI) vwCl (wd62 cyI cyJ cyZ q_Md q_mbits q_mtext q_mprimes q_mtold q_mtable q_mstretch q_mfewest q_misOdd q_misHigh q_misTop q_mpile m_length m_primeMany m_toldMany m_fate m_tail m_round m_tableKind m_areLaid m_unlike m_isFree a_mbits) H → va_D A (wd62 cyI cyJ cyZ q_Md q_mbits q_mtext q_mprimes q_mtold q_mtable q_mstretch q_mfewest q_misOdd q_misHigh q_misTop q_mpile m_length m_primeMany m_toldMany m_fate m_tail m_round m_tableKind m_areLaid m_unlike m_isFree a_mbits) → va_S A s.heap H locs → ∀ (ls : Array Slot), lv_has ls 8 [(0, .ref q_Md), (1, .int v1)] → W p l e (headSpec wsX12_isMade rm_X12_isMade).room s m args below meth c H locs 0 0 (MQ below (va_Qi (fun (r : Int32) (_ : Unit) => r = res.1) (bW dC dI (fun (u : Unit) => (wd62 cyI cyJ cyZ q_Md q_mbits q_mtext q_mprimes q_mtold q_mtable q_mstretch q_mfewest q_misOdd q_misHigh q_misTop q_mpile m_length m_primeMany m_toldMany m_fate m_tail m_round m_tableKind m_areLaid m_unlike m_isFree res.2)) A) A) args s 0 0 A) (F0 m 0 ls []) := by
  obtain ⟨hx, hb, hr, hml, hown, hts, hlocks, hG, hA⟩ := id C0
  have hK := hG.1
  intro H locs hP hD hS ls hl
  unfold f_X12_isMade at h
  refine lv_iconst (v := (0 : Int32)) hx hb dX12_isMade_0 (by decide) ?_
  refine lv_istore_n (lv' := [(2, .int (0 : Int32)), (0, .ref q_Md), (1, .int v1)]) hx hb dX12_isMade_1 rfl hl (by decide) rfl (fun ls hl => ?_)
  exact k_X12_isMade_2 C0 N res q_Md q_mbits q_mtext q_mprimes q_mtold q_mtable q_mstretch q_mfewest q_misOdd q_misHigh q_misTop q_mpile v1 m_length m_primeMany m_toldMany m_fate m_tail m_round m_tableKind m_areLaid m_unlike m_isFree N (0 : Int32) a_mbits h _ _ hP hD hS _ (lv_sub hl [1, 2, 0] rfl)
set_option maxRecDepth 100000 in
set_option maxHeartbeats 4000000 in
theorem c_X12_isMade (l : Launch) (dC : Nat → ClassId) (dI : Nat → Nat → Nat) (cyI cyJ cyZ : ClassId) (N : Nat) (res : Int32 × (Nat → Int64)) (sz : Nat) (q_Md : Nat) (q_mbits : Nat) (q_mtext : Nat) (q_mprimes : Nat) (q_mtold : Nat) (q_mtable : Nat) (q_mstretch : Nat) (q_mfewest : Nat) (q_misOdd : Nat) (q_misHigh : Nat) (q_misTop : Nat) (q_mpile : Nat) (v1 : Int32) (m_length : Int32) (m_primeMany : Int32) (m_toldMany : Int32) (m_fate : Int32) (m_tail : Int32) (m_round : Int32) (m_tableKind : Int32) (m_areLaid : Int32) (m_unlike : Int32) (m_isFree : Int32) (a_mbits : Nat → Int64) (h : f_X12_isMade N v1 a_mbits = some res) : Met l yX12_isMade wsX12_isMade rm_X12_isMade (pC dC dI cyI cyJ cyZ [.ref q_Md, .int v1] sz (wd62 cyI cyJ cyZ q_Md q_mbits q_mtext q_mprimes q_mtold q_mtable q_mstretch q_mfewest q_misOdd q_misHigh q_misTop q_mpile m_length m_primeMany m_toldMany m_fate m_tail m_round m_tableKind m_areLaid m_unlike m_isFree a_mbits)) (va_Qi (fun (r : Int32) (_ : Unit) => r = res.1) (bW dC dI (fun (u : Unit) => (wd62 cyI cyJ cyZ q_Md q_mbits q_mtext q_mprimes q_mtold q_mtable q_mstretch q_mfewest q_misOdd q_misHigh q_misTop q_mpile m_length m_primeMany m_toldMany m_fate m_tail m_round m_tableKind m_areLaid m_unlike m_isFree res.2)) (va_A (wd62 cyI cyJ cyZ q_Md q_mbits q_mtext q_mprimes q_mtold q_mtable q_mstretch q_mfewest q_misOdd q_misHigh q_misTop q_mpile m_length m_primeMany m_toldMany m_fate m_tail m_round m_tableKind m_areLaid m_unlike m_isFree a_mbits) sz)) (va_A (wd62 cyI cyJ cyZ q_Md q_mbits q_mtext q_mprimes q_mtold q_mtable q_mstretch q_mfewest q_misOdd q_misHigh q_misTop q_mpile m_length m_primeMany m_toldMany m_fate m_tail m_round m_tableKind m_areLaid m_unlike m_isFree a_mbits) sz)) 0 0 (va_A (wd62 cyI cyJ cyZ q_Md q_mbits q_mtext q_mprimes q_mtold q_mtable q_mstretch q_mfewest q_misOdd q_misHigh q_misTop q_mpile m_length m_primeMany m_toldMany m_fate m_tail m_round m_tableKind m_areLaid m_unlike m_isFree a_mbits) sz) := by
  refine Met.ofW (cc := cX12_isMade) (maxL := 8) (ret := (some .boolean)) (by decide) rfl ?_
  intro p e s m args below meth c s₁ B hml hv
  obtain ⟨rfl, hsz, hP, hG, hD0⟩ := hv
  have hx := B.exec
  have hb := B.bytes
  have hr := B.returns
  have hts := atoms_spec (ws := wsX12_isMade) B.pre
  have hown : s.vm.findClass RX12 = some m.cls := findClass_of_methodNamed B.named
  have hlocks := B.notSynchronized
  subst hsz
  have hD := hD0.self (sz := s.heap.size)
  generalize hAe : va_A (wd62 cyI cyJ cyZ q_Md q_mbits q_mtext q_mprimes q_mtold q_mtable q_mstretch q_mfewest q_misOdd q_misHigh q_misTop q_mpile m_length m_primeMany m_toldMany m_fate m_tail m_round m_tableKind m_areLaid m_unlike m_isFree a_mbits) s.heap.size = A at hD ⊢
  have hA : ∀ q : Nat, s.heap.size ≤ q → A q := fun q h => by rw [← hAe]; exact Or.inr h
  have hS : va_S A s.heap s.heap [] := va_S.rf
  have hl := lv_entry ([.ref q_Md, .int v1]) (n := 8) (Nat.le_of_ble_eq_true rfl)
  rw [lg_entry_eq]
  generalize (lg_sl ([.ref q_Md, .int v1]) ++ List.replicate (8 - (lg_sl ([.ref q_Md, .int v1])).length) Slot.unset).toArray = ls at hl ⊢
  have hl : lv_has ls 8 [(0, .ref q_Md), (1, .int v1)] := hl
  exact k_X12_isMade_0 ⟨hx, hb, hr, hml, hown, hts, hlocks, hG, hA⟩ N res q_Md q_mbits q_mtext q_mprimes q_mtold q_mtable q_mstretch q_mfewest q_misOdd q_misHigh q_misTop q_mpile v1 m_length m_primeMany m_toldMany m_fate m_tail m_round m_tableKind m_areLaid m_unlike m_isFree a_mbits  h _ _ hP hD hS _ hl
/-- the cells Md, mprimes, mtable, misOdd, misHigh, misTop, mbits -/
abbrev wd63 (cyI cyJ cyZ : ClassId) (q_Md : Nat) (q_mprimes : Nat) (q_mtable : Nat) (q_misOdd : Nat) (q_misHigh : Nat) (q_misTop : Nat) (q_mbits : Nat) (q_mtext : Nat) (q_mtold : Nat) (q_mstretch : Nat) (q_mfewest : Nat) (q_mpile : Nat) (m_length : Int32) (m_primeMany : Int32) (m_toldMany : Int32) (m_fate : Int32) (m_tail : Int32) (m_round : Int32) (m_tableKind : Int32) (m_areLaid : Int32) (m_unlike : Int32) (m_isFree : Int32) (a_mprimes : Nat → Int64) (a_mtable : Nat → Int32) (a_misOdd : Nat → Int32) (a_misHigh : Nat → Int32) (a_misTop : Nat → Int32) (a_mbits : Nat → Int64) : va_W := [(q_Md, .inr (12, [.int m_length, .ref q_mtext, .int m_primeMany, .ref q_mprimes, .int m_toldMany, .ref q_mtold, .int m_fate, .int m_tail, .int m_round, .int m_tableKind, .ref q_mtable, .ref q_mstretch, .ref q_mfewest, .int m_areLaid, .ref q_misOdd, .ref q_misHigh, .ref q_misTop, .ref q_mbits, .int m_unlike, .int m_isFree, .ref q_mpile])), (q_mprimes, .inl (cyJ, 40, .inr (.inl a_mprimes))), (q_mtable, .inl (cyI, 50001, .inl a_mtable)), (q_misOdd, .inl (cyZ, 5001, .inl a_misOdd)), (q_misHigh, .inl (cyZ, 5001, .inl a_misHigh)), (q_misTop, .inl (cyZ, 5001, .inl a_misTop)), (q_mbits, .inl (cyJ, 80, .inr (.inl a_mbits)))]
abbrev rm_X12_layFlags : Room := { frames := 4, cells := 0, slots := 0, locals := 107 }
theorem hd_X12_layFlags : yX12_layFlags.cls ≠ "java/lang/invoke/MethodHandle" ∧ yX12_layFlags.cls ≠ "java/lang/invoke/VarHandle" ∧ (parseMethodDescriptor yX12_layFlags.desc).map (fun d => d.parameters.length) = some 0 := by decide +kernel
theorem iw_X12_layFlags_X12 : ∀ w ∈ wsX120, w ∈ wsX12_layFlags := List.forall_mem_cons.mpr ⟨List.mem_of_getElem? (i := 37) rfl, List.forall_mem_cons.mpr ⟨List.mem_of_getElem? (i := 38) rfl, List.forall_mem_cons.mpr ⟨List.mem_of_getElem? (i := 39) rfl, List.forall_mem_cons.mpr ⟨List.mem_of_getElem? (i := 40) rfl, List.forall_mem_cons.mpr ⟨List.mem_of_getElem? (i := 41) rfl, List.forall_mem_cons.mpr ⟨List.mem_of_getElem? (i := 42) rfl, List.forall_mem_cons.mpr ⟨List.mem_of_getElem? (i := 43) rfl, List.forall_mem_cons.mpr ⟨List.mem_of_getElem? (i := 44) rfl, List.forall_mem_cons.mpr ⟨List.mem_of_getElem? (i := 45) rfl, List.forall_mem_cons.mpr ⟨List.mem_of_getElem? (i := 46) rfl, List.forall_mem_cons.mpr ⟨List.mem_of_getElem? (i := 47) rfl, List.forall_mem_cons.mpr ⟨List.mem_of_getElem? (i := 48) rfl, List.forall_mem_cons.mpr ⟨List.mem_of_getElem? (i := 49) rfl, List.forall_mem_cons.mpr ⟨List.mem_of_getElem? (i := 50) rfl, List.forall_mem_cons.mpr ⟨List.mem_of_getElem? (i := 51) rfl, List.forall_mem_cons.mpr ⟨List.mem_of_getElem? (i := 52) rfl, List.forall_mem_cons.mpr ⟨List.mem_of_getElem? (i := 53) rfl, List.forall_mem_cons.mpr ⟨List.mem_of_getElem? (i := 54) rfl, List.forall_mem_cons.mpr ⟨List.mem_of_getElem? (i := 55) rfl, List.forall_mem_cons.mpr ⟨List.mem_of_getElem? (i := 56) rfl, List.forall_mem_cons.mpr ⟨List.mem_of_getElem? (i := 57) rfl, fun _ h => absurd h List.not_mem_nil⟩⟩⟩⟩⟩⟩⟩⟩⟩⟩⟩⟩⟩⟩⟩⟩⟩⟩⟩⟩⟩
def j_X12_layFlags_142 (N : Nat) (k_24 : (Int32 × Int32 × Int32 × (Nat → Int32) × (Nat → Int32) × (Nat → Int32) × (Nat → Int64)) → Option (Int32 × Int32 × Int32 × (Nat → Int64) × (Nat → Int32) × (Nat → Int32) × (Nat → Int32) × (Nat → Int32) × (Nat → Int64))) (v2 : Int32) (v3 : Int32) (s0 : Int32) (a_misOdd : Nat → Int32) (a_misHigh : Nat → Int32) (a_misTop : Nat → Int32) (a_mbits : Nat → Int64) : Option (Int32 × Int32 × Int32 × (Nat → Int64) × (Nat → Int32) × (Nat → Int32) × (Nat → Int32) × (Nat → Int32) × (Nat → Int64)) :=
  if v3 < 0 ∨ 5001 ≤ v3.toNatClampNeg then
    none
  else
    if (a_misTop v3.toNatClampNeg) = 0 then
      xl (v3 + (1 : Int32)) fun y19z =>
      k_24 (s0, v2, y19z, a_misOdd, a_misHigh, a_misTop, a_mbits)
    else
      xl (v3 + (1 : Int32)) fun y20z =>
      k_24 (s0, v3, y20z, a_misOdd, a_misHigh, a_misTop, a_mbits)
set_option maxRecDepth 100000 in
set_option maxHeartbeats 4000000 in
theorem k_X12_layFlags_142 {p : Program} {l : Launch} {e : Env} {s : State} {m : MethodId} {args : Array Value} {below : List Frame} {meth : Method} {c : Code} {dC : Nat → ClassId} {dI : Nat → Nat → Nat} {cyI cyJ cyZ : ClassId} {A : Nat → Prop} (C0 : mC p s m meth c args cX12_layFlags none 4 RX12 wsX12_layFlags (gK dC dI cyI cyJ cyZ) A) (N : Nat) (res : Int32 × Int32 × Int32 × (Nat → Int64) × (Nat → Int32) × (Nat → Int32) × (Nat → Int32) × (Nat → Int32) × (Nat → Int64)) (q_Md : Nat) (q_mprimes : Nat) (q_mtable : Nat) (q_misOdd : Nat) (q_misHigh : Nat) (q_misTop : Nat) (q_mbits : Nat) (q_mtext : Nat) (q_mtold : Nat) (q_mstretch : Nat) (q_mfewest : Nat) (q_mpile : Nat) (s0 : Int32) (m_length : Int32) (m_primeMany : Int32) (m_toldMany : Int32) (m_fate : Int32) (m_tail : Int32) (m_round : Int32) (m_tableKind : Int32) (m_areLaid : Int32) (m_unlike : Int32) (m_isFree : Int32) (a_mprimes : Nat → Int64) (a_mtable : Nat → Int32) (k_24 : (Int32 × Int32 × Int32 × (Nat → Int32) × (Nat → Int32) × (Nat → Int32) × (Nat → Int64)) → Option (Int32 × Int32 × Int32 × (Nat → Int64) × (Nat → Int32) × (Nat → Int32) × (Nat → Int32) × (Nat → Int32) × (Nat → Int64))) (hk_24 : ∀ (v1 : Int32) (v2 : Int32) (v3 : Int32) (a_misOdd : Nat → Int32) (a_misHigh : Nat → Int32) (a_misTop : Nat → Int32) (a_mbits : Nat → Int64), k_24 (v1, v2, v3, a_misOdd, a_misHigh, a_misTop, a_mbits) = some res → ∀ (H : Heap) (locs : List Loc), va_P (dC, dI) vwCl (wd63 cyI cyJ cyZ q_Md q_mprimes q_mtable q_misOdd q_misHigh q_misTop q_mbits q_mtext q_mtold q_mstretch q_mfewest q_mpile m_length m_primeMany m_toldMany m_fate m_tail m_round m_tableKind m_areLaid m_unlike m_isFree a_mprimes a_mtable a_misOdd a_misHigh a_misTop a_mbits) H → va_D A (wd63 cyI cyJ cyZ q_Md q_mprimes q_mtable q_misOdd q_misHigh q_misTop q_mbits q_mtext q_mtold q_mstretch q_mfewest q_mpile m_length m_primeMany m_toldMany m_fate m_tail m_round m_tableKind m_areLaid m_unlike m_isFree a_mprimes a_mtable a_misOdd a_misHigh a_misTop a_mbits) → va_S A s.heap H locs → ∀ (ls : Array Slot), lv_has ls 4 [(0, .ref q_Md), (1, .int v1), (2, .int v2), (3, .int v3)] → W p l e (headSpec wsX12_layFlags rm_X12_layFlags).room s m args below meth c H locs 0 0 (MQ below (va_Qv (fun (_ : Unit) => True) (bW dC dI (fun (u : Unit) => (wd63 cyI cyJ cyZ q_Md q_mprimes q_mtable q_misOdd q_misHigh q_misTop q_mbits q_mtext q_mtold q_mstretch q_mfewest q_mpile m_length res.1 m_toldMany m_fate m_tail m_round res.2.1 res.2.2.1 m_unlike m_isFree res.2.2.2.1 res.2.2.2.2.1 res.2.2.2.2.2.1 res.2.2.2.2.2.2.1 res.2.2.2.2.2.2.2.1 res.2.2.2.2.2.2.2.2)) A) A) args s 0 0 A) (F0 m 24 ls [])) (v2 : Int32) (v3 : Int32) (a_misOdd : Nat → Int32) (a_misHigh : Nat → Int32) (a_misTop : Nat → Int32) (a_mbits : Nat → Int64) (v1 : Int32) (h : j_X12_layFlags_142 N k_24 v2 v3 s0 a_misOdd a_misHigh a_misTop a_mbits = some res) : ∀ (H : Heap) (locs : List Loc), va_P (dC, dI) vwCl (wd63 cyI cyJ cyZ q_Md q_mprimes q_mtable q_misOdd q_misHigh q_misTop q_mbits q_mtext q_mtold q_mstretch q_mfewest q_mpile m_length m_primeMany m_toldMany m_fate m_tail m_round m_tableKind m_areLaid m_unlike m_isFree a_mprimes a_mtable a_misOdd a_misHigh a_misTop a_mbits) H → va_D A (wd63 cyI cyJ cyZ q_Md q_mprimes q_mtable q_misOdd q_misHigh q_misTop q_mbits q_mtext q_mtold q_mstretch q_mfewest q_mpile m_length m_primeMany m_toldMany m_fate m_tail m_round m_tableKind m_areLaid m_unlike m_isFree a_mprimes a_mtable a_misOdd a_misHigh a_misTop a_mbits) → va_S A s.heap H locs → ∀ (ls : Array Slot), lv_has ls 4 [(0, .ref q_Md), (2, .int v2), (3, .int v3)] → W p l e (headSpec wsX12_layFlags rm_X12_layFlags).room s m args below meth c H locs 0 0 (MQ below (va_Qv (fun (_ : Unit) => True) (bW dC dI (fun (u : Unit) => (wd63 cyI cyJ cyZ q_Md q_mprimes q_mtable q_misOdd q_misHigh q_misTop q_mbits q_mtext q_mtold q_mstretch q_mfewest q_mpile m_length res.1 m_toldMany m_fate m_tail m_round res.2.1 res.2.2.1 m_unlike m_isFree res.2.2.2.1 res.2.2.2.2.1 res.2.2.2.2.2.1 res.2.2.2.2.2.2.1 res.2.2.2.2.2.2.2.1 res.2.2.2.2.2.2.2.2)) A) A) args s 0 0 A) (F0 m 142 ls [.int s0]) := by
  obtain ⟨hx, hb, hr, hml, hown, hts, hlocks, hG, hA⟩ := id C0
  have hK := hG.1
  intro H locs hP hD hS ls hl
  unfold j_X12_layFlags_142 at h
  refine lv_istore_n (lv' := [(1, .int s0), (0, .ref q_Md), (2, .int v2), (3, .int v3)]) hx hb dX12_layFlags_142 rfl hl (by decide) rfl (fun ls hl => ?_)
  refine lv_aload_n hx hb dX12_layFlags_143 rfl (lv_at hl 1 rfl) ?_
  refine va_get (D := (dC, dI)) (ci := 12) (v := .ref q_misTop) (C := RX12) (T := TX12) (N := 21) hx hb hts iw_X12_layFlags_X12 hown hK hP 0 rfl rfl 16 (by decide) (hts (.fieldLink RX12 37 "GoesIntoModel" "isTop" "[Z") (List.mem_of_getElem? (i := 5) rfl)) (fun _ h9 => h9) rfl dX12_layFlags_144 ?_
  refine lv_iload_n hx hb dX12_layFlags_147 rfl (lv_at hl 3 rfl) ?_
  obtain ⟨b17z, h⟩ := xn h
  refine va_zald hx hb hK hP 5 2 rfl rfl b17z dX12_layFlags_148 ?_
  refine lv_if_eq (tgt := 156) hx hb dX12_layFlags_149 (by decide) (fun c18z => ?_) (fun c18z => ?_)
  · have h := xt h c18z
    refine lv_iload_n hx hb dX12_layFlags_156 rfl (lv_at hl 2 rfl) ?_
    refine lv_istore_n (lv' := [(2, .int v2), (1, .int s0), (0, .ref q_Md), (3, .int v3)]) hx hb dX12_layFlags_157 rfl hl (by decide) rfl (fun ls hl => ?_)
    obtain ⟨y19z, ey19z⟩ : ∃ z : Int32, z = v3 + (1 : Int32) := ⟨_, rfl⟩
    have h := xl_at h ey19z
    refine lv_iinc (v := y19z) (lv' := [(3, .int y19z), (2, .int v2), (1, .int s0), (0, .ref q_Md)]) hx hb dX12_layFlags_158 hl (k := 3) rfl (by rw [ey19z]; rfl) (by decide) rfl (fun ls hl => ?_)
    refine lv_goto (tgt := 24) hx hb dX12_layFlags_161 (by decide) ?_
    exact hk_24 s0 v2 y19z a_misOdd a_misHigh a_misTop a_mbits h _ _ hP hD hS _ (lv_sub hl [3, 2, 1, 0] rfl)
  · have h := xf h c18z
    refine lv_iload_n hx hb dX12_layFlags_152 rfl (lv_at hl 3 rfl) ?_
    refine lv_goto (tgt := 157) hx hb dX12_layFlags_153 (by decide) ?_
    refine lv_istore_n (lv' := [(2, .int v3), (1, .int s0), (0, .ref q_Md), (3, .int v3)]) hx hb dX12_layFlags_157 rfl hl (by decide) rfl (fun ls hl => ?_)
    obtain ⟨y20z, ey20z⟩ : ∃ z : Int32, z = v3 + (1 : Int32) := ⟨_, rfl⟩
    have h := xl_at h ey20z
    refine lv_iinc (v := y20z) (lv' := [(3, .int y20z), (2, .int v3), (1, .int s0), (0, .ref q_Md)]) hx hb dX12_layFlags_158 hl (k := 3) rfl (by rw [ey20z]; rfl) (by decide) rfl (fun ls hl => ?_)
    refine lv_goto (tgt := 24) hx hb dX12_layFlags_161 (by decide) ?_
    exact hk_24 s0 v3 y20z a_misOdd a_misHigh a_misTop a_mbits h _ _ hP hD hS _ (lv_sub hl [3, 2, 1, 0] rfl)
def j_X12_layFlags_127 (N : Nat) (k_24 : (Int32 × Int32 × Int32 × (Nat → Int32) × (Nat → Int32) × (Nat → Int32) × (Nat → Int64)) → Option (Int32 × Int32 × Int32 × (Nat → Int64) × (Nat → Int32) × (Nat → Int32) × (Nat → Int32) × (Nat → Int32) × (Nat → Int64))) (v1 : Int32) (v2 : Int32) (v3 : Int32) (s0 : Int32) (s1 : Int32) (a_misOdd : Nat → Int32) (a_misHigh : Nat → Int32) (a_misTop : Nat → Int32) (a_mbits : Nat → Int64) : Option (Int32 × Int32 × Int32 × (Nat → Int64) × (Nat → Int32) × (Nat → Int32) × (Nat → Int32) × (Nat → Int32) × (Nat → Int64)) :=
  if s1 < 0 ∨ 5001 ≤ s1.toNatClampNeg then
    none
  else
    if v3 < 0 ∨ 5001 ≤ v3.toNatClampNeg then
      none
    else
      if (a_misHigh v3.toNatClampNeg) = 0 then
        j_X12_layFlags_142 N k_24 v2 v3 v1 a_misOdd a_misHigh (upd a_misTop s1.toNatClampNeg (vp_nar .boolean s0)) a_mbits
      else
        j_X12_layFlags_142 N k_24 v2 v3 v3 a_misOdd a_misHigh (upd a_misTop s1.toNatClampNeg (vp_nar .boolean s0)) a_mbits
set_option maxRecDepth 100000 in
set_option maxHeartbeats 4000000 in
theorem k_X12_layFlags_127 {p : Program} {l : Launch} {e : Env} {s : State} {m : MethodId} {args : Array Value} {below : List Frame} {meth : Method} {c : Code} {dC : Nat → ClassId} {dI : Nat → Nat → Nat} {cyI cyJ cyZ : ClassId} {A : Nat → Prop} (C0 : mC p s m meth c args cX12_layFlags none 4 RX12 wsX12_layFlags (gK dC dI cyI cyJ cyZ) A) (N : Nat) (res : Int32 × Int32 × Int32 × (Nat → Int64) × (Nat → Int32) × (Nat → Int32) × (Nat → Int32) × (Nat → Int32) × (Nat → Int64)) (q_Md : Nat) (q_mprimes : Nat) (q_mtable : Nat) (q_misOdd : Nat) (q_misHigh : Nat) (q_misTop : Nat) (q_mbits : Nat) (q_mtext : Nat) (q_mtold : Nat) (q_mstretch : Nat) (q_mfewest : Nat) (q_mpile : Nat) (s0 : Int32) (s1 : Int32) (m_length : Int32) (m_primeMany : Int32) (m_toldMany : Int32) (m_fate : Int32) (m_tail : Int32) (m_round : Int32) (m_tableKind : Int32) (m_areLaid : Int32) (m_unlike : Int32) (m_isFree : Int32) (a_mprimes : Nat → Int64) (a_mtable : Nat → Int32) (k_24 : (Int32 × Int32 × Int32 × (Nat → Int32) × (Nat → Int32) × (Nat → Int32) × (Nat → Int64)) → Option (Int32 × Int32 × Int32 × (Nat → Int64) × (Nat → Int32) × (Nat → Int32) × (Nat → Int32) × (Nat → Int32) × (Nat → Int64))) (hk_24 : ∀ (v1 : Int32) (v2 : Int32) (v3 : Int32) (a_misOdd : Nat → Int32) (a_misHigh : Nat → Int32) (a_misTop : Nat → Int32) (a_mbits : Nat → Int64), k_24 (v1, v2, v3, a_misOdd, a_misHigh, a_misTop, a_mbits) = some res → ∀ (H : Heap) (locs : List Loc), va_P (dC, dI) vwCl (wd63 cyI cyJ cyZ q_Md q_mprimes q_mtable q_misOdd q_misHigh q_misTop q_mbits q_mtext q_mtold q_mstretch q_mfewest q_mpile m_length m_primeMany m_toldMany m_fate m_tail m_round m_tableKind m_areLaid m_unlike m_isFree a_mprimes a_mtable a_misOdd a_misHigh a_misTop a_mbits) H → va_D A (wd63 cyI cyJ cyZ q_Md q_mprimes q_mtable q_misOdd q_misHigh q_misTop q_mbits q_mtext q_mtold q_mstretch q_mfewest q_mpile m_length m_primeMany m_toldMany m_fate m_tail m_round m_tableKind m_areLaid m_unlike m_isFree a_mprimes a_mtable a_misOdd a_misHigh a_misTop a_mbits) → va_S A s.heap H locs → ∀ (ls : Array Slot), lv_has ls 4 [(0, .ref q_Md), (1, .int v1), (2, .int v2), (3, .int v3)] → W p l e (headSpec wsX12_layFlags rm_X12_layFlags).room s m args below meth c H locs 0 0 (MQ below (va_Qv (fun (_ : Unit) => True) (bW dC dI (fun (u : Unit) => (wd63 cyI cyJ cyZ q_Md q_mprimes q_mtable q_misOdd q_misHigh q_misTop q_mbits q_mtext q_mtold q_mstretch q_mfewest q_mpile m_length res.1 m_toldMany m_fate m_tail m_round res.2.1 res.2.2.1 m_unlike m_isFree res.2.2.2.1 res.2.2.2.2.1 res.2.2.2.2.2.1 res.2.2.2.2.2.2.1 res.2.2.2.2.2.2.2.1 res.2.2.2.2.2.2.2.2)) A) A) args s 0 0 A) (F0 m 24 ls [])) (v1 : Int32) (v2 : Int32) (v3 : Int32) (a_misOdd : Nat → Int32) (a_misHigh : Nat → Int32) (a_misTop : Nat → Int32) (a_mbits : Nat → Int64) (h : j_X12_layFlags_127 N k_24 v1 v2 v3 s0 s1 a_misOdd a_misHigh a_misTop a_mbits = some res) : ∀ (H : Heap) (locs : List Loc), va_P (dC, dI) vwCl (wd63 cyI cyJ cyZ q_Md q_mprimes q_mtable q_misOdd q_misHigh q_misTop q_mbits q_mtext q_mtold q_mstretch q_mfewest q_mpile m_length m_primeMany m_toldMany m_fate m_tail m_round m_tableKind m_areLaid m_unlike m_isFree a_mprimes a_mtable a_misOdd a_misHigh a_misTop a_mbits) H → va_D A (wd63 cyI cyJ cyZ q_Md q_mprimes q_mtable q_misOdd q_misHigh q_misTop q_mbits q_mtext q_mtold q_mstretch q_mfewest q_mpile m_length m_primeMany m_toldMany m_fate m_tail m_round m_tableKind m_areLaid m_unlike m_isFree a_mprimes a_mtable a_misOdd a_misHigh a_misTop a_mbits) → va_S A s.heap H locs → ∀ (ls : Array Slot), lv_has ls 4 [(0, .ref q_Md), (1, .int v1), (2, .int v2), (3, .int v3)] → W p l e (headSpec wsX12_layFlags rm_X12_layFlags).room s m args below meth c H locs 0 0 (MQ below (va_Qv (fun (_ : Unit) => True) (bW dC dI (fun (u : Unit) => (wd63 cyI cyJ cyZ q_Md q_mprimes q_mtable q_misOdd q_misHigh q_misTop q_mbits q_mtext q_mtold q_mstretch q_mfewest q_mpile m_length res.1 m_toldMany m_fate m_tail m_round res.2.1 res.2.2.1 m_unlike m_isFree res.2.2.2.1 res.2.2.2.2.1 res.2.2.2.2.2.1 res.2.2.2.2.2.2.1 res.2.2.2.2.2.2.2.1 res.2.2.2.2.2.2.2.2)) A) A) args s 0 0 A) (F0 m 127 ls [.int s0, .int s1, .ref q_misTop]) := by
  obtain ⟨hx, hb, hr, hml, hown, hts, hlocks, hG, hA⟩ := id C0
  have hK := hG.1
  intro H locs hP hD hS ls hl
  unfold j_X12_layFlags_127 at h
  obtain ⟨b14z, h⟩ := xn h
  refine va_zast hx hb hK hP hD hS 5 2 rfl rfl b14z dX12_layFlags_127 (fun H locs hP hD hS => ?_)
  have hP : va_P (dC, dI) vwCl (wd63 cyI cyJ cyZ q_Md q_mprimes q_mtable q_misOdd q_misHigh q_misTop q_mbits q_mtext q_mtold q_mstretch q_mfewest q_mpile m_length m_primeMany m_toldMany m_fate m_tail m_round m_tableKind m_areLaid m_unlike m_isFree a_mprimes a_mtable a_misOdd a_misHigh (upd a_misTop s1.toNatClampNeg (vp_nar .boolean s0)) a_mbits) H := hP
  have hD : va_D A (wd63 cyI cyJ cyZ q_Md q_mprimes q_mtable q_misOdd q_misHigh q_misTop q_mbits q_mtext q_mtold q_mstretch q_mfewest q_mpile m_length m_primeMany m_toldMany m_fate m_tail m_round m_tableKind m_areLaid m_unlike m_isFree a_mprimes a_mtable a_misOdd a_misHigh (upd a_misTop s1.toNatClampNeg (vp_nar .boolean s0)) a_mbits) := hD
  refine lv_aload_n hx hb dX12_layFlags_128 rfl (lv_at hl 0 rfl) ?_
  refine va_get (D := (dC, dI)) (ci := 12) (v := .ref q_misHigh) (C := RX12) (T := TX12) (N := 21) hx hb hts iw_X12_layFlags_X12 hown hK hP 0 rfl rfl 15 (by decide) (hts (.fieldLink RX12 34 "GoesIntoModel" "isHigh" "[Z") (List.mem_of_getElem? (i := 3) rfl)) (fun _ h9 => h9) rfl dX12_layFlags_129 ?_
  refine lv_iload_n hx hb dX12_layFlags_132 rfl (lv_at hl 3 rfl) ?_
  obtain ⟨b15z, h⟩ := xn h
  refine va_zald hx hb hK hP 4 2 rfl rfl b15z dX12_layFlags_133 ?_
  refine lv_if_eq (tgt := 141) hx hb dX12_layFlags_134 (by decide) (fun c16z => ?_) (fun c16z => ?_)
  · have h := xt h c16z
    refine lv_iload_n hx hb dX12_layFlags_141 rfl (lv_at hl 1 rfl) ?_
    exact k_X12_layFlags_142 C0 N res q_Md q_mprimes q_mtable q_misOdd q_misHigh q_misTop q_mbits q_mtext q_mtold q_mstretch q_mfewest q_mpile v1 m_length m_primeMany m_toldMany m_fate m_tail m_round m_tableKind m_areLaid m_unlike m_isFree a_mprimes a_mtable k_24 hk_24 v2 v3 a_misOdd a_misHigh (upd a_misTop s1.toNatClampNeg (vp_nar .boolean s0)) a_mbits v1  h _ _ hP hD hS _ (lv_sub hl [0, 2, 3] rfl)
  · have h := xf h c16z
    refine lv_iload_n hx hb dX12_layFlags_137 rfl (lv_at hl 3 rfl) ?_
    refine lv_goto (tgt := 142) hx hb dX12_layFlags_138 (by decide) ?_
    exact k_X12_layFlags_142 C0 N res q_Md q_mprimes q_mtable q_misOdd q_misHigh q_misTop q_mbits q_mtext q_mtold q_mstretch q_mfewest q_mpile v3 m_length m_primeMany m_toldMany m_fate m_tail m_round m_tableKind m_areLaid m_unlike m_isFree a_mprimes a_mtable k_24 hk_24 v2 v3 a_misOdd a_misHigh (upd a_misTop s1.toNatClampNeg (vp_nar .boolean s0)) a_mbits v1  h _ _ hP hD hS _ (lv_sub hl [0, 2, 3] rfl)
def j_X12_layFlags_122 (N : Nat) (k_24 : (Int32 × Int32 × Int32 × (Nat → Int32) × (Nat → Int32) × (Nat → Int32) × (Nat → Int64)) → Option (Int32 × Int32 × Int32 × (Nat → Int64) × (Nat → Int32) × (Nat → Int32) × (Nat → Int32) × (Nat → Int32) × (Nat → Int64))) (v1 : Int32) (v2 : Int32) (v3 : Int32) (s0 : Int32) (a_misOdd : Nat → Int32) (a_misHigh : Nat → Int32) (a_misTop : Nat → Int32) (a_mbits : Nat → Int64) : Option (Int32 × Int32 × Int32 × (Nat → Int64) × (Nat → Int32) × (Nat → Int32) × (Nat → Int32) × (Nat → Int32) × (Nat → Int64)) :=
  j_X12_layFlags_127 N k_24 v1 v2 v3 (1 : Int32) s0 a_misOdd a_misHigh a_misTop a_mbits
set_option maxRecDepth 100000 in
set_option maxHeartbeats 4000000 in
theorem k_X12_layFlags_122 {p : Program} {l : Launch} {e : Env} {s : State} {m : MethodId} {args : Array Value} {below : List Frame} {meth : Method} {c : Code} {dC : Nat → ClassId} {dI : Nat → Nat → Nat} {cyI cyJ cyZ : ClassId} {A : Nat → Prop} (C0 : mC p s m meth c args cX12_layFlags none 4 RX12 wsX12_layFlags (gK dC dI cyI cyJ cyZ) A) (N : Nat) (res : Int32 × Int32 × Int32 × (Nat → Int64) × (Nat → Int32) × (Nat → Int32) × (Nat → Int32) × (Nat → Int32) × (Nat → Int64)) (q_Md : Nat) (q_mprimes : Nat) (q_mtable : Nat) (q_misOdd : Nat) (q_misHigh : Nat) (q_misTop : Nat) (q_mbits : Nat) (q_mtext : Nat) (q_mtold : Nat) (q_mstretch : Nat) (q_mfewest : Nat) (q_mpile : Nat) (s0 : Int32) (m_length : Int32) (m_primeMany : Int32) (m_toldMany : Int32) (m_fate : Int32) (m_tail : Int32) (m_round : Int32) (m_tableKind : Int32) (m_areLaid : Int32) (m_unlike : Int32) (m_isFree : Int32) (a_mprimes : Nat → Int64) (a_mtable : Nat → Int32) (k_24 : (Int32 × Int32 × Int32 × (Nat → Int32) × (Nat → Int32) × (Nat → Int32) × (Nat → Int64)) → Option (Int32 × Int32 × Int32 × (Nat → Int64) × (Nat → Int32) × (Nat → Int32) × (Nat → Int32) × (Nat → Int32) × (Nat → Int64))) (hk_24 : ∀ (v1 : Int32) (v2 : Int32) (v3 : Int32) (a_misOdd : Nat → Int32) (a_misHigh : Nat → Int32) (a_misTop : Nat → Int32) (a_mbits : Nat → Int64), k_24 (v1, v2, v3, a_misOdd, a_misHigh, a_misTop, a_mbits) = some res → ∀ (H : Heap) (locs : List Loc), va_P (dC, dI) vwCl (wd63 cyI cyJ cyZ q_Md q_mprimes q_mtable q_misOdd q_misHigh q_misTop q_mbits q_mtext q_mtold q_mstretch q_mfewest q_mpile m_length m_primeMany m_toldMany m_fate m_tail m_round m_tableKind m_areLaid m_unlike m_isFree a_mprimes a_mtable a_misOdd a_misHigh a_misTop a_mbits) H → va_D A (wd63 cyI cyJ cyZ q_Md q_mprimes q_mtable q_misOdd q_misHigh q_misTop q_mbits q_mtext q_mtold q_mstretch q_mfewest q_mpile m_length m_primeMany m_toldMany m_fate m_tail m_round m_tableKind m_areLaid m_unlike m_isFree a_mprimes a_mtable a_misOdd a_misHigh a_misTop a_mbits) → va_S A s.heap H locs → ∀ (ls : Array Slot), lv_has ls 4 [(0, .ref q_Md), (1, .int v1), (2, .int v2), (3, .int v3)] → W p l e (headSpec wsX12_layFlags rm_X12_layFlags).room s m args below meth c H locs 0 0 (MQ below (va_Qv (fun (_ : Unit) => True) (bW dC dI (fun (u : Unit) => (wd63 cyI cyJ cyZ q_Md q_mprimes q_mtable q_misOdd q_misHigh q_misTop q_mbits q_mtext q_mtold q_mstretch q_mfewest q_mpile m_length res.1 m_toldMany m_fate m_tail m_round res.2.1 res.2.2.1 m_unlike m_isFree res.2.2.2.1 res.2.2.2.2.1 res.2.2.2.2.2.1 res.2.2.2.2.2.2.1 res.2.2.2.2.2.2.2.1 res.2.2.2.2.2.2.2.2)) A) A) args s 0 0 A) (F0 m 24 ls [])) (v1 : Int32) (v2 : Int32) (v3 : Int32) (a_misOdd : Nat → Int32) (a_misHigh : Nat → Int32) (a_misTop : Nat → Int32) (a_mbits : Nat → Int64) (h : j_X12_layFlags_122 N k_24 v1 v2 v3 s0 a_misOdd a_misHigh a_misTop a_mbits = some res) : ∀ (H : Heap) (locs : List Loc), va_P (dC, dI) vwCl (wd63 cyI cyJ cyZ q_Md q_mprimes q_mtable q_misOdd q_misHigh q_misTop q_mbits q_mtext q_mtold q_mstretch q_mfewest q_mpile m_length m_primeMany m_toldMany m_fate m_tail m_round m_tableKind m_areLaid m_unlike m_isFree a_mprimes a_mtable a_misOdd a_misHigh a_misTop a_mbits) H → va_D A (wd63 cyI cyJ cyZ q_Md q_mprimes q_mtable q_misOdd q_misHigh q_misTop q_mbits q_mtext q_mtold q_mstretch q_mfewest q_mpile m_length m_primeMany m_toldMany m_fate m_tail m_round m_tableKind m_areLaid m_unlike m_isFree a_mprimes a_mtable a_misOdd a_misHigh a_misTop a_mbits) → va_S A s.heap H locs → ∀ (ls : Array Slot), lv_has ls 4 [(0, .ref q_Md), (1, .int v1), (2, .int v2), (3, .int v3)] → W p l e (headSpec wsX12_layFlags rm_X12_layFlags).room s m args below meth c H locs 0 0 (MQ below (va_Qv (fun (_ : Unit) => True) (bW dC dI (fun (u : Unit) => (wd63 cyI cyJ cyZ q_Md q_mprimes q_mtable q_misOdd q_misHigh q_misTop q_mbits q_mtext q_mtold q_mstretch q_mfewest q_mpile m_length res.1 m_toldMany m_fate m_tail m_round res.2.1 res.2.2.1 m_unlike m_isFree res.2.2.2.1 res.2.2.2.2.1 res.2.2.2.2.2.1 res.2.2.2.2.2.2.1 res.2.2.2.2.2.2.2.1 res.2.2.2.2.2.2.2.2)) A) A) args s 0 0 A) (F0 m 122 ls [.int s0, .ref q_misTop]) := by
  obtain ⟨hx, hb, hr, hml, hown, hts, hlocks, hG, hA⟩ := id C0
  have hK := hG.1
  intro H locs hP hD hS ls hl
  unfold j_X12_layFlags_122 at h
  refine lv_iconst (v := (1 : Int32)) hx hb dX12_layFlags_122 (by decide) ?_
  refine lv_goto (tgt := 127) hx hb dX12_layFlags_123 (by decide) ?_
  exact k_X12_layFlags_127 C0 N res q_Md q_mprimes q_mtable q_misOdd q_misHigh q_misTop q_mbits q_mtext q_mtold q_mstretch q_mfewest q_mpile (1 : Int32) s0 m_length m_primeMany m_toldMany m_fate m_tail m_round m_tableKind m_areLaid m_unlike m_isFree a_mprimes a_mtable k_24 hk_24 v1 v2 v3 a_misOdd a_misHigh a_misTop a_mbits  h _ _ hP hD hS _ (lv_sub hl [0, 1, 2, 3] rfl)
def j_X12_layFlags_88 (N : Nat) (k_24 : (Int32 × Int32 × Int32 × (Nat → Int32) × (Nat → Int32) × (Nat → Int32) × (Nat → Int64)) → Option (Int32 × Int32 × Int32 × (Nat → Int64) × (Nat → Int32) × (Nat → Int32) × (Nat → Int32) × (Nat → Int32) × (Nat → Int64))) (v1 : Int32) (v2 : Int32) (v3 : Int32) (s0 : Int32) (s1 : Int32) (a_mtable : Nat → Int32) (a_misOdd : Nat → Int32) (a_misHigh : Nat → Int32) (a_misTop : Nat → Int32) (a_mbits : Nat → Int64) : Option (Int32 × Int32 × Int32 × (Nat → Int64) × (Nat → Int32) × (Nat → Int32) × (Nat → Int32) × (Nat → Int32) × (Nat → Int64)) :=
  if s1 < 0 ∨ 5001 ≤ s1.toNatClampNeg then
    none
  else
    if v2 = 0 then
      j_X12_layFlags_122 N k_24 v1 v2 v3 v3 a_misOdd (upd a_misHigh s1.toNatClampNeg (vp_nar .boolean s0)) a_misTop a_mbits
    else
      if v3 < 0 ∨ 50001 ≤ v3.toNatClampNeg then
        none
      else
        if v2 < 0 ∨ 50001 ≤ v2.toNatClampNeg then
          none
        else
          if (((a_mtable v3.toNatClampNeg).toInt64) * v2.toInt64) ≤ (((a_mtable v2.toNatClampNeg).toInt64) * v3.toInt64) then
            j_X12_layFlags_127 N k_24 v1 v2 v3 (0 : Int32) v3 a_misOdd (upd a_misHigh s1.toNatClampNeg (vp_nar .boolean s0)) a_misTop a_mbits
          else
            j_X12_layFlags_122 N k_24 v1 v2 v3 v3 a_misOdd (upd a_misHigh s1.toNatClampNeg (vp_nar .boolean s0)) a_misTop a_mbits
set_option maxRecDepth 100000 in
set_option maxHeartbeats 4000000 in
theorem k_X12_layFlags_88 {p : Program} {l : Launch} {e : Env} {s : State} {m : MethodId} {args : Array Value} {below : List Frame} {meth : Method} {c : Code} {dC : Nat → ClassId} {dI : Nat → Nat → Nat} {cyI cyJ cyZ : ClassId} {A : Nat → Prop} (C0 : mC p s m meth c args cX12_layFlags none 4 RX12 wsX12_layFlags (gK dC dI cyI cyJ cyZ) A) (N : Nat) (res : Int32 × Int32 × Int32 × (Nat → Int64) × (Nat → Int32) × (Nat → Int32) × (Nat → Int32) × (Nat → Int32) × (Nat → Int64)) (q_Md : Nat) (q_mprimes : Nat) (q_mtable : Nat) (q_misOdd : Nat) (q_misHigh : Nat) (q_misTop : Nat) (q_mbits : Nat) (q_mtext : Nat) (q_mtold : Nat) (q_mstretch : Nat) (q_mfewest : Nat) (q_mpile : Nat) (s0 : Int32) (s1 : Int32) (m_length : Int32) (m_primeMany : Int32) (m_toldMany : Int32) (m_fate : Int32) (m_tail : Int32) (m_round : Int32) (m_tableKind : Int32) (m_areLaid : Int32) (m_unlike : Int32) (m_isFree : Int32) (a_mprimes : Nat → Int64) (a_mtable : Nat → Int32) (k_24 : (Int32 × Int32 × Int32 × (Nat → Int32) × (Nat → Int32) × (Nat → Int32) × (Nat → Int64)) → Option (Int32 × Int32 × Int32 × (Nat → Int64) × (Nat → Int32) × (Nat → Int32) × (Nat → Int32) × (Nat → Int32) × (Nat → Int64))) (hk_24 : ∀ (v1 : Int32) (v2 : Int32) (v3 : Int32) (a_misOdd : Nat → Int32) (a_misHigh : Nat → Int32) (a_misTop : Nat → Int32) (a_mbits : Nat → Int64), k_24 (v1, v2, v3, a_misOdd, a_misHigh, a_misTop, a_mbits) = some res → ∀ (H : Heap) (locs : List Loc), va_P (dC, dI) vwCl (wd63 cyI cyJ cyZ q_Md q_mprimes q_mtable q_misOdd q_misHigh q_misTop q_mbits q_mtext q_mtold q_mstretch q_mfewest q_mpile m_length m_primeMany m_toldMany m_fate m_tail m_round m_tableKind m_areLaid m_unlike m_isFree a_mprimes a_mtable a_misOdd a_misHigh a_misTop a_mbits) H → va_D A (wd63 cyI cyJ cyZ q_Md q_mprimes q_mtable q_misOdd q_misHigh q_misTop q_mbits q_mtext q_mtold q_mstretch q_mfewest q_mpile m_length m_primeMany m_toldMany m_fate m_tail m_round m_tableKind m_areLaid m_unlike m_isFree a_mprimes a_mtable a_misOdd a_misHigh a_misTop a_mbits) → va_S A s.heap H locs → ∀ (ls : Array Slot), lv_has ls 4 [(0, .ref q_Md), (1, .int v1), (2, .int v2), (3, .int v3)] → W p l e (headSpec wsX12_layFlags rm_X12_layFlags).room s m args below meth c H locs 0 0 (MQ below (va_Qv (fun (_ : Unit) => True) (bW dC dI (fun (u : Unit) => (wd63 cyI cyJ cyZ q_Md q_mprimes q_mtable q_misOdd q_misHigh q_misTop q_mbits q_mtext q_mtold q_mstretch q_mfewest q_mpile m_length res.1 m_toldMany m_fate m_tail m_round res.2.1 res.2.2.1 m_unlike m_isFree res.2.2.2.1 res.2.2.2.2.1 res.2.2.2.2.2.1 res.2.2.2.2.2.2.1 res.2.2.2.2.2.2.2.1 res.2.2.2.2.2.2.2.2)) A) A) args s 0 0 A) (F0 m 24 ls [])) (v1 : Int32) (v2 : Int32) (v3 : Int32) (a_misOdd : Nat → Int32) (a_misHigh : Nat → Int32) (a_misTop : Nat → Int32) (a_mbits : Nat → Int64) (h : j_X12_layFlags_88 N k_24 v1 v2 v3 s0 s1 a_mtable a_misOdd a_misHigh a_misTop a_mbits = some res) : ∀ (H : Heap) (locs : List Loc), va_P (dC, dI) vwCl (wd63 cyI cyJ cyZ q_Md q_mprimes q_mtable q_misOdd q_misHigh q_misTop q_mbits q_mtext q_mtold q_mstretch q_mfewest q_mpile m_length m_primeMany m_toldMany m_fate m_tail m_round m_tableKind m_areLaid m_unlike m_isFree a_mprimes a_mtable a_misOdd a_misHigh a_misTop a_mbits) H → va_D A (wd63 cyI cyJ cyZ q_Md q_mprimes q_mtable q_misOdd q_misHigh q_misTop q_mbits q_mtext q_mtold q_mstretch q_mfewest q_mpile m_length m_primeMany m_toldMany m_fate m_tail m_round m_tableKind m_areLaid m_unlike m_isFree a_mprimes a_mtable a_misOdd a_misHigh a_misTop a_mbits) → va_S A s.heap H locs → ∀ (ls : Array Slot), lv_has ls 4 [(0, .ref q_Md), (1, .int v1), (2, .int v2), (3, .int v3)] → W p l e (headSpec wsX12_layFlags rm_X12_layFlags).room s m args below meth c H locs 0 0 (MQ below (va_Qv (fun (_ : Unit) => True) (bW dC dI (fun (u : Unit) => (wd63 cyI cyJ cyZ q_Md q_mprimes q_mtable q_misOdd q_misHigh q_misTop q_mbits q_mtext q_mtold q_mstretch q_mfewest q_mpile m_length res.1 m_toldMany m_fate m_tail m_round res.2.1 res.2.2.1 m_unlike m_isFree res.2.2.2.1 res.2.2.2.2.1 res.2.2.2.2.2.1 res.2.2.2.2.2.2.1 res.2.2.2.2.2.2.2.1 res.2.2.2.2.2.2.2.2)) A) A) args s 0 0 A) (F0 m 88 ls [.int s0, .int s1, .ref q_misHigh]) := by
  obtain ⟨hx, hb, hr, hml, hown, hts, hlocks, hG, hA⟩ := id C0
  have hK := hG.1
  intro H locs hP hD hS ls hl
  unfold j_X12_layFlags_88 at h
  obtain ⟨b12z, h⟩ := xn h
  refine va_zast hx hb hK hP hD hS 4 2 rfl rfl b12z dX12_layFlags_88 (fun H locs hP hD hS => ?_)
  have hP : va_P (dC, dI) vwCl (wd63 cyI cyJ cyZ q_Md q_mprimes q_mtable q_misOdd q_misHigh q_misTop q_mbits q_mtext q_mtold q_mstretch q_mfewest q_mpile m_length m_primeMany m_toldMany m_fate m_tail m_round m_tableKind m_areLaid m_unlike m_isFree a_mprimes a_mtable a_misOdd (upd a_misHigh s1.toNatClampNeg (vp_nar .boolean s0)) a_misTop a_mbits) H := hP
  have hD : va_D A (wd63 cyI cyJ cyZ q_Md q_mprimes q_mtable q_misOdd q_misHigh q_misTop q_mbits q_mtext q_mtold q_mstretch q_mfewest q_mpile m_length m_primeMany m_toldMany m_fate m_tail m_round m_tableKind m_areLaid m_unlike m_isFree a_mprimes a_mtable a_misOdd (upd a_misHigh s1.toNatClampNeg (vp_nar .boolean s0)) a_misTop a_mbits) := hD
  refine lv_aload_n hx hb dX12_layFlags_89 rfl (lv_at hl 0 rfl) ?_
  refine va_get (D := (dC, dI)) (ci := 12) (v := .ref q_misTop) (C := RX12) (T := TX12) (N := 21) hx hb hts iw_X12_layFlags_X12 hown hK hP 0 rfl rfl 16 (by decide) (hts (.fieldLink RX12 37 "GoesIntoModel" "isTop" "[Z") (List.mem_of_getElem? (i := 5) rfl)) (fun _ h9 => h9) rfl dX12_layFlags_90 ?_
  refine lv_iload_n hx hb dX12_layFlags_93 rfl (lv_at hl 3 rfl) ?_
  refine lv_iload_n hx hb dX12_layFlags_94 rfl (lv_at hl 2 rfl) ?_
  refine lv_if_eq (tgt := 122) hx hb dX12_layFlags_95 (by decide) (fun c13z => ?_) (fun c13z => ?_)
  · have h := xt h c13z
    exact k_X12_layFlags_122 C0 N res q_Md q_mprimes q_mtable q_misOdd q_misHigh q_misTop q_mbits q_mtext q_mtold q_mstretch q_mfewest q_mpile v3 m_length m_primeMany m_toldMany m_fate m_tail m_round m_tableKind m_areLaid m_unlike m_isFree a_mprimes a_mtable k_24 hk_24 v1 v2 v3 a_misOdd (upd a_misHigh s1.toNatClampNeg (vp_nar .boolean s0)) a_misTop a_mbits  h _ _ hP hD hS _ (lv_sub hl [0, 1, 2, 3] rfl)
  · have h := xf h c13z
    refine lv_aload_n hx hb dX12_layFlags_98 rfl (lv_at hl 0 rfl) ?_
    refine va_get (D := (dC, dI)) (ci := 12) (v := .ref q_mtable) (C := RX12) (T := TX12) (N := 21) hx hb hts iw_X12_layFlags_X12 hown hK hP 0 rfl rfl 10 (by decide) (hts (.fieldLink RX12 21 "GoesIntoModel" "table" "[I") (List.mem_of_getElem? (i := 4) rfl)) (fun _ h9 => h9) rfl dX12_layFlags_99 ?_
    refine lv_iload_n hx hb dX12_layFlags_102 rfl (lv_at hl 3 rfl) ?_
    obtain ⟨b21z, h⟩ := xn h
    refine va_iald hx hb hK hP 2 0 rfl rfl b21z dX12_layFlags_103 ?_
    refine lv_i2l (v := (a_mtable v3.toNatClampNeg).toInt64) hx hb dX12_layFlags_104 rfl ?_
    refine lv_iload_n hx hb dX12_layFlags_105 rfl (lv_at hl 2 rfl) ?_
    refine lv_i2l (v := v2.toInt64) hx hb dX12_layFlags_106 rfl ?_
    refine lv_lmul hx hb dX12_layFlags_107 ?_
    refine lv_aload_n hx hb dX12_layFlags_108 rfl (lv_at hl 0 rfl) ?_
    refine va_get (D := (dC, dI)) (ci := 12) (v := .ref q_mtable) (C := RX12) (T := TX12) (N := 21) hx hb hts iw_X12_layFlags_X12 hown hK hP 0 rfl rfl 10 (by decide) (hts (.fieldLink RX12 21 "GoesIntoModel" "table" "[I") (List.mem_of_getElem? (i := 4) rfl)) (fun _ h9 => h9) rfl dX12_layFlags_109 ?_
    refine lv_iload_n hx hb dX12_layFlags_112 rfl (lv_at hl 2 rfl) ?_
    obtain ⟨b22z, h⟩ := xn h
    refine va_iald hx hb hK hP 2 0 rfl rfl b22z dX12_layFlags_113 ?_
    refine lv_i2l (v := (a_mtable v2.toNatClampNeg).toInt64) hx hb dX12_layFlags_114 rfl ?_
    refine lv_iload_n hx hb dX12_layFlags_115 rfl (lv_at hl 3 rfl) ?_
    refine lv_i2l (v := v3.toInt64) hx hb dX12_layFlags_116 rfl ?_
    refine lv_lmul hx hb dX12_layFlags_117 ?_
    refine W.lcmp hx hb dX12_layFlags_118 ?_
    refine lv_if_le (tgt := 126) hx hb dX12_layFlags_119 (by decide) (fun c23z => ?_) (fun c23z => ?_)
    · have c23z := (lg_cmp_le _ _).mp c23z
      have h := xt h c23z
      refine lv_iconst (v := (0 : Int32)) hx hb dX12_layFlags_126 (by decide) ?_
      exact k_X12_layFlags_127 C0 N res q_Md q_mprimes q_mtable q_misOdd q_misHigh q_misTop q_mbits q_mtext q_mtold q_mstretch q_mfewest q_mpile (0 : Int32) v3 m_length m_primeMany m_toldMany m_fate m_tail m_round m_tableKind m_areLaid m_unlike m_isFree a_mprimes a_mtable k_24 hk_24 v1 v2 v3 a_misOdd (upd a_misHigh s1.toNatClampNeg (vp_nar .boolean s0)) a_misTop a_mbits  h _ _ hP hD hS _ (lv_sub hl [0, 1, 2, 3] rfl)
    · have c23z := fun z => c23z ((lg_cmp_le _ _).mpr z)
      have h := xf h c23z
      exact k_X12_layFlags_122 C0 N res q_Md q_mprimes q_mtable q_misOdd q_misHigh q_misTop q_mbits q_mtext q_mtold q_mstretch q_mfewest q_mpile v3 m_length m_primeMany m_toldMany m_fate m_tail m_round m_tableKind m_areLaid m_unlike m_isFree a_mprimes a_mtable k_24 hk_24 v1 v2 v3 a_misOdd (upd a_misHigh s1.toNatClampNeg (vp_nar .boolean s0)) a_misTop a_mbits  h _ _ hP hD hS _ (lv_sub hl [0, 1, 2, 3] rfl)
def j_X12_layFlags_83 (N : Nat) (k_24 : (Int32 × Int32 × Int32 × (Nat → Int32) × (Nat → Int32) × (Nat → Int32) × (Nat → Int64)) → Option (Int32 × Int32 × Int32 × (Nat → Int64) × (Nat → Int32) × (Nat → Int32) × (Nat → Int32) × (Nat → Int32) × (Nat → Int64))) (v1 : Int32) (v2 : Int32) (v3 : Int32) (s0 : Int32) (a_mtable : Nat → Int32) (a_misOdd : Nat → Int32) (a_misHigh : Nat → Int32) (a_misTop : Nat → Int32) (a_mbits : Nat → Int64) : Option (Int32 × Int32 × Int32 × (Nat → Int64) × (Nat → Int32) × (Nat → Int32) × (Nat → Int32) × (Nat → Int32) × (Nat → Int64)) :=
  j_X12_layFlags_88 N k_24 v1 v2 v3 (1 : Int32) s0 a_mtable a_misOdd a_misHigh a_misTop a_mbits
set_option maxRecDepth 100000 in
set_option maxHeartbeats 4000000 in
theorem k_X12_layFlags_83 {p : Program} {l : Launch} {e : Env} {s : State} {m : MethodId} {args : Array Value} {below : List Frame} {meth : Method} {c : Code} {dC : Nat → ClassId} {dI : Nat → Nat → Nat} {cyI cyJ cyZ : ClassId} {A : Nat → Prop} (C0 : mC p s m meth c args cX12_layFlags none 4 RX12 wsX12_layFlags (gK dC dI cyI cyJ cyZ) A) (N : Nat) (res : Int32 × Int32 × Int32 × (Nat → Int64) × (Nat → Int32) × (Nat → Int32) × (Nat → Int32) × (Nat → Int32) × (Nat → Int64)) (q_Md : Nat) (q_mprimes : Nat) (q_mtable : Nat) (q_misOdd : Nat) (q_misHigh : Nat) (q_misTop : Nat) (q_mbits : Nat) (q_mtext : Nat) (q_mtold : Nat) (q_mstretch : Nat) (q_mfewest : Nat) (q_mpile : Nat) (s0 : Int32) (m_length : Int32) (m_primeMany : Int32) (m_toldMany : Int32) (m_fate : Int32) (m_tail : Int32) (m_round : Int32) (m_tableKind : Int32) (m_areLaid : Int32) (m_unlike : Int32) (m_isFree : Int32) (a_mprimes : Nat → Int64) (a_mtable : Nat → Int32) (k_24 : (Int32 × Int32 × Int32 × (Nat → Int32) × (Nat → Int32) × (Nat → Int32) × (Nat → Int64)) → Option (Int32 × Int32 × Int32 × (Nat → Int64) × (Nat → Int32) × (Nat → Int32) × (Nat → Int32) × (Nat → Int32) × (Nat → Int64))) (hk_24 : ∀ (v1 : Int32) (v2 : Int32) (v3 : Int32) (a_misOdd : Nat → Int32) (a_misHigh : Nat → Int32) (a_misTop : Nat → Int32) (a_mbits : Nat → Int64), k_24 (v1, v2, v3, a_misOdd, a_misHigh, a_misTop, a_mbits) = some res → ∀ (H : Heap) (locs : List Loc), va_P (dC, dI) vwCl (wd63 cyI cyJ cyZ q_Md q_mprimes q_mtable q_misOdd q_misHigh q_misTop q_mbits q_mtext q_mtold q_mstretch q_mfewest q_mpile m_length m_primeMany m_toldMany m_fate m_tail m_round m_tableKind m_areLaid m_unlike m_isFree a_mprimes a_mtable a_misOdd a_misHigh a_misTop a_mbits) H → va_D A (wd63 cyI cyJ cyZ q_Md q_mprimes q_mtable q_misOdd q_misHigh q_misTop q_mbits q_mtext q_mtold q_mstretch q_mfewest q_mpile m_length m_primeMany m_toldMany m_fate m_tail m_round m_tableKind m_areLaid m_unlike m_isFree a_mprimes a_mtable a_misOdd a_misHigh a_misTop a_mbits) → va_S A s.heap H locs → ∀ (ls : Array Slot), lv_has ls 4 [(0, .ref q_Md), (1, .int v1), (2, .int v2), (3, .int v3)] → W p l e (headSpec wsX12_layFlags rm_X12_layFlags).room s m args below meth c H locs 0 0 (MQ below (va_Qv (fun (_ : Unit) => True) (bW dC dI (fun (u : Unit) => (wd63 cyI cyJ cyZ q_Md q_mprimes q_mtable q_misOdd q_misHigh q_misTop q_mbits q_mtext q_mtold q_mstretch q_mfewest q_mpile m_length res.1 m_toldMany m_fate m_tail m_round res.2.1 res.2.2.1 m_unlike m_isFree res.2.2.2.1 res.2.2.2.2.1 res.2.2.2.2.2.1 res.2.2.2.2.2.2.1 res.2.2.2.2.2.2.2.1 res.2.2.2.2.2.2.2.2)) A) A) args s 0 0 A) (F0 m 24 ls [])) (v1 : Int32) (v2 : Int32) (v3 : Int32) (a_misOdd : Nat → Int32) (a_misHigh : Nat → Int32) (a_misTop : Nat → Int32) (a_mbits : Nat → Int64) (h : j_X12_layFlags_83 N k_24 v1 v2 v3 s0 a_mtable a_misOdd a_misHigh a_misTop a_mbits = some res) : ∀ (H : Heap) (locs : List Loc), va_P (dC, dI) vwCl (wd63 cyI cyJ cyZ q_Md q_mprimes q_mtable q_misOdd q_misHigh q_misTop q_mbits q_mtext q_mtold q_mstretch q_mfewest q_mpile m_length m_primeMany m_toldMany m_fate m_tail m_round m_tableKind m_areLaid m_unlike m_isFree a_mprimes a_mtable a_misOdd a_misHigh a_misTop a_mbits) H → va_D A (wd63 cyI cyJ cyZ q_Md q_mprimes q_mtable q_misOdd q_misHigh q_misTop q_mbits q_mtext q_mtold q_mstretch q_mfewest q_mpile m_length m_primeMany m_toldMany m_fate m_tail m_round m_tableKind m_areLaid m_unlike m_isFree a_mprimes a_mtable a_misOdd a_misHigh a_misTop a_mbits) → va_S A s.heap H locs → ∀ (ls : Array Slot), lv_has ls 4 [(0, .ref q_Md), (1, .int v1), (2, .int v2), (3, .int v3)] → W p l e (headSpec wsX12_layFlags rm_X12_layFlags).room s m args below meth c H locs 0 0 (MQ below (va_Qv (fun (_ : Unit) => True) (bW dC dI (fun (u : Unit) => (wd63 cyI cyJ cyZ q_Md q_mprimes q_mtable q_misOdd q_misHigh q_misTop q_mbits q_mtext q_mtold q_mstretch q_mfewest q_mpile m_length res.1 m_toldMany m_fate m_tail m_round res.2.1 res.2.2.1 m_unlike m_isFree res.2.2.2.1 res.2.2.2.2.1 res.2.2.2.2.2.1 res.2.2.2.2.2.2.1 res.2.2.2.2.2.2.2.1 res.2.2.2.2.2.2.2.2)) A) A) args s 0 0 A) (F0 m 83 ls [.int s0, .ref q_misHigh]) := by
  obtain ⟨hx, hb, hr, hml, hown, hts, hlocks, hG, hA⟩ := id C0
  have hK := hG.1
  intro H locs hP hD hS ls hl
  unfold j_X12_layFlags_83 at h
  refine lv_iconst (v := (1 : Int32)) hx hb dX12_layFlags_83 (by decide) ?_
  refine lv_goto (tgt := 88) hx hb dX12_layFlags_84 (by decide) ?_
  exact k_X12_layFlags_88 C0 N res q_Md q_mprimes q_mtable q_misOdd q_misHigh q_misTop q_mbits q_mtext q_mtold q_mstretch q_mfewest q_mpile (1 : Int32) s0 m_length m_primeMany m_toldMany m_fate m_tail m_round m_tableKind m_areLaid m_unlike m_isFree a_mprimes a_mtable k_24 hk_24 v1 v2 v3 a_misOdd a_misHigh a_misTop a_mbits  h _ _ hP hD hS _ (lv_sub hl [0, 1, 2, 3] rfl)
def j_X12_layFlags_58 (N : Nat) (k_24 : (Int32 × Int32 × Int32 × (Nat → Int32) × (Nat → Int32) × (Nat → Int32) × (Nat → Int64)) → Option (Int32 × Int32 × Int32 × (Nat → Int64) × (Nat → Int32) × (Nat → Int32) × (Nat → Int32) × (Nat → Int32) × (Nat → Int64))) (v1 : Int32) (v2 : Int32) (v3 : Int32) (s0 : Int32) (s1 : Int32) (a_mtable : Nat → Int32) (a_misOdd : Nat → Int32) (a_misHigh : Nat → Int32) (a_misTop : Nat → Int32) (a_mbits : Nat → Int64) : Option (Int32 × Int32 × Int32 × (Nat → Int64) × (Nat → Int32) × (Nat → Int32) × (Nat → Int32) × (Nat → Int32) × (Nat → Int64)) :=
  if s1 < 0 ∨ 5001 ≤ s1.toNatClampNeg then
    none
  else
    if v1 = 0 then
      j_X12_layFlags_83 N k_24 v1 v2 v3 v3 a_mtable (upd a_misOdd s1.toNatClampNeg (vp_nar .boolean s0)) a_misHigh a_misTop a_mbits
    else
      if v3 < 0 ∨ 50001 ≤ v3.toNatClampNeg then
        none
      else
        if v1 < 0 ∨ 50001 ≤ v1.toNatClampNeg then
          none
        else
          if (a_mtable v3.toNatClampNeg) ≤ (a_mtable v1.toNatClampNeg) then
            j_X12_layFlags_88 N k_24 v1 v2 v3 (0 : Int32) v3 a_mtable (upd a_misOdd s1.toNatClampNeg (vp_nar .boolean s0)) a_misHigh a_misTop a_mbits
          else
            j_X12_layFlags_83 N k_24 v1 v2 v3 v3 a_mtable (upd a_misOdd s1.toNatClampNeg (vp_nar .boolean s0)) a_misHigh a_misTop a_mbits
set_option maxRecDepth 100000 in
set_option maxHeartbeats 4000000 in
theorem k_X12_layFlags_58 {p : Program} {l : Launch} {e : Env} {s : State} {m : MethodId} {args : Array Value} {below : List Frame} {meth : Method} {c : Code} {dC : Nat → ClassId} {dI : Nat → Nat → Nat} {cyI cyJ cyZ : ClassId} {A : Nat → Prop} (C0 : mC p s m meth c args cX12_layFlags none 4 RX12 wsX12_layFlags (gK dC dI cyI cyJ cyZ) A) (N : Nat) (res : Int32 × Int32 × Int32 × (Nat → Int64) × (Nat → Int32) × (Nat → Int32) × (Nat → Int32) × (Nat → Int32) × (Nat → Int64)) (q_Md : Nat) (q_mprimes : Nat) (q_mtable : Nat) (q_misOdd : Nat) (q_misHigh : Nat) (q_misTop : Nat) (q_mbits : Nat) (q_mtext : Nat) (q_mtold : Nat) (q_mstretch : Nat) (q_mfewest : Nat) (q_mpile : Nat) (s0 : Int32) (s1 : Int32) (m_length : Int32) (m_primeMany : Int32) (m_toldMany : Int32) (m_fate : Int32) (m_tail : Int32) (m_round : Int32) (m_tableKind : Int32) (m_areLaid : Int32) (m_unlike : Int32) (m_isFree : Int32) (a_mprimes : Nat → Int64) (a_mtable : Nat → Int32) (k_24 : (Int32 × Int32 × Int32 × (Nat → Int32) × (Nat → Int32) × (Nat → Int32) × (Nat → Int64)) → Option (Int32 × Int32 × Int32 × (Nat → Int64) × (Nat → Int32) × (Nat → Int32) × (Nat → Int32) × (Nat → Int32) × (Nat → Int64))) (hk_24 : ∀ (v1 : Int32) (v2 : Int32) (v3 : Int32) (a_misOdd : Nat → Int32) (a_misHigh : Nat → Int32) (a_misTop : Nat → Int32) (a_mbits : Nat → Int64), k_24 (v1, v2, v3, a_misOdd, a_misHigh, a_misTop, a_mbits) = some res → ∀ (H : Heap) (locs : List Loc), va_P (dC, dI) vwCl (wd63 cyI cyJ cyZ q_Md q_mprimes q_mtable q_misOdd q_misHigh q_misTop q_mbits q_mtext q_mtold q_mstretch q_mfewest q_mpile m_length m_primeMany m_toldMany m_fate m_tail m_round m_tableKind m_areLaid m_unlike m_isFree a_mprimes a_mtable a_misOdd a_misHigh a_misTop a_mbits) H → va_D A (wd63 cyI cyJ cyZ q_Md q_mprimes q_mtable q_misOdd q_misHigh q_misTop q_mbits q_mtext q_mtold q_mstretch q_mfewest q_mpile m_length m_primeMany m_toldMany m_fate m_tail m_round m_tableKind m_areLaid m_unlike m_isFree a_mprimes a_mtable a_misOdd a_misHigh a_misTop a_mbits) → va_S A s.heap H locs → ∀ (ls : Array Slot), lv_has ls 4 [(0, .ref q_Md), (1, .int v1), (2, .int v2), (3, .int v3)] → W p l e (headSpec wsX12_layFlags rm_X12_layFlags).room s m args below meth c H locs 0 0 (MQ below (va_Qv (fun (_ : Unit) => True) (bW dC dI (fun (u : Unit) => (wd63 cyI cyJ cyZ q_Md q_mprimes q_mtable q_misOdd q_misHigh q_misTop q_mbits q_mtext q_mtold q_mstretch q_mfewest q_mpile m_length res.1 m_toldMany m_fate m_tail m_round res.2.1 res.2.2.1 m_unlike m_isFree res.2.2.2.1 res.2.2.2.2.1 res.2.2.2.2.2.1 res.2.2.2.2.2.2.1 res.2.2.2.2.2.2.2.1 res.2.2.2.2.2.2.2.2)) A) A) args s 0 0 A) (F0 m 24 ls [])) (v1 : Int32) (v2 : Int32) (v3 : Int32) (a_misOdd : Nat → Int32) (a_misHigh : Nat → Int32) (a_misTop : Nat → Int32) (a_mbits : Nat → Int64) (h : j_X12_layFlags_58 N k_24 v1 v2 v3 s0 s1 a_mtable a_misOdd a_misHigh a_misTop a_mbits = some res) : ∀ (H : Heap) (locs : List Loc), va_P (dC, dI) vwCl (wd63 cyI cyJ cyZ q_Md q_mprimes q_mtable q_misOdd q_misHigh q_misTop q_mbits q_mtext q_mtold q_mstretch q_mfewest q_mpile m_length m_primeMany m_toldMany m_fate m_tail m_round m_tableKind m_areLaid m_unlike m_isFree a_mprimes a_mtable a_misOdd a_misHigh a_misTop a_mbits) H → va_D A (wd63 cyI cyJ cyZ q_Md q_mprimes q_mtable q_misOdd q_misHigh q_misTop q_mbits q_mtext q_mtold q_mstretch q_mfewest q_mpile m_length m_primeMany m_toldMany m_fate m_tail m_round m_tableKind m_areLaid m_unlike m_isFree a_mprimes a_mtable a_misOdd a_misHigh a_misTop a_mbits) → va_S A s.heap H locs → ∀ (ls : Array Slot), lv_has ls 4 [(0, .ref q_Md), (1, .int v1), (2, .int v2), (3, .int v3)] → W p l e (headSpec wsX12_layFlags rm_X12_layFlags).room s m args below meth c H locs 0 0 (MQ below (va_Qv (fun (_ : Unit) => True) (bW dC dI (fun (u : Unit) => (wd63 cyI cyJ cyZ q_Md q_mprimes q_mtable q_misOdd q_misHigh q_misTop q_mbits q_mtext q_mtold q_mstretch q_mfewest q_mpile m_length res.1 m_toldMany m_fate m_tail m_round res.2.1 res.2.2.1 m_unlike m_isFree res.2.2.2.1 res.2.2.2.2.1 res.2.2.2.2.2.1 res.2.2.2.2.2.2.1 res.2.2.2.2.2.2.2.1 res.2.2.2.2.2.2.2.2)) A) A) args s 0 0 A) (F0 m 58 ls [.int s0, .int s1, .ref q_misOdd]) := by
  obtain ⟨hx, hb, hr, hml, hown, hts, hlocks, hG, hA⟩ := id C0
  have hK := hG.1
  intro H locs hP hD hS ls hl
  unfold j_X12_layFlags_58 at h
  obtain ⟨b10z, h⟩ := xn h
  refine va_zast hx hb hK hP hD hS 3 2 rfl rfl b10z dX12_layFlags_58 (fun H locs hP hD hS => ?_)
  have hP : va_P (dC, dI) vwCl (wd63 cyI cyJ cyZ q_Md q_mprimes q_mtable q_misOdd q_misHigh q_misTop q_mbits q_mtext q_mtold q_mstretch q_mfewest q_mpile m_length m_primeMany m_toldMany m_fate m_tail m_round m_tableKind m_areLaid m_unlike m_isFree a_mprimes a_mtable (upd a_misOdd s1.toNatClampNeg (vp_nar .boolean s0)) a_misHigh a_misTop a_mbits) H := hP
  have hD : va_D A (wd63 cyI cyJ cyZ q_Md q_mprimes q_mtable q_misOdd q_misHigh q_misTop q_mbits q_mtext q_mtold q_mstretch q_mfewest q_mpile m_length m_primeMany m_toldMany m_fate m_tail m_round m_tableKind m_areLaid m_unlike m_isFree a_mprimes a_mtable (upd a_misOdd s1.toNatClampNeg (vp_nar .boolean s0)) a_misHigh a_misTop a_mbits) := hD
  refine lv_aload_n hx hb dX12_layFlags_59 rfl (lv_at hl 0 rfl) ?_
  refine va_get (D := (dC, dI)) (ci := 12) (v := .ref q_misHigh) (C := RX12) (T := TX12) (N := 21) hx hb hts iw_X12_layFlags_X12 hown hK hP 0 rfl rfl 15 (by decide) (hts (.fieldLink RX12 34 "GoesIntoModel" "isHigh" "[Z") (List.mem_of_getElem? (i := 3) rfl)) (fun _ h9 => h9) rfl dX12_layFlags_60 ?_
  refine lv_iload_n hx hb dX12_layFlags_63 rfl (lv_at hl 3 rfl) ?_
  refine lv_iload_n hx hb dX12_layFlags_64 rfl (lv_at hl 1 rfl) ?_
  refine lv_if_eq (tgt := 83) hx hb dX12_layFlags_65 (by decide) (fun c11z => ?_) (fun c11z => ?_)
  · have h := xt h c11z
    exact k_X12_layFlags_83 C0 N res q_Md q_mprimes q_mtable q_misOdd q_misHigh q_misTop q_mbits q_mtext q_mtold q_mstretch q_mfewest q_mpile v3 m_length m_primeMany m_toldMany m_fate m_tail m_round m_tableKind m_areLaid m_unlike m_isFree a_mprimes a_mtable k_24 hk_24 v1 v2 v3 (upd a_misOdd s1.toNatClampNeg (vp_nar .boolean s0)) a_misHigh a_misTop a_mbits  h _ _ hP hD hS _ (lv_sub hl [0, 1, 2, 3] rfl)
  · have h := xf h c11z
    refine lv_aload_n hx hb dX12_layFlags_68 rfl (lv_at hl 0 rfl) ?_
    refine va_get (D := (dC, dI)) (ci := 12) (v := .ref q_mtable) (C := RX12) (T := TX12) (N := 21) hx hb hts iw_X12_layFlags_X12 hown hK hP 0 rfl rfl 10 (by decide) (hts (.fieldLink RX12 21 "GoesIntoModel" "table" "[I") (List.mem_of_getElem? (i := 4) rfl)) (fun _ h9 => h9) rfl dX12_layFlags_69 ?_
    refine lv_iload_n hx hb dX12_layFlags_72 rfl (lv_at hl 3 rfl) ?_
    obtain ⟨b24z, h⟩ := xn h
    refine va_iald hx hb hK hP 2 0 rfl rfl b24z dX12_layFlags_73 ?_
    refine lv_aload_n hx hb dX12_layFlags_74 rfl (lv_at hl 0 rfl) ?_
    refine va_get (D := (dC, dI)) (ci := 12) (v := .ref q_mtable) (C := RX12) (T := TX12) (N := 21) hx hb hts iw_X12_layFlags_X12 hown hK hP 0 rfl rfl 10 (by decide) (hts (.fieldLink RX12 21 "GoesIntoModel" "table" "[I") (List.mem_of_getElem? (i := 4) rfl)) (fun _ h9 => h9) rfl dX12_layFlags_75 ?_
    refine lv_iload_n hx hb dX12_layFlags_78 rfl (lv_at hl 1 rfl) ?_
    obtain ⟨b25z, h⟩ := xn h
    refine va_iald hx hb hK hP 2 0 rfl rfl b25z dX12_layFlags_79 ?_
    refine lv_icmp_le (tgt := 87) hx hb dX12_layFlags_80 (by decide) (fun c26z => ?_) (fun c26z => ?_)
    · have h := xt h c26z
      refine lv_iconst (v := (0 : Int32)) hx hb dX12_layFlags_87 (by decide) ?_
      exact k_X12_layFlags_88 C0 N res q_Md q_mprimes q_mtable q_misOdd q_misHigh q_misTop q_mbits q_mtext q_mtold q_mstretch q_mfewest q_mpile (0 : Int32) v3 m_length m_primeMany m_toldMany m_fate m_tail m_round m_tableKind m_areLaid m_unlike m_isFree a_mprimes a_mtable k_24 hk_24 v1 v2 v3 (upd a_misOdd s1.toNatClampNeg (vp_nar .boolean s0)) a_misHigh a_misTop a_mbits  h _ _ hP hD hS _ (lv_sub hl [0, 1, 2, 3] rfl)
    · have h := xf h c26z
      exact k_X12_layFlags_83 C0 N res q_Md q_mprimes q_mtable q_misOdd q_misHigh q_misTop q_mbits q_mtext q_mtold q_mstretch q_mfewest q_mpile v3 m_length m_primeMany m_toldMany m_fate m_tail m_round m_tableKind m_areLaid m_unlike m_isFree a_mprimes a_mtable k_24 hk_24 v1 v2 v3 (upd a_misOdd s1.toNatClampNeg (vp_nar .boolean s0)) a_misHigh a_misTop a_mbits  h _ _ hP hD hS _ (lv_sub hl [0, 1, 2, 3] rfl)
def j_X12_layFlags_57 (N : Nat) (k_24 : (Int32 × Int32 × Int32 × (Nat → Int32) × (Nat → Int32) × (Nat → Int32) × (Nat → Int64)) → Option (Int32 × Int32 × Int32 × (Nat → Int64) × (Nat → Int32) × (Nat → Int32) × (Nat → Int32) × (Nat → Int32) × (Nat → Int64))) (v1 : Int32) (v2 : Int32) (v3 : Int32) (s0 : Int32) (a_mtable : Nat → Int32) (a_misOdd : Nat → Int32) (a_misHigh : Nat → Int32) (a_misTop : Nat → Int32) (a_mbits : Nat → Int64) : Option (Int32 × Int32 × Int32 × (Nat → Int64) × (Nat → Int32) × (Nat → Int32) × (Nat → Int32) × (Nat → Int32) × (Nat → Int64)) :=
  j_X12_layFlags_58 N k_24 v1 v2 v3 (0 : Int32) s0 a_mtable a_misOdd a_misHigh a_misTop a_mbits
set_option maxRecDepth 100000 in
set_option maxHeartbeats 4000000 in
theorem k_X12_layFlags_57 {p : Program} {l : Launch} {e : Env} {s : State} {m : MethodId} {args : Array Value} {below : List Frame} {meth : Method} {c : Code} {dC : Nat → ClassId} {dI : Nat → Nat → Nat} {cyI cyJ cyZ : ClassId} {A : Nat → Prop} (C0 : mC p s m meth c args cX12_layFlags none 4 RX12 wsX12_layFlags (gK dC dI cyI cyJ cyZ) A) (N : Nat) (res : Int32 × Int32 × Int32 × (Nat → Int64) × (Nat → Int32) × (Nat → Int32) × (Nat → Int32) × (Nat → Int32) × (Nat → Int64)) (q_Md : Nat) (q_mprimes : Nat) (q_mtable : Nat) (q_misOdd : Nat) (q_misHigh : Nat) (q_misTop : Nat) (q_mbits : Nat) (q_mtext : Nat) (q_mtold : Nat) (q_mstretch : Nat) (q_mfewest : Nat) (q_mpile : Nat) (s0 : Int32) (m_length : Int32) (m_primeMany : Int32) (m_toldMany : Int32) (m_fate : Int32) (m_tail : Int32) (m_round : Int32) (m_tableKind : Int32) (m_areLaid : Int32) (m_unlike : Int32) (m_isFree : Int32) (a_mprimes : Nat → Int64) (a_mtable : Nat → Int32) (k_24 : (Int32 × Int32 × Int32 × (Nat → Int32) × (Nat → Int32) × (Nat → Int32) × (Nat → Int64)) → Option (Int32 × Int32 × Int32 × (Nat → Int64) × (Nat → Int32) × (Nat → Int32) × (Nat → Int32) × (Nat → Int32) × (Nat → Int64))) (hk_24 : ∀ (v1 : Int32) (v2 : Int32) (v3 : Int32) (a_misOdd : Nat → Int32) (a_misHigh : Nat → Int32) (a_misTop : Nat → Int32) (a_mbits : Nat → Int64), k_24 (v1, v2, v3, a_misOdd, a_misHigh, a_misTop, a_mbits) = some res → ∀ (H : Heap) (locs : List Loc), va_P (dC, dI) vwCl (wd63 cyI cyJ cyZ q_Md q_mprimes q_mtable q_misOdd q_misHigh q_misTop q_mbits q_mtext q_mtold q_mstretch q_mfewest q_mpile m_length m_primeMany m_toldMany m_fate m_tail m_round m_tableKind m_areLaid m_unlike m_isFree a_mprimes a_mtable a_misOdd a_misHigh a_misTop a_mbits) H → va_D A (wd63 cyI cyJ cyZ q_Md q_mprimes q_mtable q_misOdd q_misHigh q_misTop q_mbits q_mtext q_mtold q_mstretch q_mfewest q_mpile m_length m_primeMany m_toldMany m_fate m_tail m_round m_tableKind m_areLaid m_unlike m_isFree a_mprimes a_mtable a_misOdd a_misHigh a_misTop a_mbits) → va_S A s.heap H locs → ∀ (ls : Array Slot), lv_has ls 4 [(0, .ref q_Md), (1, .int v1), (2, .int v2), (3, .int v3)] → W p l e (headSpec wsX12_layFlags rm_X12_layFlags).room s m args below meth c H locs 0 0 (MQ below (va_Qv (fun (_ : Unit) => True) (bW dC dI (fun (u : Unit) => (wd63 cyI cyJ cyZ q_Md q_mprimes q_mtable q_misOdd q_misHigh q_misTop q_mbits q_mtext q_mtold q_mstretch q_mfewest q_mpile m_length res.1 m_toldMany m_fate m_tail m_round res.2.1 res.2.2.1 m_unlike m_isFree res.2.2.2.1 res.2.2.2.2.1 res.2.2.2.2.2.1 res.2.2.2.2.2.2.1 res.2.2.2.2.2.2.2.1 res.2.2.2.2.2.2.2.2)) A) A) args s 0 0 A) (F0 m 24 ls [])) (v1 : Int32) (v2 : Int32) (v3 : Int32) (a_misOdd : Nat → Int32) (a_misHigh : Nat → Int32) (a_misTop : Nat → Int32) (a_mbits : Nat → Int64) (h : j_X12_layFlags_57 N k_24 v1 v2 v3 s0 a_mtable a_misOdd a_misHigh a_misTop a_mbits = some res) : ∀ (H : Heap) (locs : List Loc), va_P (dC, dI) vwCl (wd63 cyI cyJ cyZ q_Md q_mprimes q_mtable q_misOdd q_misHigh q_misTop q_mbits q_mtext q_mtold q_mstretch q_mfewest q_mpile m_length m_primeMany m_toldMany m_fate m_tail m_round m_tableKind m_areLaid m_unlike m_isFree a_mprimes a_mtable a_misOdd a_misHigh a_misTop a_mbits) H → va_D A (wd63 cyI cyJ cyZ q_Md q_mprimes q_mtable q_misOdd q_misHigh q_misTop q_mbits q_mtext q_mtold q_mstretch q_mfewest q_mpile m_length m_primeMany m_toldMany m_fate m_tail m_round m_tableKind m_areLaid m_unlike m_isFree a_mprimes a_mtable a_misOdd a_misHigh a_misTop a_mbits) → va_S A s.heap H locs → ∀ (ls : Array Slot), lv_has ls 4 [(0, .ref q_Md), (1, .int v1), (2, .int v2), (3, .int v3)] → W p l e (headSpec wsX12_layFlags rm_X12_layFlags).room s m args below meth c H locs 0 0 (MQ below (va_Qv (fun (_ : Unit) => True) (bW dC dI (fun (u : Unit) => (wd63 cyI cyJ cyZ q_Md q_mprimes q_mtable q_misOdd q_misHigh q_misTop q_mbits q_mtext q_mtold q_mstretch q_mfewest q_mpile m_length res.1 m_toldMany m_fate m_tail m_round res.2.1 res.2.2.1 m_unlike m_isFree res.2.2.2.1 res.2.2.2.2.1 res.2.2.2.2.2.1 res.2.2.2.2.2.2.1 res.2.2.2.2.2.2.2.1 res.2.2.2.2.2.2.2.2)) A) A) args s 0 0 A) (F0 m 57 ls [.int s0, .ref q_misOdd]) := by
  obtain ⟨hx, hb, hr, hml, hown, hts, hlocks, hG, hA⟩ := id C0
  have hK := hG.1
  intro H locs hP hD hS ls hl
  unfold j_X12_layFlags_57 at h
  refine lv_iconst (v := (0 : Int32)) hx hb dX12_layFlags_57 (by decide) ?_
  exact k_X12_layFlags_58 C0 N res q_Md q_mprimes q_mtable q_misOdd q_misHigh q_misTop q_mbits q_mtext q_mtold q_mstretch q_mfewest q_mpile (0 : Int32) s0 m_length m_primeMany m_toldMany m_fate m_tail m_round m_tableKind m_areLaid m_unlike m_isFree a_mprimes a_mtable k_24 hk_24 v1 v2 v3 a_misOdd a_misHigh a_misTop a_mbits  h _ _ hP hD hS _ (lv_sub hl [0, 1, 2, 3] rfl)
def s_X12_layFlags_24 (N : Nat) (m_primeMany : Int32) (m_tableKind : Int32) (m_areLaid : Int32) (a_mprimes : Nat → Int64) (a_mtable : Nat → Int32) (k_24 : (Int32 × Int32 × Int32 × (Nat → Int32) × (Nat → Int32) × (Nat → Int32) × (Nat → Int64)) → Option (Int32 × Int32 × Int32 × (Nat → Int64) × (Nat → Int32) × (Nat → Int32) × (Nat → Int32) × (Nat → Int32) × (Nat → Int64))) (v1 : Int32) (v2 : Int32) (v3 : Int32) (a_misOdd : Nat → Int32) (a_misHigh : Nat → Int32) (a_misTop : Nat → Int32) (a_mbits : Nat → Int64) : Option (Int32 × Int32 × Int32 × (Nat → Int64) × (Nat → Int32) × (Nat → Int32) × (Nat → Int32) × (Nat → Int32) × (Nat → Int64)) :=
  if (5000 : Int32) < v3 then
    some (m_primeMany, m_tableKind, m_areLaid, a_mprimes, a_mtable, a_misOdd, a_misHigh, a_misTop, a_mbits)
  else
    Option.bind (f_X12_weigh N v3 a_mtable) fun r6z =>
    if r6z = (2 : Int32) then
      Option.bind (f_X12_isMade N v3 a_mbits) fun r27z =>
      if r27z.1 = 0 then
        j_X12_layFlags_58 N k_24 v1 v2 v3 (1 : Int32) v3 a_mtable a_misOdd a_misHigh a_misTop r27z.2
      else
        j_X12_layFlags_57 N k_24 v1 v2 v3 v3 a_mtable a_misOdd a_misHigh a_misTop r27z.2
    else
      j_X12_layFlags_57 N k_24 v1 v2 v3 v3 a_mtable a_misOdd a_misHigh a_misTop a_mbits
def l_X12_layFlags_24 (N : Nat) (m_primeMany : Int32) (m_tableKind : Int32) (m_areLaid : Int32) (a_mprimes : Nat → Int64) (a_mtable : Nat → Int32) (n : Nat) (z : Int32 × Int32 × Int32 × (Nat → Int32) × (Nat → Int32) × (Nat → Int32) × (Nat → Int64)) : Option (Int32 × Int32 × Int32 × (Nat → Int64) × (Nat → Int32) × (Nat → Int32) × (Nat → Int32) × (Nat → Int32) × (Nat → Int64)) := lp (fun k z => s_X12_layFlags_24 N m_primeMany m_tableKind m_areLaid a_mprimes a_mtable k z.1 z.2.1 z.2.2.1 z.2.2.2.1 z.2.2.2.2.1 z.2.2.2.2.2.1 z.2.2.2.2.2.2) n z
set_option maxRecDepth 100000 in
set_option maxHeartbeats 4000000 in
theorem k_X12_layFlags_24 {p : Program} {l : Launch} {e : Env} {s : State} {m : MethodId} {args : Array Value} {below : List Frame} {meth : Method} {c : Code} {dC : Nat → ClassId} {dI : Nat → Nat → Nat} {cyI cyJ cyZ : ClassId} {A : Nat → Prop} (C0 : mC p s m meth c args cX12_layFlags none 4 RX12 wsX12_layFlags (gK dC dI cyI cyJ cyZ) A) (N : Nat) (res : Int32 × Int32 × Int32 × (Nat → Int64) × (Nat → Int32) × (Nat → Int32) × (Nat → Int32) × (Nat → Int32) × (Nat → Int64)) (q_Md : Nat) (q_mprimes : Nat) (q_mtable : Nat) (q_misOdd : Nat) (q_misHigh : Nat) (q_misTop : Nat) (q_mbits : Nat) (q_mtext : Nat) (q_mtold : Nat) (q_mstretch : Nat) (q_mfewest : Nat) (q_mpile : Nat) (m_length : Int32) (m_primeMany : Int32) (m_toldMany : Int32) (m_fate : Int32) (m_tail : Int32) (m_round : Int32) (m_tableKind : Int32) (m_areLaid : Int32) (m_unlike : Int32) (m_isFree : Int32) (a_mprimes : Nat → Int64) (a_mtable : Nat → Int32) : ∀ (n : Nat) (v1 : Int32) (v2 : Int32) (v3 : Int32) (a_misOdd : Nat → Int32) (a_misHigh : Nat → Int32) (a_misTop : Nat → Int32) (a_mbits : Nat → Int64), l_X12_layFlags_24 N m_primeMany m_tableKind m_areLaid a_mprimes a_mtable n (v1, v2, v3, a_misOdd, a_misHigh, a_misTop, a_mbits) = some res → ∀ (H : Heap) (locs : List Loc), va_P (dC, dI) vwCl (wd63 cyI cyJ cyZ q_Md q_mprimes q_mtable q_misOdd q_misHigh q_misTop q_mbits q_mtext q_mtold q_mstretch q_mfewest q_mpile m_length m_primeMany m_toldMany m_fate m_tail m_round m_tableKind m_areLaid m_unlike m_isFree a_mprimes a_mtable a_misOdd a_misHigh a_misTop a_mbits) H → va_D A (wd63 cyI cyJ cyZ q_Md q_mprimes q_mtable q_misOdd q_misHigh q_misTop q_mbits q_mtext q_mtold q_mstretch q_mfewest q_mpile m_length m_primeMany m_toldMany m_fate m_tail m_round m_tableKind m_areLaid m_unlike m_isFree a_mprimes a_mtable a_misOdd a_misHigh a_misTop a_mbits) → va_S A s.heap H locs → ∀ (ls : Array Slot), lv_has ls 4 [(0, .ref q_Md), (1, .int v1), (2, .int v2), (3, .int v3)] → W p l e (headSpec wsX12_layFlags rm_X12_layFlags).room s m args below meth c H locs 0 0 (MQ below (va_Qv (fun (_ : Unit) => True) (bW dC dI (fun (u : Unit) => (wd63 cyI cyJ cyZ q_Md q_mprimes q_mtable q_misOdd q_misHigh q_misTop q_mbits q_mtext q_mtold q_mstretch q_mfewest q_mpile m_length res.1 m_toldMany m_fate m_tail m_round res.2.1 res.2.2.1 m_unlike m_isFree res.2.2.2.1 res.2.2.2.2.1 res.2.2.2.2.2.1 res.2.2.2.2.2.2.1 res.2.2.2.2.2.2.2.1 res.2.2.2.2.2.2.2.2)) A) A) args s 0 0 A) (F0 m 24 ls []) := by
  obtain ⟨hx, hb, hr, hml, hown, hts, hlocks, hG, hA⟩ := id C0
  have hK := hG.1
  intro n
  induction n with
  | zero =>
    intro v1 v2 v3 a_misOdd a_misHigh a_misTop a_mbits h
    cases h
  | succ n ih =>
    intro v1 v2 v3 a_misOdd a_misHigh a_misTop a_mbits h H locs hP hD hS ls hl
    have h : s_X12_layFlags_24 N m_primeMany m_tableKind m_areLaid a_mprimes a_mtable (l_X12_layFlags_24 N m_primeMany m_tableKind m_areLaid a_mprimes a_mtable n) v1 v2 v3 a_misOdd a_misHigh a_misTop a_mbits = some res := h
    unfold s_X12_layFlags_24 at h
    refine lv_iload_n hx hb dX12_layFlags_24 rfl (lv_at hl 3 rfl) ?_
    refine lv_sipush (v := (5000 : Int32)) hx hb dX12_layFlags_25 (by decide) ?_
    refine lv_icmp_gt (tgt := 164) hx hb dX12_layFlags_28 (by decide) (fun c5z => ?_) (fun c5z => ?_)
    · have h := xt h c5z
      obtain rfl := Option.some.inj h
      exact W.vret hx hb hr (fun t ht hW => ⟨⟨(), rfl, trivial, by rw [ht]; exact hP, hD⟩, hS.F ht⟩) hS.2.2 dX12_layFlags_164 hlocks
    · have h := xf h c5z
      refine lv_aload_n hx hb dX12_layFlags_31 rfl (lv_at hl 0 rfl) ?_
      refine va_get (D := (dC, dI)) (ci := 12) (v := .ref q_misOdd) (C := RX12) (T := TX12) (N := 21) hx hb hts iw_X12_layFlags_X12 hown hK hP 0 rfl rfl 14 (by decide) (hts (.fieldLink RX12 30 "GoesIntoModel" "isOdd" "[Z") (List.mem_of_getElem? (i := 2) rfl)) (fun _ h9 => h9) rfl dX12_layFlags_32 ?_
      refine lv_iload_n hx hb dX12_layFlags_35 rfl (lv_at hl 3 rfl) ?_
      refine lv_aload_n hx hb dX12_layFlags_36 rfl (lv_at hl 0 rfl) ?_
      refine lv_iload_n hx hb dX12_layFlags_37 rfl (lv_at hl 3 rfl) ?_
      obtain ⟨r6z, hr6z, h⟩ := xb_at h
      have hPc := hP.sub (ws' := (wd59 cyI cyJ cyZ q_Md q_mtable q_mtext q_mprimes q_mtold q_mstretch q_mfewest q_misOdd q_misHigh q_misTop q_mbits q_mpile m_length m_primeMany m_toldMany m_fate m_tail m_round m_tableKind m_areLaid m_unlike m_isFree a_mtable)) [0, 2] rfl
      have hDc := hD.sub (ws' := (wd59 cyI cyJ cyZ q_Md q_mtable q_mtext q_mprimes q_mtold q_mstretch q_mfewest q_misOdd q_misHigh q_misTop q_mbits q_mpile m_length m_primeMany m_toldMany m_fate m_tail m_round m_tableKind m_areLaid m_unlike m_isFree a_mtable)) [0, 2] (by decide) rfl
      refine cal_i [0, 2] [1, 3, 4, 5, 6] (va_runV (As := [.int v3]) (rest := [.int v3, .ref q_misOdd]) ⟨hx, hb, hml, hown, hts⟩ (c_X12_weigh l dC dI cyI cyJ cyZ N r6z H.size q_Md q_mtable q_mtext q_mprimes q_mtold q_mstretch q_mfewest q_misOdd q_misHigh q_misTop q_mbits q_mpile v3 m_length m_primeMany m_toldMany m_fate m_tail m_round m_tableKind m_areLaid m_unlike m_isFree a_mtable hr6z) (cwV 1 hts gX12_layFlags_X12_weigh rfl rfl rfl ⟨rfl, hd_X12_weigh⟩ ⟨Nat.le_of_ble_eq_true rfl, Nat.le_of_ble_eq_true rfl⟩) ⟨pC.blind, va_recv hK hPc (ci := 12) (q0 := 0) rfl rfl, pC.pre hPc hG hDc⟩ rfl rfl hl.1 rfl (lv_room (Nat.le_of_ble_eq_true rfl)) dX12_layFlags_38 ⟨Nat.zero_le _, Nat.zero_le _⟩) hP hD hS hA rfl rfl rfl (by decide) (fun x8z u7z H locs hw hP hD hS => ?_)
      obtain rfl := hw.symm
      have hP : va_P (dC, dI) vwCl (wd63 cyI cyJ cyZ q_Md q_mprimes q_mtable q_misOdd q_misHigh q_misTop q_mbits q_mtext q_mtold q_mstretch q_mfewest q_mpile m_length m_primeMany m_toldMany m_fate m_tail m_round m_tableKind m_areLaid m_unlike m_isFree a_mprimes a_mtable a_misOdd a_misHigh a_misTop a_mbits) H := hP.sub [5, 0, 6, 1, 2, 3, 4] rfl
      have hD : va_D A (wd63 cyI cyJ cyZ q_Md q_mprimes q_mtable q_misOdd q_misHigh q_misTop q_mbits q_mtext q_mtold q_mstretch q_mfewest q_mpile m_length m_primeMany m_toldMany m_fate m_tail m_round m_tableKind m_areLaid m_unlike m_isFree a_mprimes a_mtable a_misOdd a_misHigh a_misTop a_mbits) := hD.sub [5, 0, 6, 1, 2, 3, 4] (by decide) rfl
      refine lv_iconst (v := (2 : Int32)) hx hb dX12_layFlags_41 (by decide) ?_
      refine lv_icmp_ne (tgt := 57) hx hb dX12_layFlags_42 (by decide) (fun c9z => ?_) (fun c9z => ?_)
      · have h := xf h c9z
        exact k_X12_layFlags_57 C0 N res q_Md q_mprimes q_mtable q_misOdd q_misHigh q_misTop q_mbits q_mtext q_mtold q_mstretch q_mfewest q_mpile v3 m_length m_primeMany m_toldMany m_fate m_tail m_round m_tableKind m_areLaid m_unlike m_isFree a_mprimes a_mtable _ ih v1 v2 v3 a_misOdd a_misHigh a_misTop a_mbits  h _ _ hP hD hS _ (lv_sub hl [0, 1, 2, 3] rfl)
      · have h := xt h c9z
        refine lv_aload_n hx hb dX12_layFlags_45 rfl (lv_at hl 0 rfl) ?_
        refine lv_iload_n hx hb dX12_layFlags_46 rfl (lv_at hl 3 rfl) ?_
        obtain ⟨r27z, hr27z, h⟩ := xb_at h
        have hPc := hP.sub (ws' := (wd62 cyI cyJ cyZ q_Md q_mbits q_mtext q_mprimes q_mtold q_mtable q_mstretch q_mfewest q_misOdd q_misHigh q_misTop q_mpile m_length m_primeMany m_toldMany m_fate m_tail m_round m_tableKind m_areLaid m_unlike m_isFree a_mbits)) [0, 6] rfl
        have hDc := hD.sub (ws' := (wd62 cyI cyJ cyZ q_Md q_mbits q_mtext q_mprimes q_mtold q_mtable q_mstretch q_mfewest q_misOdd q_misHigh q_misTop q_mpile m_length m_primeMany m_toldMany m_fate m_tail m_round m_tableKind m_areLaid m_unlike m_isFree a_mbits)) [0, 6] (by decide) rfl
        refine cal_i [0, 6] [1, 2, 3, 4, 5] (va_runV (As := [.int v3]) (rest := [.int v3, .ref q_misOdd]) ⟨hx, hb, hml, hown, hts⟩ (c_X12_isMade l dC dI cyI cyJ cyZ N r27z H.size q_Md q_mbits q_mtext q_mprimes q_mtold q_mtable q_mstretch q_mfewest q_misOdd q_misHigh q_misTop q_mpile v3 m_length m_primeMany m_toldMany m_fate m_tail m_round m_tableKind m_areLaid m_unlike m_isFree a_mbits hr27z) (cwV 1 hts gX12_layFlags_X12_isMade rfl rfl rfl ⟨rfl, hd_X12_isMade⟩ ⟨Nat.le_of_ble_eq_true rfl, Nat.le_of_ble_eq_true rfl⟩) ⟨pC.blind, va_recv hK hPc (ci := 12) (q0 := 0) rfl rfl, pC.pre hPc hG hDc⟩ rfl rfl hl.1 rfl (lv_room (Nat.le_of_ble_eq_true rfl)) dX12_layFlags_47 ⟨Nat.zero_le _, Nat.zero_le _⟩) hP hD hS hA rfl rfl rfl (by decide) (fun x29z u28z H locs hw hP hD hS => ?_)
        obtain rfl := hw.symm
        have hP : va_P (dC, dI) vwCl (wd63 cyI cyJ cyZ q_Md q_mprimes q_mtable q_misOdd q_misHigh q_misTop q_mbits q_mtext q_mtold q_mstretch q_mfewest q_mpile m_length m_primeMany m_toldMany m_fate m_tail m_round m_tableKind m_areLaid m_unlike m_isFree a_mprimes a_mtable a_misOdd a_misHigh a_misTop r27z.2) H := hP.sub [5, 0, 1, 2, 3, 4, 6] rfl
        have hD : va_D A (wd63 cyI cyJ cyZ q_Md q_mprimes q_mtable q_misOdd q_misHigh q_misTop q_mbits q_mtext q_mtold q_mstretch q_mfewest q_mpile m_length m_primeMany m_toldMany m_fate m_tail m_round m_tableKind m_areLaid m_unlike m_isFree a_mprimes a_mtable a_misOdd a_misHigh a_misTop r27z.2) := hD.sub [5, 0, 1, 2, 3, 4, 6] (by decide) rfl
        refine lv_if_ne (tgt := 57) hx hb dX12_layFlags_50 (by decide) (fun c30z => ?_) (fun c30z => ?_)
        · have h := xf h c30z
          exact k_X12_layFlags_57 C0 N res q_Md q_mprimes q_mtable q_misOdd q_misHigh q_misTop q_mbits q_mtext q_mtold q_mstretch q_mfewest q_mpile v3 m_length m_primeMany m_toldMany m_fate m_tail m_round m_tableKind m_areLaid m_unlike m_isFree a_mprimes a_mtable _ ih v1 v2 v3 a_misOdd a_misHigh a_misTop r27z.2  h _ _ hP hD hS _ (lv_sub hl [0, 1, 2, 3] rfl)
        · have h := xt h c30z
          refine lv_iconst (v := (1 : Int32)) hx hb dX12_layFlags_53 (by decide) ?_
          refine lv_goto (tgt := 58) hx hb dX12_layFlags_54 (by decide) ?_
          exact k_X12_layFlags_58 C0 N res q_Md q_mprimes q_mtable q_misOdd q_misHigh q_misTop q_mbits q_mtext q_mtold q_mstretch q_mfewest q_mpile (1 : Int32) v3 m_length m_primeMany m_toldMany m_fate m_tail m_round m_tableKind m_areLaid m_unlike m_isFree a_mprimes a_mtable _ ih v1 v2 v3 a_misOdd a_misHigh a_misTop r27z.2  h _ _ hP hD hS _ (lv_sub hl [0, 1, 2, 3] rfl)
def f_X12_layFlags (N : Nat) (m_primeMany : Int32) (m_tableKind : Int32) (m_areLaid : Int32) (a_mprimes : Nat → Int64) (a_mtable : Nat → Int32) (a_misOdd : Nat → Int32) (a_misHigh : Nat → Int32) (a_misTop : Nat → Int32) (a_mbits : Nat → Int64) : Option (Int32 × Int32 × Int32 × (Nat → Int64) × (Nat → Int32) × (Nat → Int32) × (Nat → Int32) × (Nat → Int32) × (Nat → Int64)) :=
  Option.bind (f_X12_layTable N (0 : Int32) m_primeMany m_tableKind a_mprimes a_mtable) fun r1z =>
  if m_areLaid = 0 then
    l_X12_layFlags_24 N r1z.1 r1z.2.1 (1 : Int32) r1z.2.2.1 r1z.2.2.2 N ((0 : Int32), (0 : Int32), (1 : Int32), a_misOdd, a_misHigh, a_misTop, a_mbits)
  else
    some (r1z.1, r1z.2.1, m_areLaid, r1z.2.2.1, r1z.2.2.2, a_misOdd, a_misHigh, a_misTop, a_mbits)
set_option maxRecDepth 100000 in
set_option maxHeartbeats 4000000 in
theorem k_X12_layFlags_0 {p : Program} {l : Launch} {e : Env} {s : State} {m : MethodId} {args : Array Value} {below : List Frame} {meth : Method} {c : Code} {dC : Nat → ClassId} {dI : Nat → Nat → Nat} {cyI cyJ cyZ : ClassId} {A : Nat → Prop} (C0 : mC p s m meth c args cX12_layFlags none 4 RX12 wsX12_layFlags (gK dC dI cyI cyJ cyZ) A) (N : Nat) (res : Int32 × Int32 × Int32 × (Nat → Int64) × (Nat → Int32) × (Nat → Int32) × (Nat → Int32) × (Nat → Int32) × (Nat → Int64)) (q_Md : Nat) (q_mprimes : Nat) (q_mtable : Nat) (q_misOdd : Nat) (q_misHigh : Nat) (q_misTop : Nat) (q_mbits : Nat) (q_mtext : Nat) (q_mtold : Nat) (q_mstretch : Nat) (q_mfewest : Nat) (q_mpile : Nat) (m_length : Int32) (m_primeMany : Int32) (m_toldMany : Int32) (m_fate : Int32) (m_tail : Int32) (m_round : Int32) (m_tableKind : Int32) (m_areLaid : Int32) (m_unlike : Int32) (m_isFree : Int32) (a_mprimes : Nat → Int64) (a_mtable : Nat → Int32) (a_misOdd : Nat → Int32) (a_misHigh : Nat → Int32) (a_misTop : Nat → Int32) (a_mbits : Nat → Int64) (h : f_X12_layFlags N m_primeMany m_tableKind m_areLaid a_mprimes a_mtable a_misOdd a_misHigh a_misTop a_mbits = some res) : ∀ (H : Heap) (locs : List Loc), va_P (dC, dI) vwCl (wd63 cyI cyJ cyZ q_Md q_mprimes q_mtable q_misOdd q_misHigh q_misTop q_mbits q_mtext q_mtold q_mstretch q_mfewest q_mpile m_length m_primeMany m_toldMany m_fate m_tail m_round m_tableKind m_areLaid m_unlike m_isFree a_mprimes a_mtable a_misOdd a_misHigh a_misTop a_mbits) H → va_D A (wd63 cyI cyJ cyZ q_Md q_mprimes q_mtable q_misOdd q_misHigh q_misTop q_mbits q_mtext q_mtold q_mstretch q_mfewest q_mpile m_length m_primeMany m_toldMany m_fate m_tail m_round m_tableKind m_areLaid m_unlike m_isFree a_mprimes a_mtable a_misOdd a_misHigh a_misTop a_mbits) → va_S A s.heap H locs → ∀ (ls : Array Slot), lv_has ls 4 [(0, .ref q_Md)] → W p l e (headSpec wsX12_layFlags rm_X12_layFlags).room s m args below meth c H locs 0 0 (MQ below (va_Qv (fun (_ : Unit) => True) (bW dC dI (fun (u : Unit) => (wd63 cyI cyJ cyZ q_Md q_mprimes q_mtable q_misOdd q_misHigh q_misTop q_mbits q_mtext q_mtold q_mstretch q_mfewest q_mpile m_length res.1 m_toldMany m_fate m_tail m_round res.2.1 res.2.2.1 m_unlike m_isFree res.2.2.2.1 res.2.2.2.2.1 res.2.2.2.2.2.1 res.2.2.2.2.2.2.1 res.2.2.2.2.2.2.2.1 res.2.2.2.2.2.2.2.2)) A) A) args s 0 0 A) (F0 m 0 ls []) := by
  obtain ⟨hx, hb, hr, hml, hown, hts, hlocks, hG, hA⟩ := id C0
  have hK := hG.1
  intro H locs hP hD hS ls hl
  unfold f_X12_layFlags at h
  refine lv_aload_n hx hb dX12_layFlags_0 rfl (lv_at hl 0 rfl) ?_
  refine lv_iconst (v := (0 : Int32)) hx hb dX12_layFlags_1 (by decide) ?_
  obtain ⟨r1z, hr1z, h⟩ := xb_at h
  have hPc := hP.sub (ws' := (wd58 cyI cyJ cyZ q_Md q_mprimes q_mtable q_mtext q_mtold q_mstretch q_mfewest q_misOdd q_misHigh q_misTop q_mbits q_mpile m_length m_primeMany m_toldMany m_fate m_tail m_round m_tableKind m_areLaid m_unlike m_isFree a_mprimes a_mtable)) [0, 1, 2] rfl
  have hDc := hD.sub (ws' := (wd58 cyI cyJ cyZ q_Md q_mprimes q_mtable q_mtext q_mtold q_mstretch q_mfewest q_misOdd q_misHigh q_misTop q_mbits q_mpile m_length m_primeMany m_toldMany m_fate m_tail m_round m_tableKind m_areLaid m_unlike m_isFree a_mprimes a_mtable)) [0, 1, 2] (by decide) rfl
  refine cal_v [0, 1, 2] [3, 4, 5, 6] (va_runV (As := [.int (0 : Int32)]) (rest := []) ⟨hx, hb, hml, hown, hts⟩ (c_X12_layTable l dC dI cyI cyJ cyZ N r1z H.size q_Md q_mprimes q_mtable q_mtext q_mtold q_mstretch q_mfewest q_misOdd q_misHigh q_misTop q_mbits q_mpile (0 : Int32) m_length m_primeMany m_toldMany m_fate m_tail m_round m_tableKind m_areLaid m_unlike m_isFree a_mprimes a_mtable hr1z) (cwV 1 hts gX12_layFlags_X12_layTable rfl rfl rfl ⟨rfl, hd_X12_layTable⟩ ⟨Nat.le_of_ble_eq_true rfl, Nat.le_of_ble_eq_true rfl⟩) ⟨pC.blind, va_recv hK hPc (ci := 12) (q0 := 0) rfl rfl, pC.pre hPc hG hDc⟩ rfl rfl hl.1 rfl (lv_room (Nat.le_of_ble_eq_true rfl)) dX12_layFlags_2 ⟨Nat.zero_le _, Nat.zero_le _⟩) hP hD hS hA rfl rfl rfl (by decide) (fun u2z H locs _ hP hD hS => ?_)
  have hP : va_P (dC, dI) vwCl (wd63 cyI cyJ cyZ q_Md q_mprimes q_mtable q_misOdd q_misHigh q_misTop q_mbits q_mtext q_mtold q_mstretch q_mfewest q_mpile m_length r1z.1 m_toldMany m_fate m_tail m_round r1z.2.1 m_areLaid m_unlike m_isFree r1z.2.2.1 r1z.2.2.2 a_misOdd a_misHigh a_misTop a_mbits) H := hP.sub [4, 5, 6, 0, 1, 2, 3] rfl
  have hD : va_D A (wd63 cyI cyJ cyZ q_Md q_mprimes q_mtable q_misOdd q_misHigh q_misTop q_mbits q_mtext q_mtold q_mstretch q_mfewest q_mpile m_length r1z.1 m_toldMany m_fate m_tail m_round r1z.2.1 m_areLaid m_unlike m_isFree r1z.2.2.1 r1z.2.2.2 a_misOdd a_misHigh a_misTop a_mbits) := hD.sub [4, 5, 6, 0, 1, 2, 3] (by decide) rfl
  refine lv_aload_n hx hb dX12_layFlags_5 rfl (lv_at hl 0 rfl) ?_
  refine va_get (D := (dC, dI)) (ci := 12) (v := .int m_areLaid) (C := RX12) (T := TX12) (N := 21) hx hb hts iw_X12_layFlags_X12 hown hK hP 0 rfl rfl 13 (by decide) (hts (.fieldLink RX12 148 "GoesIntoModel" "areLaid" "Z") (List.mem_of_getElem? (i := 1) rfl)) (fun _ h9 => h9) rfl dX12_layFlags_6 ?_
  refine lv_if_eq (tgt := 13) hx hb dX12_layFlags_9 (by decide) (fun c4z => ?_) (fun c4z => ?_)
  · have h := xt h c4z
    refine lv_aload_n hx hb dX12_layFlags_13 rfl (lv_at hl 0 rfl) ?_
    refine lv_iconst (v := (1 : Int32)) hx hb dX12_layFlags_14 (by decide) ?_
    refine va_put (D := (dC, dI)) (ci := 12) (v := .int (1 : Int32)) (ty := .boolean) (C := RX12) (T := TX12) (N := 21) hx hb hts iw_X12_layFlags_X12 tyX12 tyX12_ok nmX12 hown hK hP hD hS 0 rfl rfl 13 (by decide) (hts (.fieldLink RX12 148 "GoesIntoModel" "areLaid" "Z") (List.mem_of_getElem? (i := 1) rfl)) (fun _ h9 => h9) rfl (tyX12_ok 13 (by decide)) (by decide) (by decide) (Nat.le_of_ble_eq_true rfl) dX12_layFlags_15 (fun H locs hP hD hS => ?_)
    have hP : va_P (dC, dI) vwCl (wd63 cyI cyJ cyZ q_Md q_mprimes q_mtable q_misOdd q_misHigh q_misTop q_mbits q_mtext q_mtold q_mstretch q_mfewest q_mpile m_length r1z.1 m_toldMany m_fate m_tail m_round r1z.2.1 (1 : Int32) m_unlike m_isFree r1z.2.2.1 r1z.2.2.2 a_misOdd a_misHigh a_misTop a_mbits) H := hP
    have hD : va_D A (wd63 cyI cyJ cyZ q_Md q_mprimes q_mtable q_misOdd q_misHigh q_misTop q_mbits q_mtext q_mtold q_mstretch q_mfewest q_mpile m_length r1z.1 m_toldMany m_fate m_tail m_round r1z.2.1 (1 : Int32) m_unlike m_isFree r1z.2.2.1 r1z.2.2.2 a_misOdd a_misHigh a_misTop a_mbits) := hD
    refine lv_iconst (v := (0 : Int32)) hx hb dX12_layFlags_18 (by decide) ?_
    refine lv_istore_n (lv' := [(1, .int (0 : Int32)), (0, .ref q_Md)]) hx hb dX12_layFlags_19 rfl hl (by decide) rfl (fun ls hl => ?_)
    refine lv_iconst (v := (0 : Int32)) hx hb dX12_layFlags_20 (by decide) ?_
    refine lv_istore_n (lv' := [(2, .int (0 : Int32)), (1, .int (0 : Int32)), (0, .ref q_Md)]) hx hb dX12_layFlags_21 rfl hl (by decide) rfl (fun ls hl => ?_)
    refine lv_iconst (v := (1 : Int32)) hx hb dX12_layFlags_22 (by decide) ?_
    refine lv_istore_n (lv' := [(3, .int (1 : Int32)), (2, .int (0 : Int32)), (1, .int (0 : Int32)), (0, .ref q_Md)]) hx hb dX12_layFlags_23 rfl hl (by decide) rfl (fun ls hl => ?_)
    exact k_X12_layFlags_24 C0 N res q_Md q_mprimes q_mtable q_misOdd q_misHigh q_misTop q_mbits q_mtext q_mtold q_mstretch q_mfewest q_mpile m_length r1z.1 m_toldMany m_fate m_tail m_round r1z.2.1 (1 : Int32) m_unlike m_isFree r1z.2.2.1 r1z.2.2.2 N (0 : Int32) (0 : Int32) (1 : Int32) a_misOdd a_misHigh a_misTop a_mbits h _ _ hP hD hS _ (lv_sub hl [3, 2, 1, 0] rfl)
  · have h := xf h c4z
    obtain rfl := Option.some.inj h
    exact W.vret hx hb hr (fun t ht hW => ⟨⟨(), rfl, trivial, by rw [ht]; exact hP, hD⟩, hS.F ht⟩) hS.2.2 dX12_layFlags_12 hlocks
set_option maxRecDepth 100000 in
set_option maxHeartbeats 4000000 in
theorem c_X12_layFlags (l : Launch) (dC : Nat → ClassId) (dI : Nat → Nat → Nat) (cyI cyJ cyZ : ClassId) (N : Nat) (res : Int32 × Int32 × Int32 × (Nat → Int64) × (Nat → Int32) × (Nat → Int32) × (Nat → Int32) × (Nat → Int32) × (Nat → Int64)) (sz : Nat) (q_Md : Nat) (q_mprimes : Nat) (q_mtable : Nat) (q_misOdd : Nat) (q_misHigh : Nat) (q_misTop : Nat) (q_mbits : Nat) (q_mtext : Nat) (q_mtold : Nat) (q_mstretch : Nat) (q_mfewest : Nat) (q_mpile : Nat) (m_length : Int32) (m_primeMany : Int32) (m_toldMany : Int32) (m_fate : Int32) (m_tail : Int32) (m_round : Int32) (m_tableKind : Int32) (m_areLaid : Int32) (m_unlike : Int32) (m_isFree : Int32) (a_mprimes : Nat → Int64) (a_mtable : Nat → Int32) (a_misOdd : Nat → Int32) (a_misHigh : Nat → Int32) (a_misTop : Nat → Int32) (a_mbits : Nat → Int64) (h : f_X12_layFlags N  m_primeMany m_tableKind m_areLaid a_mprimes a_mtable a_misOdd a_misHigh a_misTop a_mbits = some res) : Met l yX12_layFlags wsX12_layFlags rm_X12_layFlags (pC dC dI cyI cyJ cyZ [.ref q_Md] sz (wd63 cyI cyJ cyZ q_Md q_mprimes q_mtable q_misOdd q_misHigh q_misTop q_mbits q_mtext q_mtold q_mstretch q_mfewest q_mpile m_length m_primeMany m_toldMany m_fate m_tail m_round m_tableKind m_areLaid m_unlike m_isFree a_mprimes a_mtable a_misOdd a_misHigh a_misTop a_mbits)) (va_Qv (fun (_ : Unit) => True) (bW dC dI (fun (u : Unit) => (wd63 cyI cyJ cyZ q_Md q_mprimes q_mtable q_misOdd q_misHigh q_misTop q_mbits q_mtext q_mtold q_mstretch q_mfewest q_mpile m_length res.1 m_toldMany m_fate m_tail m_round res.2.1 res.2.2.1 m_unlike m_isFree res.2.2.2.1 res.2.2.2.2.1 res.2.2.2.2.2.1 res.2.2.2.2.2.2.1 res.2.2.2.2.2.2.2.1 res.2.2.2.2.2.2.2.2)) (va_A (wd63 cyI cyJ cyZ q_Md q_mprimes q_mtable q_misOdd q_misHigh q_misTop q_mbits q_mtext q_mtold q_mstretch q_mfewest q_mpile m_length m_primeMany m_toldMany m_fate m_tail m_round m_tableKind m_areLaid m_unlike m_isFree a_mprimes a_mtable a_misOdd a_misHigh a_misTop a_mbits) sz)) (va_A (wd63 cyI cyJ cyZ q_Md q_mprimes q_mtable q_misOdd q_misHigh q_misTop q_mbits q_mtext q_mtold q_mstretch q_mfewest q_mpile m_length m_primeMany m_toldMany m_fate m_tail m_round m_tableKind m_areLaid m_unlike m_isFree a_mprimes a_mtable a_misOdd a_misHigh a_misTop a_mbits) sz)) 0 0 (va_A (wd63 cyI cyJ cyZ q_Md q_mprimes q_mtable q_misOdd q_misHigh q_misTop q_mbits q_mtext q_mtold q_mstretch q_mfewest q_mpile m_length m_primeMany m_toldMany m_fate m_tail m_round m_tableKind m_areLaid m_unlike m_isFree a_mprimes a_mtable a_misOdd a_misHigh a_misTop a_mbits) sz) := by
  refine Met.ofW (cc := cX12_layFlags) (maxL := 4) (ret := none) (by decide) rfl ?_
  intro p e s m args below meth c s₁ B hml hv
  obtain ⟨rfl, hsz, hP, hG, hD0⟩ := hv
  have hx := B.exec
  have hb := B.bytes
  have hr := B.returns
  have hts := atoms_spec (ws := wsX12_layFlags) B.pre
  have hown : s.vm.findClass RX12 = some m.cls := findClass_of_methodNamed B.named
  have hlocks := B.notSynchronized
  subst hsz
  have hD := hD0.self (sz := s.heap.size)
  generalize hAe : va_A (wd63 cyI cyJ cyZ q_Md q_mprimes q_mtable q_misOdd q_misHigh q_misTop q_mbits q_mtext q_mtold q_mstretch q_mfewest q_mpile m_length m_primeMany m_toldMany m_fate m_tail m_round m_tableKind m_areLaid m_unlike m_isFree a_mprimes a_mtable a_misOdd a_misHigh a_misTop a_mbits) s.heap.size = A at hD ⊢
  have hA : ∀ q : Nat, s.heap.size ≤ q → A q := fun q h => by rw [← hAe]; exact Or.inr h
  have hS : va_S A s.heap s.heap [] := va_S.rf
  have hl := lv_entry ([.ref q_Md]) (n := 4) (Nat.le_of_ble_eq_true rfl)
  rw [lg_entry_eq]
  generalize (lg_sl ([.ref q_Md]) ++ List.replicate (4 - (lg_sl ([.ref q_Md])).length) Slot.unset).toArray = ls at hl ⊢
  have hl : lv_has ls 4 [(0, .ref q_Md)] := hl
  exact k_X12_layFlags_0 ⟨hx, hb, hr, hml, hown, hts, hlocks, hG, hA⟩ N res q_Md q_mprimes q_mtable q_misOdd q_misHigh q_misTop q_mbits q_mtext q_mtold q_mstretch q_mfewest q_mpile m_length m_primeMany m_toldMany m_fate m_tail m_round m_tableKind m_areLaid m_unlike m_isFree a_mprimes a_mtable a_misOdd a_misHigh a_misTop a_mbits  h _ _ hP hD hS _ hl
/-- the cells Md, mtext -/
abbrev wd64 (cyI cyJ cyZ : ClassId) (q_Md : Nat) (q_mtext : Nat) (q_mprimes : Nat) (q_mtold : Nat) (q_mtable : Nat) (q_mstretch : Nat) (q_mfewest : Nat) (q_misOdd : Nat) (q_misHigh : Nat) (q_misTop : Nat) (q_mbits : Nat) (q_mpile : Nat) (m_length : Int32) (m_primeMany : Int32) (m_toldMany : Int32) (m_fate : Int32) (m_tail : Int32) (m_round : Int32) (m_tableKind : Int32) (m_areLaid : Int32) (m_unlike : Int32) (m_isFree : Int32) (a_mtext : Nat → Int32) : va_W := [(q_Md, .inr (12, [.int m_length, .ref q_mtext, .int m_primeMany, .ref q_mprimes, .int m_toldMany, .ref q_mtold, .int m_fate, .int m_tail, .int m_round, .int m_tableKind, .ref q_mtable, .ref q_mstretch, .ref q_mfewest, .int m_areLaid, .ref q_misOdd, .ref q_misHigh, .ref q_misTop, .ref q_mbits, .int m_unlike, .int m_isFree, .ref q_mpile])), (q_mtext, .inl (cyI, 60, .inl a_mtext))]
abbrev rm_X12_write : Room := { frames := 1, cells := 0, slots := 0, locals := 25 }
theorem hd_X12_write : yX12_write.cls ≠ "java/lang/invoke/MethodHandle" ∧ yX12_write.cls ≠ "java/lang/invoke/VarHandle" ∧ (parseMethodDescriptor yX12_write.desc).map (fun d => d.parameters.length) = some 2 := by decide +kernel
theorem iw_X12_write_X12 : ∀ w ∈ wsX120, w ∈ wsX12_write := List.forall_mem_cons.mpr ⟨List.mem_of_getElem? (i := 9) rfl, List.forall_mem_cons.mpr ⟨List.mem_of_getElem? (i := 10) rfl, List.forall_mem_cons.mpr ⟨List.mem_of_getElem? (i := 11) rfl, List.forall_mem_cons.mpr ⟨List.mem_of_getElem? (i := 12) rfl, List.forall_mem_cons.mpr ⟨List.mem_of_getElem? (i := 13) rfl, List.forall_mem_cons.mpr ⟨List.mem_of_getElem? (i := 14) rfl, List.forall_mem_cons.mpr ⟨List.mem_of_getElem? (i := 15) rfl, List.forall_mem_cons.mpr ⟨List.mem_of_getElem? (i := 16) rfl, List.forall_mem_cons.mpr ⟨List.mem_of_getElem? (i := 17) rfl, List.forall_mem_cons.mpr ⟨List.mem_of_getElem? (i := 18) rfl, List.forall_mem_cons.mpr ⟨List.mem_of_getElem? (i := 19) rfl, List.forall_mem_cons.mpr ⟨List.mem_of_getElem? (i := 20) rfl, List.forall_mem_cons.mpr ⟨List.mem_of_getElem? (i := 21) rfl, List.forall_mem_cons.mpr ⟨List.mem_of_getElem? (i := 22) rfl, List.forall_mem_cons.mpr ⟨List.mem_of_getElem? (i := 23) rfl, List.forall_mem_cons.mpr ⟨List.mem_of_getElem? (i := 24) rfl, List.forall_mem_cons.mpr ⟨List.mem_of_getElem? (i := 25) rfl, List.forall_mem_cons.mpr ⟨List.mem_of_getElem? (i := 26) rfl, List.forall_mem_cons.mpr ⟨List.mem_of_getElem? (i := 27) rfl, List.forall_mem_cons.mpr ⟨List.mem_of_getElem? (i := 28) rfl, List.forall_mem_cons.mpr ⟨List.mem_of_getElem? (i := 29) rfl, fun _ h => absurd h List.not_mem_nil⟩⟩⟩⟩⟩⟩⟩⟩⟩⟩⟩⟩⟩⟩⟩⟩⟩⟩⟩⟩⟩
def s_X12_write_33 (N : Nat) (v2 : Int64) (k_33 : (Int32 × Int32 × (Nat → Int32)) → Option (Int32 × Int32 × (Nat → Int32))) (v4 : Int32) (m_length : Int32) (a_mtext : Nat → Int32) : Option (Int32 × Int32 × (Nat → Int32)) :=
  if v4 < 0 then
    some (m_length, m_length, a_mtext)
  else
    xl (((v2 >>> (((8 : Int32) * v4).toInt64 &&& 63)) &&& (255 : Int64)).toInt32) fun y8z =>
    if m_length < 0 ∨ 60 ≤ m_length.toNatClampNeg then
      none
    else
      xl (m_length + (1 : Int32)) fun y10z =>
      xl (v4 + (-1 : Int32)) fun y11z =>
      k_33 (y11z, y10z, upd a_mtext m_length.toNatClampNeg y8z)
def l_X12_write_33 (N : Nat) (v2 : Int64) (n : Nat) (z : Int32 × Int32 × (Nat → Int32)) : Option (Int32 × Int32 × (Nat → Int32)) := lp (fun k z => s_X12_write_33 N v2 k z.1 z.2.1 z.2.2) n z
set_option maxRecDepth 100000 in
set_option maxHeartbeats 4000000 in
theorem k_X12_write_33 {p : Program} {l : Launch} {e : Env} {s : State} {m : MethodId} {args : Array Value} {below : List Frame} {meth : Method} {c : Code} {dC : Nat → ClassId} {dI : Nat → Nat → Nat} {cyI cyJ cyZ : ClassId} {A : Nat → Prop} (C0 : mC p s m meth c args cX12_write (some .int) 5 RX12 wsX12_write (gK dC dI cyI cyJ cyZ) A) (N : Nat) (res : Int32 × Int32 × (Nat → Int32)) (q_Md : Nat) (q_mtext : Nat) (q_mprimes : Nat) (q_mtold : Nat) (q_mtable : Nat) (q_mstretch : Nat) (q_mfewest : Nat) (q_misOdd : Nat) (q_misHigh : Nat) (q_misTop : Nat) (q_mbits : Nat) (q_mpile : Nat) (v2 : Int64) (m_primeMany : Int32) (m_toldMany : Int32) (m_fate : Int32) (m_tail : Int32) (m_round : Int32) (m_tableKind : Int32) (m_areLaid : Int32) (m_unlike : Int32) (m_isFree : Int32) : ∀ (n : Nat) (v4 : Int32) (m_length : Int32) (a_mtext : Nat → Int32), l_X12_write_33 N v2 n (v4, m_length, a_mtext) = some res → ∀ (H : Heap) (locs : List Loc), va_P (dC, dI) vwCl (wd64 cyI cyJ cyZ q_Md q_mtext q_mprimes q_mtold q_mtable q_mstretch q_mfewest q_misOdd q_misHigh q_misTop q_mbits q_mpile m_length m_primeMany m_toldMany m_fate m_tail m_round m_tableKind m_areLaid m_unlike m_isFree a_mtext) H → va_D A (wd64 cyI cyJ cyZ q_Md q_mtext q_mprimes q_mtold q_mtable q_mstretch q_mfewest q_misOdd q_misHigh q_misTop q_mbits q_mpile m_length m_primeMany m_toldMany m_fate m_tail m_round m_tableKind m_areLaid m_unlike m_isFree a_mtext) → va_S A s.heap H locs → ∀ (ls : Array Slot), lv_has ls 5 [(0, .ref q_Md), (2, .long v2), (4, .int v4)] → W p l e (headSpec wsX12_write rm_X12_write).room s m args below meth c H locs 0 0 (MQ below (va_Qi (fun (r : Int32) (_ : Unit) => r = res.1) (bW dC dI (fun (u : Unit) => (wd64 cyI cyJ cyZ q_Md q_mtext q_mprimes q_mtold q_mtable q_mstretch q_mfewest q_misOdd q_misHigh q_misTop q_mbits q_mpile res.2.1 m_primeMany m_toldMany m_fate m_tail m_round m_tableKind m_areLaid m_unlike m_isFree res.2.2)) A) A) args s 0 0 A) (F0 m 33 ls []) := by
  obtain ⟨hx, hb, hr, hml, hown, hts, hlocks, hG, hA⟩ := id C0
  have hK := hG.1
  intro n
  induction n with
  | zero =>
    intro v4 m_length a_mtext h
    cases h
  | succ n ih =>
    intro v4 m_length a_mtext h H locs hP hD hS ls hl
    have h : s_X12_write_33 N v2 (l_X12_write_33 N v2 n) v4 m_length a_mtext = some res := h
    unfold s_X12_write_33 at h
    refine lv_iload hx hb dX12_write_33 (lv_at hl 2 rfl) ?_
    refine lv_if_lt (tgt := 75) hx hb dX12_write_35 (by decide) (fun c7z => ?_) (fun c7z => ?_)
    · have h := xt h c7z
      refine lv_aload_n hx hb dX12_write_75 rfl (lv_at hl 0 rfl) ?_
      refine va_get (D := (dC, dI)) (ci := 12) (v := .int m_length) (C := RX12) (T := TX12) (N := 21) hx hb hts iw_X12_write_X12 hown hK hP 0 rfl rfl 0 (by decide) (hts (.fieldLink RX12 157 "GoesIntoModel" "length" "I") (List.mem_of_getElem? (i := 2) rfl)) (fun _ h9 => h9) rfl dX12_write_76 ?_
      obtain rfl := Option.some.inj h
      exact W.iret (v := m_length) hx hb hr (fun t ht hW => ⟨⟨_, (), rfl, rfl, by rw [ht]; exact hP, hD⟩, hS.F ht⟩) hS.2.2 dX12_write_79 hlocks
    · have h := xf h c7z
      refine lv_aload_n hx hb dX12_write_38 rfl (lv_at hl 0 rfl) ?_
      refine va_get (D := (dC, dI)) (ci := 12) (v := .ref q_mtext) (C := RX12) (T := TX12) (N := 21) hx hb hts iw_X12_write_X12 hown hK hP 0 rfl rfl 1 (by decide) (hts (.fieldLink RX12 7 "GoesIntoModel" "text" "[I") (List.mem_of_getElem? (i := 3) rfl)) (fun _ h9 => h9) rfl dX12_write_39 ?_
      refine lv_aload_n hx hb dX12_write_42 rfl (lv_at hl 0 rfl) ?_
      refine va_get (D := (dC, dI)) (ci := 12) (v := .int m_length) (C := RX12) (T := TX12) (N := 21) hx hb hts iw_X12_write_X12 hown hK hP 0 rfl rfl 0 (by decide) (hts (.fieldLink RX12 157 "GoesIntoModel" "length" "I") (List.mem_of_getElem? (i := 2) rfl)) (fun _ h9 => h9) rfl dX12_write_43 ?_
      refine lv_lload_n hx hb dX12_write_46 rfl (lv_at hl 1 rfl) ?_
      refine lv_bipush (v := (8 : Int32)) hx hb dX12_write_47 (by decide) ?_
      refine lv_iload hx hb dX12_write_49 (lv_at hl 2 rfl) ?_
      refine lv_imul hx hb dX12_write_51 ?_
      refine lv_lshr (v := v2 >>> (((8 : Int32) * v4).toInt64 &&& 63)) hx hb dX12_write_52 rfl ?_
      refine lv_ldc2 (v := (255 : Int64)) hx hb hown (hts (.constantLong RX12 160 (255)) (List.mem_of_getElem? (i := 4) rfl)) dX12_write_53 ?_
      refine lv_land hx hb dX12_write_56 ?_
      refine lv_l2i (v := ((v2 >>> (((8 : Int32) * v4).toInt64 &&& 63)) &&& (255 : Int64)).toInt32) hx hb dX12_write_57 rfl ?_
      refine lv_topi (fun y8z ey8z => ?_)
      have h := xl_at h ey8z
      obtain ⟨b9z, h⟩ := xn h
      refine va_iast hx hb hK hP hD hS 1 0 rfl rfl b9z dX12_write_58 (fun H locs hP hD hS => ?_)
      have hP : va_P (dC, dI) vwCl (wd64 cyI cyJ cyZ q_Md q_mtext q_mprimes q_mtold q_mtable q_mstretch q_mfewest q_misOdd q_misHigh q_misTop q_mbits q_mpile m_length m_primeMany m_toldMany m_fate m_tail m_round m_tableKind m_areLaid m_unlike m_isFree (upd a_mtext m_length.toNatClampNeg y8z)) H := hP
      have hD : va_D A (wd64 cyI cyJ cyZ q_Md q_mtext q_mprimes q_mtold q_mtable q_mstretch q_mfewest q_misOdd q_misHigh q_misTop q_mbits q_mpile m_length m_primeMany m_toldMany m_fate m_tail m_round m_tableKind m_areLaid m_unlike m_isFree (upd a_mtext m_length.toNatClampNeg y8z)) := hD
      refine lv_aload_n hx hb dX12_write_59 rfl (lv_at hl 0 rfl) ?_
      refine lv_dup hx hb dX12_write_60 rfl ?_
      refine va_get (D := (dC, dI)) (ci := 12) (v := .int m_length) (C := RX12) (T := TX12) (N := 21) hx hb hts iw_X12_write_X12 hown hK hP 0 rfl rfl 0 (by decide) (hts (.fieldLink RX12 157 "GoesIntoModel" "length" "I") (List.mem_of_getElem? (i := 2) rfl)) (fun _ h9 => h9) rfl dX12_write_61 ?_
      refine lv_iconst (v := (1 : Int32)) hx hb dX12_write_64 (by decide) ?_
      refine lv_iadd hx hb dX12_write_65 ?_
      refine lv_topi (fun y10z ey10z => ?_)
      have h := xl_at h ey10z
      refine va_put (D := (dC, dI)) (ci := 12) (v := .int y10z) (ty := .int) (C := RX12) (T := TX12) (N := 21) hx hb hts iw_X12_write_X12 tyX12 tyX12_ok nmX12 hown hK hP hD hS 0 rfl rfl 0 (by decide) (hts (.fieldLink RX12 157 "GoesIntoModel" "length" "I") (List.mem_of_getElem? (i := 2) rfl)) (fun _ h9 => h9) rfl (tyX12_ok 0 (by decide)) rfl rfl (Nat.le_of_ble_eq_true rfl) dX12_write_66 (fun H locs hP hD hS => ?_)
      have hP : va_P (dC, dI) vwCl (wd64 cyI cyJ cyZ q_Md q_mtext q_mprimes q_mtold q_mtable q_mstretch q_mfewest q_misOdd q_misHigh q_misTop q_mbits q_mpile y10z m_primeMany m_toldMany m_fate m_tail m_round m_tableKind m_areLaid m_unlike m_isFree (upd a_mtext m_length.toNatClampNeg y8z)) H := hP
      have hD : va_D A (wd64 cyI cyJ cyZ q_Md q_mtext q_mprimes q_mtold q_mtable q_mstretch q_mfewest q_misOdd q_misHigh q_misTop q_mbits q_mpile y10z m_primeMany m_toldMany m_fate m_tail m_round m_tableKind m_areLaid m_unlike m_isFree (upd a_mtext m_length.toNatClampNeg y8z)) := hD
      obtain ⟨y11z, ey11z⟩ : ∃ z : Int32, z = v4 + (-1 : Int32) := ⟨_, rfl⟩
      have h := xl_at h ey11z
      refine lv_iinc (v := y11z) (lv' := [(4, .int y11z), (0, .ref q_Md), (2, .long v2)]) hx hb dX12_write_69 hl (k := 2) rfl (by rw [ey11z]; rfl) (by decide) rfl (fun ls hl => ?_)
      refine lv_goto (tgt := 33) hx hb dX12_write_72 (by decide) ?_
      exact ih y11z y10z (upd a_mtext m_length.toNatClampNeg y8z) h _ _ hP hD hS _ (lv_sub hl [1, 2, 0] rfl)
def f_X12_write (N : Nat) (v1 : Int32) (v2 : Int64) (m_length : Int32) (a_mtext : Nat → Int32) : Option (Int32 × Int32 × (Nat → Int32)) :=
  Option.bind (f_X12_in N v1.toInt64 (1 : Int64) (8 : Int64)) fun r1z =>
  if r1z = 0 then
    some ((-1 : Int32), m_length, a_mtext)
  else
    if (m_length + v1) ≤ (60 : Int32) then
      xl (v1 - (1 : Int32)) fun y6z =>
      l_X12_write_33 N v2 N (y6z, m_length, a_mtext)
    else
      some ((-3 : Int32), m_length, a_mtext)
set_option maxRecDepth 100000 in
set_option maxHeartbeats 4000000 in
theorem k_X12_write_0 {p : Program} {l : Launch} {e : Env} {s : State} {m : MethodId} {args : Array Value} {below : List Frame} {meth : Method} {c : Code} {dC : Nat → ClassId} {dI : Nat → Nat → Nat} {cyI cyJ cyZ : ClassId} {A : Nat → Prop} (C0 : mC p s m meth c args cX12_write (some .int) 5 RX12 wsX12_write (gK dC dI cyI cyJ cyZ) A) (N : Nat) (res : Int32 × Int32 × (Nat → Int32)) (q_Md : Nat) (q_mtext : Nat) (q_mprimes : Nat) (q_mtold : Nat) (q_mtable : Nat) (q_mstretch : Nat) (q_mfewest : Nat) (q_misOdd : Nat) (q_misHigh : Nat) (q_misTop : Nat) (q_mbits : Nat) (q_mpile : Nat) (v1 : Int32) (v2 : Int64) (m_length : Int32) (m_primeMany : Int32) (m_toldMany : Int32) (m_fate : Int32) (m_tail : Int32) (m_round : Int32) (m_tableKind : Int32) (m_areLaid : Int32) (m_unlike : Int32) (m_isFree : Int32) (a_mtext : Nat → Int32) (h : f_X12_write N v1 v2 m_length a_mtext = some res) : ∀ (H : Heap) (locs : List Loc), va_P (dC, dI) vwCl (wd64 cyI cyJ cyZ q_Md q_mtext q_mprimes q_mtold q_mtable q_mstretch q_mfewest q_misOdd q_misHigh q_misTop q_mbits q_mpile m_length m_primeMany m_toldMany m_fate m_tail m_round m_tableKind m_areLaid m_unlike m_isFree a_mtext) H → va_D A (wd64 cyI cyJ cyZ q_Md q_mtext q_mprimes q_mtold q_mtable q_mstretch q_mfewest q_misOdd q_misHigh q_misTop q_mbits q_mpile m_length m_primeMany m_toldMany m_fate m_tail m_round m_tableKind m_areLaid m_unlike m_isFree a_mtext) → va_S A s.heap H locs → ∀ (ls : Array Slot), lv_has ls 5 [(0, .ref q_Md), (1, .int v1), (2, .long v2)] → W p l e (headSpec wsX12_write rm_X12_write).room s m args below meth c H locs 0 0 (MQ below (va_Qi (fun (r : Int32) (_ : Unit) => r = res.1) (bW dC dI (fun (u : Unit) => (wd64 cyI cyJ cyZ q_Md q_mtext q_mprimes q_mtold q_mtable q_mstretch q_mfewest q_misOdd q_misHigh q_misTop q_mbits q_mpile res.2.1 m_primeMany m_toldMany m_fate m_tail m_round m_tableKind m_areLaid m_unlike m_isFree res.2.2)) A) A) args s 0 0 A) (F0 m 0 ls []) := by
  obtain ⟨hx, hb, hr, hml, hown, hts, hlocks, hG, hA⟩ := id C0
  have hK := hG.1
  intro H locs hP hD hS ls hl
  unfold f_X12_write at h
  refine lv_iload_n hx hb dX12_write_0 rfl (lv_at hl 1 rfl) ?_
  refine lv_i2l (v := v1.toInt64) hx hb dX12_write_1 rfl ?_
  refine lv_lconst (v := (1 : Int64)) hx hb dX12_write_2 (by decide) ?_
  refine lv_ldc2 (v := (8 : Int64)) hx hb hown (hts (.constantLong RX12 155 (8)) (List.mem_of_getElem? (i := 1) rfl)) dX12_write_3 ?_
  obtain ⟨r1z, hr1z, h⟩ := xb_at h
  have hPc := hP.sub (ws' := (wd37 cyI cyJ cyZ)) [] rfl
  have hDc := hD.sub (ws' := (wd37 cyI cyJ cyZ)) [] (by decide) rfl
  refine cal_i [] [0, 1] (va_runS (As := [.long v1.toInt64, .long (1 : Int64), .long (8 : Int64)]) (rest := []) ⟨hx, hb, hml, hown, hts⟩ (c_X12_in l dC dI cyI cyJ cyZ N r1z H.size  v1.toInt64 (1 : Int64) (8 : Int64)  hr1z) (va_cwS 3 hts gX12_write_X12_in rfl rfl rfl hd_X12_in ⟨Nat.le_of_ble_eq_true rfl, Nat.le_of_ble_eq_true rfl⟩) ⟨pC.blind, pC.pre hPc hG hDc⟩ rfl rfl hl.1 rfl (lv_room (Nat.le_of_ble_eq_true rfl)) dX12_write_6 ⟨Nat.zero_le _, Nat.zero_le _⟩) hP hD hS hA rfl rfl rfl (by decide) (fun x3z u2z H locs hw hP hD hS => ?_)
  obtain rfl := hw.symm
  have hP : va_P (dC, dI) vwCl (wd64 cyI cyJ cyZ q_Md q_mtext q_mprimes q_mtold q_mtable q_mstretch q_mfewest q_misOdd q_misHigh q_misTop q_mbits q_mpile m_length m_primeMany m_toldMany m_fate m_tail m_round m_tableKind m_areLaid m_unlike m_isFree a_mtext) H := hP.sub [0, 1] rfl
  have hD : va_D A (wd64 cyI cyJ cyZ q_Md q_mtext q_mprimes q_mtold q_mtable q_mstretch q_mfewest q_misOdd q_misHigh q_misTop q_mbits q_mpile m_length m_primeMany m_toldMany m_fate m_tail m_round m_tableKind m_areLaid m_unlike m_isFree a_mtext) := hD.sub [0, 1] (by decide) rfl
  refine lv_if_ne (tgt := 14) hx hb dX12_write_9 (by decide) (fun c4z => ?_) (fun c4z => ?_)
  · have h := xf h c4z
    refine lv_aload_n hx hb dX12_write_14 rfl (lv_at hl 0 rfl) ?_
    refine va_get (D := (dC, dI)) (ci := 12) (v := .int m_length) (C := RX12) (T := TX12) (N := 21) hx hb hts iw_X12_write_X12 hown hK hP 0 rfl rfl 0 (by decide) (hts (.fieldLink RX12 157 "GoesIntoModel" "length" "I") (List.mem_of_getElem? (i := 2) rfl)) (fun _ h9 => h9) rfl dX12_write_15 ?_
    refine lv_iload_n hx hb dX12_write_18 rfl (lv_at hl 1 rfl) ?_
    refine lv_iadd hx hb dX12_write_19 ?_
    refine lv_bipush (v := (60 : Int32)) hx hb dX12_write_20 (by decide) ?_
    refine lv_icmp_le (tgt := 28) hx hb dX12_write_22 (by decide) (fun c5z => ?_) (fun c5z => ?_)
    · have h := xt h c5z
      refine lv_iload_n hx hb dX12_write_28 rfl (lv_at hl 1 rfl) ?_
      refine lv_iconst (v := (1 : Int32)) hx hb dX12_write_29 (by decide) ?_
      refine lv_isub hx hb dX12_write_30 ?_
      refine lv_topi (fun y6z ey6z => ?_)
      have h := xl_at h ey6z
      refine lv_istore (lv' := [(4, .int y6z), (0, .ref q_Md), (1, .int v1), (2, .long v2)]) hx hb dX12_write_31 hl (by decide) rfl (fun ls hl => ?_)
      exact k_X12_write_33 C0 N res q_Md q_mtext q_mprimes q_mtold q_mtable q_mstretch q_mfewest q_misOdd q_misHigh q_misTop q_mbits q_mpile v2 m_primeMany m_toldMany m_fate m_tail m_round m_tableKind m_areLaid m_unlike m_isFree N y6z m_length a_mtext h _ _ hP hD hS _ (lv_sub hl [1, 3, 0] rfl)
    · have h := xf h c5z
      refine lv_bipush (v := (-3 : Int32)) hx hb dX12_write_25 (by decide) ?_
      obtain rfl := Option.some.inj h
      exact W.iret (v := (-3 : Int32)) hx hb hr (fun t ht hW => ⟨⟨_, (), rfl, rfl, by rw [ht]; exact hP, hD⟩, hS.F ht⟩) hS.2.2 dX12_write_27 hlocks
  · have h := xt h c4z
    refine lv_iconst (v := (-1 : Int32)) hx hb dX12_write_12 (by decide) ?_
    obtain rfl := Option.some.inj h
    exact W.iret (v := (-1 : Int32)) hx hb hr (fun t ht hW => ⟨⟨_, (), rfl, rfl, by rw [ht]; exact hP, hD⟩, hS.F ht⟩) hS.2.2 dX12_write_13 hlocks
set_option maxRecDepth 100000 in
set_option maxHeartbeats 4000000 in
theorem c_X12_write (l : Launch) (dC : Nat → ClassId) (dI : Nat → Nat → Nat) (cyI cyJ cyZ : ClassId) (N : Nat) (res : Int32 × Int32 × (Nat → Int32)) (sz : Nat) (q_Md : Nat) (q_mtext : Nat) (q_mprimes : Nat) (q_mtold : Nat) (q_mtable : Nat) (q_mstretch : Nat) (q_mfewest : Nat) (q_misOdd : Nat) (q_misHigh : Nat) (q_misTop : Nat) (q_mbits : Nat) (q_mpile : Nat) (v1 : Int32) (v2 : Int64) (m_length : Int32) (m_primeMany : Int32) (m_toldMany : Int32) (m_fate : Int32) (m_tail : Int32) (m_round : Int32) (m_tableKind : Int32) (m_areLaid : Int32) (m_unlike : Int32) (m_isFree : Int32) (a_mtext : Nat → Int32) (h : f_X12_write N v1 v2 m_length a_mtext = some res) : Met l yX12_write wsX12_write rm_X12_write (pC dC dI cyI cyJ cyZ [.ref q_Md, .int v1, .long v2] sz (wd64 cyI cyJ cyZ q_Md q_mtext q_mprimes q_mtold q_mtable q_mstretch q_mfewest q_misOdd q_misHigh q_misTop q_mbits q_mpile m_length m_primeMany m_toldMany m_fate m_tail m_round m_tableKind m_areLaid m_unlike m_isFree a_mtext)) (va_Qi (fun (r : Int32) (_ : Unit) => r = res.1) (bW dC dI (fun (u : Unit) => (wd64 cyI cyJ cyZ q_Md q_mtext q_mprimes q_mtold q_mtable q_mstretch q_mfewest q_misOdd q_misHigh q_misTop q_mbits q_mpile res.2.1 m_primeMany m_toldMany m_fate m_tail m_round m_tableKind m_areLaid m_unlike m_isFree res.2.2)) (va_A (wd64 cyI cyJ cyZ q_Md q_mtext q_mprimes q_mtold q_mtable q_mstretch q_mfewest q_misOdd q_misHigh q_misTop q_mbits q_mpile m_length m_primeMany m_toldMany m_fate m_tail m_round m_tableKind m_areLaid m_unlike m_isFree a_mtext) sz)) (va_A (wd64 cyI cyJ cyZ q_Md q_mtext q_mprimes q_mtold q_mtable q_mstretch q_mfewest q_misOdd q_misHigh q_misTop q_mbits q_mpile m_length m_primeMany m_toldMany m_fate m_tail m_round m_tableKind m_areLaid m_unlike m_isFree a_mtext) sz)) 0 0 (va_A (wd64 cyI cyJ cyZ q_Md q_mtext q_mprimes q_mtold q_mtable q_mstretch q_mfewest q_misOdd q_misHigh q_misTop q_mbits q_mpile m_length m_primeMany m_toldMany m_fate m_tail m_round m_tableKind m_areLaid m_unlike m_isFree a_mtext) sz) := by
  refine Met.ofW (cc := cX12_write) (maxL := 5) (ret := (some .int)) (by decide) rfl ?_
  intro p e s m args below meth c s₁ B hml hv
  obtain ⟨rfl, hsz, hP, hG, hD0⟩ := hv
  have hx := B.exec
  have hb := B.bytes
  have hr := B.returns
  have hts := atoms_spec (ws := wsX12_write) B.pre
  have hown : s.vm.findClass RX12 = some m.cls := findClass_of_methodNamed B.named
  have hlocks := B.notSynchronized
  subst hsz
  have hD := hD0.self (sz := s.heap.size)
  generalize hAe : va_A (wd64 cyI cyJ cyZ q_Md q_mtext q_mprimes q_mtold q_mtable q_mstretch q_mfewest q_misOdd q_misHigh q_misTop q_mbits q_mpile m_length m_primeMany m_toldMany m_fate m_tail m_round m_tableKind m_areLaid m_unlike m_isFree a_mtext) s.heap.size = A at hD ⊢
  have hA : ∀ q : Nat, s.heap.size ≤ q → A q := fun q h => by rw [← hAe]; exact Or.inr h
  have hS : va_S A s.heap s.heap [] := va_S.rf
  have hl := lv_entry ([.ref q_Md, .int v1, .long v2]) (n := 5) (Nat.le_of_ble_eq_true rfl)
  rw [lg_entry_eq]
  generalize (lg_sl ([.ref q_Md, .int v1, .long v2]) ++ List.replicate (5 - (lg_sl ([.ref q_Md, .int v1, .long v2])).length) Slot.unset).toArray = ls at hl ⊢
  have hl : lv_has ls 5 [(0, .ref q_Md), (1, .int v1), (2, .long v2)] := hl
  exact k_X12_write_0 ⟨hx, hb, hr, hml, hown, hts, hlocks, hG, hA⟩ N res q_Md q_mtext q_mprimes q_mtold q_mtable q_mstretch q_mfewest q_misOdd q_misHigh q_misTop q_mbits q_mpile v1 v2 m_length m_primeMany m_toldMany m_fate m_tail m_round m_tableKind m_areLaid m_unlike m_isFree a_mtext  h _ _ hP hD hS _ hl
abbrev rm_X12_wipe : Room := { frames := 0, cells := 0, slots := 0, locals := 0 }
theorem hd_X12_wipe : yX12_wipe.cls ≠ "java/lang/invoke/MethodHandle" ∧ yX12_wipe.cls ≠ "java/lang/invoke/VarHandle" ∧ (parseMethodDescriptor yX12_wipe.desc).map (fun d => d.parameters.length) = some 0 := by decide +kernel
theorem iw_X12_wipe_X12 : ∀ w ∈ wsX120, w ∈ wsX12_wipe := List.forall_mem_cons.mpr ⟨List.mem_of_getElem? (i := 2) rfl, List.forall_mem_cons.mpr ⟨List.mem_of_getElem? (i := 3) rfl, List.forall_mem_cons.mpr ⟨List.mem_of_getElem? (i := 4) rfl, List.forall_mem_cons.mpr ⟨List.mem_of_getElem? (i := 5) rfl, List.forall_mem_cons.mpr ⟨List.mem_of_getElem? (i := 6) rfl, List.forall_mem_cons.mpr ⟨List.mem_of_getElem? (i := 7) rfl, List.forall_mem_cons.mpr ⟨List.mem_of_getElem? (i := 8) rfl, List.forall_mem_cons.mpr ⟨List.mem_of_getElem? (i := 9) rfl, List.forall_mem_cons.mpr ⟨List.mem_of_getElem? (i := 10) rfl, List.forall_mem_cons.mpr ⟨List.mem_of_getElem? (i := 11) rfl, List.forall_mem_cons.mpr ⟨List.mem_of_getElem? (i := 12) rfl, List.forall_mem_cons.mpr ⟨List.mem_of_getElem? (i := 13) rfl, List.forall_mem_cons.mpr ⟨List.mem_of_getElem? (i := 14) rfl, List.forall_mem_cons.mpr ⟨List.mem_of_getElem? (i := 15) rfl, List.forall_mem_cons.mpr ⟨List.mem_of_getElem? (i := 16) rfl, List.forall_mem_cons.mpr ⟨List.mem_of_getElem? (i := 17) rfl, List.forall_mem_cons.mpr ⟨List.mem_of_getElem? (i := 18) rfl, List.forall_mem_cons.mpr ⟨List.mem_of_getElem? (i := 19) rfl, List.forall_mem_cons.mpr ⟨List.mem_of_getElem? (i := 20) rfl, List.forall_mem_cons.mpr ⟨List.mem_of_getElem? (i := 21) rfl, List.forall_mem_cons.mpr ⟨List.mem_of_getElem? (i := 22) rfl, fun _ h => absurd h List.not_mem_nil⟩⟩⟩⟩⟩⟩⟩⟩⟩⟩⟩⟩⟩⟩⟩⟩⟩⟩⟩⟩⟩
def f_X12_wipe (N : Nat) (m_length : Int32) : Option (Int32 × Int32) :=
  some (m_length, (0 : Int32))
set_option maxRecDepth 100000 in
set_option maxHeartbeats 4000000 in
theorem k_X12_wipe_0 {p : Program} {l : Launch} {e : Env} {s : State} {m : MethodId} {args : Array Value} {below : List Frame} {meth : Method} {c : Code} {dC : Nat → ClassId} {dI : Nat → Nat → Nat} {cyI cyJ cyZ : ClassId} {A : Nat → Prop} (C0 : mC p s m meth c args cX12_wipe (some .int) 2 RX12 wsX12_wipe (gK dC dI cyI cyJ cyZ) A) (N : Nat) (res : Int32 × Int32) (q_Md : Nat) (q_mtext : Nat) (q_mprimes : Nat) (q_mtold : Nat) (q_mtable : Nat) (q_mstretch : Nat) (q_mfewest : Nat) (q_misOdd : Nat) (q_misHigh : Nat) (q_misTop : Nat) (q_mbits : Nat) (q_mpile : Nat) (m_length : Int32) (m_primeMany : Int32) (m_toldMany : Int32) (m_fate : Int32) (m_tail : Int32) (m_round : Int32) (m_tableKind : Int32) (m_areLaid : Int32) (m_unlike : Int32) (m_isFree : Int32) (h : f_X12_wipe N m_length = some res) : ∀ (H : Heap) (locs : List Loc), va_P (dC, dI) vwCl (wd56 cyI cyJ cyZ q_Md q_mtext q_mprimes q_mtold q_mtable q_mstretch q_mfewest q_misOdd q_misHigh q_misTop q_mbits q_mpile m_length m_primeMany m_toldMany m_fate m_tail m_round m_tableKind m_areLaid m_unlike m_isFree) H → va_D A (wd56 cyI cyJ cyZ q_Md q_mtext q_mprimes q_mtold q_mtable q_mstretch q_mfewest q_misOdd q_misHigh q_misTop q_mbits q_mpile m_length m_primeMany m_toldMany m_fate m_tail m_round m_tableKind m_areLaid m_unlike m_isFree) → va_S A s.heap H locs → ∀ (ls : Array Slot), lv_has ls 2 [(0, .ref q_Md)] → W p l e (headSpec wsX12_wipe rm_X12_wipe).room s m args below meth c H locs 0 0 (MQ below (va_Qi (fun (r : Int32) (_ : Unit) => r = res.1) (bW dC dI (fun (u : Unit) => (wd56 cyI cyJ cyZ q_Md q_mtext q_mprimes q_mtold q_mtable q_mstretch q_mfewest q_misOdd q_misHigh q_misTop q_mbits q_mpile res.2 m_primeMany m_toldMany m_fate m_tail m_round m_tableKind m_areLaid m_unlike m_isFree)) A) A) args s 0 0 A) (F0 m 0 ls []) := by
  obtain ⟨hx, hb, hr, hml, hown, hts, hlocks, hG, hA⟩ := id C0
  have hK := hG.1
  intro H locs hP hD hS ls hl
  unfold f_X12_wipe at h
  refine lv_aload_n hx hb dX12_wipe_0 rfl (lv_at hl 0 rfl) ?_
  refine va_get (D := (dC, dI)) (ci := 12) (v := .int m_length) (C := RX12) (T := TX12) (N := 21) hx hb hts iw_X12_wipe_X12 hown hK hP 0 rfl rfl 0 (by decide) (hts (.fieldLink RX12 157 "GoesIntoModel" "length" "I") (List.mem_of_getElem? (i := 1) rfl)) (fun _ h9 => h9) rfl dX12_wipe_1 ?_
  refine lv_istore_n (lv' := [(1, .int m_length), (0, .ref q_Md)]) hx hb dX12_wipe_4 rfl hl (by decide) rfl (fun ls hl => ?_)
  refine lv_aload_n hx hb dX12_wipe_5 rfl (lv_at hl 1 rfl) ?_
  refine lv_iconst (v := (0 : Int32)) hx hb dX12_wipe_6 (by decide) ?_
  refine va_put (D := (dC, dI)) (ci := 12) (v := .int (0 : Int32)) (ty := .int) (C := RX12) (T := TX12) (N := 21) hx hb hts iw_X12_wipe_X12 tyX12 tyX12_ok nmX12 hown hK hP hD hS 0 rfl rfl 0 (by decide) (hts (.fieldLink RX12 157 "GoesIntoModel" "length" "I") (List.mem_of_getElem? (i := 1) rfl)) (fun _ h9 => h9) rfl (tyX12_ok 0 (by decide)) rfl rfl (Nat.le_of_ble_eq_true rfl) dX12_wipe_7 (fun H locs hP hD hS => ?_)
  have hP : va_P (dC, dI) vwCl (wd56 cyI cyJ cyZ q_Md q_mtext q_mprimes q_mtold q_mtable q_mstretch q_mfewest q_misOdd q_misHigh q_misTop q_mbits q_mpile (0 : Int32) m_primeMany m_toldMany m_fate m_tail m_round m_tableKind m_areLaid m_unlike m_isFree) H := hP
  have hD : va_D A (wd56 cyI cyJ cyZ q_Md q_mtext q_mprimes q_mtold q_mtable q_mstretch q_mfewest q_misOdd q_misHigh q_misTop q_mbits q_mpile (0 : Int32) m_primeMany m_toldMany m_fate m_tail m_round m_tableKind m_areLaid m_unlike m_isFree) := hD
  refine lv_iload_n hx hb dX12_wipe_10 rfl (lv_at hl 0 rfl) ?_
  obtain rfl := Option.some.inj h
  exact W.iret (v := m_length) hx hb hr (fun t ht hW => ⟨⟨_, (), rfl, rfl, by rw [ht]; exact hP, hD⟩, hS.F ht⟩) hS.2.2 dX12_wipe_11 hlocks
set_option maxRecDepth 100000 in
set_option maxHeartbeats 4000000 in
theorem c_X12_wipe (l : Launch) (dC : Nat → ClassId) (dI : Nat → Nat → Nat) (cyI cyJ cyZ : ClassId) (N : Nat) (res : Int32 × Int32) (sz : Nat) (q_Md : Nat) (q_mtext : Nat) (q_mprimes : Nat) (q_mtold : Nat) (q_mtable : Nat) (q_mstretch : Nat) (q_mfewest : Nat) (q_misOdd : Nat) (q_misHigh : Nat) (q_misTop : Nat) (q_mbits : Nat) (q_mpile : Nat) (m_length : Int32) (m_primeMany : Int32) (m_toldMany : Int32) (m_fate : Int32) (m_tail : Int32) (m_round : Int32) (m_tableKind : Int32) (m_areLaid : Int32) (m_unlike : Int32) (m_isFree : Int32) (h : f_X12_wipe N  m_length = some res) : Met l yX12_wipe wsX12_wipe rm_X12_wipe (pC dC dI cyI cyJ cyZ [.ref q_Md] sz (wd56 cyI cyJ cyZ q_Md q_mtext q_mprimes q_mtold q_mtable q_mstretch q_mfewest q_misOdd q_misHigh q_misTop q_mbits q_mpile m_length m_primeMany m_toldMany m_fate m_tail m_round m_tableKind m_areLaid m_unlike m_isFree)) (va_Qi (fun (r : Int32) (_ : Unit) => r = res.1) (bW dC dI (fun (u : Unit) => (wd56 cyI cyJ cyZ q_Md q_mtext q_mprimes q_mtold q_mtable q_mstretch q_mfewest q_misOdd q_misHigh q_misTop q_mbits q_mpile res.2 m_primeMany m_toldMany m_fate m_tail m_round m_tableKind m_areLaid m_unlike m_isFree)) (va_A (wd56 cyI cyJ cyZ q_Md q_mtext q_mprimes q_mtold q_mtable q_mstretch q_mfewest q_misOdd q_misHigh q_misTop q_mbits q_mpile m_length m_primeMany m_toldMany m_fate m_tail m_round m_tableKind m_areLaid m_unlike m_isFree) sz)) (va_A (wd56 cyI cyJ cyZ q_Md q_mtext q_mprimes q_mtold q_mtable q_mstretch q_mfewest q_misOdd q_misHigh q_misTop q_mbits q_mpile m_length m_primeMany m_toldMany m_fate m_tail m_round m_tableKind m_areLaid m_unlike m_isFree) sz)) 0 0 (va_A (wd56 cyI cyJ cyZ q_Md q_mtext q_mprimes q_mtold q_mtable q_mstretch q_mfewest q_misOdd q_misHigh q_misTop q_mbits q_mpile m_length m_primeMany m_toldMany m_fate m_tail m_round m_tableKind m_areLaid m_unlike m_isFree) sz) := by
  refine Met.ofW (cc := cX12_wipe) (maxL := 2) (ret := (some .int)) (by decide) rfl ?_
  intro p e s m args below meth c s₁ B hml hv
  obtain ⟨rfl, hsz, hP, hG, hD0⟩ := hv
  have hx := B.exec
  have hb := B.bytes
  have hr := B.returns
  have hts := atoms_spec (ws := wsX12_wipe) B.pre
  have hown : s.vm.findClass RX12 = some m.cls := findClass_of_methodNamed B.named
  have hlocks := B.notSynchronized
  subst hsz
  have hD := hD0.self (sz := s.heap.size)
  generalize hAe : va_A (wd56 cyI cyJ cyZ q_Md q_mtext q_mprimes q_mtold q_mtable q_mstretch q_mfewest q_misOdd q_misHigh q_misTop q_mbits q_mpile m_length m_primeMany m_toldMany m_fate m_tail m_round m_tableKind m_areLaid m_unlike m_isFree) s.heap.size = A at hD ⊢
  have hA : ∀ q : Nat, s.heap.size ≤ q → A q := fun q h => by rw [← hAe]; exact Or.inr h
  have hS : va_S A s.heap s.heap [] := va_S.rf
  have hl := lv_entry ([.ref q_Md]) (n := 2) (Nat.le_of_ble_eq_true rfl)
  rw [lg_entry_eq]
  generalize (lg_sl ([.ref q_Md]) ++ List.replicate (2 - (lg_sl ([.ref q_Md])).length) Slot.unset).toArray = ls at hl ⊢
  have hl : lv_has ls 2 [(0, .ref q_Md)] := hl
  exact k_X12_wipe_0 ⟨hx, hb, hr, hml, hown, hts, hlocks, hG, hA⟩ N res q_Md q_mtext q_mprimes q_mtold q_mtable q_mstretch q_mfewest q_misOdd q_misHigh q_misTop q_mbits q_mpile m_length m_primeMany m_toldMany m_fate m_tail m_round m_tableKind m_areLaid m_unlike m_isFree  h _ _ hP hD hS _ hl
abbrev rm_X12_looks : Room := { frames := 1, cells := 0, slots := 0, locals := 25 }
theorem hd_X12_looks : yX12_looks.cls ≠ "java/lang/invoke/MethodHandle" ∧ yX12_looks.cls ≠ "java/lang/invoke/VarHandle" ∧ (parseMethodDescriptor yX12_looks.desc).map (fun d => d.parameters.length) = some 1 := by decide +kernel
def j_X12_looks_71 (N : Nat) (v0 : Int32) (v1 : Int32) (s0 : Int32) : Option (Int32) :=
  if v1 = 0 then
    if s0 = 0 then
      Option.bind (f_X12_in N v0.toInt64 (49 : Int64) (57 : Int64)) fun r5z =>
      if r5z = 0 then
        some (0 : Int32)
      else
        some (1 : Int32)
    else
      some (1 : Int32)
  else
    some (1 : Int32)
set_option maxRecDepth 100000 in
set_option maxHeartbeats 4000000 in
theorem k_X12_looks_71 {p : Program} {l : Launch} {e : Env} {s : State} {m : MethodId} {args : Array Value} {below : List Frame} {meth : Method} {c : Code} {dC : Nat → ClassId} {dI : Nat → Nat → Nat} {cyI cyJ cyZ : ClassId} {A : Nat → Prop} (C0 : mC p s m meth c args cX12_looks (some .boolean) 3 RX12 wsX12_looks (gK dC dI cyI cyJ cyZ) A) (N : Nat) (res : Int32) (v0 : Int32) (v1 : Int32) (s0 : Int32) (h : j_X12_looks_71 N v0 v1 s0 = some res) : ∀ (H : Heap) (locs : List Loc), va_P (dC, dI) vwCl (wd37 cyI cyJ cyZ) H → va_D A (wd37 cyI cyJ cyZ) → va_S A s.heap H locs → ∀ (ls : Array Slot), lv_has ls 3 [(0, .int v0), (1, .int v1)] → W p l e (headSpec wsX12_looks rm_X12_looks).room s m args below meth c H locs 0 0 (MQ below (va_Qi (fun (r : Int32) (_ : Unit) => r = res) (bW dC dI (fun (u : Unit) => (wd37 cyI cyJ cyZ)) A) A) args s 0 0 A) (F0 m 71 ls [.int s0]) := by
  obtain ⟨hx, hb, hr, hml, hown, hts, hlocks, hG, hA⟩ := id C0
  have hK := hG.1
  intro H locs hP hD hS ls hl
  unfold j_X12_looks_71 at h
  refine lv_istore_n (lv' := [(2, .int s0), (0, .int v0), (1, .int v1)]) hx hb dX12_looks_71 rfl hl (by decide) rfl (fun ls hl => ?_)
  refine lv_iload_n hx hb dX12_looks_72 rfl (lv_at hl 2 rfl) ?_
  refine lv_if_ne (tgt := 94) hx hb dX12_looks_73 (by decide) (fun c3z => ?_) (fun c3z => ?_)
  · have h := xf h c3z
    refine lv_iconst (v := (1 : Int32)) hx hb dX12_looks_94 (by decide) ?_
    refine lv_goto (tgt := 99) hx hb dX12_looks_95 (by decide) ?_
    obtain rfl := Option.some.inj h
    exact W.zret (v := (1 : Int32)) hx hb hr rfl (fun t ht hW => ⟨⟨_, (), rfl, rfl, by rw [ht]; exact hP, hD⟩, hS.F ht⟩) hS.2.2 dX12_looks_99 hlocks
  · have h := xt h c3z
    refine lv_iload_n hx hb dX12_looks_76 rfl (lv_at hl 0 rfl) ?_
    refine lv_if_ne (tgt := 94) hx hb dX12_looks_77 (by decide) (fun c4z => ?_) (fun c4z => ?_)
    · have h := xf h c4z
      refine lv_iconst (v := (1 : Int32)) hx hb dX12_looks_94 (by decide) ?_
      refine lv_goto (tgt := 99) hx hb dX12_looks_95 (by decide) ?_
      obtain rfl := Option.some.inj h
      exact W.zret (v := (1 : Int32)) hx hb hr rfl (fun t ht hW => ⟨⟨_, (), rfl, rfl, by rw [ht]; exact hP, hD⟩, hS.F ht⟩) hS.2.2 dX12_looks_99 hlocks
    · have h := xt h c4z
      refine lv_iload_n hx hb dX12_looks_80 rfl (lv_at hl 1 rfl) ?_
      refine lv_i2l (v := v0.toInt64) hx hb dX12_looks_81 rfl ?_
      refine lv_ldc2 (v := (49 : Int64)) hx hb hown (hts (.constantLong RX12 162 (49)) (List.mem_of_getElem? (i := 1) rfl)) dX12_looks_82 ?_
      refine lv_ldc2 (v := (57 : Int64)) hx hb hown (hts (.constantLong RX12 164 (57)) (List.mem_of_getElem? (i := 2) rfl)) dX12_looks_85 ?_
      obtain ⟨r5z, hr5z, h⟩ := xb_at h
      have hPc := hP.sub (ws' := (wd37 cyI cyJ cyZ)) [] rfl
      have hDc := hD.sub (ws' := (wd37 cyI cyJ cyZ)) [] (by decide) rfl
      refine cal_i [] [] (va_runS (As := [.long v0.toInt64, .long (49 : Int64), .long (57 : Int64)]) (rest := []) ⟨hx, hb, hml, hown, hts⟩ (c_X12_in l dC dI cyI cyJ cyZ N r5z H.size  v0.toInt64 (49 : Int64) (57 : Int64)  hr5z) (va_cwS 3 hts gX12_looks_X12_in rfl rfl rfl hd_X12_in ⟨Nat.le_of_ble_eq_true rfl, Nat.le_of_ble_eq_true rfl⟩) ⟨pC.blind, pC.pre hPc hG hDc⟩ rfl rfl hl.1 rfl (lv_room (Nat.le_of_ble_eq_true rfl)) dX12_looks_88 ⟨Nat.zero_le _, Nat.zero_le _⟩) hP hD hS hA rfl rfl rfl (by decide) (fun x7z u6z H locs hw hP hD hS => ?_)
      obtain rfl := hw.symm
      have hP : va_P (dC, dI) vwCl (wd37 cyI cyJ cyZ) H := hP.sub [] rfl
      have hD : va_D A (wd37 cyI cyJ cyZ) := hD.sub [] (by decide) rfl
      refine lv_if_eq (tgt := 98) hx hb dX12_looks_91 (by decide) (fun c8z => ?_) (fun c8z => ?_)
      · have h := xt h c8z
        refine lv_iconst (v := (0 : Int32)) hx hb dX12_looks_98 (by decide) ?_
        obtain rfl := Option.some.inj h
        exact W.zret (v := (0 : Int32)) hx hb hr rfl (fun t ht hW => ⟨⟨_, (), rfl, rfl, by rw [ht]; exact hP, hD⟩, hS.F ht⟩) hS.2.2 dX12_looks_99 hlocks
      · have h := xf h c8z
        refine lv_iconst (v := (1 : Int32)) hx hb dX12_looks_94 (by decide) ?_
        refine lv_goto (tgt := 99) hx hb dX12_looks_95 (by decide) ?_
        obtain rfl := Option.some.inj h
        exact W.zret (v := (1 : Int32)) hx hb hr rfl (fun t ht hW => ⟨⟨_, (), rfl, rfl, by rw [ht]; exact hP, hD⟩, hS.F ht⟩) hS.2.2 dX12_looks_99 hlocks
def j_X12_looks_66 (N : Nat) (v0 : Int32) (v1 : Int32) : Option (Int32) :=
  j_X12_looks_71 N v0 v1 (1 : Int32)
set_option maxRecDepth 100000 in
set_option maxHeartbeats 4000000 in
theorem k_X12_looks_66 {p : Program} {l : Launch} {e : Env} {s : State} {m : MethodId} {args : Array Value} {below : List Frame} {meth : Method} {c : Code} {dC : Nat → ClassId} {dI : Nat → Nat → Nat} {cyI cyJ cyZ : ClassId} {A : Nat → Prop} (C0 : mC p s m meth c args cX12_looks (some .boolean) 3 RX12 wsX12_looks (gK dC dI cyI cyJ cyZ) A) (N : Nat) (res : Int32) (v0 : Int32) (v1 : Int32) (h : j_X12_looks_66 N v0 v1 = some res) : ∀ (H : Heap) (locs : List Loc), va_P (dC, dI) vwCl (wd37 cyI cyJ cyZ) H → va_D A (wd37 cyI cyJ cyZ) → va_S A s.heap H locs → ∀ (ls : Array Slot), lv_has ls 3 [(0, .int v0), (1, .int v1)] → W p l e (headSpec wsX12_looks rm_X12_looks).room s m args below meth c H locs 0 0 (MQ below (va_Qi (fun (r : Int32) (_ : Unit) => r = res) (bW dC dI (fun (u : Unit) => (wd37 cyI cyJ cyZ)) A) A) args s 0 0 A) (F0 m 66 ls []) := by
  obtain ⟨hx, hb, hr, hml, hown, hts, hlocks, hG, hA⟩ := id C0
  have hK := hG.1
  intro H locs hP hD hS ls hl
  unfold j_X12_looks_66 at h
  refine lv_iconst (v := (1 : Int32)) hx hb dX12_looks_66 (by decide) ?_
  refine lv_goto (tgt := 71) hx hb dX12_looks_67 (by decide) ?_
  exact k_X12_looks_71 C0 N res v0 v1 (1 : Int32)  h _ _ hP hD hS _ (lv_sub hl [0, 1] rfl)
def j_X12_looks_35 (N : Nat) (v0 : Int32) (s0 : Int32) : Option (Int32) :=
  if v0 = (101 : Int32) then
    j_X12_looks_66 N v0 s0
  else
    if v0 = (113 : Int32) then
      j_X12_looks_66 N v0 s0
    else
      if v0 = (102 : Int32) then
        j_X12_looks_66 N v0 s0
      else
        if v0 = (104 : Int32) then
          j_X12_looks_66 N v0 s0
        else
          if v0 = (116 : Int32) then
            j_X12_looks_66 N v0 s0
          else
            j_X12_looks_71 N v0 s0 (0 : Int32)
set_option maxRecDepth 100000 in
set_option maxHeartbeats 4000000 in
theorem k_X12_looks_35 {p : Program} {l : Launch} {e : Env} {s : State} {m : MethodId} {args : Array Value} {below : List Frame} {meth : Method} {c : Code} {dC : Nat → ClassId} {dI : Nat → Nat → Nat} {cyI cyJ cyZ : ClassId} {A : Nat → Prop} (C0 : mC p s m meth c args cX12_looks (some .boolean) 3 RX12 wsX12_looks (gK dC dI cyI cyJ cyZ) A) (N : Nat) (res : Int32) (v0 : Int32) (s0 : Int32) (h : j_X12_looks_35 N v0 s0 = some res) : ∀ (H : Heap) (locs : List Loc), va_P (dC, dI) vwCl (wd37 cyI cyJ cyZ) H → va_D A (wd37 cyI cyJ cyZ) → va_S A s.heap H locs → ∀ (ls : Array Slot), lv_has ls 3 [(0, .int v0)] → W p l e (headSpec wsX12_looks rm_X12_looks).room s m args below meth c H locs 0 0 (MQ below (va_Qi (fun (r : Int32) (_ : Unit) => r = res) (bW dC dI (fun (u : Unit) => (wd37 cyI cyJ cyZ)) A) A) args s 0 0 A) (F0 m 35 ls [.int s0]) := by
  obtain ⟨hx, hb, hr, hml, hown, hts, hlocks, hG, hA⟩ := id C0
  have hK := hG.1
  intro H locs hP hD hS ls hl
  unfold j_X12_looks_35 at h
  refine lv_istore_n (lv' := [(1, .int s0), (0, .int v0)]) hx hb dX12_looks_35 rfl hl (by decide) rfl (fun ls hl => ?_)
  refine lv_iload_n hx hb dX12_looks_36 rfl (lv_at hl 1 rfl) ?_
  refine lv_bipush (v := (101 : Int32)) hx hb dX12_looks_37 (by decide) ?_
  refine lv_icmp_eq (tgt := 66) hx hb dX12_looks_39 (by decide) (fun c2z => ?_) (fun c2z => ?_)
  · have h := xt h c2z
    exact k_X12_looks_66 C0 N res v0 s0  h _ _ hP hD hS _ (lv_sub hl [1, 0] rfl)
  · have h := xf h c2z
    refine lv_iload_n hx hb dX12_looks_42 rfl (lv_at hl 1 rfl) ?_
    refine lv_bipush (v := (113 : Int32)) hx hb dX12_looks_43 (by decide) ?_
    refine lv_icmp_eq (tgt := 66) hx hb dX12_looks_45 (by decide) (fun c9z => ?_) (fun c9z => ?_)
    · have h := xt h c9z
      exact k_X12_looks_66 C0 N res v0 s0  h _ _ hP hD hS _ (lv_sub hl [1, 0] rfl)
    · have h := xf h c9z
      refine lv_iload_n hx hb dX12_looks_48 rfl (lv_at hl 1 rfl) ?_
      refine lv_bipush (v := (102 : Int32)) hx hb dX12_looks_49 (by decide) ?_
      refine lv_icmp_eq (tgt := 66) hx hb dX12_looks_51 (by decide) (fun c10z => ?_) (fun c10z => ?_)
      · have h := xt h c10z
        exact k_X12_looks_66 C0 N res v0 s0  h _ _ hP hD hS _ (lv_sub hl [1, 0] rfl)
      · have h := xf h c10z
        refine lv_iload_n hx hb dX12_looks_54 rfl (lv_at hl 1 rfl) ?_
        refine lv_bipush (v := (104 : Int32)) hx hb dX12_looks_55 (by decide) ?_
        refine lv_icmp_eq (tgt := 66) hx hb dX12_looks_57 (by decide) (fun c11z => ?_) (fun c11z => ?_)
        · have h := xt h c11z
          exact k_X12_looks_66 C0 N res v0 s0  h _ _ hP hD hS _ (lv_sub hl [1, 0] rfl)
        · have h := xf h c11z
          refine lv_iload_n hx hb dX12_looks_60 rfl (lv_at hl 1 rfl) ?_
          refine lv_bipush (v := (116 : Int32)) hx hb dX12_looks_61 (by decide) ?_
          refine lv_icmp_ne (tgt := 70) hx hb dX12_looks_63 (by decide) (fun c12z => ?_) (fun c12z => ?_)
          · have h := xf h c12z
            refine lv_iconst (v := (0 : Int32)) hx hb dX12_looks_70 (by decide) ?_
            exact k_X12_looks_71 C0 N res v0 s0 (0 : Int32)  h _ _ hP hD hS _ (lv_sub hl [1, 0] rfl)
          · have h := xt h c12z
            exact k_X12_looks_66 C0 N res v0 s0  h _ _ hP hD hS _ (lv_sub hl [1, 0] rfl)
def j_X12_looks_30 (N : Nat) (v0 : Int32) : Option (Int32) :=
  j_X12_looks_35 N v0 (1 : Int32)
set_option maxRecDepth 100000 in
set_option maxHeartbeats 4000000 in
theorem k_X12_looks_30 {p : Program} {l : Launch} {e : Env} {s : State} {m : MethodId} {args : Array Value} {below : List Frame} {meth : Method} {c : Code} {dC : Nat → ClassId} {dI : Nat → Nat → Nat} {cyI cyJ cyZ : ClassId} {A : Nat → Prop} (C0 : mC p s m meth c args cX12_looks (some .boolean) 3 RX12 wsX12_looks (gK dC dI cyI cyJ cyZ) A) (N : Nat) (res : Int32) (v0 : Int32) (h : j_X12_looks_30 N v0 = some res) : ∀ (H : Heap) (locs : List Loc), va_P (dC, dI) vwCl (wd37 cyI cyJ cyZ) H → va_D A (wd37 cyI cyJ cyZ) → va_S A s.heap H locs → ∀ (ls : Array Slot), lv_has ls 3 [(0, .int v0)] → W p l e (headSpec wsX12_looks rm_X12_looks).room s m args below meth c H locs 0 0 (MQ below (va_Qi (fun (r : Int32) (_ : Unit) => r = res) (bW dC dI (fun (u : Unit) => (wd37 cyI cyJ cyZ)) A) A) args s 0 0 A) (F0 m 30 ls []) := by
  obtain ⟨hx, hb, hr, hml, hown, hts, hlocks, hG, hA⟩ := id C0
  have hK := hG.1
  intro H locs hP hD hS ls hl
  unfold j_X12_looks_30 at h
  refine lv_iconst (v := (1 : Int32)) hx hb dX12_looks_30 (by decide) ?_
  refine lv_goto (tgt := 35) hx hb dX12_looks_31 (by decide) ?_
  exact k_X12_looks_35 C0 N res v0 (1 : Int32)  h _ _ hP hD hS _ (lv_sub hl [0] rfl)
def f_X12_looks (N : Nat) (v0 : Int32) : Option (Int32) :=
  if v0 = (114 : Int32) then
    j_X12_looks_30 N v0
  else
    if v0 = (98 : Int32) then
      j_X12_looks_30 N v0
    else
      if v0 = (120 : Int32) then
        j_X12_looks_30 N v0
      else
        if v0 = (112 : Int32) then
          j_X12_looks_30 N v0
        else
          if v0 = (111 : Int32) then
            j_X12_looks_30 N v0
          else
            j_X12_looks_35 N v0 (0 : Int32)
set_option maxRecDepth 100000 in
set_option maxHeartbeats 4000000 in
theorem k_X12_looks_0 {p : Program} {l : Launch} {e : Env} {s : State} {m : MethodId} {args : Array Value} {below : List Frame} {meth : Method} {c : Code} {dC : Nat → ClassId} {dI : Nat → Nat → Nat} {cyI cyJ cyZ : ClassId} {A : Nat → Prop} (C0 : mC p s m meth c args cX12_looks (some .boolean) 3 RX12 wsX12_looks (gK dC dI cyI cyJ cyZ) A) (N : Nat) (res : Int32) (v0 : Int32) (h : f_X12_looks N v0 = some res) : ∀ (H : Heap) (locs : List Loc), va_P (dC, dI) vwCl (wd37 cyI cyJ cyZ) H → va_D A (wd37 cyI cyJ cyZ) → va_S A s.heap H locs → ∀ (ls : Array Slot), lv_has ls 3 [(0, .int v0)] → W p l e (headSpec wsX12_looks rm_X12_looks).room s m args below meth c H locs 0 0 (MQ below (va_Qi (fun (r : Int32) (_ : Unit) => r = res) (bW dC dI (fun (u : Unit) => (wd37 cyI cyJ cyZ)) A) A) args s 0 0 A) (F0 m 0 ls []) := by
  obtain ⟨hx, hb, hr, hml, hown, hts, hlocks, hG, hA⟩ := id C0
  have hK := hG.1
  intro H locs hP hD hS ls hl
  unfold f_X12_looks at h
  refine lv_iload_n hx hb dX12_looks_0 rfl (lv_at hl 0 rfl) ?_
  refine lv_bipush (v := (114 : Int32)) hx hb dX12_looks_1 (by decide) ?_
  refine lv_icmp_eq (tgt := 30) hx hb dX12_looks_3 (by decide) (fun c1z => ?_) (fun c1z => ?_)
  · have h := xt h c1z
    exact k_X12_looks_30 C0 N res v0  h _ _ hP hD hS _ (lv_sub hl [0] rfl)
  · have h := xf h c1z
    refine lv_iload_n hx hb dX12_looks_6 rfl (lv_at hl 0 rfl) ?_
    refine lv_bipush (v := (98 : Int32)) hx hb dX12_looks_7 (by decide) ?_
    refine lv_icmp_eq (tgt := 30) hx hb dX12_looks_9 (by decide) (fun c13z => ?_) (fun c13z => ?_)
    · have h := xt h c13z
      exact k_X12_looks_30 C0 N res v0  h _ _ hP hD hS _ (lv_sub hl [0] rfl)
    · have h := xf h c13z
      refine lv_iload_n hx hb dX12_looks_12 rfl (lv_at hl 0 rfl) ?_
      refine lv_bipush (v := (120 : Int32)) hx hb dX12_looks_13 (by decide) ?_
      refine lv_icmp_eq (tgt := 30) hx hb dX12_looks_15 (by decide) (fun c14z => ?_) (fun c14z => ?_)
      · have h := xt h c14z
        exact k_X12_looks_30 C0 N res v0  h _ _ hP hD hS _ (lv_sub hl [0] rfl)
      · have h := xf h c14z
        refine lv_iload_n hx hb dX12_looks_18 rfl (lv_at hl 0 rfl) ?_
        refine lv_bipush (v := (112 : Int32)) hx hb dX12_looks_19 (by decide) ?_
        refine lv_icmp_eq (tgt := 30) hx hb dX12_looks_21 (by decide) (fun c15z => ?_) (fun c15z => ?_)
        · have h := xt h c15z
          exact k_X12_looks_30 C0 N res v0  h _ _ hP hD hS _ (lv_sub hl [0] rfl)
        · have h := xf h c15z
          refine lv_iload_n hx hb dX12_looks_24 rfl (lv_at hl 0 rfl) ?_
          refine lv_bipush (v := (111 : Int32)) hx hb dX12_looks_25 (by decide) ?_
          refine lv_icmp_ne (tgt := 34) hx hb dX12_looks_27 (by decide) (fun c16z => ?_) (fun c16z => ?_)
          · have h := xf h c16z
            refine lv_iconst (v := (0 : Int32)) hx hb dX12_looks_34 (by decide) ?_
            exact k_X12_looks_35 C0 N res v0 (0 : Int32)  h _ _ hP hD hS _ (lv_sub hl [0] rfl)
          · have h := xt h c16z
            exact k_X12_looks_30 C0 N res v0  h _ _ hP hD hS _ (lv_sub hl [0] rfl)
set_option maxRecDepth 100000 in
set_option maxHeartbeats 4000000 in
theorem c_X12_looks (l : Launch) (dC : Nat → ClassId) (dI : Nat → Nat → Nat) (cyI cyJ cyZ : ClassId) (N : Nat) (res : Int32) (sz : Nat) (v0 : Int32) (h : f_X12_looks N v0  = some res) : Met l yX12_looks wsX12_looks rm_X12_looks (pC dC dI cyI cyJ cyZ [.int v0] sz (wd37 cyI cyJ cyZ)) (va_Qi (fun (r : Int32) (_ : Unit) => r = res) (bW dC dI (fun (u : Unit) => (wd37 cyI cyJ cyZ)) (va_A (wd37 cyI cyJ cyZ) sz)) (va_A (wd37 cyI cyJ cyZ) sz)) 0 0 (va_A (wd37 cyI cyJ cyZ) sz) := by
  refine Met.ofW (cc := cX12_looks) (maxL := 3) (ret := (some .boolean)) (by decide) rfl ?_
  intro p e s m args below meth c s₁ B hml hv
  obtain ⟨rfl, hsz, hP, hG, hD0⟩ := hv
  have hx := B.exec
  have hb := B.bytes
  have hr := B.returns
  have hts := atoms_spec (ws := wsX12_looks) B.pre
  have hown : s.vm.findClass RX12 = some m.cls := findClass_of_methodNamed B.named
  have hlocks := B.notSynchronized
  subst hsz
  have hD := hD0.self (sz := s.heap.size)
  generalize hAe : va_A (wd37 cyI cyJ cyZ) s.heap.size = A at hD ⊢
  have hA : ∀ q : Nat, s.heap.size ≤ q → A q := fun q h => by rw [← hAe]; exact Or.inr h
  have hS : va_S A s.heap s.heap [] := va_S.rf
  have hl := lv_entry ([.int v0]) (n := 3) (Nat.le_of_ble_eq_true rfl)
  rw [lg_entry_eq]
  generalize (lg_sl ([.int v0]) ++ List.replicate (3 - (lg_sl ([.int v0])).length) Slot.unset).toArray = ls at hl ⊢
  have hl : lv_has ls 3 [(0, .int v0)] := hl
  exact k_X12_looks_0 ⟨hx, hb, hr, hml, hown, hts, hlocks, hG, hA⟩ N res  v0  h _ _ hP hD hS _ hl
abbrev rm_X12_fault : Room := { frames := 2, cells := 0, slots := 0, locals := 47 }
theorem hd_X12_fault : yX12_fault.cls ≠ "java/lang/invoke/MethodHandle" ∧ yX12_fault.cls ≠ "java/lang/invoke/VarHandle" ∧ (parseMethodDescriptor yX12_fault.desc).map (fun d => d.parameters.length) = some 0 := by decide +kernel
theorem iw_X12_fault_X12 : ∀ w ∈ wsX120, w ∈ wsX12_fault := List.forall_mem_cons.mpr ⟨List.mem_of_getElem? (i := 12) rfl, List.forall_mem_cons.mpr ⟨List.mem_of_getElem? (i := 13) rfl, List.forall_mem_cons.mpr ⟨List.mem_of_getElem? (i := 14) rfl, List.forall_mem_cons.mpr ⟨List.mem_of_getElem? (i := 15) rfl, List.forall_mem_cons.mpr ⟨List.mem_of_getElem? (i := 16) rfl, List.forall_mem_cons.mpr ⟨List.mem_of_getElem? (i := 17) rfl, List.forall_mem_cons.mpr ⟨List.mem_of_getElem? (i := 18) rfl, List.forall_mem_cons.mpr ⟨List.mem_of_getElem? (i := 19) rfl, List.forall_mem_cons.mpr ⟨List.mem_of_getElem? (i := 20) rfl, List.forall_mem_cons.mpr ⟨List.mem_of_getElem? (i := 21) rfl, List.forall_mem_cons.mpr ⟨List.mem_of_getElem? (i := 22) rfl, List.forall_mem_cons.mpr ⟨List.mem_of_getElem? (i := 23) rfl, List.forall_mem_cons.mpr ⟨List.mem_of_getElem? (i := 24) rfl, List.forall_mem_cons.mpr ⟨List.mem_of_getElem? (i := 25) rfl, List.forall_mem_cons.mpr ⟨List.mem_of_getElem? (i := 26) rfl, List.forall_mem_cons.mpr ⟨List.mem_of_getElem? (i := 27) rfl, List.forall_mem_cons.mpr ⟨List.mem_of_getElem? (i := 28) rfl, List.forall_mem_cons.mpr ⟨List.mem_of_getElem? (i := 29) rfl, List.forall_mem_cons.mpr ⟨List.mem_of_getElem? (i := 30) rfl, List.forall_mem_cons.mpr ⟨List.mem_of_getElem? (i := 31) rfl, List.forall_mem_cons.mpr ⟨List.mem_of_getElem? (i := 32) rfl, fun _ h => absurd h List.not_mem_nil⟩⟩⟩⟩⟩⟩⟩⟩⟩⟩⟩⟩⟩⟩⟩⟩⟩⟩⟩⟩⟩
def j_X12_fault_92 (N : Nat) (v1 : Int32) (m_length : Int32) : Option (Int32) :=
  if v1 = (1 : Int32) then
    some (-4 : Int32)
  else
    some m_length
set_option maxRecDepth 100000 in
set_option maxHeartbeats 4000000 in
theorem k_X12_fault_92 {p : Program} {l : Launch} {e : Env} {s : State} {m : MethodId} {args : Array Value} {below : List Frame} {meth : Method} {c : Code} {dC : Nat → ClassId} {dI : Nat → Nat → Nat} {cyI cyJ cyZ : ClassId} {A : Nat → Prop} (C0 : mC p s m meth c args cX12_fault (some .int) 4 RX12 wsX12_fault (gK dC dI cyI cyJ cyZ) A) (N : Nat) (res : Int32) (q_Md : Nat) (q_mtext : Nat) (q_mprimes : Nat) (q_mtold : Nat) (q_mtable : Nat) (q_mstretch : Nat) (q_mfewest : Nat) (q_misOdd : Nat) (q_misHigh : Nat) (q_misTop : Nat) (q_mbits : Nat) (q_mpile : Nat) (v1 : Int32) (m_length : Int32) (m_primeMany : Int32) (m_toldMany : Int32) (m_fate : Int32) (m_tail : Int32) (m_round : Int32) (m_tableKind : Int32) (m_areLaid : Int32) (m_unlike : Int32) (m_isFree : Int32) (a_mtext : Nat → Int32) (h : j_X12_fault_92 N v1 m_length = some res) : ∀ (H : Heap) (locs : List Loc), va_P (dC, dI) vwCl (wd64 cyI cyJ cyZ q_Md q_mtext q_mprimes q_mtold q_mtable q_mstretch q_mfewest q_misOdd q_misHigh q_misTop q_mbits q_mpile m_length m_primeMany m_toldMany m_fate m_tail m_round m_tableKind m_areLaid m_unlike m_isFree a_mtext) H → va_D A (wd64 cyI cyJ cyZ q_Md q_mtext q_mprimes q_mtold q_mtable q_mstretch q_mfewest q_misOdd q_misHigh q_misTop q_mbits q_mpile m_length m_primeMany m_toldMany m_fate m_tail m_round m_tableKind m_areLaid m_unlike m_isFree a_mtext) → va_S A s.heap H locs → ∀ (ls : Array Slot), lv_has ls 4 [(0, .ref q_Md), (1, .int v1)] → W p l e (headSpec wsX12_fault rm_X12_fault).room s m args below meth c H locs 0 0 (MQ below (va_Qi (fun (r : Int32) (_ : Unit) => r = res) (bW dC dI (fun (u : Unit) => (wd64 cyI cyJ cyZ q_Md q_mtext q_mprimes q_mtold q_mtable q_mstretch q_mfewest q_misOdd q_misHigh q_misTop q_mbits q_mpile m_length m_primeMany m_toldMany m_fate m_tail m_round m_tableKind m_areLaid m_unlike m_isFree a_mtext)) A) A) args s 0 0 A) (F0 m 92 ls []) := by
  obtain ⟨hx, hb, hr, hml, hown, hts, hlocks, hG, hA⟩ := id C0
  have hK := hG.1
  intro H locs hP hD hS ls hl
  unfold j_X12_fault_92 at h
  refine lv_iload_n hx hb dX12_fault_92 rfl (lv_at hl 1 rfl) ?_
  refine lv_iconst (v := (1 : Int32)) hx hb dX12_fault_93 (by decide) ?_
  refine lv_icmp_ne (tgt := 102) hx hb dX12_fault_94 (by decide) (fun c2z => ?_) (fun c2z => ?_)
  · have h := xf h c2z
    refine lv_aload_n hx hb dX12_fault_102 rfl (lv_at hl 0 rfl) ?_
    refine va_get (D := (dC, dI)) (ci := 12) (v := .int m_length) (C := RX12) (T := TX12) (N := 21) hx hb hts iw_X12_fault_X12 hown hK hP 0 rfl rfl 0 (by decide) (hts (.fieldLink RX12 157 "GoesIntoModel" "length" "I") (List.mem_of_getElem? (i := 1) rfl)) (fun _ h9 => h9) rfl dX12_fault_103 ?_
    obtain rfl := Option.some.inj h
    exact W.iret (v := m_length) hx hb hr (fun t ht hW => ⟨⟨_, (), rfl, rfl, by rw [ht]; exact hP, hD⟩, hS.F ht⟩) hS.2.2 dX12_fault_106 hlocks
  · have h := xt h c2z
    refine lv_bipush (v := (-4 : Int32)) hx hb dX12_fault_97 (by decide) ?_
    refine lv_goto (tgt := 106) hx hb dX12_fault_99 (by decide) ?_
    obtain rfl := Option.some.inj h
    exact W.iret (v := (-4 : Int32)) hx hb hr (fun t ht hW => ⟨⟨_, (), rfl, rfl, by rw [ht]; exact hP, hD⟩, hS.F ht⟩) hS.2.2 dX12_fault_106 hlocks
def j_X12_fault_71 (N : Nat) (k_4 : (Int32 × Int32) → Option (Int32)) (v1 : Int32) (v2 : Int32) : Option (Int32) :=
  if (2 : Int32) ≤ v1 then
    xl (v1 + (-1 : Int32)) fun y12z =>
    xl (v2 + (1 : Int32)) fun y13z =>
    k_4 (y12z, y13z)
  else
    some v2
set_option maxRecDepth 100000 in
set_option maxHeartbeats 4000000 in
theorem k_X12_fault_71 {p : Program} {l : Launch} {e : Env} {s : State} {m : MethodId} {args : Array Value} {below : List Frame} {meth : Method} {c : Code} {dC : Nat → ClassId} {dI : Nat → Nat → Nat} {cyI cyJ cyZ : ClassId} {A : Nat → Prop} (C0 : mC p s m meth c args cX12_fault (some .int) 4 RX12 wsX12_fault (gK dC dI cyI cyJ cyZ) A) (N : Nat) (res : Int32) (q_Md : Nat) (q_mtext : Nat) (q_mprimes : Nat) (q_mtold : Nat) (q_mtable : Nat) (q_mstretch : Nat) (q_mfewest : Nat) (q_misOdd : Nat) (q_misHigh : Nat) (q_misTop : Nat) (q_mbits : Nat) (q_mpile : Nat) (m_length : Int32) (m_primeMany : Int32) (m_toldMany : Int32) (m_fate : Int32) (m_tail : Int32) (m_round : Int32) (m_tableKind : Int32) (m_areLaid : Int32) (m_unlike : Int32) (m_isFree : Int32) (a_mtext : Nat → Int32) (k_4 : (Int32 × Int32) → Option (Int32)) (hk_4 : ∀ (v1 : Int32) (v2 : Int32), k_4 (v1, v2) = some res → ∀ (H : Heap) (locs : List Loc), va_P (dC, dI) vwCl (wd64 cyI cyJ cyZ q_Md q_mtext q_mprimes q_mtold q_mtable q_mstretch q_mfewest q_misOdd q_misHigh q_misTop q_mbits q_mpile m_length m_primeMany m_toldMany m_fate m_tail m_round m_tableKind m_areLaid m_unlike m_isFree a_mtext) H → va_D A (wd64 cyI cyJ cyZ q_Md q_mtext q_mprimes q_mtold q_mtable q_mstretch q_mfewest q_misOdd q_misHigh q_misTop q_mbits q_mpile m_length m_primeMany m_toldMany m_fate m_tail m_round m_tableKind m_areLaid m_unlike m_isFree a_mtext) → va_S A s.heap H locs → ∀ (ls : Array Slot), lv_has ls 4 [(0, .ref q_Md), (1, .int v1), (2, .int v2)] → W p l e (headSpec wsX12_fault rm_X12_fault).room s m args below meth c H locs 0 0 (MQ below (va_Qi (fun (r : Int32) (_ : Unit) => r = res) (bW dC dI (fun (u : Unit) => (wd64 cyI cyJ cyZ q_Md q_mtext q_mprimes q_mtold q_mtable q_mstretch q_mfewest q_misOdd q_misHigh q_misTop q_mbits q_mpile m_length m_primeMany m_toldMany m_fate m_tail m_round m_tableKind m_areLaid m_unlike m_isFree a_mtext)) A) A) args s 0 0 A) (F0 m 4 ls [])) (v1 : Int32) (v2 : Int32) (h : j_X12_fault_71 N k_4 v1 v2 = some res) : ∀ (H : Heap) (locs : List Loc), va_P (dC, dI) vwCl (wd64 cyI cyJ cyZ q_Md q_mtext q_mprimes q_mtold q_mtable q_mstretch q_mfewest q_misOdd q_misHigh q_misTop q_mbits q_mpile m_length m_primeMany m_toldMany m_fate m_tail m_round m_tableKind m_areLaid m_unlike m_isFree a_mtext) H → va_D A (wd64 cyI cyJ cyZ q_Md q_mtext q_mprimes q_mtold q_mtable q_mstretch q_mfewest q_misOdd q_misHigh q_misTop q_mbits q_mpile m_length m_primeMany m_toldMany m_fate m_tail m_round m_tableKind m_areLaid m_unlike m_isFree a_mtext) → va_S A s.heap H locs → ∀ (ls : Array Slot), lv_has ls 4 [(0, .ref q_Md), (1, .int v1), (2, .int v2)] → W p l e (headSpec wsX12_fault rm_X12_fault).room s m args below meth c H locs 0 0 (MQ below (va_Qi (fun (r : Int32) (_ : Unit) => r = res) (bW dC dI (fun (u : Unit) => (wd64 cyI cyJ cyZ q_Md q_mtext q_mprimes q_mtold q_mtable q_mstretch q_mfewest q_misOdd q_misHigh q_misTop q_mbits q_mpile m_length m_primeMany m_toldMany m_fate m_tail m_round m_tableKind m_areLaid m_unlike m_isFree a_mtext)) A) A) args s 0 0 A) (F0 m 71 ls []) := by
  obtain ⟨hx, hb, hr, hml, hown, hts, hlocks, hG, hA⟩ := id C0
  have hK := hG.1
  intro H locs hP hD hS ls hl
  unfold j_X12_fault_71 at h
  refine lv_iload_n hx hb dX12_fault_71 rfl (lv_at hl 1 rfl) ?_
  refine lv_iconst (v := (2 : Int32)) hx hb dX12_fault_72 (by decide) ?_
  refine lv_icmp_ge (tgt := 78) hx hb dX12_fault_73 (by decide) (fun c11z => ?_) (fun c11z => ?_)
  · have h := xt h c11z
    obtain ⟨y12z, ey12z⟩ : ∃ z : Int32, z = v1 + (-1 : Int32) := ⟨_, rfl⟩
    have h := xl_at h ey12z
    refine lv_iinc (v := y12z) (lv' := [(1, .int y12z), (0, .ref q_Md), (2, .int v2)]) hx hb dX12_fault_78 hl (k := 1) rfl (by rw [ey12z]; rfl) (by decide) rfl (fun ls hl => ?_)
    refine lv_goto (tgt := 86) hx hb dX12_fault_81 (by decide) ?_
    obtain ⟨y13z, ey13z⟩ : ∃ z : Int32, z = v2 + (1 : Int32) := ⟨_, rfl⟩
    have h := xl_at h ey13z
    refine lv_iinc (v := y13z) (lv' := [(2, .int y13z), (1, .int y12z), (0, .ref q_Md)]) hx hb dX12_fault_86 hl (k := 2) rfl (by rw [ey13z]; rfl) (by decide) rfl (fun ls hl => ?_)
    refine lv_goto (tgt := 4) hx hb dX12_fault_89 (by decide) ?_
    exact hk_4 y12z y13z h _ _ hP hD hS _ (lv_sub hl [2, 1, 0] rfl)
  · have h := xf h c11z
    refine lv_iload_n hx hb dX12_fault_76 rfl (lv_at hl 2 rfl) ?_
    obtain rfl := Option.some.inj h
    exact W.iret (v := v2) hx hb hr (fun t ht hW => ⟨⟨_, (), rfl, rfl, by rw [ht]; exact hP, hD⟩, hS.F ht⟩) hS.2.2 dX12_fault_77 hlocks
def s_X12_fault_4 (N : Nat) (m_length : Int32) (a_mtext : Nat → Int32) (k_4 : (Int32 × Int32) → Option (Int32)) (v1 : Int32) (v2 : Int32) : Option (Int32) :=
  if m_length ≤ v2 then
    j_X12_fault_92 N v1 m_length
  else
    if v2 < 0 ∨ 60 ≤ v2.toNatClampNeg then
      none
    else
      xl (a_mtext v2.toNatClampNeg) fun y4z =>
      Option.bind (f_X12_looks N y4z) fun r5z =>
      if r5z = 0 then
        if y4z = (126 : Int32) then
          if (1 : Int32) ≤ v1 then
            xl (v2 + (1 : Int32)) fun y17z =>
            k_4 (v1, y17z)
          else
            some v2
        else
          if y4z = (38 : Int32) then
            j_X12_fault_71 N k_4 v1 v2
          else
            if y4z = (124 : Int32) then
              j_X12_fault_71 N k_4 v1 v2
            else
              if y4z = (94 : Int32) then
                j_X12_fault_71 N k_4 v1 v2
              else
                some v2
      else
        if v1 = (8 : Int32) then
          some v2
        else
          xl (v1 + (1 : Int32)) fun y19z =>
          xl (v2 + (1 : Int32)) fun y20z =>
          k_4 (y19z, y20z)
def l_X12_fault_4 (N : Nat) (m_length : Int32) (a_mtext : Nat → Int32) (n : Nat) (z : Int32 × Int32) : Option (Int32) := lp (fun k z => s_X12_fault_4 N m_length a_mtext k z.1 z.2) n z
set_option maxRecDepth 100000 in
set_option maxHeartbeats 4000000 in
theorem k_X12_fault_4 {p : Program} {l : Launch} {e : Env} {s : State} {m : MethodId} {args : Array Value} {below : List Frame} {meth : Method} {c : Code} {dC : Nat → ClassId} {dI : Nat → Nat → Nat} {cyI cyJ cyZ : ClassId} {A : Nat → Prop} (C0 : mC p s m meth c args cX12_fault (some .int) 4 RX12 wsX12_fault (gK dC dI cyI cyJ cyZ) A) (N : Nat) (res : Int32) (q_Md : Nat) (q_mtext : Nat) (q_mprimes : Nat) (q_mtold : Nat) (q_mtable : Nat) (q_mstretch : Nat) (q_mfewest : Nat) (q_misOdd : Nat) (q_misHigh : Nat) (q_misTop : Nat) (q_mbits : Nat) (q_mpile : Nat) (m_length : Int32) (m_primeMany : Int32) (m_toldMany : Int32) (m_fate : Int32) (m_tail : Int32) (m_round : Int32) (m_tableKind : Int32) (m_areLaid : Int32) (m_unlike : Int32) (m_isFree : Int32) (a_mtext : Nat → Int32) : ∀ (n : Nat) (v1 : Int32) (v2 : Int32), l_X12_fault_4 N m_length a_mtext n (v1, v2) = some res → ∀ (H : Heap) (locs : List Loc), va_P (dC, dI) vwCl (wd64 cyI cyJ cyZ q_Md q_mtext q_mprimes q_mtold q_mtable q_mstretch q_mfewest q_misOdd q_misHigh q_misTop q_mbits q_mpile m_length m_primeMany m_toldMany m_fate m_tail m_round m_tableKind m_areLaid m_unlike m_isFree a_mtext) H → va_D A (wd64 cyI cyJ cyZ q_Md q_mtext q_mprimes q_mtold q_mtable q_mstretch q_mfewest q_misOdd q_misHigh q_misTop q_mbits q_mpile m_length m_primeMany m_toldMany m_fate m_tail m_round m_tableKind m_areLaid m_unlike m_isFree a_mtext) → va_S A s.heap H locs → ∀ (ls : Array Slot), lv_has ls 4 [(0, .ref q_Md), (1, .int v1), (2, .int v2)] → W p l e (headSpec wsX12_fault rm_X12_fault).room s m args below meth c H locs 0 0 (MQ below (va_Qi (fun (r : Int32) (_ : Unit) => r = res) (bW dC dI (fun (u : Unit) => (wd64 cyI cyJ cyZ q_Md q_mtext q_mprimes q_mtold q_mtable q_mstretch q_mfewest q_misOdd q_misHigh q_misTop q_mbits q_mpile m_length m_primeMany m_toldMany m_fate m_tail m_round m_tableKind m_areLaid m_unlike m_isFree a_mtext)) A) A) args s 0 0 A) (F0 m 4 ls []) := by
  obtain ⟨hx, hb, hr, hml, hown, hts, hlocks, hG, hA⟩ := id C0
  have hK := hG.1
  intro n
  induction n with
  | zero =>
    intro v1 v2 h
    cases h
  | succ n ih =>
    intro v1 v2 h H locs hP hD hS ls hl
    have h : s_X12_fault_4 N m_length a_mtext (l_X12_fault_4 N m_length a_mtext n) v1 v2 = some res := h
    unfold s_X12_fault_4 at h
    refine lv_iload_n hx hb dX12_fault_4 rfl (lv_at hl 2 rfl) ?_
    refine lv_aload_n hx hb dX12_fault_5 rfl (lv_at hl 0 rfl) ?_
    refine va_get (D := (dC, dI)) (ci := 12) (v := .int m_length) (C := RX12) (T := TX12) (N := 21) hx hb hts iw_X12_fault_X12 hown hK hP 0 rfl rfl 0 (by decide) (hts (.fieldLink RX12 157 "GoesIntoModel" "length" "I") (List.mem_of_getElem? (i := 1) rfl)) (fun _ h9 => h9) rfl dX12_fault_6 ?_
    refine lv_icmp_ge (tgt := 92) hx hb dX12_fault_9 (by decide) (fun c1z => ?_) (fun c1z => ?_)
    · have h := xt h c1z
      exact k_X12_fault_92 C0 N res q_Md q_mtext q_mprimes q_mtold q_mtable q_mstretch q_mfewest q_misOdd q_misHigh q_misTop q_mbits q_mpile v1 m_length m_primeMany m_toldMany m_fate m_tail m_round m_tableKind m_areLaid m_unlike m_isFree a_mtext  h _ _ hP hD hS _ (lv_sub hl [0, 1] rfl)
    · have h := xf h c1z
      refine lv_aload_n hx hb dX12_fault_12 rfl (lv_at hl 0 rfl) ?_
      refine va_get (D := (dC, dI)) (ci := 12) (v := .ref q_mtext) (C := RX12) (T := TX12) (N := 21) hx hb hts iw_X12_fault_X12 hown hK hP 0 rfl rfl 1 (by decide) (hts (.fieldLink RX12 7 "GoesIntoModel" "text" "[I") (List.mem_of_getElem? (i := 2) rfl)) (fun _ h9 => h9) rfl dX12_fault_13 ?_
      refine lv_iload_n hx hb dX12_fault_16 rfl (lv_at hl 2 rfl) ?_
      obtain ⟨b3z, h⟩ := xn h
      refine va_iald hx hb hK hP 1 0 rfl rfl b3z dX12_fault_17 ?_
      refine lv_topi (fun y4z ey4z => ?_)
      have h := xl_at h ey4z
      refine lv_istore_n (lv' := [(3, .int y4z), (0, .ref q_Md), (1, .int v1), (2, .int v2)]) hx hb dX12_fault_18 rfl hl (by decide) rfl (fun ls hl => ?_)
      refine lv_iload_n hx hb dX12_fault_19 rfl (lv_at hl 0 rfl) ?_
      obtain ⟨r5z, hr5z, h⟩ := xb_at h
      have hPc := hP.sub (ws' := (wd37 cyI cyJ cyZ)) [] rfl
      have hDc := hD.sub (ws' := (wd37 cyI cyJ cyZ)) [] (by decide) rfl
      refine cal_i [] [0, 1] (va_runS (As := [.int y4z]) (rest := []) ⟨hx, hb, hml, hown, hts⟩ (c_X12_looks l dC dI cyI cyJ cyZ N r5z H.size  y4z  hr5z) (va_cwS 1 hts gX12_fault_X12_looks rfl rfl rfl hd_X12_looks ⟨Nat.le_of_ble_eq_true rfl, Nat.le_of_ble_eq_true rfl⟩) ⟨pC.blind, pC.pre hPc hG hDc⟩ rfl rfl hl.1 rfl (lv_room (Nat.le_of_ble_eq_true rfl)) dX12_fault_20 ⟨Nat.zero_le _, Nat.zero_le _⟩) hP hD hS hA rfl rfl rfl (by decide) (fun x7z u6z H locs hw hP hD hS => ?_)
      obtain rfl := hw.symm
      have hP : va_P (dC, dI) vwCl (wd64 cyI cyJ cyZ q_Md q_mtext q_mprimes q_mtold q_mtable q_mstretch q_mfewest q_misOdd q_misHigh q_misTop q_mbits q_mpile m_length m_primeMany m_toldMany m_fate m_tail m_round m_tableKind m_areLaid m_unlike m_isFree a_mtext) H := hP.sub [0, 1] rfl
      have hD : va_D A (wd64 cyI cyJ cyZ q_Md q_mtext q_mprimes q_mtold q_mtable q_mstretch q_mfewest q_misOdd q_misHigh q_misTop q_mbits q_mpile m_length m_primeMany m_toldMany m_fate m_tail m_round m_tableKind m_areLaid m_unlike m_isFree a_mtext) := hD.sub [0, 1] (by decide) rfl
      refine lv_if_eq (tgt := 40) hx hb dX12_fault_23 (by decide) (fun c8z => ?_) (fun c8z => ?_)
      · have h := xt h c8z
        refine lv_iload_n hx hb dX12_fault_40 rfl (lv_at hl 0 rfl) ?_
        refine lv_bipush (v := (126 : Int32)) hx hb dX12_fault_41 (by decide) ?_
        refine lv_icmp_ne (tgt := 53) hx hb dX12_fault_43 (by decide) (fun c9z => ?_) (fun c9z => ?_)
        · have h := xf h c9z
          refine lv_iload_n hx hb dX12_fault_53 rfl (lv_at hl 0 rfl) ?_
          refine lv_bipush (v := (38 : Int32)) hx hb dX12_fault_54 (by decide) ?_
          refine lv_icmp_eq (tgt := 71) hx hb dX12_fault_56 (by decide) (fun c10z => ?_) (fun c10z => ?_)
          · have h := xt h c10z
            exact k_X12_fault_71 C0 N res q_Md q_mtext q_mprimes q_mtold q_mtable q_mstretch q_mfewest q_misOdd q_misHigh q_misTop q_mbits q_mpile m_length m_primeMany m_toldMany m_fate m_tail m_round m_tableKind m_areLaid m_unlike m_isFree a_mtext _ ih v1 v2  h _ _ hP hD hS _ (lv_sub hl [1, 2, 3] rfl)
          · have h := xf h c10z
            refine lv_iload_n hx hb dX12_fault_59 rfl (lv_at hl 0 rfl) ?_
            refine lv_bipush (v := (124 : Int32)) hx hb dX12_fault_60 (by decide) ?_
            refine lv_icmp_eq (tgt := 71) hx hb dX12_fault_62 (by decide) (fun c14z => ?_) (fun c14z => ?_)
            · have h := xt h c14z
              exact k_X12_fault_71 C0 N res q_Md q_mtext q_mprimes q_mtold q_mtable q_mstretch q_mfewest q_misOdd q_misHigh q_misTop q_mbits q_mpile m_length m_primeMany m_toldMany m_fate m_tail m_round m_tableKind m_areLaid m_unlike m_isFree a_mtext _ ih v1 v2  h _ _ hP hD hS _ (lv_sub hl [1, 2, 3] rfl)
            · have h := xf h c14z
              refine lv_iload_n hx hb dX12_fault_65 rfl (lv_at hl 0 rfl) ?_
              refine lv_bipush (v := (94 : Int32)) hx hb dX12_fault_66 (by decide) ?_
              refine lv_icmp_ne (tgt := 84) hx hb dX12_fault_68 (by decide) (fun c15z => ?_) (fun c15z => ?_)
              · have h := xf h c15z
                refine lv_iload_n hx hb dX12_fault_84 rfl (lv_at hl 3 rfl) ?_
                obtain rfl := Option.some.inj h
                exact W.iret (v := v2) hx hb hr (fun t ht hW => ⟨⟨_, (), rfl, rfl, by rw [ht]; exact hP, hD⟩, hS.F ht⟩) hS.2.2 dX12_fault_85 hlocks
              · have h := xt h c15z
                exact k_X12_fault_71 C0 N res q_Md q_mtext q_mprimes q_mtold q_mtable q_mstretch q_mfewest q_misOdd q_misHigh q_misTop q_mbits q_mpile m_length m_primeMany m_toldMany m_fate m_tail m_round m_tableKind m_areLaid m_unlike m_isFree a_mtext _ ih v1 v2  h _ _ hP hD hS _ (lv_sub hl [1, 2, 3] rfl)
        · have h := xt h c9z
          refine lv_iload_n hx hb dX12_fault_46 rfl (lv_at hl 2 rfl) ?_
          refine lv_iconst (v := (1 : Int32)) hx hb dX12_fault_47 (by decide) ?_
          refine lv_icmp_ge (tgt := 86) hx hb dX12_fault_48 (by decide) (fun c16z => ?_) (fun c16z => ?_)
          · have h := xt h c16z
            obtain ⟨y17z, ey17z⟩ : ∃ z : Int32, z = v2 + (1 : Int32) := ⟨_, rfl⟩
            have h := xl_at h ey17z
            refine lv_iinc (v := y17z) (lv' := [(2, .int y17z), (3, .int y4z), (0, .ref q_Md), (1, .int v1)]) hx hb dX12_fault_86 hl (k := 3) rfl (by rw [ey17z]; rfl) (by decide) rfl (fun ls hl => ?_)
            refine lv_goto (tgt := 4) hx hb dX12_fault_89 (by decide) ?_
            exact ih v1 y17z h _ _ hP hD hS _ (lv_sub hl [2, 3, 0] rfl)
          · have h := xf h c16z
            refine lv_iload_n hx hb dX12_fault_51 rfl (lv_at hl 3 rfl) ?_
            obtain rfl := Option.some.inj h
            exact W.iret (v := v2) hx hb hr (fun t ht hW => ⟨⟨_, (), rfl, rfl, by rw [ht]; exact hP, hD⟩, hS.F ht⟩) hS.2.2 dX12_fault_52 hlocks
      · have h := xf h c8z
        refine lv_iload_n hx hb dX12_fault_26 rfl (lv_at hl 2 rfl) ?_
        refine lv_bipush (v := (8 : Int32)) hx hb dX12_fault_27 (by decide) ?_
        refine lv_icmp_ne (tgt := 34) hx hb dX12_fault_29 (by decide) (fun c18z => ?_) (fun c18z => ?_)
        · have h := xf h c18z
          obtain ⟨y19z, ey19z⟩ : ∃ z : Int32, z = v1 + (1 : Int32) := ⟨_, rfl⟩
          have h := xl_at h ey19z
          refine lv_iinc (v := y19z) (lv' := [(1, .int y19z), (3, .int y4z), (0, .ref q_Md), (2, .int v2)]) hx hb dX12_fault_34 hl (k := 2) rfl (by rw [ey19z]; rfl) (by decide) rfl (fun ls hl => ?_)
          refine lv_goto (tgt := 86) hx hb dX12_fault_37 (by decide) ?_
          obtain ⟨y20z, ey20z⟩ : ∃ z : Int32, z = v2 + (1 : Int32) := ⟨_, rfl⟩
          have h := xl_at h ey20z
          refine lv_iinc (v := y20z) (lv' := [(2, .int y20z), (1, .int y19z), (3, .int y4z), (0, .ref q_Md)]) hx hb dX12_fault_86 hl (k := 3) rfl (by rw [ey20z]; rfl) (by decide) rfl (fun ls hl => ?_)
          refine lv_goto (tgt := 4) hx hb dX12_fault_89 (by decide) ?_
          exact ih y19z y20z h _ _ hP hD hS _ (lv_sub hl [3, 1, 0] rfl)
        · have h := xt h c18z
          refine lv_iload_n hx hb dX12_fault_32 rfl (lv_at hl 3 rfl) ?_
          obtain rfl := Option.some.inj h
          exact W.iret (v := v2) hx hb hr (fun t ht hW => ⟨⟨_, (), rfl, rfl, by rw [ht]; exact hP, hD⟩, hS.F ht⟩) hS.2.2 dX12_fault_33 hlocks
def f_X12_fault (N : Nat) (m_length : Int32) (a_mtext : Nat → Int32) : Option (Int32) :=
  l_X12_fault_4 N m_length a_mtext N ((0 : Int32), (0 : Int32))
set_option maxRecDepth 100000 in
set_option maxHeartbeats 4000000 in
theorem k_X12_fault_0 {p : Program} {l : Launch} {e : Env} {s : State} {m : MethodId} {args : Array Value} {below : List Frame} {meth : Method} {c : Code} {dC : Nat → ClassId} {dI : Nat → Nat → Nat} {cyI cyJ cyZ : ClassId} {A : Nat → Prop} (C0 : mC p s m meth c args cX12_fault (some .int) 4 RX12 wsX12_fault (gK dC dI cyI cyJ cyZ) A) (N : Nat) (res : Int32) (q_Md : Nat) (q_mtext : Nat) (q_mprimes : Nat) (q_mtold : Nat) (q_mtable : Nat) (q_mstretch : Nat) (q_mfewest : Nat) (q_misOdd : Nat) (q_misHigh : Nat) (q_misTop : Nat) (q_mbits : Nat) (q_mpile : Nat) (m_length : Int32) (m_primeMany : Int32) (m_toldMany : Int32) (m_fate : Int32) (m_tail : Int32) (m_round : Int32) (m_tableKind : Int32) (m_areLaid : Int32) (m_unlike : Int32) (m_isFree : Int32) (a_mtext : Nat → Int32) (h : f_X12_fault N m_length a_mtext = some res) : ∀ (H : Heap) (locs : List Loc), va_P (dC, dI) vwCl (wd64 cyI cyJ cyZ q_Md q_mtext q_mprimes q_mtold q_mtable q_mstretch q_mfewest q_misOdd q_misHigh q_misTop q_mbits q_mpile m_length m_primeMany m_toldMany m_fate m_tail m_round m_tableKind m_areLaid m_unlike m_isFree a_mtext) H → va_D A (wd64 cyI cyJ cyZ q_Md q_mtext q_mprimes q_mtold q_mtable q_mstretch q_mfewest q_misOdd q_misHigh q_misTop q_mbits q_mpile m_length m_primeMany m_toldMany m_fate m_tail m_round m_tableKind m_areLaid m_unlike m_isFree a_mtext) → va_S A s.heap H locs → ∀ (ls : Array Slot), lv_has ls 4 [(0, .ref q_Md)] → W p l e (headSpec wsX12_fault rm_X12_fault).room s m args below meth c H locs 0 0 (MQ below (va_Qi (fun (r : Int32) (_ : Unit) => r = res) (bW dC dI (fun (u : Unit) => (wd64 cyI cyJ cyZ q_Md q_mtext q_mprimes q_mtold q_mtable q_mstretch q_mfewest q_misOdd q_misHigh q_misTop q_mbits q_mpile m_length m_primeMany m_toldMany m_fate m_tail m_round m_tableKind m_areLaid m_unlike m_isFree a_mtext)) A) A) args s 0 0 A) (F0 m 0 ls []) := by
  obtain ⟨hx, hb, hr, hml, hown, hts, hlocks, hG, hA⟩ := id C0
  have hK := hG.1
  intro H locs hP hD hS ls hl
  unfold f_X12_fault at h
  refine lv_iconst (v := (0 : Int32)) hx hb dX12_fault_0 (by decide) ?_
  refine lv_istore_n (lv' := [(1, .int (0 : Int32)), (0, .ref q_Md)]) hx hb dX12_fault_1 rfl hl (by decide) rfl (fun ls hl => ?_)
  refine lv_iconst (v := (0 : Int32)) hx hb dX12_fault_2 (by decide) ?_
  refine lv_istore_n (lv' := [(2, .int (0 : Int32)), (1, .int (0 : Int32)), (0, .ref q_Md)]) hx hb dX12_fault_3 rfl hl (by decide) rfl (fun ls hl => ?_)
  exact k_X12_fault_4 C0 N res q_Md q_mtext q_mprimes q_mtold q_mtable q_mstretch q_mfewest q_misOdd q_misHigh q_misTop q_mbits q_mpile m_length m_primeMany m_toldMany m_fate m_tail m_round m_tableKind m_areLaid m_unlike m_isFree a_mtext N (0 : Int32) (0 : Int32) h _ _ hP hD hS _ (lv_sub hl [2, 1, 0] rfl)
set_option maxRecDepth 100000 in
set_option maxHeartbeats 4000000 in
theorem c_X12_fault (l : Launch) (dC : Nat → ClassId) (dI : Nat → Nat → Nat) (cyI cyJ cyZ : ClassId) (N : Nat) (res : Int32) (sz : Nat) (q_Md : Nat) (q_mtext : Nat) (q_mprimes : Nat) (q_mtold : Nat) (q_mtable : Nat) (q_mstretch : Nat) (q_mfewest : Nat) (q_misOdd : Nat) (q_misHigh : Nat) (q_misTop : Nat) (q_mbits : Nat) (q_mpile : Nat) (m_length : Int32) (m_primeMany : Int32) (m_toldMany : Int32) (m_fate : Int32) (m_tail : Int32) (m_round : Int32) (m_tableKind : Int32) (m_areLaid : Int32) (m_unlike : Int32) (m_isFree : Int32) (a_mtext : Nat → Int32) (h : f_X12_fault N  m_length a_mtext = some res) : Met l yX12_fault wsX12_fault rm_X12_fault (pC dC dI cyI cyJ cyZ [.ref q_Md] sz (wd64 cyI cyJ cyZ q_Md q_mtext q_mprimes q_mtold q_mtable q_mstretch q_mfewest q_misOdd q_misHigh q_misTop q_mbits q_mpile m_length m_primeMany m_toldMany m_fate m_tail m_round m_tableKind m_areLaid m_unlike m_isFree a_mtext)) (va_Qi (fun (r : Int32) (_ : Unit) => r = res) (bW dC dI (fun (u : Unit) => (wd64 cyI cyJ cyZ q_Md q_mtext q_mprimes q_mtold q_mtable q_mstretch q_mfewest q_misOdd q_misHigh q_misTop q_mbits q_mpile m_length m_primeMany m_toldMany m_fate m_tail m_round m_tableKind m_areLaid m_unlike m_isFree a_mtext)) (va_A (wd64 cyI cyJ cyZ q_Md q_mtext q_mprimes q_mtold q_mtable q_mstretch q_mfewest q_misOdd q_misHigh q_misTop q_mbits q_mpile m_length m_primeMany m_toldMany m_fate m_tail m_round m_tableKind m_areLaid m_unlike m_isFree a_mtext) sz)) (va_A (wd64 cyI cyJ cyZ q_Md q_mtext q_mprimes q_mtold q_mtable q_mstretch q_mfewest q_misOdd q_misHigh q_misTop q_mbits q_mpile m_length m_primeMany m_toldMany m_fate m_tail m_round m_tableKind m_areLaid m_unlike m_isFree a_mtext) sz)) 0 0 (va_A (wd64 cyI cyJ cyZ q_Md q_mtext q_mprimes q_mtold q_mtable q_mstretch q_mfewest q_misOdd q_misHigh q_misTop q_mbits q_mpile m_length m_primeMany m_toldMany m_fate m_tail m_round m_tableKind m_areLaid m_unlike m_isFree a_mtext) sz) := by
  refine Met.ofW (cc := cX12_fault) (maxL := 4) (ret := (some .int)) (by decide) rfl ?_
  intro p e s m args below meth c s₁ B hml hv
  obtain ⟨rfl, hsz, hP, hG, hD0⟩ := hv
  have hx := B.exec
  have hb := B.bytes
  have hr := B.returns
  have hts := atoms_spec (ws := wsX12_fault) B.pre
  have hown : s.vm.findClass RX12 = some m.cls := findClass_of_methodNamed B.named
  have hlocks := B.notSynchronized
  subst hsz
  have hD := hD0.self (sz := s.heap.size)
  generalize hAe : va_A (wd64 cyI cyJ cyZ q_Md q_mtext q_mprimes q_mtold q_mtable q_mstretch q_mfewest q_misOdd q_misHigh q_misTop q_mbits q_mpile m_length m_primeMany m_toldMany m_fate m_tail m_round m_tableKind m_areLaid m_unlike m_isFree a_mtext) s.heap.size = A at hD ⊢
  have hA : ∀ q : Nat, s.heap.size ≤ q → A q := fun q h => by rw [← hAe]; exact Or.inr h
  have hS : va_S A s.heap s.heap [] := va_S.rf
  have hl := lv_entry ([.ref q_Md]) (n := 4) (Nat.le_of_ble_eq_true rfl)
  rw [lg_entry_eq]
  generalize (lg_sl ([.ref q_Md]) ++ List.replicate (4 - (lg_sl ([.ref q_Md])).length) Slot.unset).toArray = ls at hl ⊢
  have hl : lv_has ls 4 [(0, .ref q_Md)] := hl
  exact k_X12_fault_0 ⟨hx, hb, hr, hml, hown, hts, hlocks, hG, hA⟩ N res q_Md q_mtext q_mprimes q_mtold q_mtable q_mstretch q_mfewest q_misOdd q_misHigh q_misTop q_mbits q_mpile m_length m_primeMany m_toldMany m_fate m_tail m_round m_tableKind m_areLaid m_unlike m_isFree a_mtext  h _ _ hP hD hS _ hl
abbrev rm_X12_lookAt : Room := { frames := 1, cells := 0, slots := 0, locals := 26 }
theorem hd_X12_lookAt : yX12_lookAt.cls ≠ "java/lang/invoke/MethodHandle" ∧ yX12_lookAt.cls ≠ "java/lang/invoke/VarHandle" ∧ (parseMethodDescriptor yX12_lookAt.desc).map (fun d => d.parameters.length) = some 1 := by decide +kernel
theorem iw_X12_lookAt_X12 : ∀ w ∈ wsX120, w ∈ wsX12_lookAt := List.forall_mem_cons.mpr ⟨List.mem_of_getElem? (i := 11) rfl, List.forall_mem_cons.mpr ⟨List.mem_of_getElem? (i := 12) rfl, List.forall_mem_cons.mpr ⟨List.mem_of_getElem? (i := 13) rfl, List.forall_mem_cons.mpr ⟨List.mem_of_getElem? (i := 14) rfl, List.forall_mem_cons.mpr ⟨List.mem_of_getElem? (i := 15) rfl, List.forall_mem_cons.mpr ⟨List.mem_of_getElem? (i := 16) rfl, List.forall_mem_cons.mpr ⟨List.mem_of_getElem? (i := 17) rfl, List.forall_mem_cons.mpr ⟨List.mem_of_getElem? (i := 18) rfl, List.forall_mem_cons.mpr ⟨List.mem_of_getElem? (i := 19) rfl, List.forall_mem_cons.mpr ⟨List.mem_of_getElem? (i := 20) rfl, List.forall_mem_cons.mpr ⟨List.mem_of_getElem? (i := 21) rfl, List.forall_mem_cons.mpr ⟨List.mem_of_getElem? (i := 22) rfl, List.forall_mem_cons.mpr ⟨List.mem_of_getElem? (i := 23) rfl, List.forall_mem_cons.mpr ⟨List.mem_of_getElem? (i := 24) rfl, List.forall_mem_cons.mpr ⟨List.mem_of_getElem? (i := 25) rfl, List.forall_mem_cons.mpr ⟨List.mem_of_getElem? (i := 26) rfl, List.forall_mem_cons.mpr ⟨List.mem_of_getElem? (i := 27) rfl, List.forall_mem_cons.mpr ⟨List.mem_of_getElem? (i := 28) rfl, List.forall_mem_cons.mpr ⟨List.mem_of_getElem? (i := 29) rfl, List.forall_mem_cons.mpr ⟨List.mem_of_getElem? (i := 30) rfl, List.forall_mem_cons.mpr ⟨List.mem_of_getElem? (i := 31) rfl, fun _ h => absurd h List.not_mem_nil⟩⟩⟩⟩⟩⟩⟩⟩⟩⟩⟩⟩⟩⟩⟩⟩⟩⟩⟩⟩⟩
def j_X12_lookAt_88 (N : Nat) (k_18 : (Int32 × Int32 × Int32) → Option (Int32 × Int32 × Int32 × (Nat → Int64))) (v2 : Int32) (m_unlike : Int32) : Option (Int32 × Int32 × Int32 × (Nat → Int64)) :=
  xl (v2 + (1 : Int32)) fun y9z =>
  k_18 (y9z, m_unlike, (0 : Int32))
set_option maxRecDepth 100000 in
set_option maxHeartbeats 4000000 in
theorem k_X12_lookAt_88 {p : Program} {l : Launch} {e : Env} {s : State} {m : MethodId} {args : Array Value} {below : List Frame} {meth : Method} {c : Code} {dC : Nat → ClassId} {dI : Nat → Nat → Nat} {cyI cyJ cyZ : ClassId} {A : Nat → Prop} (C0 : mC p s m meth c args cX12_lookAt none 4 RX12 wsX12_lookAt (gK dC dI cyI cyJ cyZ) A) (N : Nat) (res : Int32 × Int32 × Int32 × (Nat → Int64)) (q_Md : Nat) (q_mprimes : Nat) (q_mtext : Nat) (q_mtold : Nat) (q_mtable : Nat) (q_mstretch : Nat) (q_mfewest : Nat) (q_misOdd : Nat) (q_misHigh : Nat) (q_misTop : Nat) (q_mbits : Nat) (q_mpile : Nat) (m_length : Int32) (m_primeMany : Int32) (m_toldMany : Int32) (m_fate : Int32) (m_tail : Int32) (m_round : Int32) (m_tableKind : Int32) (m_areLaid : Int32) (a_mprimes : Nat → Int64) (k_18 : (Int32 × Int32 × Int32) → Option (Int32 × Int32 × Int32 × (Nat → Int64))) (hk_18 : ∀ (v2 : Int32) (m_unlike : Int32) (m_isFree : Int32), k_18 (v2, m_unlike, m_isFree) = some res → ∀ (H : Heap) (locs : List Loc), va_P (dC, dI) vwCl (wd55 cyI cyJ cyZ q_Md q_mprimes q_mtext q_mtold q_mtable q_mstretch q_mfewest q_misOdd q_misHigh q_misTop q_mbits q_mpile m_length m_primeMany m_toldMany m_fate m_tail m_round m_tableKind m_areLaid m_unlike m_isFree a_mprimes) H → va_D A (wd55 cyI cyJ cyZ q_Md q_mprimes q_mtext q_mtold q_mtable q_mstretch q_mfewest q_misOdd q_misHigh q_misTop q_mbits q_mpile m_length m_primeMany m_toldMany m_fate m_tail m_round m_tableKind m_areLaid m_unlike m_isFree a_mprimes) → va_S A s.heap H locs → ∀ (ls : Array Slot), lv_has ls 4 [(0, .ref q_Md), (2, .int v2)] → W p l e (headSpec wsX12_lookAt rm_X12_lookAt).room s m args below meth c H locs 0 0 (MQ below (va_Qv (fun (_ : Unit) => True) (bW dC dI (fun (u : Unit) => (wd55 cyI cyJ cyZ q_Md q_mprimes q_mtext q_mtold q_mtable q_mstretch q_mfewest q_misOdd q_misHigh q_misTop q_mbits q_mpile m_length res.1 m_toldMany m_fate m_tail m_round m_tableKind m_areLaid res.2.1 res.2.2.1 res.2.2.2)) A) A) args s 0 0 A) (F0 m 18 ls [])) (v2 : Int32) (m_unlike : Int32) (m_isFree : Int32) (h : j_X12_lookAt_88 N k_18 v2 m_unlike = some res) : ∀ (H : Heap) (locs : List Loc), va_P (dC, dI) vwCl (wd55 cyI cyJ cyZ q_Md q_mprimes q_mtext q_mtold q_mtable q_mstretch q_mfewest q_misOdd q_misHigh q_misTop q_mbits q_mpile m_length m_primeMany m_toldMany m_fate m_tail m_round m_tableKind m_areLaid m_unlike m_isFree a_mprimes) H → va_D A (wd55 cyI cyJ cyZ q_Md q_mprimes q_mtext q_mtold q_mtable q_mstretch q_mfewest q_misOdd q_misHigh q_misTop q_mbits q_mpile m_length m_primeMany m_toldMany m_fate m_tail m_round m_tableKind m_areLaid m_unlike m_isFree a_mprimes) → va_S A s.heap H locs → ∀ (ls : Array Slot), lv_has ls 4 [(0, .ref q_Md), (2, .int v2)] → W p l e (headSpec wsX12_lookAt rm_X12_lookAt).room s m args below meth c H locs 0 0 (MQ below (va_Qv (fun (_ : Unit) => True) (bW dC dI (fun (u : Unit) => (wd55 cyI cyJ cyZ q_Md q_mprimes q_mtext q_mtold q_mtable q_mstretch q_mfewest q_misOdd q_misHigh q_misTop q_mbits q_mpile m_length res.1 m_toldMany m_fate m_tail m_round m_tableKind m_areLaid res.2.1 res.2.2.1 res.2.2.2)) A) A) args s 0 0 A) (F0 m 88 ls [.ref q_Md]) := by
  obtain ⟨hx, hb, hr, hml, hown, hts, hlocks, hG, hA⟩ := id C0
  have hK := hG.1
  intro H locs hP hD hS ls hl
  unfold j_X12_lookAt_88 at h
  refine lv_iconst (v := (0 : Int32)) hx hb dX12_lookAt_88 (by decide) ?_
  refine va_put (D := (dC, dI)) (ci := 12) (v := .int (0 : Int32)) (ty := .boolean) (C := RX12) (T := TX12) (N := 21) hx hb hts iw_X12_lookAt_X12 tyX12 tyX12_ok nmX12 hown hK hP hD hS 0 rfl rfl 19 (by decide) (hts (.fieldLink RX12 172 "GoesIntoModel" "isFree" "Z") (List.mem_of_getElem? (i := 2) rfl)) (fun _ h9 => h9) rfl (tyX12_ok 19 (by decide)) (by decide) (by decide) (Nat.le_of_ble_eq_true rfl) dX12_lookAt_89 (fun H locs hP hD hS => ?_)
  have hP : va_P (dC, dI) vwCl (wd55 cyI cyJ cyZ q_Md q_mprimes q_mtext q_mtold q_mtable q_mstretch q_mfewest q_misOdd q_misHigh q_misTop q_mbits q_mpile m_length m_primeMany m_toldMany m_fate m_tail m_round m_tableKind m_areLaid m_unlike (0 : Int32) a_mprimes) H := hP
  have hD : va_D A (wd55 cyI cyJ cyZ q_Md q_mprimes q_mtext q_mtold q_mtable q_mstretch q_mfewest q_misOdd q_misHigh q_misTop q_mbits q_mpile m_length m_primeMany m_toldMany m_fate m_tail m_round m_tableKind m_areLaid m_unlike (0 : Int32) a_mprimes) := hD
  obtain ⟨y9z, ey9z⟩ : ∃ z : Int32, z = v2 + (1 : Int32) := ⟨_, rfl⟩
  have h := xl_at h ey9z
  refine lv_iinc (v := y9z) (lv' := [(2, .int y9z), (0, .ref q_Md)]) hx hb dX12_lookAt_92 hl (k := 1) rfl (by rw [ey9z]; rfl) (by decide) rfl (fun ls hl => ?_)
  refine lv_goto (tgt := 18) hx hb dX12_lookAt_95 (by decide) ?_
  exact hk_18 y9z m_unlike (0 : Int32) h _ _ hP hD hS _ (lv_sub hl [1, 0] rfl)
def j_X12_lookAt_68 (N : Nat) (k_18 : (Int32 × Int32 × Int32) → Option (Int32 × Int32 × Int32 × (Nat → Int64))) (v2 : Int32) (v3 : Int32) (s0 : Int32) (s1 : Int32) (m_isFree : Int32) : Option (Int32 × Int32 × Int32 × (Nat → Int64)) :=
  xl (s1 + s0) fun y7z =>
  if m_isFree = 0 then
    j_X12_lookAt_88 N k_18 v2 y7z
  else
    if v3 = 0 then
      xl (v2 + (1 : Int32)) fun y11z =>
      k_18 (y11z, y7z, (1 : Int32))
    else
      j_X12_lookAt_88 N k_18 v2 y7z
set_option maxRecDepth 100000 in
set_option maxHeartbeats 4000000 in
theorem k_X12_lookAt_68 {p : Program} {l : Launch} {e : Env} {s : State} {m : MethodId} {args : Array Value} {below : List Frame} {meth : Method} {c : Code} {dC : Nat → ClassId} {dI : Nat → Nat → Nat} {cyI cyJ cyZ : ClassId} {A : Nat → Prop} (C0 : mC p s m meth c args cX12_lookAt none 4 RX12 wsX12_lookAt (gK dC dI cyI cyJ cyZ) A) (N : Nat) (res : Int32 × Int32 × Int32 × (Nat → Int64)) (q_Md : Nat) (q_mprimes : Nat) (q_mtext : Nat) (q_mtold : Nat) (q_mtable : Nat) (q_mstretch : Nat) (q_mfewest : Nat) (q_misOdd : Nat) (q_misHigh : Nat) (q_misTop : Nat) (q_mbits : Nat) (q_mpile : Nat) (v3 : Int32) (s0 : Int32) (s1 : Int32) (m_length : Int32) (m_primeMany : Int32) (m_toldMany : Int32) (m_fate : Int32) (m_tail : Int32) (m_round : Int32) (m_tableKind : Int32) (m_areLaid : Int32) (a_mprimes : Nat → Int64) (k_18 : (Int32 × Int32 × Int32) → Option (Int32 × Int32 × Int32 × (Nat → Int64))) (hk_18 : ∀ (v2 : Int32) (m_unlike : Int32) (m_isFree : Int32), k_18 (v2, m_unlike, m_isFree) = some res → ∀ (H : Heap) (locs : List Loc), va_P (dC, dI) vwCl (wd55 cyI cyJ cyZ q_Md q_mprimes q_mtext q_mtold q_mtable q_mstretch q_mfewest q_misOdd q_misHigh q_misTop q_mbits q_mpile m_length m_primeMany m_toldMany m_fate m_tail m_round m_tableKind m_areLaid m_unlike m_isFree a_mprimes) H → va_D A (wd55 cyI cyJ cyZ q_Md q_mprimes q_mtext q_mtold q_mtable q_mstretch q_mfewest q_misOdd q_misHigh q_misTop q_mbits q_mpile m_length m_primeMany m_toldMany m_fate m_tail m_round m_tableKind m_areLaid m_unlike m_isFree a_mprimes) → va_S A s.heap H locs → ∀ (ls : Array Slot), lv_has ls 4 [(0, .ref q_Md), (2, .int v2)] → W p l e (headSpec wsX12_lookAt rm_X12_lookAt).room s m args below meth c H locs 0 0 (MQ below (va_Qv (fun (_ : Unit) => True) (bW dC dI (fun (u : Unit) => (wd55 cyI cyJ cyZ q_Md q_mprimes q_mtext q_mtold q_mtable q_mstretch q_mfewest q_misOdd q_misHigh q_misTop q_mbits q_mpile m_length res.1 m_toldMany m_fate m_tail m_round m_tableKind m_areLaid res.2.1 res.2.2.1 res.2.2.2)) A) A) args s 0 0 A) (F0 m 18 ls [])) (v2 : Int32) (m_unlike : Int32) (m_isFree : Int32) (h : j_X12_lookAt_68 N k_18 v2 v3 s0 s1 m_isFree = some res) : ∀ (H : Heap) (locs : List Loc), va_P (dC, dI) vwCl (wd55 cyI cyJ cyZ q_Md q_mprimes q_mtext q_mtold q_mtable q_mstretch q_mfewest q_misOdd q_misHigh q_misTop q_mbits q_mpile m_length m_primeMany m_toldMany m_fate m_tail m_round m_tableKind m_areLaid m_unlike m_isFree a_mprimes) H → va_D A (wd55 cyI cyJ cyZ q_Md q_mprimes q_mtext q_mtold q_mtable q_mstretch q_mfewest q_misOdd q_misHigh q_misTop q_mbits q_mpile m_length m_primeMany m_toldMany m_fate m_tail m_round m_tableKind m_areLaid m_unlike m_isFree a_mprimes) → va_S A s.heap H locs → ∀ (ls : Array Slot), lv_has ls 4 [(0, .ref q_Md), (2, .int v2), (3, .int v3)] → W p l e (headSpec wsX12_lookAt rm_X12_lookAt).room s m args below meth c H locs 0 0 (MQ below (va_Qv (fun (_ : Unit) => True) (bW dC dI (fun (u : Unit) => (wd55 cyI cyJ cyZ q_Md q_mprimes q_mtext q_mtold q_mtable q_mstretch q_mfewest q_misOdd q_misHigh q_misTop q_mbits q_mpile m_length res.1 m_toldMany m_fate m_tail m_round m_tableKind m_areLaid res.2.1 res.2.2.1 res.2.2.2)) A) A) args s 0 0 A) (F0 m 68 ls [.int s0, .int s1, .ref q_Md]) := by
  obtain ⟨hx, hb, hr, hml, hown, hts, hlocks, hG, hA⟩ := id C0
  have hK := hG.1
  intro H locs hP hD hS ls hl
  unfold j_X12_lookAt_68 at h
  refine lv_iadd hx hb dX12_lookAt_68 ?_
  refine lv_topi (fun y7z ey7z => ?_)
  have h := xl_at h ey7z
  refine va_put (D := (dC, dI)) (ci := 12) (v := .int y7z) (ty := .int) (C := RX12) (T := TX12) (N := 21) hx hb hts iw_X12_lookAt_X12 tyX12 tyX12_ok nmX12 hown hK hP hD hS 0 rfl rfl 18 (by decide) (hts (.fieldLink RX12 169 "GoesIntoModel" "unlike" "I") (List.mem_of_getElem? (i := 1) rfl)) (fun _ h9 => h9) rfl (tyX12_ok 18 (by decide)) rfl rfl (Nat.le_of_ble_eq_true rfl) dX12_lookAt_69 (fun H locs hP hD hS => ?_)
  have hP : va_P (dC, dI) vwCl (wd55 cyI cyJ cyZ q_Md q_mprimes q_mtext q_mtold q_mtable q_mstretch q_mfewest q_misOdd q_misHigh q_misTop q_mbits q_mpile m_length m_primeMany m_toldMany m_fate m_tail m_round m_tableKind m_areLaid y7z m_isFree a_mprimes) H := hP
  have hD : va_D A (wd55 cyI cyJ cyZ q_Md q_mprimes q_mtext q_mtold q_mtable q_mstretch q_mfewest q_misOdd q_misHigh q_misTop q_mbits q_mpile m_length m_primeMany m_toldMany m_fate m_tail m_round m_tableKind m_areLaid y7z m_isFree a_mprimes) := hD
  refine lv_aload_n hx hb dX12_lookAt_72 rfl (lv_at hl 0 rfl) ?_
  refine lv_aload_n hx hb dX12_lookAt_73 rfl (lv_at hl 0 rfl) ?_
  refine va_get (D := (dC, dI)) (ci := 12) (v := .int m_isFree) (C := RX12) (T := TX12) (N := 21) hx hb hts iw_X12_lookAt_X12 hown hK hP 0 rfl rfl 19 (by decide) (hts (.fieldLink RX12 172 "GoesIntoModel" "isFree" "Z") (List.mem_of_getElem? (i := 2) rfl)) (fun _ h9 => h9) rfl dX12_lookAt_74 ?_
  refine lv_if_eq (tgt := 88) hx hb dX12_lookAt_77 (by decide) (fun c8z => ?_) (fun c8z => ?_)
  · have h := xt h c8z
    exact k_X12_lookAt_88 C0 N res q_Md q_mprimes q_mtext q_mtold q_mtable q_mstretch q_mfewest q_misOdd q_misHigh q_misTop q_mbits q_mpile m_length m_primeMany m_toldMany m_fate m_tail m_round m_tableKind m_areLaid a_mprimes k_18 hk_18 v2 y7z m_isFree  h _ _ hP hD hS _ (lv_sub hl [0, 1] rfl)
  · have h := xf h c8z
    refine lv_iload_n hx hb dX12_lookAt_80 rfl (lv_at hl 2 rfl) ?_
    refine lv_if_ne (tgt := 88) hx hb dX12_lookAt_81 (by decide) (fun c10z => ?_) (fun c10z => ?_)
    · have h := xf h c10z
      exact k_X12_lookAt_88 C0 N res q_Md q_mprimes q_mtext q_mtold q_mtable q_mstretch q_mfewest q_misOdd q_misHigh q_misTop q_mbits q_mpile m_length m_primeMany m_toldMany m_fate m_tail m_round m_tableKind m_areLaid a_mprimes k_18 hk_18 v2 y7z m_isFree  h _ _ hP hD hS _ (lv_sub hl [0, 1] rfl)
    · have h := xt h c10z
      refine lv_iconst (v := (1 : Int32)) hx hb dX12_lookAt_84 (by decide) ?_
      refine lv_goto (tgt := 89) hx hb dX12_lookAt_85 (by decide) ?_
      refine va_put (D := (dC, dI)) (ci := 12) (v := .int (1 : Int32)) (ty := .boolean) (C := RX12) (T := TX12) (N := 21) hx hb hts iw_X12_lookAt_X12 tyX12 tyX12_ok nmX12 hown hK hP hD hS 0 rfl rfl 19 (by decide) (hts (.fieldLink RX12 172 "GoesIntoModel" "isFree" "Z") (List.mem_of_getElem? (i := 2) rfl)) (fun _ h9 => h9) rfl (tyX12_ok 19 (by decide)) (by decide) (by decide) (Nat.le_of_ble_eq_true rfl) dX12_lookAt_89 (fun H locs hP hD hS => ?_)
      have hP : va_P (dC, dI) vwCl (wd55 cyI cyJ cyZ q_Md q_mprimes q_mtext q_mtold q_mtable q_mstretch q_mfewest q_misOdd q_misHigh q_misTop q_mbits q_mpile m_length m_primeMany m_toldMany m_fate m_tail m_round m_tableKind m_areLaid y7z (1 : Int32) a_mprimes) H := hP
      have hD : va_D A (wd55 cyI cyJ cyZ q_Md q_mprimes q_mtext q_mtold q_mtable q_mstretch q_mfewest q_misOdd q_misHigh q_misTop q_mbits q_mpile m_length m_primeMany m_toldMany m_fate m_tail m_round m_tableKind m_areLaid y7z (1 : Int32) a_mprimes) := hD
      obtain ⟨y11z, ey11z⟩ : ∃ z : Int32, z = v2 + (1 : Int32) := ⟨_, rfl⟩
      have h := xl_at h ey11z
      refine lv_iinc (v := y11z) (lv' := [(2, .int y11z), (0, .ref q_Md), (3, .int v3)]) hx hb dX12_lookAt_92 hl (k := 1) rfl (by rw [ey11z]; rfl) (by decide) rfl (fun ls hl => ?_)
      refine lv_goto (tgt := 18) hx hb dX12_lookAt_95 (by decide) ?_
      exact hk_18 y11z y7z (1 : Int32) h _ _ hP hD hS _ (lv_sub hl [1, 0] rfl)
def j_X12_lookAt_53 (N : Nat) (k_18 : (Int32 × Int32 × Int32) → Option (Int32 × Int32 × Int32 × (Nat → Int64))) (v2 : Int32) (s0 : Int32) (m_unlike : Int32) (m_isFree : Int32) : Option (Int32 × Int32 × Int32 × (Nat → Int64)) :=
  if s0 = 0 then
    j_X12_lookAt_68 N k_18 v2 s0 (1 : Int32) m_unlike m_isFree
  else
    j_X12_lookAt_68 N k_18 v2 s0 (0 : Int32) m_unlike m_isFree
set_option maxRecDepth 100000 in
set_option maxHeartbeats 4000000 in
theorem k_X12_lookAt_53 {p : Program} {l : Launch} {e : Env} {s : State} {m : MethodId} {args : Array Value} {below : List Frame} {meth : Method} {c : Code} {dC : Nat → ClassId} {dI : Nat → Nat → Nat} {cyI cyJ cyZ : ClassId} {A : Nat → Prop} (C0 : mC p s m meth c args cX12_lookAt none 4 RX12 wsX12_lookAt (gK dC dI cyI cyJ cyZ) A) (N : Nat) (res : Int32 × Int32 × Int32 × (Nat → Int64)) (q_Md : Nat) (q_mprimes : Nat) (q_mtext : Nat) (q_mtold : Nat) (q_mtable : Nat) (q_mstretch : Nat) (q_mfewest : Nat) (q_misOdd : Nat) (q_misHigh : Nat) (q_misTop : Nat) (q_mbits : Nat) (q_mpile : Nat) (s0 : Int32) (m_length : Int32) (m_primeMany : Int32) (m_toldMany : Int32) (m_fate : Int32) (m_tail : Int32) (m_round : Int32) (m_tableKind : Int32) (m_areLaid : Int32) (a_mprimes : Nat → Int64) (k_18 : (Int32 × Int32 × Int32) → Option (Int32 × Int32 × Int32 × (Nat → Int64))) (hk_18 : ∀ (v2 : Int32) (m_unlike : Int32) (m_isFree : Int32), k_18 (v2, m_unlike, m_isFree) = some res → ∀ (H : Heap) (locs : List Loc), va_P (dC, dI) vwCl (wd55 cyI cyJ cyZ q_Md q_mprimes q_mtext q_mtold q_mtable q_mstretch q_mfewest q_misOdd q_misHigh q_misTop q_mbits q_mpile m_length m_primeMany m_toldMany m_fate m_tail m_round m_tableKind m_areLaid m_unlike m_isFree a_mprimes) H → va_D A (wd55 cyI cyJ cyZ q_Md q_mprimes q_mtext q_mtold q_mtable q_mstretch q_mfewest q_misOdd q_misHigh q_misTop q_mbits q_mpile m_length m_primeMany m_toldMany m_fate m_tail m_round m_tableKind m_areLaid m_unlike m_isFree a_mprimes) → va_S A s.heap H locs → ∀ (ls : Array Slot), lv_has ls 4 [(0, .ref q_Md), (2, .int v2)] → W p l e (headSpec wsX12_lookAt rm_X12_lookAt).room s m args below meth c H locs 0 0 (MQ below (va_Qv (fun (_ : Unit) => True) (bW dC dI (fun (u : Unit) => (wd55 cyI cyJ cyZ q_Md q_mprimes q_mtext q_mtold q_mtable q_mstretch q_mfewest q_misOdd q_misHigh q_misTop q_mbits q_mpile m_length res.1 m_toldMany m_fate m_tail m_round m_tableKind m_areLaid res.2.1 res.2.2.1 res.2.2.2)) A) A) args s 0 0 A) (F0 m 18 ls [])) (v2 : Int32) (m_unlike : Int32) (m_isFree : Int32) (h : j_X12_lookAt_53 N k_18 v2 s0 m_unlike m_isFree = some res) : ∀ (H : Heap) (locs : List Loc), va_P (dC, dI) vwCl (wd55 cyI cyJ cyZ q_Md q_mprimes q_mtext q_mtold q_mtable q_mstretch q_mfewest q_misOdd q_misHigh q_misTop q_mbits q_mpile m_length m_primeMany m_toldMany m_fate m_tail m_round m_tableKind m_areLaid m_unlike m_isFree a_mprimes) H → va_D A (wd55 cyI cyJ cyZ q_Md q_mprimes q_mtext q_mtold q_mtable q_mstretch q_mfewest q_misOdd q_misHigh q_misTop q_mbits q_mpile m_length m_primeMany m_toldMany m_fate m_tail m_round m_tableKind m_areLaid m_unlike m_isFree a_mprimes) → va_S A s.heap H locs → ∀ (ls : Array Slot), lv_has ls 4 [(0, .ref q_Md), (2, .int v2)] → W p l e (headSpec wsX12_lookAt rm_X12_lookAt).room s m args below meth c H locs 0 0 (MQ below (va_Qv (fun (_ : Unit) => True) (bW dC dI (fun (u : Unit) => (wd55 cyI cyJ cyZ q_Md q_mprimes q_mtext q_mtold q_mtable q_mstretch q_mfewest q_misOdd q_misHigh q_misTop q_mbits q_mpile m_length res.1 m_toldMany m_fate m_tail m_round m_tableKind m_areLaid res.2.1 res.2.2.1 res.2.2.2)) A) A) args s 0 0 A) (F0 m 53 ls [.int s0]) := by
  obtain ⟨hx, hb, hr, hml, hown, hts, hlocks, hG, hA⟩ := id C0
  have hK := hG.1
  intro H locs hP hD hS ls hl
  unfold j_X12_lookAt_53 at h
  refine lv_istore_n (lv' := [(3, .int s0), (0, .ref q_Md), (2, .int v2)]) hx hb dX12_lookAt_53 rfl hl (by decide) rfl (fun ls hl => ?_)
  refine lv_aload_n hx hb dX12_lookAt_54 rfl (lv_at hl 1 rfl) ?_
  refine lv_dup hx hb dX12_lookAt_55 rfl ?_
  refine va_get (D := (dC, dI)) (ci := 12) (v := .int m_unlike) (C := RX12) (T := TX12) (N := 21) hx hb hts iw_X12_lookAt_X12 hown hK hP 0 rfl rfl 18 (by decide) (hts (.fieldLink RX12 169 "GoesIntoModel" "unlike" "I") (List.mem_of_getElem? (i := 1) rfl)) (fun _ h9 => h9) rfl dX12_lookAt_56 ?_
  refine lv_iload_n hx hb dX12_lookAt_59 rfl (lv_at hl 0 rfl) ?_
  refine lv_if_eq (tgt := 67) hx hb dX12_lookAt_60 (by decide) (fun c6z => ?_) (fun c6z => ?_)
  · have h := xt h c6z
    refine lv_iconst (v := (1 : Int32)) hx hb dX12_lookAt_67 (by decide) ?_
    exact k_X12_lookAt_68 C0 N res q_Md q_mprimes q_mtext q_mtold q_mtable q_mstretch q_mfewest q_misOdd q_misHigh q_misTop q_mbits q_mpile s0 (1 : Int32) m_unlike m_length m_primeMany m_toldMany m_fate m_tail m_round m_tableKind m_areLaid a_mprimes k_18 hk_18 v2 m_unlike m_isFree  h _ _ hP hD hS _ (lv_sub hl [1, 2, 0] rfl)
  · have h := xf h c6z
    refine lv_iconst (v := (0 : Int32)) hx hb dX12_lookAt_63 (by decide) ?_
    refine lv_goto (tgt := 68) hx hb dX12_lookAt_64 (by decide) ?_
    exact k_X12_lookAt_68 C0 N res q_Md q_mprimes q_mtext q_mtold q_mtable q_mstretch q_mfewest q_misOdd q_misHigh q_misTop q_mbits q_mpile s0 (0 : Int32) m_unlike m_length m_primeMany m_toldMany m_fate m_tail m_round m_tableKind m_areLaid a_mprimes k_18 hk_18 v2 m_unlike m_isFree  h _ _ hP hD hS _ (lv_sub hl [1, 2, 0] rfl)
def j_X12_lookAt_52 (N : Nat) (k_18 : (Int32 × Int32 × Int32) → Option (Int32 × Int32 × Int32 × (Nat → Int64))) (v2 : Int32) (m_unlike : Int32) (m_isFree : Int32) : Option (Int32 × Int32 × Int32 × (Nat → Int64)) :=
  j_X12_lookAt_53 N k_18 v2 (0 : Int32) m_unlike m_isFree
set_option maxRecDepth 100000 in
set_option maxHeartbeats 4000000 in
theorem k_X12_lookAt_52 {p : Program} {l : Launch} {e : Env} {s : State} {m : MethodId} {args : Array Value} {below : List Frame} {meth : Method} {c : Code} {dC : Nat → ClassId} {dI : Nat → Nat → Nat} {cyI cyJ cyZ : ClassId} {A : Nat → Prop} (C0 : mC p s m meth c args cX12_lookAt none 4 RX12 wsX12_lookAt (gK dC dI cyI cyJ cyZ) A) (N : Nat) (res : Int32 × Int32 × Int32 × (Nat → Int64)) (q_Md : Nat) (q_mprimes : Nat) (q_mtext : Nat) (q_mtold : Nat) (q_mtable : Nat) (q_mstretch : Nat) (q_mfewest : Nat) (q_misOdd : Nat) (q_misHigh : Nat) (q_misTop : Nat) (q_mbits : Nat) (q_mpile : Nat) (m_length : Int32) (m_primeMany : Int32) (m_toldMany : Int32) (m_fate : Int32) (m_tail : Int32) (m_round : Int32) (m_tableKind : Int32) (m_areLaid : Int32) (a_mprimes : Nat → Int64) (k_18 : (Int32 × Int32 × Int32) → Option (Int32 × Int32 × Int32 × (Nat → Int64))) (hk_18 : ∀ (v2 : Int32) (m_unlike : Int32) (m_isFree : Int32), k_18 (v2, m_unlike, m_isFree) = some res → ∀ (H : Heap) (locs : List Loc), va_P (dC, dI) vwCl (wd55 cyI cyJ cyZ q_Md q_mprimes q_mtext q_mtold q_mtable q_mstretch q_mfewest q_misOdd q_misHigh q_misTop q_mbits q_mpile m_length m_primeMany m_toldMany m_fate m_tail m_round m_tableKind m_areLaid m_unlike m_isFree a_mprimes) H → va_D A (wd55 cyI cyJ cyZ q_Md q_mprimes q_mtext q_mtold q_mtable q_mstretch q_mfewest q_misOdd q_misHigh q_misTop q_mbits q_mpile m_length m_primeMany m_toldMany m_fate m_tail m_round m_tableKind m_areLaid m_unlike m_isFree a_mprimes) → va_S A s.heap H locs → ∀ (ls : Array Slot), lv_has ls 4 [(0, .ref q_Md), (2, .int v2)] → W p l e (headSpec wsX12_lookAt rm_X12_lookAt).room s m args below meth c H locs 0 0 (MQ below (va_Qv (fun (_ : Unit) => True) (bW dC dI (fun (u : Unit) => (wd55 cyI cyJ cyZ q_Md q_mprimes q_mtext q_mtold q_mtable q_mstretch q_mfewest q_misOdd q_misHigh q_misTop q_mbits q_mpile m_length res.1 m_toldMany m_fate m_tail m_round m_tableKind m_areLaid res.2.1 res.2.2.1 res.2.2.2)) A) A) args s 0 0 A) (F0 m 18 ls [])) (v2 : Int32) (m_unlike : Int32) (m_isFree : Int32) (h : j_X12_lookAt_52 N k_18 v2 m_unlike m_isFree = some res) : ∀ (H : Heap) (locs : List Loc), va_P (dC, dI) vwCl (wd55 cyI cyJ cyZ q_Md q_mprimes q_mtext q_mtold q_mtable q_mstretch q_mfewest q_misOdd q_misHigh q_misTop q_mbits q_mpile m_length m_primeMany m_toldMany m_fate m_tail m_round m_tableKind m_areLaid m_unlike m_isFree a_mprimes) H → va_D A (wd55 cyI cyJ cyZ q_Md q_mprimes q_mtext q_mtold q_mtable q_mstretch q_mfewest q_misOdd q_misHigh q_misTop q_mbits q_mpile m_length m_primeMany m_toldMany m_fate m_tail m_round m_tableKind m_areLaid m_unlike m_isFree a_mprimes) → va_S A s.heap H locs → ∀ (ls : Array Slot), lv_has ls 4 [(0, .ref q_Md), (2, .int v2)] → W p l e (headSpec wsX12_lookAt rm_X12_lookAt).room s m args below meth c H locs 0 0 (MQ below (va_Qv (fun (_ : Unit) => True) (bW dC dI (fun (u : Unit) => (wd55 cyI cyJ cyZ q_Md q_mprimes q_mtext q_mtold q_mtable q_mstretch q_mfewest q_misOdd q_misHigh q_misTop q_mbits q_mpile m_length res.1 m_toldMany m_fate m_tail m_round m_tableKind m_areLaid res.2.1 res.2.2.1 res.2.2.2)) A) A) args s 0 0 A) (F0 m 52 ls []) := by
  obtain ⟨hx, hb, hr, hml, hown, hts, hlocks, hG, hA⟩ := id C0
  have hK := hG.1
  intro H locs hP hD hS ls hl
  unfold j_X12_lookAt_52 at h
  refine lv_iconst (v := (0 : Int32)) hx hb dX12_lookAt_52 (by decide) ?_
  exact k_X12_lookAt_53 C0 N res q_Md q_mprimes q_mtext q_mtold q_mtable q_mstretch q_mfewest q_misOdd q_misHigh q_misTop q_mbits q_mpile (0 : Int32) m_length m_primeMany m_toldMany m_fate m_tail m_round m_tableKind m_areLaid a_mprimes k_18 hk_18 v2 m_unlike m_isFree  h _ _ hP hD hS _ (lv_sub hl [0, 1] rfl)
def s_X12_lookAt_18 (N : Nat) (m_primeMany : Int32) (a_mprimes : Nat → Int64) (k_18 : (Int32 × Int32 × Int32) → Option (Int32 × Int32 × Int32 × (Nat → Int64))) (v2 : Int32) (m_unlike : Int32) (m_isFree : Int32) : Option (Int32 × Int32 × Int32 × (Nat → Int64)) :=
  if m_primeMany ≤ v2 then
    some (m_primeMany, m_unlike, m_isFree, a_mprimes)
  else
    if v2 ≤ 0 then
      j_X12_lookAt_52 N k_18 v2 m_unlike m_isFree
    else
      if v2 < 0 ∨ 40 ≤ v2.toNatClampNeg then
        none
      else
        xl (v2 - (1 : Int32)) fun y13z =>
        if y13z < 0 ∨ 40 ≤ y13z.toNatClampNeg then
          none
        else
          if (a_mprimes v2.toNatClampNeg) = (a_mprimes y13z.toNatClampNeg) then
            j_X12_lookAt_53 N k_18 v2 (1 : Int32) m_unlike m_isFree
          else
            j_X12_lookAt_52 N k_18 v2 m_unlike m_isFree
def l_X12_lookAt_18 (N : Nat) (m_primeMany : Int32) (a_mprimes : Nat → Int64) (n : Nat) (z : Int32 × Int32 × Int32) : Option (Int32 × Int32 × Int32 × (Nat → Int64)) := lp (fun k z => s_X12_lookAt_18 N m_primeMany a_mprimes k z.1 z.2.1 z.2.2) n z
set_option maxRecDepth 100000 in
set_option maxHeartbeats 4000000 in
theorem k_X12_lookAt_18 {p : Program} {l : Launch} {e : Env} {s : State} {m : MethodId} {args : Array Value} {below : List Frame} {meth : Method} {c : Code} {dC : Nat → ClassId} {dI : Nat → Nat → Nat} {cyI cyJ cyZ : ClassId} {A : Nat → Prop} (C0 : mC p s m meth c args cX12_lookAt none 4 RX12 wsX12_lookAt (gK dC dI cyI cyJ cyZ) A) (N : Nat) (res : Int32 × Int32 × Int32 × (Nat → Int64)) (q_Md : Nat) (q_mprimes : Nat) (q_mtext : Nat) (q_mtold : Nat) (q_mtable : Nat) (q_mstretch : Nat) (q_mfewest : Nat) (q_misOdd : Nat) (q_misHigh : Nat) (q_misTop : Nat) (q_mbits : Nat) (q_mpile : Nat) (m_length : Int32) (m_primeMany : Int32) (m_toldMany : Int32) (m_fate : Int32) (m_tail : Int32) (m_round : Int32) (m_tableKind : Int32) (m_areLaid : Int32) (a_mprimes : Nat → Int64) : ∀ (n : Nat) (v2 : Int32) (m_unlike : Int32) (m_isFree : Int32), l_X12_lookAt_18 N m_primeMany a_mprimes n (v2, m_unlike, m_isFree) = some res → ∀ (H : Heap) (locs : List Loc), va_P (dC, dI) vwCl (wd55 cyI cyJ cyZ q_Md q_mprimes q_mtext q_mtold q_mtable q_mstretch q_mfewest q_misOdd q_misHigh q_misTop q_mbits q_mpile m_length m_primeMany m_toldMany m_fate m_tail m_round m_tableKind m_areLaid m_unlike m_isFree a_mprimes) H → va_D A (wd55 cyI cyJ cyZ q_Md q_mprimes q_mtext q_mtold q_mtable q_mstretch q_mfewest q_misOdd q_misHigh q_misTop q_mbits q_mpile m_length m_primeMany m_toldMany m_fate m_tail m_round m_tableKind m_areLaid m_unlike m_isFree a_mprimes) → va_S A s.heap H locs → ∀ (ls : Array Slot), lv_has ls 4 [(0, .ref q_Md), (2, .int v2)] → W p l e (headSpec wsX12_lookAt rm_X12_lookAt).room s m args below meth c H locs 0 0 (MQ below (va_Qv (fun (_ : Unit) => True) (bW dC dI (fun (u : Unit) => (wd55 cyI cyJ cyZ q_Md q_mprimes q_mtext q_mtold q_mtable q_mstretch q_mfewest q_misOdd q_misHigh q_misTop q_mbits q_mpile m_length res.1 m_toldMany m_fate m_tail m_round m_tableKind m_areLaid res.2.1 res.2.2.1 res.2.2.2)) A) A) args s 0 0 A) (F0 m 18 ls []) := by
  obtain ⟨hx, hb, hr, hml, hown, hts, hlocks, hG, hA⟩ := id C0
  have hK := hG.1
  intro n
  induction n with
  | zero =>
    intro v2 m_unlike m_isFree h
    cases h
  | succ n ih =>
    intro v2 m_unlike m_isFree h H locs hP hD hS ls hl
    have h : s_X12_lookAt_18 N m_primeMany a_mprimes (l_X12_lookAt_18 N m_primeMany a_mprimes n) v2 m_unlike m_isFree = some res := h
    unfold s_X12_lookAt_18 at h
    refine lv_iload_n hx hb dX12_lookAt_18 rfl (lv_at hl 1 rfl) ?_
    refine lv_aload_n hx hb dX12_lookAt_19 rfl (lv_at hl 0 rfl) ?_
    refine va_get (D := (dC, dI)) (ci := 12) (v := .int m_primeMany) (C := RX12) (T := TX12) (N := 21) hx hb hts iw_X12_lookAt_X12 hown hK hP 0 rfl rfl 2 (by decide) (hts (.fieldLink RX12 50 "GoesIntoModel" "primeMany" "I") (List.mem_of_getElem? (i := 3) rfl)) (fun _ h9 => h9) rfl dX12_lookAt_20 ?_
    refine lv_icmp_ge (tgt := 98) hx hb dX12_lookAt_23 (by decide) (fun c4z => ?_) (fun c4z => ?_)
    · have h := xt h c4z
      obtain rfl := Option.some.inj h
      exact W.vret hx hb hr (fun t ht hW => ⟨⟨(), rfl, trivial, by rw [ht]; exact hP, hD⟩, hS.F ht⟩) hS.2.2 dX12_lookAt_98 hlocks
    · have h := xf h c4z
      refine lv_iload_n hx hb dX12_lookAt_26 rfl (lv_at hl 1 rfl) ?_
      refine lv_if_le (tgt := 52) hx hb dX12_lookAt_27 (by decide) (fun c5z => ?_) (fun c5z => ?_)
      · have h := xt h c5z
        exact k_X12_lookAt_52 C0 N res q_Md q_mprimes q_mtext q_mtold q_mtable q_mstretch q_mfewest q_misOdd q_misHigh q_misTop q_mbits q_mpile m_length m_primeMany m_toldMany m_fate m_tail m_round m_tableKind m_areLaid a_mprimes _ ih v2 m_unlike m_isFree  h _ _ hP hD hS _ (lv_sub hl [0, 1] rfl)
      · have h := xf h c5z
        refine lv_aload_n hx hb dX12_lookAt_30 rfl (lv_at hl 0 rfl) ?_
        refine va_get (D := (dC, dI)) (ci := 12) (v := .ref q_mprimes) (C := RX12) (T := TX12) (N := 21) hx hb hts iw_X12_lookAt_X12 hown hK hP 0 rfl rfl 3 (by decide) (hts (.fieldLink RX12 13 "GoesIntoModel" "primes" "[J") (List.mem_of_getElem? (i := 4) rfl)) (fun _ h9 => h9) rfl dX12_lookAt_31 ?_
        refine lv_iload_n hx hb dX12_lookAt_34 rfl (lv_at hl 1 rfl) ?_
        obtain ⟨b12z, h⟩ := xn h
        refine va_lald hx hb hK hP 1 1 rfl rfl b12z dX12_lookAt_35 ?_
        refine lv_aload_n hx hb dX12_lookAt_36 rfl (lv_at hl 0 rfl) ?_
        refine va_get (D := (dC, dI)) (ci := 12) (v := .ref q_mprimes) (C := RX12) (T := TX12) (N := 21) hx hb hts iw_X12_lookAt_X12 hown hK hP 0 rfl rfl 3 (by decide) (hts (.fieldLink RX12 13 "GoesIntoModel" "primes" "[J") (List.mem_of_getElem? (i := 4) rfl)) (fun _ h9 => h9) rfl dX12_lookAt_37 ?_
        refine lv_iload_n hx hb dX12_lookAt_40 rfl (lv_at hl 1 rfl) ?_
        refine lv_iconst (v := (1 : Int32)) hx hb dX12_lookAt_41 (by decide) ?_
        refine lv_isub hx hb dX12_lookAt_42 ?_
        refine lv_topi (fun y13z ey13z => ?_)
        have h := xl_at h ey13z
        obtain ⟨b14z, h⟩ := xn h
        refine va_lald hx hb hK hP 1 1 rfl rfl b14z dX12_lookAt_43 ?_
        refine W.lcmp hx hb dX12_lookAt_44 ?_
        refine lv_if_ne (tgt := 52) hx hb dX12_lookAt_45 (by decide) (fun c15z => ?_) (fun c15z => ?_)
        · have c15z := fun z => c15z ((lg_cmp_eq _ _).mpr z)
          have h := xf h c15z
          exact k_X12_lookAt_52 C0 N res q_Md q_mprimes q_mtext q_mtold q_mtable q_mstretch q_mfewest q_misOdd q_misHigh q_misTop q_mbits q_mpile m_length m_primeMany m_toldMany m_fate m_tail m_round m_tableKind m_areLaid a_mprimes _ ih v2 m_unlike m_isFree  h _ _ hP hD hS _ (lv_sub hl [0, 1] rfl)
        · have c15z := (lg_cmp_eq _ _).mp c15z
          have h := xt h c15z
          refine lv_iconst (v := (1 : Int32)) hx hb dX12_lookAt_48 (by decide) ?_
          refine lv_goto (tgt := 53) hx hb dX12_lookAt_49 (by decide) ?_
          exact k_X12_lookAt_53 C0 N res q_Md q_mprimes q_mtext q_mtold q_mtable q_mstretch q_mfewest q_misOdd q_misHigh q_misTop q_mbits q_mpile (1 : Int32) m_length m_primeMany m_toldMany m_fate m_tail m_round m_tableKind m_areLaid a_mprimes _ ih v2 m_unlike m_isFree  h _ _ hP hD hS _ (lv_sub hl [0, 1] rfl)
def f_X12_lookAt (N : Nat) (v1 : Int32) (m_primeMany : Int32) (m_unlike : Int32) (m_isFree : Int32) (a_mprimes : Nat → Int64) : Option (Int32 × Int32 × Int32 × (Nat → Int64)) :=
  Option.bind (f_X12_layPrimes N v1.toInt64 m_primeMany a_mprimes) fun r1z =>
  l_X12_lookAt_18 N r1z.1 r1z.2 N ((0 : Int32), (0 : Int32), (1 : Int32))
set_option maxRecDepth 100000 in
set_option maxHeartbeats 4000000 in
theorem k_X12_lookAt_0 {p : Program} {l : Launch} {e : Env} {s : State} {m : MethodId} {args : Array Value} {below : List Frame} {meth : Method} {c : Code} {dC : Nat → ClassId} {dI : Nat → Nat → Nat} {cyI cyJ cyZ : ClassId} {A : Nat → Prop} (C0 : mC p s m meth c args cX12_lookAt none 4 RX12 wsX12_lookAt (gK dC dI cyI cyJ cyZ) A) (N : Nat) (res : Int32 × Int32 × Int32 × (Nat → Int64)) (q_Md : Nat) (q_mprimes : Nat) (q_mtext : Nat) (q_mtold : Nat) (q_mtable : Nat) (q_mstretch : Nat) (q_mfewest : Nat) (q_misOdd : Nat) (q_misHigh : Nat) (q_misTop : Nat) (q_mbits : Nat) (q_mpile : Nat) (v1 : Int32) (m_length : Int32) (m_primeMany : Int32) (m_toldMany : Int32) (m_fate : Int32) (m_tail : Int32) (m_round : Int32) (m_tableKind : Int32) (m_areLaid : Int32) (m_unlike : Int32) (m_isFree : Int32) (a_mprimes : Nat → Int64) (h : f_X12_lookAt N v1 m_primeMany m_unlike m_isFree a_mprimes = some res) : ∀ (H : Heap) (locs : List Loc), va_P (dC, dI) vwCl (wd55 cyI cyJ cyZ q_Md q_mprimes q_mtext q_mtold q_mtable q_mstretch q_mfewest q_misOdd q_misHigh q_misTop q_mbits q_mpile m_length m_primeMany m_toldMany m_fate m_tail m_round m_tableKind m_areLaid m_unlike m_isFree a_mprimes) H → va_D A (wd55 cyI cyJ cyZ q_Md q_mprimes q_mtext q_mtold q_mtable q_mstretch q_mfewest q_misOdd q_misHigh q_misTop q_mbits q_mpile m_length m_primeMany m_toldMany m_fate m_tail m_round m_tableKind m_areLaid m_unlike m_isFree a_mprimes) → va_S A s.heap H locs → ∀ (ls : Array Slot), lv_has ls 4 [(0, .ref q_Md), (1, .int v1)] → W p l e (headSpec wsX12_lookAt rm_X12_lookAt).room s m args below meth c H locs 0 0 (MQ below (va_Qv (fun (_ : Unit) => True) (bW dC dI (fun (u : Unit) => (wd55 cyI cyJ cyZ q_Md q_mprimes q_mtext q_mtold q_mtable q_mstretch q_mfewest q_misOdd q_misHigh q_misTop q_mbits q_mpile m_length res.1 m_toldMany m_fate m_tail m_round m_tableKind m_areLaid res.2.1 res.2.2.1 res.2.2.2)) A) A) args s 0 0 A) (F0 m 0 ls []) := by
  obtain ⟨hx, hb, hr, hml, hown, hts, hlocks, hG, hA⟩ := id C0
  have hK := hG.1
  intro H locs hP hD hS ls hl
  unfold f_X12_lookAt at h
  refine lv_aload_n hx hb dX12_lookAt_0 rfl (lv_at hl 0 rfl) ?_
  refine lv_iload_n hx hb dX12_lookAt_1 rfl (lv_at hl 1 rfl) ?_
  refine lv_i2l (v := v1.toInt64) hx hb dX12_lookAt_2 rfl ?_
  obtain ⟨r1z, hr1z, h⟩ := xb_at h
  have hPc := hP.sub (ws' := (wd55 cyI cyJ cyZ q_Md q_mprimes q_mtext q_mtold q_mtable q_mstretch q_mfewest q_misOdd q_misHigh q_misTop q_mbits q_mpile m_length m_primeMany m_toldMany m_fate m_tail m_round m_tableKind m_areLaid m_unlike m_isFree a_mprimes)) [0, 1] rfl
  have hDc := hD.sub (ws' := (wd55 cyI cyJ cyZ q_Md q_mprimes q_mtext q_mtold q_mtable q_mstretch q_mfewest q_misOdd q_misHigh q_misTop q_mbits q_mpile m_length m_primeMany m_toldMany m_fate m_tail m_round m_tableKind m_areLaid m_unlike m_isFree a_mprimes)) [0, 1] (by decide) rfl
  refine cal_v [0, 1] [] (va_runV (As := [.long v1.toInt64]) (rest := []) ⟨hx, hb, hml, hown, hts⟩ (c_X12_layPrimes l dC dI cyI cyJ cyZ N r1z H.size q_Md q_mprimes q_mtext q_mtold q_mtable q_mstretch q_mfewest q_misOdd q_misHigh q_misTop q_mbits q_mpile v1.toInt64 m_length m_primeMany m_toldMany m_fate m_tail m_round m_tableKind m_areLaid m_unlike m_isFree a_mprimes hr1z) (cwV 1 hts gX12_lookAt_X12_layPrimes rfl rfl rfl ⟨rfl, hd_X12_layPrimes⟩ ⟨Nat.le_of_ble_eq_true rfl, Nat.le_of_ble_eq_true rfl⟩) ⟨pC.blind, va_recv hK hPc (ci := 12) (q0 := 0) rfl rfl, pC.pre hPc hG hDc⟩ rfl rfl hl.1 rfl (lv_room (Nat.le_of_ble_eq_true rfl)) dX12_lookAt_3 ⟨Nat.zero_le _, Nat.zero_le _⟩) hP hD hS hA rfl rfl rfl (by decide) (fun u2z H locs _ hP hD hS => ?_)
  have hP : va_P (dC, dI) vwCl (wd55 cyI cyJ cyZ q_Md q_mprimes q_mtext q_mtold q_mtable q_mstretch q_mfewest q_misOdd q_misHigh q_misTop q_mbits q_mpile m_length r1z.1 m_toldMany m_fate m_tail m_round m_tableKind m_areLaid m_unlike m_isFree r1z.2) H := hP.sub [0, 1] rfl
  have hD : va_D A (wd55 cyI cyJ cyZ q_Md q_mprimes q_mtext q_mtold q_mtable q_mstretch q_mfewest q_misOdd q_misHigh q_misTop q_mbits q_mpile m_length r1z.1 m_toldMany m_fate m_tail m_round m_tableKind m_areLaid m_unlike m_isFree r1z.2) := hD.sub [0, 1] (by decide) rfl
  refine lv_aload_n hx hb dX12_lookAt_6 rfl (lv_at hl 0 rfl) ?_
  refine lv_iconst (v := (0 : Int32)) hx hb dX12_lookAt_7 (by decide) ?_
  refine va_put (D := (dC, dI)) (ci := 12) (v := .int (0 : Int32)) (ty := .int) (C := RX12) (T := TX12) (N := 21) hx hb hts iw_X12_lookAt_X12 tyX12 tyX12_ok nmX12 hown hK hP hD hS 0 rfl rfl 18 (by decide) (hts (.fieldLink RX12 169 "GoesIntoModel" "unlike" "I") (List.mem_of_getElem? (i := 1) rfl)) (fun _ h9 => h9) rfl (tyX12_ok 18 (by decide)) rfl rfl (Nat.le_of_ble_eq_true rfl) dX12_lookAt_8 (fun H locs hP hD hS => ?_)
  have hP : va_P (dC, dI) vwCl (wd55 cyI cyJ cyZ q_Md q_mprimes q_mtext q_mtold q_mtable q_mstretch q_mfewest q_misOdd q_misHigh q_misTop q_mbits q_mpile m_length r1z.1 m_toldMany m_fate m_tail m_round m_tableKind m_areLaid (0 : Int32) m_isFree r1z.2) H := hP
  have hD : va_D A (wd55 cyI cyJ cyZ q_Md q_mprimes q_mtext q_mtold q_mtable q_mstretch q_mfewest q_misOdd q_misHigh q_misTop q_mbits q_mpile m_length r1z.1 m_toldMany m_fate m_tail m_round m_tableKind m_areLaid (0 : Int32) m_isFree r1z.2) := hD
  refine lv_aload_n hx hb dX12_lookAt_11 rfl (lv_at hl 0 rfl) ?_
  refine lv_iconst (v := (1 : Int32)) hx hb dX12_lookAt_12 (by decide) ?_
  refine va_put (D := (dC, dI)) (ci := 12) (v := .int (1 : Int32)) (ty := .boolean) (C := RX12) (T := TX12) (N := 21) hx hb hts iw_X12_lookAt_X12 tyX12 tyX12_ok nmX12 hown hK hP hD hS 0 rfl rfl 19 (by decide) (hts (.fieldLink RX12 172 "GoesIntoModel" "isFree" "Z") (List.mem_of_getElem? (i := 2) rfl)) (fun _ h9 => h9) rfl (tyX12_ok 19 (by decide)) (by decide) (by decide) (Nat.le_of_ble_eq_true rfl) dX12_lookAt_13 (fun H locs hP hD hS => ?_)
  have hP : va_P (dC, dI) vwCl (wd55 cyI cyJ cyZ q_Md q_mprimes q_mtext q_mtold q_mtable q_mstretch q_mfewest q_misOdd q_misHigh q_misTop q_mbits q_mpile m_length r1z.1 m_toldMany m_fate m_tail m_round m_tableKind m_areLaid (0 : Int32) (1 : Int32) r1z.2) H := hP
  have hD : va_D A (wd55 cyI cyJ cyZ q_Md q_mprimes q_mtext q_mtold q_mtable q_mstretch q_mfewest q_misOdd q_misHigh q_misTop q_mbits q_mpile m_length r1z.1 m_toldMany m_fate m_tail m_round m_tableKind m_areLaid (0 : Int32) (1 : Int32) r1z.2) := hD
  refine lv_iconst (v := (0 : Int32)) hx hb dX12_lookAt_16 (by decide) ?_
  refine lv_istore_n (lv' := [(2, .int (0 : Int32)), (0, .ref q_Md), (1, .int v1)]) hx hb dX12_lookAt_17 rfl hl (by decide) rfl (fun ls hl => ?_)
  exact k_X12_lookAt_18 C0 N res q_Md q_mprimes q_mtext q_mtold q_mtable q_mstretch q_mfewest q_misOdd q_misHigh q_misTop q_mbits q_mpile m_length r1z.1 m_toldMany m_fate m_tail m_round m_tableKind m_areLaid r1z.2 N (0 : Int32) (0 : Int32) (1 : Int32) h _ _ hP hD hS _ (lv_sub hl [1, 0] rfl)
set_option maxRecDepth 100000 in
set_option maxHeartbeats 4000000 in
theorem c_X12_lookAt (l : Launch) (dC : Nat → ClassId) (dI : Nat → Nat → Nat) (cyI cyJ cyZ : ClassId) (N : Nat) (res : Int32 × Int32 × Int32 × (Nat → Int64)) (sz : Nat) (q_Md : Nat) (q_mprimes : Nat) (q_mtext : Nat) (q_mtold : Nat) (q_mtable : Nat) (q_mstretch : Nat) (q_mfewest : Nat) (q_misOdd : Nat) (q_misHigh : Nat) (q_misTop : Nat) (q_mbits : Nat) (q_mpile : Nat) (v1 : Int32) (m_length : Int32) (m_primeMany : Int32) (m_toldMany : Int32) (m_fate : Int32) (m_tail : Int32) (m_round : Int32) (m_tableKind : Int32) (m_areLaid : Int32) (m_unlike : Int32) (m_isFree : Int32) (a_mprimes : Nat → Int64) (h : f_X12_lookAt N v1 m_primeMany m_unlike m_isFree a_mprimes = some res) : Met l yX12_lookAt wsX12_lookAt rm_X12_lookAt (pC dC dI cyI cyJ cyZ [.ref q_Md, .int v1] sz (wd55 cyI cyJ cyZ q_Md q_mprimes q_mtext q_mtold q_mtable q_mstretch q_mfewest q_misOdd q_misHigh q_misTop q_mbits q_mpile m_length m_primeMany m_toldMany m_fate m_tail m_round m_tableKind m_areLaid m_unlike m_isFree a_mprimes)) (va_Qv (fun (_ : Unit) => True) (bW dC dI (fun (u : Unit) => (wd55 cyI cyJ cyZ q_Md q_mprimes q_mtext q_mtold q_mtable q_mstretch q_mfewest q_misOdd q_misHigh q_misTop q_mbits q_mpile m_length res.1 m_toldMany m_fate m_tail m_round m_tableKind m_areLaid res.2.1 res.2.2.1 res.2.2.2)) (va_A (wd55 cyI cyJ cyZ q_Md q_mprimes q_mtext q_mtold q_mtable q_mstretch q_mfewest q_misOdd q_misHigh q_misTop q_mbits q_mpile m_length m_primeMany m_toldMany m_fate m_tail m_round m_tableKind m_areLaid m_unlike m_isFree a_mprimes) sz)) (va_A (wd55 cyI cyJ cyZ q_Md q_mprimes q_mtext q_mtold q_mtable q_mstretch q_mfewest q_misOdd q_misHigh q_misTop q_mbits q_mpile m_length m_primeMany m_toldMany m_fate m_tail m_round m_tableKind m_areLaid m_unlike m_isFree a_mprimes) sz)) 0 0 (va_A (wd55 cyI cyJ cyZ q_Md q_mprimes q_mtext q_mtold q_mtable q_mstretch q_mfewest q_misOdd q_misHigh q_misTop q_mbits q_mpile m_length m_primeMany m_toldMany m_fate m_tail m_round m_tableKind m_areLaid m_unlike m_isFree a_mprimes) sz) := by
  refine Met.ofW (cc := cX12_lookAt) (maxL := 4) (ret := none) (by decide) rfl ?_
  intro p e s m args below meth c s₁ B hml hv
  obtain ⟨rfl, hsz, hP, hG, hD0⟩ := hv
  have hx := B.exec
  have hb := B.bytes
  have hr := B.returns
  have hts := atoms_spec (ws := wsX12_lookAt) B.pre
  have hown : s.vm.findClass RX12 = some m.cls := findClass_of_methodNamed B.named
  have hlocks := B.notSynchronized
  subst hsz
  have hD := hD0.self (sz := s.heap.size)
  generalize hAe : va_A (wd55 cyI cyJ cyZ q_Md q_mprimes q_mtext q_mtold q_mtable q_mstretch q_mfewest q_misOdd q_misHigh q_misTop q_mbits q_mpile m_length m_primeMany m_toldMany m_fate m_tail m_round m_tableKind m_areLaid m_unlike m_isFree a_mprimes) s.heap.size = A at hD ⊢
  have hA : ∀ q : Nat, s.heap.size ≤ q → A q := fun q h => by rw [← hAe]; exact Or.inr h
  have hS : va_S A s.heap s.heap [] := va_S.rf
  have hl := lv_entry ([.ref q_Md, .int v1]) (n := 4) (Nat.le_of_ble_eq_true rfl)
  rw [lg_entry_eq]
  generalize (lg_sl ([.ref q_Md, .int v1]) ++ List.replicate (4 - (lg_sl ([.ref q_Md, .int v1])).length) Slot.unset).toArray = ls at hl ⊢
  have hl : lv_has ls 4 [(0, .ref q_Md), (1, .int v1)] := hl
  exact k_X12_lookAt_0 ⟨hx, hb, hr, hml, hown, hts, hlocks, hG, hA⟩ N res q_Md q_mprimes q_mtext q_mtold q_mtable q_mstretch q_mfewest q_misOdd q_misHigh q_misTop q_mbits q_mpile v1 m_length m_primeMany m_toldMany m_fate m_tail m_round m_tableKind m_areLaid m_unlike m_isFree a_mprimes  h _ _ hP hD hS _ hl
/-- the cells Md, mprimes, mtable, misOdd, misHigh, misTop -/
abbrev wd65 (cyI cyJ cyZ : ClassId) (q_Md : Nat) (q_mprimes : Nat) (q_mtable : Nat) (q_misOdd : Nat) (q_misHigh : Nat) (q_misTop : Nat) (q_mtext : Nat) (q_mtold : Nat) (q_mstretch : Nat) (q_mfewest : Nat) (q_mbits : Nat) (q_mpile : Nat) (m_length : Int32) (m_primeMany : Int32) (m_toldMany : Int32) (m_fate : Int32) (m_tail : Int32) (m_round : Int32) (m_tableKind : Int32) (m_areLaid : Int32) (m_unlike : Int32) (m_isFree : Int32) (a_mprimes : Nat → Int64) (a_mtable : Nat → Int32) (a_misOdd : Nat → Int32) (a_misHigh : Nat → Int32) (a_misTop : Nat → Int32) : va_W := [(q_Md, .inr (12, [.int m_length, .ref q_mtext, .int m_primeMany, .ref q_mprimes, .int m_toldMany, .ref q_mtold, .int m_fate, .int m_tail, .int m_round, .int m_tableKind, .ref q_mtable, .ref q_mstretch, .ref q_mfewest, .int m_areLaid, .ref q_misOdd, .ref q_misHigh, .ref q_misTop, .ref q_mbits, .int m_unlike, .int m_isFree, .ref q_mpile])), (q_mprimes, .inl (cyJ, 40, .inr (.inl a_mprimes))), (q_mtable, .inl (cyI, 50001, .inl a_mtable)), (q_misOdd, .inl (cyZ, 5001, .inl a_misOdd)), (q_misHigh, .inl (cyZ, 5001, .inl a_misHigh)), (q_misTop, .inl (cyZ, 5001, .inl a_misTop))]
abbrev rm_X12_seen : Room := { frames := 2, cells := 0, slots := 0, locals := 49 }
theorem hd_X12_seen : yX12_seen.cls ≠ "java/lang/invoke/MethodHandle" ∧ yX12_seen.cls ≠ "java/lang/invoke/VarHandle" ∧ (parseMethodDescriptor yX12_seen.desc).map (fun d => d.parameters.length) = some 2 := by decide +kernel
theorem iw_X12_seen_X12 : ∀ w ∈ wsX120, w ∈ wsX12_seen := List.forall_mem_cons.mpr ⟨List.mem_of_getElem? (i := 31) rfl, List.forall_mem_cons.mpr ⟨List.mem_of_getElem? (i := 32) rfl, List.forall_mem_cons.mpr ⟨List.mem_of_getElem? (i := 33) rfl, List.forall_mem_cons.mpr ⟨List.mem_of_getElem? (i := 34) rfl, List.forall_mem_cons.mpr ⟨List.mem_of_getElem? (i := 35) rfl, List.forall_mem_cons.mpr ⟨List.mem_of_getElem? (i := 36) rfl, List.forall_mem_cons.mpr ⟨List.mem_of_getElem? (i := 37) rfl, List.forall_mem_cons.mpr ⟨List.mem_of_getElem? (i := 38) rfl, List.forall_mem_cons.mpr ⟨List.mem_of_getElem? (i := 39) rfl, List.forall_mem_cons.mpr ⟨List.mem_of_getElem? (i := 40) rfl, List.forall_mem_cons.mpr ⟨List.mem_of_getElem? (i := 41) rfl, List.forall_mem_cons.mpr ⟨List.mem_of_getElem? (i := 42) rfl, List.forall_mem_cons.mpr ⟨List.mem_of_getElem? (i := 43) rfl, List.forall_mem_cons.mpr ⟨List.mem_of_getElem? (i := 44) rfl, List.forall_mem_cons.mpr ⟨List.mem_of_getElem? (i := 45) rfl, List.forall_mem_cons.mpr ⟨List.mem_of_getElem? (i := 46) rfl, List.forall_mem_cons.mpr ⟨List.mem_of_getElem? (i := 47) rfl, List.forall_mem_cons.mpr ⟨List.mem_of_getElem? (i := 48) rfl, List.forall_mem_cons.mpr ⟨List.mem_of_getElem? (i := 49) rfl, List.forall_mem_cons.mpr ⟨List.mem_of_getElem? (i := 50) rfl, List.forall_mem_cons.mpr ⟨List.mem_of_getElem? (i := 51) rfl, fun _ h => absurd h List.not_mem_nil⟩⟩⟩⟩⟩⟩⟩⟩⟩⟩⟩⟩⟩⟩⟩⟩⟩⟩⟩⟩⟩
def f_X12_seen (N : Nat) (v1 : Int32) (v2 : Int32) (m_primeMany : Int32) (m_unlike : Int32) (m_isFree : Int32) (a_mprimes : Nat → Int64) (a_mtable : Nat → Int32) (a_misOdd : Nat → Int32) (a_misHigh : Nat → Int32) (a_misTop : Nat → Int32) : Option (Int32 × Int32 × Int32 × Int32 × (Nat → Int64)) :=
  if v1 = (98 : Int32) then
    Option.bind (f_X12_sortOf N v2 a_mtable) fun r2z =>
    if r2z = (3 : Int32) then
      some ((1 : Int32), m_primeMany, m_unlike, m_isFree, a_mprimes)
    else
      some ((0 : Int32), m_primeMany, m_unlike, m_isFree, a_mprimes)
  else
    if v1 = (101 : Int32) then
      if (v2 - v2 / (2 : Int32) * (2 : Int32)) = 0 then
        some ((1 : Int32), m_primeMany, m_unlike, m_isFree, a_mprimes)
      else
        some ((0 : Int32), m_primeMany, m_unlike, m_isFree, a_mprimes)
    else
      if v1 = (102 : Int32) then
        Option.bind (f_X12_lookAt N v2 m_primeMany m_unlike m_isFree a_mprimes) fun r9z =>
        if r9z.2.2.1 = 0 ∨ r9z.2.2.1 = 1 then
          some (r9z.2.2.1, r9z.1, r9z.2.1, r9z.2.2.1, r9z.2.2.2)
        else
          none
      else
        if v1 = (104 : Int32) then
          if v2 < 0 ∨ 5001 ≤ v2.toNatClampNeg then
            none
          else
            if a_misHigh v2.toNatClampNeg = 0 ∨ a_misHigh v2.toNatClampNeg = 1 then
              some (a_misHigh v2.toNatClampNeg, m_primeMany, m_unlike, m_isFree, a_mprimes)
            else
              none
        else
          if v1 = (111 : Int32) then
            if v2 < 0 ∨ 5001 ≤ v2.toNatClampNeg then
              none
            else
              if a_misOdd v2.toNatClampNeg = 0 ∨ a_misOdd v2.toNatClampNeg = 1 then
                some (a_misOdd v2.toNatClampNeg, m_primeMany, m_unlike, m_isFree, a_mprimes)
              else
                none
          else
            if v1 = (112 : Int32) then
              Option.bind (f_X12_weigh N v2 a_mtable) fun r20z =>
              if r20z = 0 then
                some ((1 : Int32), m_primeMany, m_unlike, m_isFree, a_mprimes)
              else
                some ((0 : Int32), m_primeMany, m_unlike, m_isFree, a_mprimes)
            else
              if v1 = (113 : Int32) then
                Option.bind (f_X12_root N v2.toInt64) fun r25z =>
                Option.bind (f_X12_root N v2.toInt64) fun r28z =>
                if (r25z * r28z) = v2.toInt64 then
                  some ((1 : Int32), m_primeMany, m_unlike, m_isFree, a_mprimes)
                else
                  some ((0 : Int32), m_primeMany, m_unlike, m_isFree, a_mprimes)
              else
                if v1 = (114 : Int32) then
                  Option.bind (f_X12_weigh N v2 a_mtable) fun r33z =>
                  if r33z = (2 : Int32) then
                    some ((1 : Int32), m_primeMany, m_unlike, m_isFree, a_mprimes)
                  else
                    some ((0 : Int32), m_primeMany, m_unlike, m_isFree, a_mprimes)
                else
                  if v1 = (116 : Int32) then
                    if v2 < 0 ∨ 5001 ≤ v2.toNatClampNeg then
                      none
                    else
                      if a_misTop v2.toNatClampNeg = 0 ∨ a_misTop v2.toNatClampNeg = 1 then
                        some (a_misTop v2.toNatClampNeg, m_primeMany, m_unlike, m_isFree, a_mprimes)
                      else
                        none
                  else
                    if v1 = (120 : Int32) then
                      Option.bind (f_X12_weigh N v2 a_mtable) fun r41z =>
                      if r41z = (1 : Int32) then
                        some ((1 : Int32), m_primeMany, m_unlike, m_isFree, a_mprimes)
                      else
                        some ((0 : Int32), m_primeMany, m_unlike, m_isFree, a_mprimes)
                    else
                      Option.bind (f_X12_lookAt N v2 m_primeMany m_unlike m_isFree a_mprimes) fun r46z =>
                      if r46z.2.1 = (v1 - (48 : Int32)) then
                        some ((1 : Int32), r46z.1, r46z.2.1, r46z.2.2.1, r46z.2.2.2)
                      else
                        some ((0 : Int32), r46z.1, r46z.2.1, r46z.2.2.1, r46z.2.2.2)
set_option maxRecDepth 100000 in
set_option maxHeartbeats 4000000 in
theorem k_X12_seen_0 {p : Program} {l : Launch} {e : Env} {s : State} {m : MethodId} {args : Array Value} {below : List Frame} {meth : Method} {c : Code} {dC : Nat → ClassId} {dI : Nat → Nat → Nat} {cyI cyJ cyZ : ClassId} {A : Nat → Prop} (C0 : mC p s m meth c args cX12_seen (some .boolean) 3 RX12 wsX12_seen (gK dC dI cyI cyJ cyZ) A) (N : Nat) (res : Int32 × Int32 × Int32 × Int32 × (Nat → Int64)) (q_Md : Nat) (q_mprimes : Nat) (q_mtable : Nat) (q_misOdd : Nat) (q_misHigh : Nat) (q_misTop : Nat) (q_mtext : Nat) (q_mtold : Nat) (q_mstretch : Nat) (q_mfewest : Nat) (q_mbits : Nat) (q_mpile : Nat) (v1 : Int32) (v2 : Int32) (m_length : Int32) (m_primeMany : Int32) (m_toldMany : Int32) (m_fate : Int32) (m_tail : Int32) (m_round : Int32) (m_tableKind : Int32) (m_areLaid : Int32) (m_unlike : Int32) (m_isFree : Int32) (a_mprimes : Nat → Int64) (a_mtable : Nat → Int32) (a_misOdd : Nat → Int32) (a_misHigh : Nat → Int32) (a_misTop : Nat → Int32) (h : f_X12_seen N v1 v2 m_primeMany m_unlike m_isFree a_mprimes a_mtable a_misOdd a_misHigh a_misTop = some res) : ∀ (H : Heap) (locs : List Loc), va_P (dC, dI) vwCl (wd65 cyI cyJ cyZ q_Md q_mprimes q_mtable q_misOdd q_misHigh q_misTop q_mtext q_mtold q_mstretch q_mfewest q_mbits q_mpile m_length m_primeMany m_toldMany m_fate m_tail m_round m_tableKind m_areLaid m_unlike m_isFree a_mprimes a_mtable a_misOdd a_misHigh a_misTop) H → va_D A (wd65 cyI cyJ cyZ q_Md q_mprimes q_mtable q_misOdd q_misHigh q_misTop q_mtext q_mtold q_mstretch q_mfewest q_mbits q_mpile m_length m_primeMany m_toldMany m_fate m_tail m_round m_tableKind m_areLaid m_unlike m_isFree a_mprimes a_mtable a_misOdd a_misHigh a_misTop) → va_S A s.heap H locs → ∀ (ls : Array Slot), lv_has ls 3 [(0, .ref q_Md), (1, .int v1), (2, .int v2)] → W p l e (headSpec wsX12_seen rm_X12_seen).room s m args below meth c H locs 0 0 (MQ below (va_Qi (fun (r : Int32) (_ : Unit) => r = res.1) (bW dC dI (fun (u : Unit) => (wd65 cyI cyJ cyZ q_Md q_mprimes q_mtable q_misOdd q_misHigh q_misTop q_mtext q_mtold q_mstretch q_mfewest q_mbits q_mpile m_length res.2.1 m_toldMany m_fate m_tail m_round m_tableKind m_areLaid res.2.2.1 res.2.2.2.1 res.2.2.2.2 a_mtable a_misOdd a_misHigh a_misTop)) A) A) args s 0 0 A) (F0 m 0 ls []) := by
  obtain ⟨hx, hb, hr, hml, hown, hts, hlocks, hG, hA⟩ := id C0
  have hK := hG.1
  intro H locs hP hD hS ls hl
  unfold f_X12_seen at h
  refine lv_iload_n hx hb dX12_seen_0 rfl (lv_at hl 1 rfl) ?_
  rcases Decidable.em (v1 = (98 : Int32)) with c1z | c1z
  · have h := xt h c1z
    refine lv_tableIn (tgt := 123) (off := 122) hx hb dX12_seen_1 (by rw [c1z]; decide) (by rw [c1z]; decide) (by rw [c1z]; decide +kernel) (by decide) ?_
    refine lv_aload_n hx hb dX12_seen_123 rfl (lv_at hl 0 rfl) ?_
    refine lv_iload_n hx hb dX12_seen_124 rfl (lv_at hl 2 rfl) ?_
    obtain ⟨r2z, hr2z, h⟩ := xb_at h
    have hPc := hP.sub (ws' := (wd59 cyI cyJ cyZ q_Md q_mtable q_mtext q_mprimes q_mtold q_mstretch q_mfewest q_misOdd q_misHigh q_misTop q_mbits q_mpile m_length m_primeMany m_toldMany m_fate m_tail m_round m_tableKind m_areLaid m_unlike m_isFree a_mtable)) [0, 2] rfl
    have hDc := hD.sub (ws' := (wd59 cyI cyJ cyZ q_Md q_mtable q_mtext q_mprimes q_mtold q_mstretch q_mfewest q_misOdd q_misHigh q_misTop q_mbits q_mpile m_length m_primeMany m_toldMany m_fate m_tail m_round m_tableKind m_areLaid m_unlike m_isFree a_mtable)) [0, 2] (by decide) rfl
    refine cal_i [0, 2] [1, 3, 4, 5] (va_runV (As := [.int v2]) (rest := []) ⟨hx, hb, hml, hown, hts⟩ (c_X12_sortOf l dC dI cyI cyJ cyZ N r2z H.size q_Md q_mtable q_mtext q_mprimes q_mtold q_mstretch q_mfewest q_misOdd q_misHigh q_misTop q_mbits q_mpile v2 m_length m_primeMany m_toldMany m_fate m_tail m_round m_tableKind m_areLaid m_unlike m_isFree a_mtable hr2z) (cwV 1 hts gX12_seen_X12_sortOf rfl rfl rfl ⟨rfl, hd_X12_sortOf⟩ ⟨Nat.le_of_ble_eq_true rfl, Nat.le_of_ble_eq_true rfl⟩) ⟨pC.blind, va_recv hK hPc (ci := 12) (q0 := 0) rfl rfl, pC.pre hPc hG hDc⟩ rfl rfl hl.1 rfl (lv_room (Nat.le_of_ble_eq_true rfl)) dX12_seen_125 ⟨Nat.zero_le _, Nat.zero_le _⟩) hP hD hS hA rfl rfl rfl (by decide) (fun x4z u3z H locs hw hP hD hS => ?_)
    obtain rfl := hw.symm
    have hP : va_P (dC, dI) vwCl (wd65 cyI cyJ cyZ q_Md q_mprimes q_mtable q_misOdd q_misHigh q_misTop q_mtext q_mtold q_mstretch q_mfewest q_mbits q_mpile m_length m_primeMany m_toldMany m_fate m_tail m_round m_tableKind m_areLaid m_unlike m_isFree a_mprimes a_mtable a_misOdd a_misHigh a_misTop) H := hP.sub [4, 0, 5, 1, 2, 3] rfl
    have hD : va_D A (wd65 cyI cyJ cyZ q_Md q_mprimes q_mtable q_misOdd q_misHigh q_misTop q_mtext q_mtold q_mstretch q_mfewest q_mbits q_mpile m_length m_primeMany m_toldMany m_fate m_tail m_round m_tableKind m_areLaid m_unlike m_isFree a_mprimes a_mtable a_misOdd a_misHigh a_misTop) := hD.sub [4, 0, 5, 1, 2, 3] (by decide) rfl
    refine lv_iconst (v := (3 : Int32)) hx hb dX12_seen_128 (by decide) ?_
    refine lv_icmp_ne (tgt := 136) hx hb dX12_seen_129 (by decide) (fun c5z => ?_) (fun c5z => ?_)
    · have h := xf h c5z
      refine lv_iconst (v := (0 : Int32)) hx hb dX12_seen_136 (by decide) ?_
      obtain rfl := Option.some.inj h
      exact W.zret (v := (0 : Int32)) hx hb hr rfl (fun t ht hW => ⟨⟨_, (), rfl, rfl, by rw [ht]; exact hP, hD⟩, hS.F ht⟩) hS.2.2 dX12_seen_137 hlocks
    · have h := xt h c5z
      refine lv_iconst (v := (1 : Int32)) hx hb dX12_seen_132 (by decide) ?_
      refine lv_goto (tgt := 137) hx hb dX12_seen_133 (by decide) ?_
      obtain rfl := Option.some.inj h
      exact W.zret (v := (1 : Int32)) hx hb hr rfl (fun t ht hW => ⟨⟨_, (), rfl, rfl, by rw [ht]; exact hP, hD⟩, hS.F ht⟩) hS.2.2 dX12_seen_137 hlocks
  · have h := xf h c1z
    rcases Decidable.em (v1 = (101 : Int32)) with c6z | c6z
    · have h := xt h c6z
      refine lv_tableIn (tgt := 174) (off := 173) hx hb dX12_seen_1 (by rw [c6z]; decide) (by rw [c6z]; decide) (by rw [c6z]; decide +kernel) (by decide) ?_
      refine lv_iload_n hx hb dX12_seen_174 rfl (lv_at hl 2 rfl) ?_
      refine lv_iconst (v := (2 : Int32)) hx hb dX12_seen_175 (by decide) ?_
      refine lv_irem hx hb dX12_seen_176 (by decide) ?_
      refine lv_if_ne (tgt := 184) hx hb dX12_seen_177 (by decide) (fun c7z => ?_) (fun c7z => ?_)
      · have h := xf h c7z
        refine lv_iconst (v := (0 : Int32)) hx hb dX12_seen_184 (by decide) ?_
        obtain rfl := Option.some.inj h
        exact W.zret (v := (0 : Int32)) hx hb hr rfl (fun t ht hW => ⟨⟨_, (), rfl, rfl, by rw [ht]; exact hP, hD⟩, hS.F ht⟩) hS.2.2 dX12_seen_185 hlocks
      · have h := xt h c7z
        refine lv_iconst (v := (1 : Int32)) hx hb dX12_seen_180 (by decide) ?_
        refine lv_goto (tgt := 185) hx hb dX12_seen_181 (by decide) ?_
        obtain rfl := Option.some.inj h
        exact W.zret (v := (1 : Int32)) hx hb hr rfl (fun t ht hW => ⟨⟨_, (), rfl, rfl, by rw [ht]; exact hP, hD⟩, hS.F ht⟩) hS.2.2 dX12_seen_185 hlocks
    · have h := xf h c6z
      rcases Decidable.em (v1 = (102 : Int32)) with c8z | c8z
      · have h := xt h c8z
        refine lv_tableIn (tgt := 209) (off := 208) hx hb dX12_seen_1 (by rw [c8z]; decide) (by rw [c8z]; decide) (by rw [c8z]; decide +kernel) (by decide) ?_
        refine lv_aload_n hx hb dX12_seen_209 rfl (lv_at hl 0 rfl) ?_
        refine lv_iload_n hx hb dX12_seen_210 rfl (lv_at hl 2 rfl) ?_
        obtain ⟨r9z, hr9z, h⟩ := xb_at h
        have hPc := hP.sub (ws' := (wd55 cyI cyJ cyZ q_Md q_mprimes q_mtext q_mtold q_mtable q_mstretch q_mfewest q_misOdd q_misHigh q_misTop q_mbits q_mpile m_length m_primeMany m_toldMany m_fate m_tail m_round m_tableKind m_areLaid m_unlike m_isFree a_mprimes)) [0, 1] rfl
        have hDc := hD.sub (ws' := (wd55 cyI cyJ cyZ q_Md q_mprimes q_mtext q_mtold q_mtable q_mstretch q_mfewest q_misOdd q_misHigh q_misTop q_mbits q_mpile m_length m_primeMany m_toldMany m_fate m_tail m_round m_tableKind m_areLaid m_unlike m_isFree a_mprimes)) [0, 1] (by decide) rfl
        refine cal_v [0, 1] [2, 3, 4, 5] (va_runV (As := [.int v2]) (rest := []) ⟨hx, hb, hml, hown, hts⟩ (c_X12_lookAt l dC dI cyI cyJ cyZ N r9z H.size q_Md q_mprimes q_mtext q_mtold q_mtable q_mstretch q_mfewest q_misOdd q_misHigh q_misTop q_mbits q_mpile v2 m_length m_primeMany m_toldMany m_fate m_tail m_round m_tableKind m_areLaid m_unlike m_isFree a_mprimes hr9z) (cwV 1 hts gX12_seen_X12_lookAt rfl rfl rfl ⟨rfl, hd_X12_lookAt⟩ ⟨Nat.le_of_ble_eq_true rfl, Nat.le_of_ble_eq_true rfl⟩) ⟨pC.blind, va_recv hK hPc (ci := 12) (q0 := 0) rfl rfl, pC.pre hPc hG hDc⟩ rfl rfl hl.1 rfl (lv_room (Nat.le_of_ble_eq_true rfl)) dX12_seen_211 ⟨Nat.zero_le _, Nat.zero_le _⟩) hP hD hS hA rfl rfl rfl (by decide) (fun u10z H locs _ hP hD hS => ?_)
        have hP : va_P (dC, dI) vwCl (wd65 cyI cyJ cyZ q_Md q_mprimes q_mtable q_misOdd q_misHigh q_misTop q_mtext q_mtold q_mstretch q_mfewest q_mbits q_mpile m_length r9z.1 m_toldMany m_fate m_tail m_round m_tableKind m_areLaid r9z.2.1 r9z.2.2.1 r9z.2.2.2 a_mtable a_misOdd a_misHigh a_misTop) H := hP.sub [4, 5, 0, 1, 2, 3] rfl
        have hD : va_D A (wd65 cyI cyJ cyZ q_Md q_mprimes q_mtable q_misOdd q_misHigh q_misTop q_mtext q_mtold q_mstretch q_mfewest q_mbits q_mpile m_length r9z.1 m_toldMany m_fate m_tail m_round m_tableKind m_areLaid r9z.2.1 r9z.2.2.1 r9z.2.2.2 a_mtable a_misOdd a_misHigh a_misTop) := hD.sub [4, 5, 0, 1, 2, 3] (by decide) rfl
        refine lv_aload_n hx hb dX12_seen_214 rfl (lv_at hl 0 rfl) ?_
        refine va_get (D := (dC, dI)) (ci := 12) (v := .int r9z.2.2.1) (C := RX12) (T := TX12) (N := 21) hx hb hts iw_X12_seen_X12 hown hK hP 0 rfl rfl 19 (by decide) (hts (.fieldLink RX12 172 "GoesIntoModel" "isFree" "Z") (List.mem_of_getElem? (i := 2) rfl)) (fun _ h9 => h9) rfl dX12_seen_215 ?_
        obtain ⟨b12z, h⟩ := xa h
        obtain rfl := Option.some.inj h
        exact W.zret (v := r9z.2.2.1) hx hb hr (xz01 b12z) (fun t ht hW => ⟨⟨_, (), rfl, rfl, by rw [ht]; exact hP, hD⟩, hS.F ht⟩) hS.2.2 dX12_seen_218 hlocks
      · have h := xf h c8z
        rcases Decidable.em (v1 = (104 : Int32)) with c13z | c13z
        · have h := xt h c13z
          refine lv_tableIn (tgt := 219) (off := 218) hx hb dX12_seen_1 (by rw [c13z]; decide) (by rw [c13z]; decide) (by rw [c13z]; decide +kernel) (by decide) ?_
          refine lv_aload_n hx hb dX12_seen_219 rfl (lv_at hl 0 rfl) ?_
          refine va_get (D := (dC, dI)) (ci := 12) (v := .ref q_misHigh) (C := RX12) (T := TX12) (N := 21) hx hb hts iw_X12_seen_X12 hown hK hP 0 rfl rfl 15 (by decide) (hts (.fieldLink RX12 34 "GoesIntoModel" "isHigh" "[Z") (List.mem_of_getElem? (i := 3) rfl)) (fun _ h9 => h9) rfl dX12_seen_220 ?_
          refine lv_iload_n hx hb dX12_seen_223 rfl (lv_at hl 2 rfl) ?_
          obtain ⟨b14z, h⟩ := xn h
          refine va_zald hx hb hK hP 4 2 rfl rfl b14z dX12_seen_224 ?_
          obtain ⟨b15z, h⟩ := xa h
          obtain rfl := Option.some.inj h
          exact W.zret (v := a_misHigh v2.toNatClampNeg) hx hb hr (xz01 b15z) (fun t ht hW => ⟨⟨_, (), rfl, rfl, by rw [ht]; exact hP, hD⟩, hS.F ht⟩) hS.2.2 dX12_seen_225 hlocks
        · have h := xf h c13z
          rcases Decidable.em (v1 = (111 : Int32)) with c16z | c16z
          · have h := xt h c16z
            refine lv_tableIn (tgt := 167) (off := 166) hx hb dX12_seen_1 (by rw [c16z]; decide) (by rw [c16z]; decide) (by rw [c16z]; decide +kernel) (by decide) ?_
            refine lv_aload_n hx hb dX12_seen_167 rfl (lv_at hl 0 rfl) ?_
            refine va_get (D := (dC, dI)) (ci := 12) (v := .ref q_misOdd) (C := RX12) (T := TX12) (N := 21) hx hb hts iw_X12_seen_X12 hown hK hP 0 rfl rfl 14 (by decide) (hts (.fieldLink RX12 30 "GoesIntoModel" "isOdd" "[Z") (List.mem_of_getElem? (i := 1) rfl)) (fun _ h9 => h9) rfl dX12_seen_168 ?_
            refine lv_iload_n hx hb dX12_seen_171 rfl (lv_at hl 2 rfl) ?_
            obtain ⟨b17z, h⟩ := xn h
            refine va_zald hx hb hK hP 3 2 rfl rfl b17z dX12_seen_172 ?_
            obtain ⟨b18z, h⟩ := xa h
            obtain rfl := Option.some.inj h
            exact W.zret (v := a_misOdd v2.toNatClampNeg) hx hb hr (xz01 b18z) (fun t ht hW => ⟨⟨_, (), rfl, rfl, by rw [ht]; exact hP, hD⟩, hS.F ht⟩) hS.2.2 dX12_seen_173 hlocks
          · have h := xf h c16z
            rcases Decidable.em (v1 = (112 : Int32)) with c19z | c19z
            · have h := xt h c19z
              refine lv_tableIn (tgt := 153) (off := 152) hx hb dX12_seen_1 (by rw [c19z]; decide) (by rw [c19z]; decide) (by rw [c19z]; decide +kernel) (by decide) ?_
              refine lv_aload_n hx hb dX12_seen_153 rfl (lv_at hl 0 rfl) ?_
              refine lv_iload_n hx hb dX12_seen_154 rfl (lv_at hl 2 rfl) ?_
              obtain ⟨r20z, hr20z, h⟩ := xb_at h
              have hPc := hP.sub (ws' := (wd59 cyI cyJ cyZ q_Md q_mtable q_mtext q_mprimes q_mtold q_mstretch q_mfewest q_misOdd q_misHigh q_misTop q_mbits q_mpile m_length m_primeMany m_toldMany m_fate m_tail m_round m_tableKind m_areLaid m_unlike m_isFree a_mtable)) [0, 2] rfl
              have hDc := hD.sub (ws' := (wd59 cyI cyJ cyZ q_Md q_mtable q_mtext q_mprimes q_mtold q_mstretch q_mfewest q_misOdd q_misHigh q_misTop q_mbits q_mpile m_length m_primeMany m_toldMany m_fate m_tail m_round m_tableKind m_areLaid m_unlike m_isFree a_mtable)) [0, 2] (by decide) rfl
              refine cal_i [0, 2] [1, 3, 4, 5] (va_runV (As := [.int v2]) (rest := []) ⟨hx, hb, hml, hown, hts⟩ (c_X12_weigh l dC dI cyI cyJ cyZ N r20z H.size q_Md q_mtable q_mtext q_mprimes q_mtold q_mstretch q_mfewest q_misOdd q_misHigh q_misTop q_mbits q_mpile v2 m_length m_primeMany m_toldMany m_fate m_tail m_round m_tableKind m_areLaid m_unlike m_isFree a_mtable hr20z) (cwV 1 hts gX12_seen_X12_weigh rfl rfl rfl ⟨rfl, hd_X12_weigh⟩ ⟨Nat.le_of_ble_eq_true rfl, Nat.le_of_ble_eq_true rfl⟩) ⟨pC.blind, va_recv hK hPc (ci := 12) (q0 := 0) rfl rfl, pC.pre hPc hG hDc⟩ rfl rfl hl.1 rfl (lv_room (Nat.le_of_ble_eq_true rfl)) dX12_seen_155 ⟨Nat.zero_le _, Nat.zero_le _⟩) hP hD hS hA rfl rfl rfl (by decide) (fun x22z u21z H locs hw hP hD hS => ?_)
              obtain rfl := hw.symm
              have hP : va_P (dC, dI) vwCl (wd65 cyI cyJ cyZ q_Md q_mprimes q_mtable q_misOdd q_misHigh q_misTop q_mtext q_mtold q_mstretch q_mfewest q_mbits q_mpile m_length m_primeMany m_toldMany m_fate m_tail m_round m_tableKind m_areLaid m_unlike m_isFree a_mprimes a_mtable a_misOdd a_misHigh a_misTop) H := hP.sub [4, 0, 5, 1, 2, 3] rfl
              have hD : va_D A (wd65 cyI cyJ cyZ q_Md q_mprimes q_mtable q_misOdd q_misHigh q_misTop q_mtext q_mtold q_mstretch q_mfewest q_mbits q_mpile m_length m_primeMany m_toldMany m_fate m_tail m_round m_tableKind m_areLaid m_unlike m_isFree a_mprimes a_mtable a_misOdd a_misHigh a_misTop) := hD.sub [4, 0, 5, 1, 2, 3] (by decide) rfl
              refine lv_if_ne (tgt := 165) hx hb dX12_seen_158 (by decide) (fun c23z => ?_) (fun c23z => ?_)
              · have h := xf h c23z
                refine lv_iconst (v := (0 : Int32)) hx hb dX12_seen_165 (by decide) ?_
                obtain rfl := Option.some.inj h
                exact W.zret (v := (0 : Int32)) hx hb hr rfl (fun t ht hW => ⟨⟨_, (), rfl, rfl, by rw [ht]; exact hP, hD⟩, hS.F ht⟩) hS.2.2 dX12_seen_166 hlocks
              · have h := xt h c23z
                refine lv_iconst (v := (1 : Int32)) hx hb dX12_seen_161 (by decide) ?_
                refine lv_goto (tgt := 166) hx hb dX12_seen_162 (by decide) ?_
                obtain rfl := Option.some.inj h
                exact W.zret (v := (1 : Int32)) hx hb hr rfl (fun t ht hW => ⟨⟨_, (), rfl, rfl, by rw [ht]; exact hP, hD⟩, hS.F ht⟩) hS.2.2 dX12_seen_166 hlocks
            · have h := xf h c19z
              rcases Decidable.em (v1 = (113 : Int32)) with c24z | c24z
              · have h := xt h c24z
                refine lv_tableIn (tgt := 186) (off := 185) hx hb dX12_seen_1 (by rw [c24z]; decide) (by rw [c24z]; decide) (by rw [c24z]; decide +kernel) (by decide) ?_
                refine lv_iload_n hx hb dX12_seen_186 rfl (lv_at hl 2 rfl) ?_
                refine lv_i2l (v := v2.toInt64) hx hb dX12_seen_187 rfl ?_
                obtain ⟨r25z, hr25z, h⟩ := xb_at h
                have hPc := hP.sub (ws' := (wd37 cyI cyJ cyZ)) [] rfl
                have hDc := hD.sub (ws' := (wd37 cyI cyJ cyZ)) [] (by decide) rfl
                refine cal_l [] [0, 1, 2, 3, 4, 5] (va_runS (As := [.long v2.toInt64]) (rest := []) ⟨hx, hb, hml, hown, hts⟩ (c_X12_root l dC dI cyI cyJ cyZ N r25z H.size  v2.toInt64  hr25z) (va_cwS 1 hts gX12_seen_X12_root rfl rfl rfl hd_X12_root ⟨Nat.le_of_ble_eq_true rfl, Nat.le_of_ble_eq_true rfl⟩) ⟨pC.blind, pC.pre hPc hG hDc⟩ rfl rfl hl.1 rfl (lv_room (Nat.le_of_ble_eq_true rfl)) dX12_seen_188 ⟨Nat.zero_le _, Nat.zero_le _⟩) hP hD hS hA rfl rfl rfl (by decide) (fun x27z u26z H locs hw hP hD hS => ?_)
                obtain rfl := hw.symm
                have hP : va_P (dC, dI) vwCl (wd65 cyI cyJ cyZ q_Md q_mprimes q_mtable q_misOdd q_misHigh q_misTop q_mtext q_mtold q_mstretch q_mfewest q_mbits q_mpile m_length m_primeMany m_toldMany m_fate m_tail m_round m_tableKind m_areLaid m_unlike m_isFree a_mprimes a_mtable a_misOdd a_misHigh a_misTop) H := hP.sub [0, 1, 2, 3, 4, 5] rfl
                have hD : va_D A (wd65 cyI cyJ cyZ q_Md q_mprimes q_mtable q_misOdd q_misHigh q_misTop q_mtext q_mtold q_mstretch q_mfewest q_mbits q_mpile m_length m_primeMany m_toldMany m_fate m_tail m_round m_tableKind m_areLaid m_unlike m_isFree a_mprimes a_mtable a_misOdd a_misHigh a_misTop) := hD.sub [0, 1, 2, 3, 4, 5] (by decide) rfl
                refine lv_iload_n hx hb dX12_seen_191 rfl (lv_at hl 2 rfl) ?_
                refine lv_i2l (v := v2.toInt64) hx hb dX12_seen_192 rfl ?_
                obtain ⟨r28z, hr28z, h⟩ := xb_at h
                have hPc := hP.sub (ws' := (wd37 cyI cyJ cyZ)) [] rfl
                have hDc := hD.sub (ws' := (wd37 cyI cyJ cyZ)) [] (by decide) rfl
                refine cal_l [] [0, 1, 2, 3, 4, 5] (va_runS (As := [.long v2.toInt64]) (rest := [.long r25z]) ⟨hx, hb, hml, hown, hts⟩ (c_X12_root l dC dI cyI cyJ cyZ N r28z H.size  v2.toInt64  hr28z) (va_cwS 1 hts gX12_seen_X12_root rfl rfl rfl hd_X12_root ⟨Nat.le_of_ble_eq_true rfl, Nat.le_of_ble_eq_true rfl⟩) ⟨pC.blind, pC.pre hPc hG hDc⟩ rfl rfl hl.1 rfl (lv_room (Nat.le_of_ble_eq_true rfl)) dX12_seen_193 ⟨Nat.zero_le _, Nat.zero_le _⟩) hP hD hS hA rfl rfl rfl (by decide) (fun x30z u29z H locs hw hP hD hS => ?_)
                obtain rfl := hw.symm
                have hP : va_P (dC, dI) vwCl (wd65 cyI cyJ cyZ q_Md q_mprimes q_mtable q_misOdd q_misHigh q_misTop q_mtext q_mtold q_mstretch q_mfewest q_mbits q_mpile m_length m_primeMany m_toldMany m_fate m_tail m_round m_tableKind m_areLaid m_unlike m_isFree a_mprimes a_mtable a_misOdd a_misHigh a_misTop) H := hP.sub [0, 1, 2, 3, 4, 5] rfl
                have hD : va_D A (wd65 cyI cyJ cyZ q_Md q_mprimes q_mtable q_misOdd q_misHigh q_misTop q_mtext q_mtold q_mstretch q_mfewest q_mbits q_mpile m_length m_primeMany m_toldMany m_fate m_tail m_round m_tableKind m_areLaid m_unlike m_isFree a_mprimes a_mtable a_misOdd a_misHigh a_misTop) := hD.sub [0, 1, 2, 3, 4, 5] (by decide) rfl
                refine lv_lmul hx hb dX12_seen_196 ?_
                refine lv_iload_n hx hb dX12_seen_197 rfl (lv_at hl 2 rfl) ?_
                refine lv_i2l (v := v2.toInt64) hx hb dX12_seen_198 rfl ?_
                refine W.lcmp hx hb dX12_seen_199 ?_
                refine lv_if_ne (tgt := 207) hx hb dX12_seen_200 (by decide) (fun c31z => ?_) (fun c31z => ?_)
                · have c31z := fun z => c31z ((lg_cmp_eq _ _).mpr z)
                  have h := xf h c31z
                  refine lv_iconst (v := (0 : Int32)) hx hb dX12_seen_207 (by decide) ?_
                  obtain rfl := Option.some.inj h
                  exact W.zret (v := (0 : Int32)) hx hb hr rfl (fun t ht hW => ⟨⟨_, (), rfl, rfl, by rw [ht]; exact hP, hD⟩, hS.F ht⟩) hS.2.2 dX12_seen_208 hlocks
                · have c31z := (lg_cmp_eq _ _).mp c31z
                  have h := xt h c31z
                  refine lv_iconst (v := (1 : Int32)) hx hb dX12_seen_203 (by decide) ?_
                  refine lv_goto (tgt := 208) hx hb dX12_seen_204 (by decide) ?_
                  obtain rfl := Option.some.inj h
                  exact W.zret (v := (1 : Int32)) hx hb hr rfl (fun t ht hW => ⟨⟨_, (), rfl, rfl, by rw [ht]; exact hP, hD⟩, hS.F ht⟩) hS.2.2 dX12_seen_208 hlocks
              · have h := xf h c24z
                rcases Decidable.em (v1 = (114 : Int32)) with c32z | c32z
                · have h := xt h c32z
                  refine lv_tableIn (tgt := 108) (off := 107) hx hb dX12_seen_1 (by rw [c32z]; decide) (by rw [c32z]; decide) (by rw [c32z]; decide +kernel) (by decide) ?_
                  refine lv_aload_n hx hb dX12_seen_108 rfl (lv_at hl 0 rfl) ?_
                  refine lv_iload_n hx hb dX12_seen_109 rfl (lv_at hl 2 rfl) ?_
                  obtain ⟨r33z, hr33z, h⟩ := xb_at h
                  have hPc := hP.sub (ws' := (wd59 cyI cyJ cyZ q_Md q_mtable q_mtext q_mprimes q_mtold q_mstretch q_mfewest q_misOdd q_misHigh q_misTop q_mbits q_mpile m_length m_primeMany m_toldMany m_fate m_tail m_round m_tableKind m_areLaid m_unlike m_isFree a_mtable)) [0, 2] rfl
                  have hDc := hD.sub (ws' := (wd59 cyI cyJ cyZ q_Md q_mtable q_mtext q_mprimes q_mtold q_mstretch q_mfewest q_misOdd q_misHigh q_misTop q_mbits q_mpile m_length m_primeMany m_toldMany m_fate m_tail m_round m_tableKind m_areLaid m_unlike m_isFree a_mtable)) [0, 2] (by decide) rfl
                  refine cal_i [0, 2] [1, 3, 4, 5] (va_runV (As := [.int v2]) (rest := []) ⟨hx, hb, hml, hown, hts⟩ (c_X12_weigh l dC dI cyI cyJ cyZ N r33z H.size q_Md q_mtable q_mtext q_mprimes q_mtold q_mstretch q_mfewest q_misOdd q_misHigh q_misTop q_mbits q_mpile v2 m_length m_primeMany m_toldMany m_fate m_tail m_round m_tableKind m_areLaid m_unlike m_isFree a_mtable hr33z) (cwV 1 hts gX12_seen_X12_weigh rfl rfl rfl ⟨rfl, hd_X12_weigh⟩ ⟨Nat.le_of_ble_eq_true rfl, Nat.le_of_ble_eq_true rfl⟩) ⟨pC.blind, va_recv hK hPc (ci := 12) (q0 := 0) rfl rfl, pC.pre hPc hG hDc⟩ rfl rfl hl.1 rfl (lv_room (Nat.le_of_ble_eq_true rfl)) dX12_seen_110 ⟨Nat.zero_le _, Nat.zero_le _⟩) hP hD hS hA rfl rfl rfl (by decide) (fun x35z u34z H locs hw hP hD hS => ?_)
                  obtain rfl := hw.symm
                  have hP : va_P (dC, dI) vwCl (wd65 cyI cyJ cyZ q_Md q_mprimes q_mtable q_misOdd q_misHigh q_misTop q_mtext q_mtold q_mstretch q_mfewest q_mbits q_mpile m_length m_primeMany m_toldMany m_fate m_tail m_round m_tableKind m_areLaid m_unlike m_isFree a_mprimes a_mtable a_misOdd a_misHigh a_misTop) H := hP.sub [4, 0, 5, 1, 2, 3] rfl
                  have hD : va_D A (wd65 cyI cyJ cyZ q_Md q_mprimes q_mtable q_misOdd q_misHigh q_misTop q_mtext q_mtold q_mstretch q_mfewest q_mbits q_mpile m_length m_primeMany m_toldMany m_fate m_tail m_round m_tableKind m_areLaid m_unlike m_isFree a_mprimes a_mtable a_misOdd a_misHigh a_misTop) := hD.sub [4, 0, 5, 1, 2, 3] (by decide) rfl
                  refine lv_iconst (v := (2 : Int32)) hx hb dX12_seen_113 (by decide) ?_
                  refine lv_icmp_ne (tgt := 121) hx hb dX12_seen_114 (by decide) (fun c36z => ?_) (fun c36z => ?_)
                  · have h := xf h c36z
                    refine lv_iconst (v := (0 : Int32)) hx hb dX12_seen_121 (by decide) ?_
                    obtain rfl := Option.some.inj h
                    exact W.zret (v := (0 : Int32)) hx hb hr rfl (fun t ht hW => ⟨⟨_, (), rfl, rfl, by rw [ht]; exact hP, hD⟩, hS.F ht⟩) hS.2.2 dX12_seen_122 hlocks
                  · have h := xt h c36z
                    refine lv_iconst (v := (1 : Int32)) hx hb dX12_seen_117 (by decide) ?_
                    refine lv_goto (tgt := 122) hx hb dX12_seen_118 (by decide) ?_
                    obtain rfl := Option.some.inj h
                    exact W.zret (v := (1 : Int32)) hx hb hr rfl (fun t ht hW => ⟨⟨_, (), rfl, rfl, by rw [ht]; exact hP, hD⟩, hS.F ht⟩) hS.2.2 dX12_seen_122 hlocks
                · have h := xf h c32z
                  rcases Decidable.em (v1 = (116 : Int32)) with c37z | c37z
                  · have h := xt h c37z
                    refine lv_tableIn (tgt := 226) (off := 225) hx hb dX12_seen_1 (by rw [c37z]; decide) (by rw [c37z]; decide) (by rw [c37z]; decide +kernel) (by decide) ?_
                    refine lv_aload_n hx hb dX12_seen_226 rfl (lv_at hl 0 rfl) ?_
                    refine va_get (D := (dC, dI)) (ci := 12) (v := .ref q_misTop) (C := RX12) (T := TX12) (N := 21) hx hb hts iw_X12_seen_X12 hown hK hP 0 rfl rfl 16 (by decide) (hts (.fieldLink RX12 37 "GoesIntoModel" "isTop" "[Z") (List.mem_of_getElem? (i := 4) rfl)) (fun _ h9 => h9) rfl dX12_seen_227 ?_
                    refine lv_iload_n hx hb dX12_seen_230 rfl (lv_at hl 2 rfl) ?_
                    obtain ⟨b38z, h⟩ := xn h
                    refine va_zald hx hb hK hP 5 2 rfl rfl b38z dX12_seen_231 ?_
                    obtain ⟨b39z, h⟩ := xa h
                    obtain rfl := Option.some.inj h
                    exact W.zret (v := a_misTop v2.toNatClampNeg) hx hb hr (xz01 b39z) (fun t ht hW => ⟨⟨_, (), rfl, rfl, by rw [ht]; exact hP, hD⟩, hS.F ht⟩) hS.2.2 dX12_seen_232 hlocks
                  · have h := xf h c37z
                    rcases Decidable.em (v1 = (120 : Int32)) with c40z | c40z
                    · have h := xt h c40z
                      refine lv_tableIn (tgt := 138) (off := 137) hx hb dX12_seen_1 (by rw [c40z]; decide) (by rw [c40z]; decide) (by rw [c40z]; decide +kernel) (by decide) ?_
                      refine lv_aload_n hx hb dX12_seen_138 rfl (lv_at hl 0 rfl) ?_
                      refine lv_iload_n hx hb dX12_seen_139 rfl (lv_at hl 2 rfl) ?_
                      obtain ⟨r41z, hr41z, h⟩ := xb_at h
                      have hPc := hP.sub (ws' := (wd59 cyI cyJ cyZ q_Md q_mtable q_mtext q_mprimes q_mtold q_mstretch q_mfewest q_misOdd q_misHigh q_misTop q_mbits q_mpile m_length m_primeMany m_toldMany m_fate m_tail m_round m_tableKind m_areLaid m_unlike m_isFree a_mtable)) [0, 2] rfl
                      have hDc := hD.sub (ws' := (wd59 cyI cyJ cyZ q_Md q_mtable q_mtext q_mprimes q_mtold q_mstretch q_mfewest q_misOdd q_misHigh q_misTop q_mbits q_mpile m_length m_primeMany m_toldMany m_fate m_tail m_round m_tableKind m_areLaid m_unlike m_isFree a_mtable)) [0, 2] (by decide) rfl
                      refine cal_i [0, 2] [1, 3, 4, 5] (va_runV (As := [.int v2]) (rest := []) ⟨hx, hb, hml, hown, hts⟩ (c_X12_weigh l dC dI cyI cyJ cyZ N r41z H.size q_Md q_mtable q_mtext q_mprimes q_mtold q_mstretch q_mfewest q_misOdd q_misHigh q_misTop q_mbits q_mpile v2 m_length m_primeMany m_toldMany m_fate m_tail m_round m_tableKind m_areLaid m_unlike m_isFree a_mtable hr41z) (cwV 1 hts gX12_seen_X12_weigh rfl rfl rfl ⟨rfl, hd_X12_weigh⟩ ⟨Nat.le_of_ble_eq_true rfl, Nat.le_of_ble_eq_true rfl⟩) ⟨pC.blind, va_recv hK hPc (ci := 12) (q0 := 0) rfl rfl, pC.pre hPc hG hDc⟩ rfl rfl hl.1 rfl (lv_room (Nat.le_of_ble_eq_true rfl)) dX12_seen_140 ⟨Nat.zero_le _, Nat.zero_le _⟩) hP hD hS hA rfl rfl rfl (by decide) (fun x43z u42z H locs hw hP hD hS => ?_)
                      obtain rfl := hw.symm
                      have hP : va_P (dC, dI) vwCl (wd65 cyI cyJ cyZ q_Md q_mprimes q_mtable q_misOdd q_misHigh q_misTop q_mtext q_mtold q_mstretch q_mfewest q_mbits q_mpile m_length m_primeMany m_toldMany m_fate m_tail m_round m_tableKind m_areLaid m_unlike m_isFree a_mprimes a_mtable a_misOdd a_misHigh a_misTop) H := hP.sub [4, 0, 5, 1, 2, 3] rfl
                      have hD : va_D A (wd65 cyI cyJ cyZ q_Md q_mprimes q_mtable q_misOdd q_misHigh q_misTop q_mtext q_mtold q_mstretch q_mfewest q_mbits q_mpile m_length m_primeMany m_toldMany m_fate m_tail m_round m_tableKind m_areLaid m_unlike m_isFree a_mprimes a_mtable a_misOdd a_misHigh a_misTop) := hD.sub [4, 0, 5, 1, 2, 3] (by decide) rfl
                      refine lv_iconst (v := (1 : Int32)) hx hb dX12_seen_143 (by decide) ?_
                      refine lv_icmp_ne (tgt := 151) hx hb dX12_seen_144 (by decide) (fun c44z => ?_) (fun c44z => ?_)
                      · have h := xf h c44z
                        refine lv_iconst (v := (0 : Int32)) hx hb dX12_seen_151 (by decide) ?_
                        obtain rfl := Option.some.inj h
                        exact W.zret (v := (0 : Int32)) hx hb hr rfl (fun t ht hW => ⟨⟨_, (), rfl, rfl, by rw [ht]; exact hP, hD⟩, hS.F ht⟩) hS.2.2 dX12_seen_152 hlocks
                      · have h := xt h c44z
                        refine lv_iconst (v := (1 : Int32)) hx hb dX12_seen_147 (by decide) ?_
                        refine lv_goto (tgt := 152) hx hb dX12_seen_148 (by decide) ?_
                        obtain rfl := Option.some.inj h
                        exact W.zret (v := (1 : Int32)) hx hb hr rfl (fun t ht hW => ⟨⟨_, (), rfl, rfl, by rw [ht]; exact hP, hD⟩, hS.F ht⟩) hS.2.2 dX12_seen_152 hlocks
                    · have h := xf h c40z
                      have tc1z := lv_neT (a := 98) c1z (by decide)
                      have tc6z := lv_neT (a := 101) c6z (by decide)
                      have tc8z := lv_neT (a := 102) c8z (by decide)
                      have tc13z := lv_neT (a := 104) c13z (by decide)
                      have tc16z := lv_neT (a := 111) c16z (by decide)
                      have tc19z := lv_neT (a := 112) c19z (by decide)
                      have tc24z := lv_neT (a := 113) c24z (by decide)
                      have tc32z := lv_neT (a := 114) c32z (by decide)
                      have tc37z := lv_neT (a := 116) c37z (by decide)
                      have tc40z := lv_neT (a := 120) c40z (by decide)
                      have K45z : W p l e (headSpec wsX12_seen rm_X12_seen).room s m args below meth c H locs 0 0 (MQ below (va_Qi (fun (r : Int32) (_ : Unit) => r = res.1) (bW dC dI (fun (u : Unit) => (wd65 cyI cyJ cyZ q_Md q_mprimes q_mtable q_misOdd q_misHigh q_misTop q_mtext q_mtold q_mstretch q_mfewest q_mbits q_mpile m_length res.2.1 m_toldMany m_fate m_tail m_round m_tableKind m_areLaid res.2.2.1 res.2.2.2.1 res.2.2.2.2 a_mtable a_misOdd a_misHigh a_misTop)) A) A) args s 0 0 A) (F0 m 233 ls []) := by
                        refine lv_aload_n hx hb dX12_seen_233 rfl (lv_at hl 0 rfl) ?_
                        refine lv_iload_n hx hb dX12_seen_234 rfl (lv_at hl 2 rfl) ?_
                        obtain ⟨r46z, hr46z, h⟩ := xb_at h
                        have hPc := hP.sub (ws' := (wd55 cyI cyJ cyZ q_Md q_mprimes q_mtext q_mtold q_mtable q_mstretch q_mfewest q_misOdd q_misHigh q_misTop q_mbits q_mpile m_length m_primeMany m_toldMany m_fate m_tail m_round m_tableKind m_areLaid m_unlike m_isFree a_mprimes)) [0, 1] rfl
                        have hDc := hD.sub (ws' := (wd55 cyI cyJ cyZ q_Md q_mprimes q_mtext q_mtold q_mtable q_mstretch q_mfewest q_misOdd q_misHigh q_misTop q_mbits q_mpile m_length m_primeMany m_toldMany m_fate m_tail m_round m_tableKind m_areLaid m_unlike m_isFree a_mprimes)) [0, 1] (by decide) rfl
                        refine cal_v [0, 1] [2, 3, 4, 5] (va_runV (As := [.int v2]) (rest := []) ⟨hx, hb, hml, hown, hts⟩ (c_X12_lookAt l dC dI cyI cyJ cyZ N r46z H.size q_Md q_mprimes q_mtext q_mtold q_mtable q_mstretch q_mfewest q_misOdd q_misHigh q_misTop q_mbits q_mpile v2 m_length m_primeMany m_toldMany m_fate m_tail m_round m_tableKind m_areLaid m_unlike m_isFree a_mprimes hr46z) (cwV 1 hts gX12_seen_X12_lookAt rfl rfl rfl ⟨rfl, hd_X12_lookAt⟩ ⟨Nat.le_of_ble_eq_true rfl, Nat.le_of_ble_eq_true rfl⟩) ⟨pC.blind, va_recv hK hPc (ci := 12) (q0 := 0) rfl rfl, pC.pre hPc hG hDc⟩ rfl rfl hl.1 rfl (lv_room (Nat.le_of_ble_eq_true rfl)) dX12_seen_235 ⟨Nat.zero_le _, Nat.zero_le _⟩) hP hD hS hA rfl rfl rfl (by decide) (fun u47z H locs _ hP hD hS => ?_)
                        have hP : va_P (dC, dI) vwCl (wd65 cyI cyJ cyZ q_Md q_mprimes q_mtable q_misOdd q_misHigh q_misTop q_mtext q_mtold q_mstretch q_mfewest q_mbits q_mpile m_length r46z.1 m_toldMany m_fate m_tail m_round m_tableKind m_areLaid r46z.2.1 r46z.2.2.1 r46z.2.2.2 a_mtable a_misOdd a_misHigh a_misTop) H := hP.sub [4, 5, 0, 1, 2, 3] rfl
                        have hD : va_D A (wd65 cyI cyJ cyZ q_Md q_mprimes q_mtable q_misOdd q_misHigh q_misTop q_mtext q_mtold q_mstretch q_mfewest q_mbits q_mpile m_length r46z.1 m_toldMany m_fate m_tail m_round m_tableKind m_areLaid r46z.2.1 r46z.2.2.1 r46z.2.2.2 a_mtable a_misOdd a_misHigh a_misTop) := hD.sub [4, 5, 0, 1, 2, 3] (by decide) rfl
                        refine lv_aload_n hx hb dX12_seen_238 rfl (lv_at hl 0 rfl) ?_
                        refine va_get (D := (dC, dI)) (ci := 12) (v := .int r46z.2.1) (C := RX12) (T := TX12) (N := 21) hx hb hts iw_X12_seen_X12 hown hK hP 0 rfl rfl 18 (by decide) (hts (.fieldLink RX12 169 "GoesIntoModel" "unlike" "I") (List.mem_of_getElem? (i := 5) rfl)) (fun _ h9 => h9) rfl dX12_seen_239 ?_
                        refine lv_iload_n hx hb dX12_seen_242 rfl (lv_at hl 1 rfl) ?_
                        refine lv_bipush (v := (48 : Int32)) hx hb dX12_seen_243 (by decide) ?_
                        refine lv_isub hx hb dX12_seen_245 ?_
                        refine lv_icmp_ne (tgt := 253) hx hb dX12_seen_246 (by decide) (fun c49z => ?_) (fun c49z => ?_)
                        · have h := xf h c49z
                          refine lv_iconst (v := (0 : Int32)) hx hb dX12_seen_253 (by decide) ?_
                          obtain rfl := Option.some.inj h
                          exact W.zret (v := (0 : Int32)) hx hb hr rfl (fun t ht hW => ⟨⟨_, (), rfl, rfl, by rw [ht]; exact hP, hD⟩, hS.F ht⟩) hS.2.2 dX12_seen_254 hlocks
                        · have h := xt h c49z
                          refine lv_iconst (v := (1 : Int32)) hx hb dX12_seen_249 (by decide) ?_
                          refine lv_goto (tgt := 254) hx hb dX12_seen_250 (by decide) ?_
                          obtain rfl := Option.some.inj h
                          exact W.zret (v := (1 : Int32)) hx hb hr rfl (fun t ht hW => ⟨⟨_, (), rfl, rfl, by rw [ht]; exact hP, hD⟩, hS.F ht⟩) hS.2.2 dX12_seen_254 hlocks
                      rcases (show v1.toInt < 98 ∨ 120 < v1.toInt ∨ v1.toInt = 99 ∨ v1.toInt = 100 ∨ v1.toInt = 103 ∨ v1.toInt = 105 ∨ v1.toInt = 106 ∨ v1.toInt = 107 ∨ v1.toInt = 108 ∨ v1.toInt = 109 ∨ v1.toInt = 110 ∨ v1.toInt = 115 ∨ v1.toInt = 117 ∨ v1.toInt = 118 ∨ v1.toInt = 119 from by omega) with t0 | t0 | t0 | t0 | t0 | t0 | t0 | t0 | t0 | t0 | t0 | t0 | t0 | t0 | t0
                      · exact lv_tableOut (tgt := 233) hx hb dX12_seen_1 (Or.inl t0) (by decide) K45z
                      · exact lv_tableOut (tgt := 233) hx hb dX12_seen_1 (Or.inr t0) (by decide) K45z
                      · exact lv_tableIn (tgt := 233) (off := 232) hx hb dX12_seen_1 (by rw [t0]; decide) (by rw [t0]; decide) (by rw [t0]; decide +kernel) (by decide) K45z
                      · exact lv_tableIn (tgt := 233) (off := 232) hx hb dX12_seen_1 (by rw [t0]; decide) (by rw [t0]; decide) (by rw [t0]; decide +kernel) (by decide) K45z
                      · exact lv_tableIn (tgt := 233) (off := 232) hx hb dX12_seen_1 (by rw [t0]; decide) (by rw [t0]; decide) (by rw [t0]; decide +kernel) (by decide) K45z
                      · exact lv_tableIn (tgt := 233) (off := 232) hx hb dX12_seen_1 (by rw [t0]; decide) (by rw [t0]; decide) (by rw [t0]; decide +kernel) (by decide) K45z
                      · exact lv_tableIn (tgt := 233) (off := 232) hx hb dX12_seen_1 (by rw [t0]; decide) (by rw [t0]; decide) (by rw [t0]; decide +kernel) (by decide) K45z
                      · exact lv_tableIn (tgt := 233) (off := 232) hx hb dX12_seen_1 (by rw [t0]; decide) (by rw [t0]; decide) (by rw [t0]; decide +kernel) (by decide) K45z
                      · exact lv_tableIn (tgt := 233) (off := 232) hx hb dX12_seen_1 (by rw [t0]; decide) (by rw [t0]; decide) (by rw [t0]; decide +kernel) (by decide) K45z
                      · exact lv_tableIn (tgt := 233) (off := 232) hx hb dX12_seen_1 (by rw [t0]; decide) (by rw [t0]; decide) (by rw [t0]; decide +kernel) (by decide) K45z
                      · exact lv_tableIn (tgt := 233) (off := 232) hx hb dX12_seen_1 (by rw [t0]; decide) (by rw [t0]; decide) (by rw [t0]; decide +kernel) (by decide) K45z
                      · exact lv_tableIn (tgt := 233) (off := 232) hx hb dX12_seen_1 (by rw [t0]; decide) (by rw [t0]; decide) (by rw [t0]; decide +kernel) (by decide) K45z
                      · exact lv_tableIn (tgt := 233) (off := 232) hx hb dX12_seen_1 (by rw [t0]; decide) (by rw [t0]; decide) (by rw [t0]; decide +kernel) (by decide) K45z
                      · exact lv_tableIn (tgt := 233) (off := 232) hx hb dX12_seen_1 (by rw [t0]; decide) (by rw [t0]; decide) (by rw [t0]; decide +kernel) (by decide) K45z
                      · exact lv_tableIn (tgt := 233) (off := 232) hx hb dX12_seen_1 (by rw [t0]; decide) (by rw [t0]; decide) (by rw [t0]; decide +kernel) (by decide) K45z
set_option maxRecDepth 100000 in
set_option maxHeartbeats 4000000 in
theorem c_X12_seen (l : Launch) (dC : Nat → ClassId) (dI : Nat → Nat → Nat) (cyI cyJ cyZ : ClassId) (N : Nat) (res : Int32 × Int32 × Int32 × Int32 × (Nat → Int64)) (sz : Nat) (q_Md : Nat) (q_mprimes : Nat) (q_mtable : Nat) (q_misOdd : Nat) (q_misHigh : Nat) (q_misTop : Nat) (q_mtext : Nat) (q_mtold : Nat) (q_mstretch : Nat) (q_mfewest : Nat) (q_mbits : Nat) (q_mpile : Nat) (v1 : Int32) (v2 : Int32) (m_length : Int32) (m_primeMany : Int32) (m_toldMany : Int32) (m_fate : Int32) (m_tail : Int32) (m_round : Int32) (m_tableKind : Int32) (m_areLaid : Int32) (m_unlike : Int32) (m_isFree : Int32) (a_mprimes : Nat → Int64) (a_mtable : Nat → Int32) (a_misOdd : Nat → Int32) (a_misHigh : Nat → Int32) (a_misTop : Nat → Int32) (h : f_X12_seen N v1 v2 m_primeMany m_unlike m_isFree a_mprimes a_mtable a_misOdd a_misHigh a_misTop = some res) : Met l yX12_seen wsX12_seen rm_X12_seen (pC dC dI cyI cyJ cyZ [.ref q_Md, .int v1, .int v2] sz (wd65 cyI cyJ cyZ q_Md q_mprimes q_mtable q_misOdd q_misHigh q_misTop q_mtext q_mtold q_mstretch q_mfewest q_mbits q_mpile m_length m_primeMany m_toldMany m_fate m_tail m_round m_tableKind m_areLaid m_unlike m_isFree a_mprimes a_mtable a_misOdd a_misHigh a_misTop)) (va_Qi (fun (r : Int32) (_ : Unit) => r = res.1) (bW dC dI (fun (u : Unit) => (wd65 cyI cyJ cyZ q_Md q_mprimes q_mtable q_misOdd q_misHigh q_misTop q_mtext q_mtold q_mstretch q_mfewest q_mbits q_mpile m_length res.2.1 m_toldMany m_fate m_tail m_round m_tableKind m_areLaid res.2.2.1 res.2.2.2.1 res.2.2.2.2 a_mtable a_misOdd a_misHigh a_misTop)) (va_A (wd65 cyI cyJ cyZ q_Md q_mprimes q_mtable q_misOdd q_misHigh q_misTop q_mtext q_mtold q_mstretch q_mfewest q_mbits q_mpile m_length m_primeMany m_toldMany m_fate m_tail m_round m_tableKind m_areLaid m_unlike m_isFree a_mprimes a_mtable a_misOdd a_misHigh a_misTop) sz)) (va_A (wd65 cyI cyJ cyZ q_Md q_mprimes q_mtable q_misOdd q_misHigh q_misTop q_mtext q_mtold q_mstretch q_mfewest q_mbits q_mpile m_length m_primeMany m_toldMany m_fate m_tail m_round m_tableKind m_areLaid m_unlike m_isFree a_mprimes a_mtable a_misOdd a_misHigh a_misTop) sz)) 0 0 (va_A (wd65 cyI cyJ cyZ q_Md q_mprimes q_mtable q_misOdd q_misHigh q_misTop q_mtext q_mtold q_mstretch q_mfewest q_mbits q_mpile m_length m_primeMany m_toldMany m_fate m_tail m_round m_tableKind m_areLaid m_unlike m_isFree a_mprimes a_mtable a_misOdd a_misHigh a_misTop) sz) := by
  refine Met.ofW (cc := cX12_seen) (maxL := 3) (ret := (some .boolean)) (by decide) rfl ?_
  intro p e s m args below meth c s₁ B hml hv
  obtain ⟨rfl, hsz, hP, hG, hD0⟩ := hv
  have hx := B.exec
  have hb := B.bytes
  have hr := B.returns
  have hts := atoms_spec (ws := wsX12_seen) B.pre
  have hown : s.vm.findClass RX12 = some m.cls := findClass_of_methodNamed B.named
  have hlocks := B.notSynchronized
  subst hsz
  have hD := hD0.self (sz := s.heap.size)
  generalize hAe : va_A (wd65 cyI cyJ cyZ q_Md q_mprimes q_mtable q_misOdd q_misHigh q_misTop q_mtext q_mtold q_mstretch q_mfewest q_mbits q_mpile m_length m_primeMany m_toldMany m_fate m_tail m_round m_tableKind m_areLaid m_unlike m_isFree a_mprimes a_mtable a_misOdd a_misHigh a_misTop) s.heap.size = A at hD ⊢
  have hA : ∀ q : Nat, s.heap.size ≤ q → A q := fun q h => by rw [← hAe]; exact Or.inr h
  have hS : va_S A s.heap s.heap [] := va_S.rf
  have hl := lv_entry ([.ref q_Md, .int v1, .int v2]) (n := 3) (Nat.le_of_ble_eq_true rfl)
  rw [lg_entry_eq]
  generalize (lg_sl ([.ref q_Md, .int v1, .int v2]) ++ List.replicate (3 - (lg_sl ([.ref q_Md, .int v1, .int v2])).length) Slot.unset).toArray = ls at hl ⊢
  have hl : lv_has ls 3 [(0, .ref q_Md), (1, .int v1), (2, .int v2)] := hl
  exact k_X12_seen_0 ⟨hx, hb, hr, hml, hown, hts, hlocks, hG, hA⟩ N res q_Md q_mprimes q_mtable q_misOdd q_misHigh q_misTop q_mtext q_mtold q_mstretch q_mfewest q_mbits q_mpile v1 v2 m_length m_primeMany m_toldMany m_fate m_tail m_round m_tableKind m_areLaid m_unlike m_isFree a_mprimes a_mtable a_misOdd a_misHigh a_misTop  h _ _ hP hD hS _ hl
/-- the cells Md, mtext, mprimes, mtable, misOdd, misHigh, misTop, mpile -/
abbrev wd66 (cyI cyJ cyZ : ClassId) (q_Md : Nat) (q_mtext : Nat) (q_mprimes : Nat) (q_mtable : Nat) (q_misOdd : Nat) (q_misHigh : Nat) (q_misTop : Nat) (q_mpile : Nat) (q_mtold : Nat) (q_mstretch : Nat) (q_mfewest : Nat) (q_mbits : Nat) (m_length : Int32) (m_primeMany : Int32) (m_toldMany : Int32) (m_fate : Int32) (m_tail : Int32) (m_round : Int32) (m_tableKind : Int32) (m_areLaid : Int32) (m_unlike : Int32) (m_isFree : Int32) (a_mtext : Nat → Int32) (a_mprimes : Nat → Int64) (a_mtable : Nat → Int32) (a_misOdd : Nat → Int32) (a_misHigh : Nat → Int32) (a_misTop : Nat → Int32) (a_mpile : Nat → Int32) : va_W := [(q_Md, .inr (12, [.int m_length, .ref q_mtext, .int m_primeMany, .ref q_mprimes, .int m_toldMany, .ref q_mtold, .int m_fate, .int m_tail, .int m_round, .int m_tableKind, .ref q_mtable, .ref q_mstretch, .ref q_mfewest, .int m_areLaid, .ref q_misOdd, .ref q_misHigh, .ref q_misTop, .ref q_mbits, .int m_unlike, .int m_isFree, .ref q_mpile])), (q_mtext, .inl (cyI, 60, .inl a_mtext)), (q_mprimes, .inl (cyJ, 40, .inr (.inl a_mprimes))), (q_mtable, .inl (cyI, 50001, .inl a_mtable)), (q_misOdd, .inl (cyZ, 5001, .inl a_misOdd)), (q_misHigh, .inl (cyZ, 5001, .inl a_misHigh)), (q_misTop, .inl (cyZ, 5001, .inl a_misTop)), (q_mpile, .inl (cyZ, 9, .inl a_mpile))]
abbrev rm_X12_isWished : Room := { frames := 3, cells := 0, slots := 0, locals := 71 }
theorem hd_X12_isWished : yX12_isWished.cls ≠ "java/lang/invoke/MethodHandle" ∧ yX12_isWished.cls ≠ "java/lang/invoke/VarHandle" ∧ (parseMethodDescriptor yX12_isWished.desc).map (fun d => d.parameters.length) = some 1 := by decide +kernel
theorem iw_X12_isWished_X12 : ∀ w ∈ wsX120, w ∈ wsX12_isWished := List.forall_mem_cons.mpr ⟨List.mem_of_getElem? (i := 46) rfl, List.forall_mem_cons.mpr ⟨List.mem_of_getElem? (i := 47) rfl, List.forall_mem_cons.mpr ⟨List.mem_of_getElem? (i := 48) rfl, List.forall_mem_cons.mpr ⟨List.mem_of_getElem? (i := 49) rfl, List.forall_mem_cons.mpr ⟨List.mem_of_getElem? (i := 50) rfl, List.forall_mem_cons.mpr ⟨List.mem_of_getElem? (i := 51) rfl, List.forall_mem_cons.mpr ⟨List.mem_of_getElem? (i := 52) rfl, List.forall_mem_cons.mpr ⟨List.mem_of_getElem? (i := 53) rfl, List.forall_mem_cons.mpr ⟨List.mem_of_getElem? (i := 54) rfl, List.forall_mem_cons.mpr ⟨List.mem_of_getElem? (i := 55) rfl, List.forall_mem_cons.mpr ⟨List.mem_of_getElem? (i := 56) rfl, List.forall_mem_cons.mpr ⟨List.mem_of_getElem? (i := 57) rfl, List.forall_mem_cons.mpr ⟨List.mem_of_getElem? (i := 58) rfl, List.forall_mem_cons.mpr ⟨List.mem_of_getElem? (i := 59) rfl, List.forall_mem_cons.mpr ⟨List.mem_of_getElem? (i := 60) rfl, List.forall_mem_cons.mpr ⟨List.mem_of_getElem? (i := 61) rfl, List.forall_mem_cons.mpr ⟨List.mem_of_getElem? (i := 62) rfl, List.forall_mem_cons.mpr ⟨List.mem_of_getElem? (i := 63) rfl, List.forall_mem_cons.mpr ⟨List.mem_of_getElem? (i := 64) rfl, List.forall_mem_cons.mpr ⟨List.mem_of_getElem? (i := 65) rfl, List.forall_mem_cons.mpr ⟨List.mem_of_getElem? (i := 66) rfl, fun _ h => absurd h List.not_mem_nil⟩⟩⟩⟩⟩⟩⟩⟩⟩⟩⟩⟩⟩⟩⟩⟩⟩⟩⟩⟩⟩
def j_X12_isWished_171 (N : Nat) (k_4 : (Int32 × Int32 × Int32 × Int32 × Int32 × (Nat → Int64) × (Nat → Int32)) → Option (Int32 × Int32 × Int32 × Int32 × (Nat → Int64) × (Nat → Int32))) (v2 : Int32) (v3 : Int32) (s0 : Int32) (s1 : Int32) (m_primeMany : Int32) (m_unlike : Int32) (m_isFree : Int32) (a_mprimes : Nat → Int64) (a_mpile : Nat → Int32) : Option (Int32 × Int32 × Int32 × Int32 × (Nat → Int64) × (Nat → Int32)) :=
  if s1 < 0 ∨ 9 ≤ s1.toNatClampNeg then
    none
  else
    xl (v3 + (1 : Int32)) fun y21z =>
    k_4 (v2, y21z, m_primeMany, m_unlike, m_isFree, a_mprimes, upd a_mpile s1.toNatClampNeg (vp_nar .boolean s0))
set_option maxRecDepth 100000 in
set_option maxHeartbeats 4000000 in
theorem k_X12_isWished_171 {p : Program} {l : Launch} {e : Env} {s : State} {m : MethodId} {args : Array Value} {below : List Frame} {meth : Method} {c : Code} {dC : Nat → ClassId} {dI : Nat → Nat → Nat} {cyI cyJ cyZ : ClassId} {A : Nat → Prop} (C0 : mC p s m meth c args cX12_isWished (some .boolean) 7 RX12 wsX12_isWished (gK dC dI cyI cyJ cyZ) A) (N : Nat) (res : Int32 × Int32 × Int32 × Int32 × (Nat → Int64) × (Nat → Int32)) (q_Md : Nat) (q_mtext : Nat) (q_mprimes : Nat) (q_mtable : Nat) (q_misOdd : Nat) (q_misHigh : Nat) (q_misTop : Nat) (q_mpile : Nat) (q_mtold : Nat) (q_mstretch : Nat) (q_mfewest : Nat) (q_mbits : Nat) (v1 : Int32) (s0 : Int32) (s1 : Int32) (m_length : Int32) (m_toldMany : Int32) (m_fate : Int32) (m_tail : Int32) (m_round : Int32) (m_tableKind : Int32) (m_areLaid : Int32) (a_mtext : Nat → Int32) (a_mtable : Nat → Int32) (a_misOdd : Nat → Int32) (a_misHigh : Nat → Int32) (a_misTop : Nat → Int32) (k_4 : (Int32 × Int32 × Int32 × Int32 × Int32 × (Nat → Int64) × (Nat → Int32)) → Option (Int32 × Int32 × Int32 × Int32 × (Nat → Int64) × (Nat → Int32))) (hk_4 : ∀ (v2 : Int32) (v3 : Int32) (m_primeMany : Int32) (m_unlike : Int32) (m_isFree : Int32) (a_mprimes : Nat → Int64) (a_mpile : Nat → Int32), k_4 (v2, v3, m_primeMany, m_unlike, m_isFree, a_mprimes, a_mpile) = some res → ∀ (H : Heap) (locs : List Loc), va_P (dC, dI) vwCl (wd66 cyI cyJ cyZ q_Md q_mtext q_mprimes q_mtable q_misOdd q_misHigh q_misTop q_mpile q_mtold q_mstretch q_mfewest q_mbits m_length m_primeMany m_toldMany m_fate m_tail m_round m_tableKind m_areLaid m_unlike m_isFree a_mtext a_mprimes a_mtable a_misOdd a_misHigh a_misTop a_mpile) H → va_D A (wd66 cyI cyJ cyZ q_Md q_mtext q_mprimes q_mtable q_misOdd q_misHigh q_misTop q_mpile q_mtold q_mstretch q_mfewest q_mbits m_length m_primeMany m_toldMany m_fate m_tail m_round m_tableKind m_areLaid m_unlike m_isFree a_mtext a_mprimes a_mtable a_misOdd a_misHigh a_misTop a_mpile) → va_S A s.heap H locs → ∀ (ls : Array Slot), lv_has ls 7 [(0, .ref q_Md), (1, .int v1), (2, .int v2), (3, .int v3)] → W p l e (headSpec wsX12_isWished rm_X12_isWished).room s m args below meth c H locs 0 0 (MQ below (va_Qi (fun (r : Int32) (_ : Unit) => r = res.1) (bW dC dI (fun (u : Unit) => (wd66 cyI cyJ cyZ q_Md q_mtext q_mprimes q_mtable q_misOdd q_misHigh q_misTop q_mpile q_mtold q_mstretch q_mfewest q_mbits m_length res.2.1 m_toldMany m_fate m_tail m_round m_tableKind m_areLaid res.2.2.1 res.2.2.2.1 a_mtext res.2.2.2.2.1 a_mtable a_misOdd a_misHigh a_misTop res.2.2.2.2.2)) A) A) args s 0 0 A) (F0 m 4 ls [])) (v2 : Int32) (v3 : Int32) (m_primeMany : Int32) (m_unlike : Int32) (m_isFree : Int32) (a_mprimes : Nat → Int64) (a_mpile : Nat → Int32) (h : j_X12_isWished_171 N k_4 v2 v3 s0 s1 m_primeMany m_unlike m_isFree a_mprimes a_mpile = some res) : ∀ (H : Heap) (locs : List Loc), va_P (dC, dI) vwCl (wd66 cyI cyJ cyZ q_Md q_mtext q_mprimes q_mtable q_misOdd q_misHigh q_misTop q_mpile q_mtold q_mstretch q_mfewest q_mbits m_length m_primeMany m_toldMany m_fate m_tail m_round m_tableKind m_areLaid m_unlike m_isFree a_mtext a_mprimes a_mtable a_misOdd a_misHigh a_misTop a_mpile) H → va_D A (wd66 cyI cyJ cyZ q_Md q_mtext q_mprimes q_mtable q_misOdd q_misHigh q_misTop q_mpile q_mtold q_mstretch q_mfewest q_mbits m_length m_primeMany m_toldMany m_fate m_tail m_round m_tableKind m_areLaid m_unlike m_isFree a_mtext a_mprimes a_mtable a_misOdd a_misHigh a_misTop a_mpile) → va_S A s.heap H locs → ∀ (ls : Array Slot), lv_has ls 7 [(0, .ref q_Md), (1, .int v1), (2, .int v2), (3, .int v3)] → W p l e (headSpec wsX12_isWished rm_X12_isWished).room s m args below meth c H locs 0 0 (MQ below (va_Qi (fun (r : Int32) (_ : Unit) => r = res.1) (bW dC dI (fun (u : Unit) => (wd66 cyI cyJ cyZ q_Md q_mtext q_mprimes q_mtable q_misOdd q_misHigh q_misTop q_mpile q_mtold q_mstretch q_mfewest q_mbits m_length res.2.1 m_toldMany m_fate m_tail m_round m_tableKind m_areLaid res.2.2.1 res.2.2.2.1 a_mtext res.2.2.2.2.1 a_mtable a_misOdd a_misHigh a_misTop res.2.2.2.2.2)) A) A) args s 0 0 A) (F0 m 171 ls [.int s0, .int s1, .ref q_mpile]) := by
  obtain ⟨hx, hb, hr, hml, hown, hts, hlocks, hG, hA⟩ := id C0
  have hK := hG.1
  intro H locs hP hD hS ls hl
  unfold j_X12_isWished_171 at h
  obtain ⟨b20z, h⟩ := xn h
  refine va_zast hx hb hK hP hD hS 7 2 rfl rfl b20z dX12_isWished_171 (fun H locs hP hD hS => ?_)
  have hP : va_P (dC, dI) vwCl (wd66 cyI cyJ cyZ q_Md q_mtext q_mprimes q_mtable q_misOdd q_misHigh q_misTop q_mpile q_mtold q_mstretch q_mfewest q_mbits m_length m_primeMany m_toldMany m_fate m_tail m_round m_tableKind m_areLaid m_unlike m_isFree a_mtext a_mprimes a_mtable a_misOdd a_misHigh a_misTop (upd a_mpile s1.toNatClampNeg (vp_nar .boolean s0))) H := hP
  have hD : va_D A (wd66 cyI cyJ cyZ q_Md q_mtext q_mprimes q_mtable q_misOdd q_misHigh q_misTop q_mpile q_mtold q_mstretch q_mfewest q_mbits m_length m_primeMany m_toldMany m_fate m_tail m_round m_tableKind m_areLaid m_unlike m_isFree a_mtext a_mprimes a_mtable a_misOdd a_misHigh a_misTop (upd a_mpile s1.toNatClampNeg (vp_nar .boolean s0))) := hD
  obtain ⟨y21z, ey21z⟩ : ∃ z : Int32, z = v3 + (1 : Int32) := ⟨_, rfl⟩
  have h := xl_at h ey21z
  refine lv_iinc (v := y21z) (lv' := [(3, .int y21z), (0, .ref q_Md), (1, .int v1), (2, .int v2)]) hx hb dX12_isWished_172 hl (k := 3) rfl (by rw [ey21z]; rfl) (by decide) rfl (fun ls hl => ?_)
  refine lv_goto (tgt := 4) hx hb dX12_isWished_175 (by decide) ?_
  exact hk_4 v2 y21z m_primeMany m_unlike m_isFree a_mprimes (upd a_mpile s1.toNatClampNeg (vp_nar .boolean s0)) h _ _ hP hD hS _ (lv_sub hl [1, 2, 3, 0] rfl)
def j_X12_isWished_151 (N : Nat) (k_4 : (Int32 × Int32 × Int32 × Int32 × Int32 × (Nat → Int64) × (Nat → Int32)) → Option (Int32 × Int32 × Int32 × Int32 × (Nat → Int64) × (Nat → Int32))) (v2 : Int32) (v3 : Int32) (s0 : Int32) (m_primeMany : Int32) (m_unlike : Int32) (m_isFree : Int32) (a_mprimes : Nat → Int64) (a_mpile : Nat → Int32) : Option (Int32 × Int32 × Int32 × Int32 × (Nat → Int64) × (Nat → Int32)) :=
  j_X12_isWished_171 N k_4 v2 v3 (1 : Int32) s0 m_primeMany m_unlike m_isFree a_mprimes a_mpile
set_option maxRecDepth 100000 in
set_option maxHeartbeats 4000000 in
theorem k_X12_isWished_151 {p : Program} {l : Launch} {e : Env} {s : State} {m : MethodId} {args : Array Value} {below : List Frame} {meth : Method} {c : Code} {dC : Nat → ClassId} {dI : Nat → Nat → Nat} {cyI cyJ cyZ : ClassId} {A : Nat → Prop} (C0 : mC p s m meth c args cX12_isWished (some .boolean) 7 RX12 wsX12_isWished (gK dC dI cyI cyJ cyZ) A) (N : Nat) (res : Int32 × Int32 × Int32 × Int32 × (Nat → Int64) × (Nat → Int32)) (q_Md : Nat) (q_mtext : Nat) (q_mprimes : Nat) (q_mtable : Nat) (q_misOdd : Nat) (q_misHigh : Nat) (q_misTop : Nat) (q_mpile : Nat) (q_mtold : Nat) (q_mstretch : Nat) (q_mfewest : Nat) (q_mbits : Nat) (v1 : Int32) (s0 : Int32) (m_length : Int32) (m_toldMany : Int32) (m_fate : Int32) (m_tail : Int32) (m_round : Int32) (m_tableKind : Int32) (m_areLaid : Int32) (a_mtext : Nat → Int32) (a_mtable : Nat → Int32) (a_misOdd : Nat → Int32) (a_misHigh : Nat → Int32) (a_misTop : Nat → Int32) (k_4 : (Int32 × Int32 × Int32 × Int32 × Int32 × (Nat → Int64) × (Nat → Int32)) → Option (Int32 × Int32 × Int32 × Int32 × (Nat → Int64) × (Nat → Int32))) (hk_4 : ∀ (v2 : Int32) (v3 : Int32) (m_primeMany : Int32) (m_unlike : Int32) (m_isFree : Int32) (a_mprimes : Nat → Int64) (a_mpile : Nat → Int32), k_4 (v2, v3, m_primeMany, m_unlike, m_isFree, a_mprimes, a_mpile) = some res → ∀ (H : Heap) (locs : List Loc), va_P (dC, dI) vwCl (wd66 cyI cyJ cyZ q_Md q_mtext q_mprimes q_mtable q_misOdd q_misHigh q_misTop q_mpile q_mtold q_mstretch q_mfewest q_mbits m_length m_primeMany m_toldMany m_fate m_tail m_round m_tableKind m_areLaid m_unlike m_isFree a_mtext a_mprimes a_mtable a_misOdd a_misHigh a_misTop a_mpile) H → va_D A (wd66 cyI cyJ cyZ q_Md q_mtext q_mprimes q_mtable q_misOdd q_misHigh q_misTop q_mpile q_mtold q_mstretch q_mfewest q_mbits m_length m_primeMany m_toldMany m_fate m_tail m_round m_tableKind m_areLaid m_unlike m_isFree a_mtext a_mprimes a_mtable a_misOdd a_misHigh a_misTop a_mpile) → va_S A s.heap H locs → ∀ (ls : Array Slot), lv_has ls 7 [(0, .ref q_Md), (1, .int v1), (2, .int v2), (3, .int v3)] → W p l e (headSpec wsX12_isWished rm_X12_isWished).room s m args below meth c H locs 0 0 (MQ below (va_Qi (fun (r : Int32) (_ : Unit) => r = res.1) (bW dC dI (fun (u : Unit) => (wd66 cyI cyJ cyZ q_Md q_mtext q_mprimes q_mtable q_misOdd q_misHigh q_misTop q_mpile q_mtold q_mstretch q_mfewest q_mbits m_length res.2.1 m_toldMany m_fate m_tail m_round m_tableKind m_areLaid res.2.2.1 res.2.2.2.1 a_mtext res.2.2.2.2.1 a_mtable a_misOdd a_misHigh a_misTop res.2.2.2.2.2)) A) A) args s 0 0 A) (F0 m 4 ls [])) (v2 : Int32) (v3 : Int32) (m_primeMany : Int32) (m_unlike : Int32) (m_isFree : Int32) (a_mprimes : Nat → Int64) (a_mpile : Nat → Int32) (h : j_X12_isWished_151 N k_4 v2 v3 s0 m_primeMany m_unlike m_isFree a_mprimes a_mpile = some res) : ∀ (H : Heap) (locs : List Loc), va_P (dC, dI) vwCl (wd66 cyI cyJ cyZ q_Md q_mtext q_mprimes q_mtable q_misOdd q_misHigh q_misTop q_mpile q_mtold q_mstretch q_mfewest q_mbits m_length m_primeMany m_toldMany m_fate m_tail m_round m_tableKind m_areLaid m_unlike m_isFree a_mtext a_mprimes a_mtable a_misOdd a_misHigh a_misTop a_mpile) H → va_D A (wd66 cyI cyJ cyZ q_Md q_mtext q_mprimes q_mtable q_misOdd q_misHigh q_misTop q_mpile q_mtold q_mstretch q_mfewest q_mbits m_length m_primeMany m_toldMany m_fate m_tail m_round m_tableKind m_areLaid m_unlike m_isFree a_mtext a_mprimes a_mtable a_misOdd a_misHigh a_misTop a_mpile) → va_S A s.heap H locs → ∀ (ls : Array Slot), lv_has ls 7 [(0, .ref q_Md), (1, .int v1), (2, .int v2), (3, .int v3)] → W p l e (headSpec wsX12_isWished rm_X12_isWished).room s m args below meth c H locs 0 0 (MQ below (va_Qi (fun (r : Int32) (_ : Unit) => r = res.1) (bW dC dI (fun (u : Unit) => (wd66 cyI cyJ cyZ q_Md q_mtext q_mprimes q_mtable q_misOdd q_misHigh q_misTop q_mpile q_mtold q_mstretch q_mfewest q_mbits m_length res.2.1 m_toldMany m_fate m_tail m_round m_tableKind m_areLaid res.2.2.1 res.2.2.2.1 a_mtext res.2.2.2.2.1 a_mtable a_misOdd a_misHigh a_misTop res.2.2.2.2.2)) A) A) args s 0 0 A) (F0 m 151 ls [.int s0, .ref q_mpile]) := by
  obtain ⟨hx, hb, hr, hml, hown, hts, hlocks, hG, hA⟩ := id C0
  have hK := hG.1
  intro H locs hP hD hS ls hl
  unfold j_X12_isWished_151 at h
  refine lv_iconst (v := (1 : Int32)) hx hb dX12_isWished_151 (by decide) ?_
  refine lv_goto (tgt := 171) hx hb dX12_isWished_152 (by decide) ?_
  exact k_X12_isWished_171 C0 N res q_Md q_mtext q_mprimes q_mtable q_misOdd q_misHigh q_misTop q_mpile q_mtold q_mstretch q_mfewest q_mbits v1 (1 : Int32) s0 m_length m_toldMany m_fate m_tail m_round m_tableKind m_areLaid a_mtext a_mtable a_misOdd a_misHigh a_misTop k_4 hk_4 v2 v3 m_primeMany m_unlike m_isFree a_mprimes a_mpile  h _ _ hP hD hS _ (lv_sub hl [0, 1, 2, 3] rfl)
def j_X12_isWished_130 (N : Nat) (k_4 : (Int32 × Int32 × Int32 × Int32 × Int32 × (Nat → Int64) × (Nat → Int32)) → Option (Int32 × Int32 × Int32 × Int32 × (Nat → Int64) × (Nat → Int32))) (v2 : Int32) (v3 : Int32) (s0 : Int32) (m_primeMany : Int32) (m_unlike : Int32) (m_isFree : Int32) (a_mprimes : Nat → Int64) (a_mpile : Nat → Int32) : Option (Int32 × Int32 × Int32 × Int32 × (Nat → Int64) × (Nat → Int32)) :=
  j_X12_isWished_171 N k_4 v2 v3 (0 : Int32) s0 m_primeMany m_unlike m_isFree a_mprimes a_mpile
set_option maxRecDepth 100000 in
set_option maxHeartbeats 4000000 in
theorem k_X12_isWished_130 {p : Program} {l : Launch} {e : Env} {s : State} {m : MethodId} {args : Array Value} {below : List Frame} {meth : Method} {c : Code} {dC : Nat → ClassId} {dI : Nat → Nat → Nat} {cyI cyJ cyZ : ClassId} {A : Nat → Prop} (C0 : mC p s m meth c args cX12_isWished (some .boolean) 7 RX12 wsX12_isWished (gK dC dI cyI cyJ cyZ) A) (N : Nat) (res : Int32 × Int32 × Int32 × Int32 × (Nat → Int64) × (Nat → Int32)) (q_Md : Nat) (q_mtext : Nat) (q_mprimes : Nat) (q_mtable : Nat) (q_misOdd : Nat) (q_misHigh : Nat) (q_misTop : Nat) (q_mpile : Nat) (q_mtold : Nat) (q_mstretch : Nat) (q_mfewest : Nat) (q_mbits : Nat) (v1 : Int32) (s0 : Int32) (m_length : Int32) (m_toldMany : Int32) (m_fate : Int32) (m_tail : Int32) (m_round : Int32) (m_tableKind : Int32) (m_areLaid : Int32) (a_mtext : Nat → Int32) (a_mtable : Nat → Int32) (a_misOdd : Nat → Int32) (a_misHigh : Nat → Int32) (a_misTop : Nat → Int32) (k_4 : (Int32 × Int32 × Int32 × Int32 × Int32 × (Nat → Int64) × (Nat → Int32)) → Option (Int32 × Int32 × Int32 × Int32 × (Nat → Int64) × (Nat → Int32))) (hk_4 : ∀ (v2 : Int32) (v3 : Int32) (m_primeMany : Int32) (m_unlike : Int32) (m_isFree : Int32) (a_mprimes : Nat → Int64) (a_mpile : Nat → Int32), k_4 (v2, v3, m_primeMany, m_unlike, m_isFree, a_mprimes, a_mpile) = some res → ∀ (H : Heap) (locs : List Loc), va_P (dC, dI) vwCl (wd66 cyI cyJ cyZ q_Md q_mtext q_mprimes q_mtable q_misOdd q_misHigh q_misTop q_mpile q_mtold q_mstretch q_mfewest q_mbits m_length m_primeMany m_toldMany m_fate m_tail m_round m_tableKind m_areLaid m_unlike m_isFree a_mtext a_mprimes a_mtable a_misOdd a_misHigh a_misTop a_mpile) H → va_D A (wd66 cyI cyJ cyZ q_Md q_mtext q_mprimes q_mtable q_misOdd q_misHigh q_misTop q_mpile q_mtold q_mstretch q_mfewest q_mbits m_length m_primeMany m_toldMany m_fate m_tail m_round m_tableKind m_areLaid m_unlike m_isFree a_mtext a_mprimes a_mtable a_misOdd a_misHigh a_misTop a_mpile) → va_S A s.heap H locs → ∀ (ls : Array Slot), lv_has ls 7 [(0, .ref q_Md), (1, .int v1), (2, .int v2), (3, .int v3)] → W p l e (headSpec wsX12_isWished rm_X12_isWished).room s m args below meth c H locs 0 0 (MQ below (va_Qi (fun (r : Int32) (_ : Unit) => r = res.1) (bW dC dI (fun (u : Unit) => (wd66 cyI cyJ cyZ q_Md q_mtext q_mprimes q_mtable q_misOdd q_misHigh q_misTop q_mpile q_mtold q_mstretch q_mfewest q_mbits m_length res.2.1 m_toldMany m_fate m_tail m_round m_tableKind m_areLaid res.2.2.1 res.2.2.2.1 a_mtext res.2.2.2.2.1 a_mtable a_misOdd a_misHigh a_misTop res.2.2.2.2.2)) A) A) args s 0 0 A) (F0 m 4 ls [])) (v2 : Int32) (v3 : Int32) (m_primeMany : Int32) (m_unlike : Int32) (m_isFree : Int32) (a_mprimes : Nat → Int64) (a_mpile : Nat → Int32) (h : j_X12_isWished_130 N k_4 v2 v3 s0 m_primeMany m_unlike m_isFree a_mprimes a_mpile = some res) : ∀ (H : Heap) (locs : List Loc), va_P (dC, dI) vwCl (wd66 cyI cyJ cyZ q_Md q_mtext q_mprimes q_mtable q_misOdd q_misHigh q_misTop q_mpile q_mtold q_mstretch q_mfewest q_mbits m_length m_primeMany m_toldMany m_fate m_tail m_round m_tableKind m_areLaid m_unlike m_isFree a_mtext a_mprimes a_mtable a_misOdd a_misHigh a_misTop a_mpile) H → va_D A (wd66 cyI cyJ cyZ q_Md q_mtext q_mprimes q_mtable q_misOdd q_misHigh q_misTop q_mpile q_mtold q_mstretch q_mfewest q_mbits m_length m_primeMany m_toldMany m_fate m_tail m_round m_tableKind m_areLaid m_unlike m_isFree a_mtext a_mprimes a_mtable a_misOdd a_misHigh a_misTop a_mpile) → va_S A s.heap H locs → ∀ (ls : Array Slot), lv_has ls 7 [(0, .ref q_Md), (1, .int v1), (2, .int v2), (3, .int v3)] → W p l e (headSpec wsX12_isWished rm_X12_isWished).room s m args below meth c H locs 0 0 (MQ below (va_Qi (fun (r : Int32) (_ : Unit) => r = res.1) (bW dC dI (fun (u : Unit) => (wd66 cyI cyJ cyZ q_Md q_mtext q_mprimes q_mtable q_misOdd q_misHigh q_misTop q_mpile q_mtold q_mstretch q_mfewest q_mbits m_length res.2.1 m_toldMany m_fate m_tail m_round m_tableKind m_areLaid res.2.2.1 res.2.2.2.1 a_mtext res.2.2.2.2.1 a_mtable a_misOdd a_misHigh a_misTop res.2.2.2.2.2)) A) A) args s 0 0 A) (F0 m 130 ls [.int s0, .ref q_mpile]) := by
  obtain ⟨hx, hb, hr, hml, hown, hts, hlocks, hG, hA⟩ := id C0
  have hK := hG.1
  intro H locs hP hD hS ls hl
  unfold j_X12_isWished_130 at h
  refine lv_iconst (v := (0 : Int32)) hx hb dX12_isWished_130 (by decide) ?_
  refine lv_goto (tgt := 171) hx hb dX12_isWished_131 (by decide) ?_
  exact k_X12_isWished_171 C0 N res q_Md q_mtext q_mprimes q_mtable q_misOdd q_misHigh q_misTop q_mpile q_mtold q_mstretch q_mfewest q_mbits v1 (0 : Int32) s0 m_length m_toldMany m_fate m_tail m_round m_tableKind m_areLaid a_mtext a_mtable a_misOdd a_misHigh a_misTop k_4 hk_4 v2 v3 m_primeMany m_unlike m_isFree a_mprimes a_mpile  h _ _ hP hD hS _ (lv_sub hl [0, 1, 2, 3] rfl)
def j_X12_isWished_77 (N : Nat) (k_4 : (Int32 × Int32 × Int32 × Int32 × Int32 × (Nat → Int64) × (Nat → Int32)) → Option (Int32 × Int32 × Int32 × Int32 × (Nat → Int64) × (Nat → Int32))) (v2 : Int32) (v3 : Int32) (s0 : Int32) (s1 : Int32) (m_primeMany : Int32) (m_unlike : Int32) (m_isFree : Int32) (a_mprimes : Nat → Int64) (a_mpile : Nat → Int32) : Option (Int32 × Int32 × Int32 × Int32 × (Nat → Int64) × (Nat → Int32)) :=
  if s1 < 0 ∨ 9 ≤ s1.toNatClampNeg then
    none
  else
    xl (v3 + (1 : Int32)) fun y30z =>
    k_4 (v2, y30z, m_primeMany, m_unlike, m_isFree, a_mprimes, upd a_mpile s1.toNatClampNeg (vp_nar .boolean s0))
set_option maxRecDepth 100000 in
set_option maxHeartbeats 4000000 in
theorem k_X12_isWished_77 {p : Program} {l : Launch} {e : Env} {s : State} {m : MethodId} {args : Array Value} {below : List Frame} {meth : Method} {c : Code} {dC : Nat → ClassId} {dI : Nat → Nat → Nat} {cyI cyJ cyZ : ClassId} {A : Nat → Prop} (C0 : mC p s m meth c args cX12_isWished (some .boolean) 7 RX12 wsX12_isWished (gK dC dI cyI cyJ cyZ) A) (N : Nat) (res : Int32 × Int32 × Int32 × Int32 × (Nat → Int64) × (Nat → Int32)) (q_Md : Nat) (q_mtext : Nat) (q_mprimes : Nat) (q_mtable : Nat) (q_misOdd : Nat) (q_misHigh : Nat) (q_misTop : Nat) (q_mpile : Nat) (q_mtold : Nat) (q_mstretch : Nat) (q_mfewest : Nat) (q_mbits : Nat) (v1 : Int32) (s0 : Int32) (s1 : Int32) (m_length : Int32) (m_toldMany : Int32) (m_fate : Int32) (m_tail : Int32) (m_round : Int32) (m_tableKind : Int32) (m_areLaid : Int32) (a_mtext : Nat → Int32) (a_mtable : Nat → Int32) (a_misOdd : Nat → Int32) (a_misHigh : Nat → Int32) (a_misTop : Nat → Int32) (k_4 : (Int32 × Int32 × Int32 × Int32 × Int32 × (Nat → Int64) × (Nat → Int32)) → Option (Int32 × Int32 × Int32 × Int32 × (Nat → Int64) × (Nat → Int32))) (hk_4 : ∀ (v2 : Int32) (v3 : Int32) (m_primeMany : Int32) (m_unlike : Int32) (m_isFree : Int32) (a_mprimes : Nat → Int64) (a_mpile : Nat → Int32), k_4 (v2, v3, m_primeMany, m_unlike, m_isFree, a_mprimes, a_mpile) = some res → ∀ (H : Heap) (locs : List Loc), va_P (dC, dI) vwCl (wd66 cyI cyJ cyZ q_Md q_mtext q_mprimes q_mtable q_misOdd q_misHigh q_misTop q_mpile q_mtold q_mstretch q_mfewest q_mbits m_length m_primeMany m_toldMany m_fate m_tail m_round m_tableKind m_areLaid m_unlike m_isFree a_mtext a_mprimes a_mtable a_misOdd a_misHigh a_misTop a_mpile) H → va_D A (wd66 cyI cyJ cyZ q_Md q_mtext q_mprimes q_mtable q_misOdd q_misHigh q_misTop q_mpile q_mtold q_mstretch q_mfewest q_mbits m_length m_primeMany m_toldMany m_fate m_tail m_round m_tableKind m_areLaid m_unlike m_isFree a_mtext a_mprimes a_mtable a_misOdd a_misHigh a_misTop a_mpile) → va_S A s.heap H locs → ∀ (ls : Array Slot), lv_has ls 7 [(0, .ref q_Md), (1, .int v1), (2, .int v2), (3, .int v3)] → W p l e (headSpec wsX12_isWished rm_X12_isWished).room s m args below meth c H locs 0 0 (MQ below (va_Qi (fun (r : Int32) (_ : Unit) => r = res.1) (bW dC dI (fun (u : Unit) => (wd66 cyI cyJ cyZ q_Md q_mtext q_mprimes q_mtable q_misOdd q_misHigh q_misTop q_mpile q_mtold q_mstretch q_mfewest q_mbits m_length res.2.1 m_toldMany m_fate m_tail m_round m_tableKind m_areLaid res.2.2.1 res.2.2.2.1 a_mtext res.2.2.2.2.1 a_mtable a_misOdd a_misHigh a_misTop res.2.2.2.2.2)) A) A) args s 0 0 A) (F0 m 4 ls [])) (v2 : Int32) (v3 : Int32) (m_primeMany : Int32) (m_unlike : Int32) (m_isFree : Int32) (a_mprimes : Nat → Int64) (a_mpile : Nat → Int32) (h : j_X12_isWished_77 N k_4 v2 v3 s0 s1 m_primeMany m_unlike m_isFree a_mprimes a_mpile = some res) : ∀ (H : Heap) (locs : List Loc), va_P (dC, dI) vwCl (wd66 cyI cyJ cyZ q_Md q_mtext q_mprimes q_mtable q_misOdd q_misHigh q_misTop q_mpile q_mtold q_mstretch q_mfewest q_mbits m_length m_primeMany m_toldMany m_fate m_tail m_round m_tableKind m_areLaid m_unlike m_isFree a_mtext a_mprimes a_mtable a_misOdd a_misHigh a_misTop a_mpile) H → va_D A (wd66 cyI cyJ cyZ q_Md q_mtext q_mprimes q_mtable q_misOdd q_misHigh q_misTop q_mpile q_mtold q_mstretch q_mfewest q_mbits m_length m_primeMany m_toldMany m_fate m_tail m_round m_tableKind m_areLaid m_unlike m_isFree a_mtext a_mprimes a_mtable a_misOdd a_misHigh a_misTop a_mpile) → va_S A s.heap H locs → ∀ (ls : Array Slot), lv_has ls 7 [(0, .ref q_Md), (1, .int v1), (2, .int v2), (3, .int v3)] → W p l e (headSpec wsX12_isWished rm_X12_isWished).room s m args below meth c H locs 0 0 (MQ below (va_Qi (fun (r : Int32) (_ : Unit) => r = res.1) (bW dC dI (fun (u : Unit) => (wd66 cyI cyJ cyZ q_Md q_mtext q_mprimes q_mtable q_misOdd q_misHigh q_misTop q_mpile q_mtold q_mstretch q_mfewest q_mbits m_length res.2.1 m_toldMany m_fate m_tail m_round m_tableKind m_areLaid res.2.2.1 res.2.2.2.1 a_mtext res.2.2.2.2.1 a_mtable a_misOdd a_misHigh a_misTop res.2.2.2.2.2)) A) A) args s 0 0 A) (F0 m 77 ls [.int s0, .int s1, .ref q_mpile]) := by
  obtain ⟨hx, hb, hr, hml, hown, hts, hlocks, hG, hA⟩ := id C0
  have hK := hG.1
  intro H locs hP hD hS ls hl
  unfold j_X12_isWished_77 at h
  obtain ⟨b29z, h⟩ := xn h
  refine va_zast hx hb hK hP hD hS 7 2 rfl rfl b29z dX12_isWished_77 (fun H locs hP hD hS => ?_)
  have hP : va_P (dC, dI) vwCl (wd66 cyI cyJ cyZ q_Md q_mtext q_mprimes q_mtable q_misOdd q_misHigh q_misTop q_mpile q_mtold q_mstretch q_mfewest q_mbits m_length m_primeMany m_toldMany m_fate m_tail m_round m_tableKind m_areLaid m_unlike m_isFree a_mtext a_mprimes a_mtable a_misOdd a_misHigh a_misTop (upd a_mpile s1.toNatClampNeg (vp_nar .boolean s0))) H := hP
  have hD : va_D A (wd66 cyI cyJ cyZ q_Md q_mtext q_mprimes q_mtable q_misOdd q_misHigh q_misTop q_mpile q_mtold q_mstretch q_mfewest q_mbits m_length m_primeMany m_toldMany m_fate m_tail m_round m_tableKind m_areLaid m_unlike m_isFree a_mtext a_mprimes a_mtable a_misOdd a_misHigh a_misTop (upd a_mpile s1.toNatClampNeg (vp_nar .boolean s0))) := hD
  refine lv_goto (tgt := 172) hx hb dX12_isWished_78 (by decide) ?_
  obtain ⟨y30z, ey30z⟩ : ∃ z : Int32, z = v3 + (1 : Int32) := ⟨_, rfl⟩
  have h := xl_at h ey30z
  refine lv_iinc (v := y30z) (lv' := [(3, .int y30z), (0, .ref q_Md), (1, .int v1), (2, .int v2)]) hx hb dX12_isWished_172 hl (k := 3) rfl (by rw [ey30z]; rfl) (by decide) rfl (fun ls hl => ?_)
  refine lv_goto (tgt := 4) hx hb dX12_isWished_175 (by decide) ?_
  exact hk_4 v2 y30z m_primeMany m_unlike m_isFree a_mprimes (upd a_mpile s1.toNatClampNeg (vp_nar .boolean s0)) h _ _ hP hD hS _ (lv_sub hl [1, 2, 3, 0] rfl)
def s_X12_isWished_4 (N : Nat) (v1 : Int32) (m_length : Int32) (a_mtext : Nat → Int32) (a_mtable : Nat → Int32) (a_misOdd : Nat → Int32) (a_misHigh : Nat → Int32) (a_misTop : Nat → Int32) (k_4 : (Int32 × Int32 × Int32 × Int32 × Int32 × (Nat → Int64) × (Nat → Int32)) → Option (Int32 × Int32 × Int32 × Int32 × (Nat → Int64) × (Nat → Int32))) (v2 : Int32) (v3 : Int32) (m_primeMany : Int32) (m_unlike : Int32) (m_isFree : Int32) (a_mprimes : Nat → Int64) (a_mpile : Nat → Int32) : Option (Int32 × Int32 × Int32 × Int32 × (Nat → Int64) × (Nat → Int32)) :=
  if m_length ≤ v3 then
    if (0 : Int32) < 0 ∨ 9 ≤ (0 : Int32).toNatClampNeg then
      none
    else
      if a_mpile (0 : Int32).toNatClampNeg = 0 ∨ a_mpile (0 : Int32).toNatClampNeg = 1 then
        some (a_mpile (0 : Int32).toNatClampNeg, m_primeMany, m_unlike, m_isFree, a_mprimes, a_mpile)
      else
        none
  else
    if v3 < 0 ∨ 60 ≤ v3.toNatClampNeg then
      none
    else
      xl (a_mtext v3.toNatClampNeg) fun y5z =>
      Option.bind (f_X12_looks N y5z) fun r6z =>
      if r6z = 0 then
        if y5z = (126 : Int32) then
          xl (v2 - (1 : Int32)) fun y26z =>
          if y26z < 0 ∨ 9 ≤ y26z.toNatClampNeg then
            none
          else
            if (a_mpile y26z.toNatClampNeg) = 0 then
              j_X12_isWished_77 N k_4 v2 v3 (1 : Int32) (v2 - (1 : Int32)) m_primeMany m_unlike m_isFree a_mprimes a_mpile
            else
              j_X12_isWished_77 N k_4 v2 v3 (0 : Int32) (v2 - (1 : Int32)) m_primeMany m_unlike m_isFree a_mprimes a_mpile
        else
          xl (v2 + (-1 : Int32)) fun y11z =>
          xl (y11z - (1 : Int32)) fun y12z =>
          if y12z < 0 ∨ 9 ≤ y12z.toNatClampNeg then
            none
          else
            xl (a_mpile y12z.toNatClampNeg) fun y14z =>
            if y11z < 0 ∨ 9 ≤ y11z.toNatClampNeg then
              none
            else
              xl (a_mpile y11z.toNatClampNeg) fun y16z =>
              if y5z = (38 : Int32) then
                if y14z = 0 then
                  j_X12_isWished_130 N k_4 y11z v3 (y11z - (1 : Int32)) m_primeMany m_unlike m_isFree a_mprimes a_mpile
                else
                  if y16z = 0 then
                    j_X12_isWished_130 N k_4 y11z v3 (y11z - (1 : Int32)) m_primeMany m_unlike m_isFree a_mprimes a_mpile
                  else
                    j_X12_isWished_171 N k_4 y11z v3 (1 : Int32) (y11z - (1 : Int32)) m_primeMany m_unlike m_isFree a_mprimes a_mpile
              else
                if y5z = (124 : Int32) then
                  if y14z = 0 then
                    if y16z = 0 then
                      j_X12_isWished_171 N k_4 y11z v3 (0 : Int32) (y11z - (1 : Int32)) m_primeMany m_unlike m_isFree a_mprimes a_mpile
                    else
                      j_X12_isWished_151 N k_4 y11z v3 (y11z - (1 : Int32)) m_primeMany m_unlike m_isFree a_mprimes a_mpile
                  else
                    j_X12_isWished_151 N k_4 y11z v3 (y11z - (1 : Int32)) m_primeMany m_unlike m_isFree a_mprimes a_mpile
                else
                  if y14z = y16z then
                    j_X12_isWished_171 N k_4 y11z v3 (0 : Int32) (y11z - (1 : Int32)) m_primeMany m_unlike m_isFree a_mprimes a_mpile
                  else
                    j_X12_isWished_171 N k_4 y11z v3 (1 : Int32) (y11z - (1 : Int32)) m_primeMany m_unlike m_isFree a_mprimes a_mpile
      else
        Option.bind (f_X12_seen N y5z v1 m_primeMany m_unlike m_isFree a_mprimes a_mtable a_misOdd a_misHigh a_misTop) fun r31z =>
        if v2 < 0 ∨ 9 ≤ v2.toNatClampNeg then
          none
        else
          xl (v2 + (1 : Int32)) fun y35z =>
          xl (v3 + (1 : Int32)) fun y36z =>
          k_4 (y35z, y36z, r31z.2.1, r31z.2.2.1, r31z.2.2.2.1, r31z.2.2.2.2, upd a_mpile v2.toNatClampNeg (vp_nar .boolean r31z.1))
def l_X12_isWished_4 (N : Nat) (v1 : Int32) (m_length : Int32) (a_mtext : Nat → Int32) (a_mtable : Nat → Int32) (a_misOdd : Nat → Int32) (a_misHigh : Nat → Int32) (a_misTop : Nat → Int32) (n : Nat) (z : Int32 × Int32 × Int32 × Int32 × Int32 × (Nat → Int64) × (Nat → Int32)) : Option (Int32 × Int32 × Int32 × Int32 × (Nat → Int64) × (Nat → Int32)) := lp (fun k z => s_X12_isWished_4 N v1 m_length a_mtext a_mtable a_misOdd a_misHigh a_misTop k z.1 z.2.1 z.2.2.1 z.2.2.2.1 z.2.2.2.2.1 z.2.2.2.2.2.1 z.2.2.2.2.2.2) n z
set_option maxRecDepth 100000 in
set_option maxHeartbeats 4000000 in
theorem k_X12_isWished_4 {p : Program} {l : Launch} {e : Env} {s : State} {m : MethodId} {args : Array Value} {below : List Frame} {meth : Method} {c : Code} {dC : Nat → ClassId} {dI : Nat → Nat → Nat} {cyI cyJ cyZ : ClassId} {A : Nat → Prop} (C0 : mC p s m meth c args cX12_isWished (some .boolean) 7 RX12 wsX12_isWished (gK dC dI cyI cyJ cyZ) A) (N : Nat) (res : Int32 × Int32 × Int32 × Int32 × (Nat → Int64) × (Nat → Int32)) (q_Md : Nat) (q_mtext : Nat) (q_mprimes : Nat) (q_mtable : Nat) (q_misOdd : Nat) (q_misHigh : Nat) (q_misTop : Nat) (q_mpile : Nat) (q_mtold : Nat) (q_mstretch : Nat) (q_mfewest : Nat) (q_mbits : Nat) (v1 : Int32) (m_length : Int32) (m_toldMany : Int32) (m_fate : Int32) (m_tail : Int32) (m_round : Int32) (m_tableKind : Int32) (m_areLaid : Int32) (a_mtext : Nat → Int32) (a_mtable : Nat → Int32) (a_misOdd : Nat → Int32) (a_misHigh : Nat → Int32) (a_misTop : Nat → Int32) : ∀ (n : Nat) (v2 : Int32) (v3 : Int32) (m_primeMany : Int32) (m_unlike : Int32) (m_isFree : Int32) (a_mprimes : Nat → Int64) (a_mpile : Nat → Int32), l_X12_isWished_4 N v1 m_length a_mtext a_mtable a_misOdd a_misHigh a_misTop n (v2, v3, m_primeMany, m_unlike, m_isFree, a_mprimes, a_mpile) = some res → ∀ (H : Heap) (locs : List Loc), va_P (dC, dI) vwCl (wd66 cyI cyJ cyZ q_Md q_mtext q_mprimes q_mtable q_misOdd q_misHigh q_misTop q_mpile q_mtold q_mstretch q_mfewest q_mbits m_length m_primeMany m_toldMany m_fate m_tail m_round m_tableKind m_areLaid m_unlike m_isFree a_mtext a_mprimes a_mtable a_misOdd a_misHigh a_misTop a_mpile) H → va_D A (wd66 cyI cyJ cyZ q_Md q_mtext q_mprimes q_mtable q_misOdd q_misHigh q_misTop q_mpile q_mtold q_mstretch q_mfewest q_mbits m_length m_primeMany m_toldMany m_fate m_tail m_round m_tableKind m_areLaid m_unlike m_isFree a_mtext a_mprimes a_mtable a_misOdd a_misHigh a_misTop a_mpile) → va_S A s.heap H locs → ∀ (ls : Array Slot), lv_has ls 7 [(0, .ref q_Md), (1, .int v1), (2, .int v2), (3, .int v3)] → W p l e (headSpec wsX12_isWished rm_X12_isWished).room s m args below meth c H locs 0 0 (MQ below (va_Qi (fun (r : Int32) (_ : Unit) => r = res.1) (bW dC dI (fun (u : Unit) => (wd66 cyI cyJ cyZ q_Md q_mtext q_mprimes q_mtable q_misOdd q_misHigh q_misTop q_mpile q_mtold q_mstretch q_mfewest q_mbits m_length res.2.1 m_toldMany m_fate m_tail m_round m_tableKind m_areLaid res.2.2.1 res.2.2.2.1 a_mtext res.2.2.2.2.1 a_mtable a_misOdd a_misHigh a_misTop res.2.2.2.2.2)) A) A) args s 0 0 A) (F0 m 4 ls []) := by
  obtain ⟨hx, hb, hr, hml, hown, hts, hlocks, hG, hA⟩ := id C0
  have hK := hG.1
  intro n
  induction n with
  | zero =>
    intro v2 v3 m_primeMany m_unlike m_isFree a_mprimes a_mpile h
    cases h
  | succ n ih =>
    intro v2 v3 m_primeMany m_unlike m_isFree a_mprimes a_mpile h H locs hP hD hS ls hl
    have h : s_X12_isWished_4 N v1 m_length a_mtext a_mtable a_misOdd a_misHigh a_misTop (l_X12_isWished_4 N v1 m_length a_mtext a_mtable a_misOdd a_misHigh a_misTop n) v2 v3 m_primeMany m_unlike m_isFree a_mprimes a_mpile = some res := h
    unfold s_X12_isWished_4 at h
    refine lv_iload_n hx hb dX12_isWished_4 rfl (lv_at hl 3 rfl) ?_
    refine lv_aload_n hx hb dX12_isWished_5 rfl (lv_at hl 0 rfl) ?_
    refine va_get (D := (dC, dI)) (ci := 12) (v := .int m_length) (C := RX12) (T := TX12) (N := 21) hx hb hts iw_X12_isWished_X12 hown hK hP 0 rfl rfl 0 (by decide) (hts (.fieldLink RX12 157 "GoesIntoModel" "length" "I") (List.mem_of_getElem? (i := 1) rfl)) (fun _ h9 => h9) rfl dX12_isWished_6 ?_
    refine lv_icmp_ge (tgt := 178) hx hb dX12_isWished_9 (by decide) (fun c1z => ?_) (fun c1z => ?_)
    · have h := xt h c1z
      refine lv_aload_n hx hb dX12_isWished_178 rfl (lv_at hl 0 rfl) ?_
      refine va_get (D := (dC, dI)) (ci := 12) (v := .ref q_mpile) (C := RX12) (T := TX12) (N := 21) hx hb hts iw_X12_isWished_X12 hown hK hP 0 rfl rfl 20 (by decide) (hts (.fieldLink RX12 43 "GoesIntoModel" "pile" "[Z") (List.mem_of_getElem? (i := 3) rfl)) (fun _ h9 => h9) rfl dX12_isWished_179 ?_
      refine lv_iconst (v := (0 : Int32)) hx hb dX12_isWished_182 (by decide) ?_
      obtain ⟨b2z, h⟩ := xn h
      refine va_zald hx hb hK hP 7 2 rfl rfl b2z dX12_isWished_183 ?_
      obtain ⟨b3z, h⟩ := xa h
      obtain rfl := Option.some.inj h
      exact W.zret (v := a_mpile (0 : Int32).toNatClampNeg) hx hb hr (xz01 b3z) (fun t ht hW => ⟨⟨_, (), rfl, rfl, by rw [ht]; exact hP, hD⟩, hS.F ht⟩) hS.2.2 dX12_isWished_184 hlocks
    · have h := xf h c1z
      refine lv_aload_n hx hb dX12_isWished_12 rfl (lv_at hl 0 rfl) ?_
      refine va_get (D := (dC, dI)) (ci := 12) (v := .ref q_mtext) (C := RX12) (T := TX12) (N := 21) hx hb hts iw_X12_isWished_X12 hown hK hP 0 rfl rfl 1 (by decide) (hts (.fieldLink RX12 7 "GoesIntoModel" "text" "[I") (List.mem_of_getElem? (i := 2) rfl)) (fun _ h9 => h9) rfl dX12_isWished_13 ?_
      refine lv_iload_n hx hb dX12_isWished_16 rfl (lv_at hl 3 rfl) ?_
      obtain ⟨b4z, h⟩ := xn h
      refine va_iald hx hb hK hP 1 0 rfl rfl b4z dX12_isWished_17 ?_
      refine lv_topi (fun y5z ey5z => ?_)
      have h := xl_at h ey5z
      refine lv_istore (lv' := [(4, .int y5z), (0, .ref q_Md), (1, .int v1), (2, .int v2), (3, .int v3)]) hx hb dX12_isWished_18 hl (by decide) rfl (fun ls hl => ?_)
      refine lv_iload hx hb dX12_isWished_20 (lv_at hl 0 rfl) ?_
      obtain ⟨r6z, hr6z, h⟩ := xb_at h
      have hPc := hP.sub (ws' := (wd37 cyI cyJ cyZ)) [] rfl
      have hDc := hD.sub (ws' := (wd37 cyI cyJ cyZ)) [] (by decide) rfl
      refine cal_i [] [0, 1, 2, 3, 4, 5, 6, 7] (va_runS (As := [.int y5z]) (rest := []) ⟨hx, hb, hml, hown, hts⟩ (c_X12_looks l dC dI cyI cyJ cyZ N r6z H.size  y5z  hr6z) (va_cwS 1 hts gX12_isWished_X12_looks rfl rfl rfl hd_X12_looks ⟨Nat.le_of_ble_eq_true rfl, Nat.le_of_ble_eq_true rfl⟩) ⟨pC.blind, pC.pre hPc hG hDc⟩ rfl rfl hl.1 rfl (lv_room (Nat.le_of_ble_eq_true rfl)) dX12_isWished_22 ⟨Nat.zero_le _, Nat.zero_le _⟩) hP hD hS hA rfl rfl rfl (by decide) (fun x8z u7z H locs hw hP hD hS => ?_)
      obtain rfl := hw.symm
      have hP : va_P (dC, dI) vwCl (wd66 cyI cyJ cyZ q_Md q_mtext q_mprimes q_mtable q_misOdd q_misHigh q_misTop q_mpile q_mtold q_mstretch q_mfewest q_mbits m_length m_primeMany m_toldMany m_fate m_tail m_round m_tableKind m_areLaid m_unlike m_isFree a_mtext a_mprimes a_mtable a_misOdd a_misHigh a_misTop a_mpile) H := hP.sub [0, 1, 2, 3, 4, 5, 6, 7] rfl
      have hD : va_D A (wd66 cyI cyJ cyZ q_Md q_mtext q_mprimes q_mtable q_misOdd q_misHigh q_misTop q_mpile q_mtold q_mstretch q_mfewest q_mbits m_length m_primeMany m_toldMany m_fate m_tail m_round m_tableKind m_areLaid m_unlike m_isFree a_mtext a_mprimes a_mtable a_misOdd a_misHigh a_misTop a_mpile) := hD.sub [0, 1, 2, 3, 4, 5, 6, 7] (by decide) rfl
      refine lv_if_eq (tgt := 47) hx hb dX12_isWished_25 (by decide) (fun c9z => ?_) (fun c9z => ?_)
      · have h := xt h c9z
        refine lv_iload hx hb dX12_isWished_47 (lv_at hl 0 rfl) ?_
        refine lv_bipush (v := (126 : Int32)) hx hb dX12_isWished_49 (by decide) ?_
        refine lv_icmp_ne (tgt := 81) hx hb dX12_isWished_51 (by decide) (fun c10z => ?_) (fun c10z => ?_)
        · have h := xf h c10z
          obtain ⟨y11z, ey11z⟩ : ∃ z : Int32, z = v2 + (-1 : Int32) := ⟨_, rfl⟩
          have h := xl_at h ey11z
          refine lv_iinc (v := y11z) (lv' := [(2, .int y11z), (4, .int y5z), (0, .ref q_Md), (1, .int v1), (3, .int v3)]) hx hb dX12_isWished_81 hl (k := 3) rfl (by rw [ey11z]; rfl) (by decide) rfl (fun ls hl => ?_)
          refine lv_aload_n hx hb dX12_isWished_84 rfl (lv_at hl 2 rfl) ?_
          refine va_get (D := (dC, dI)) (ci := 12) (v := .ref q_mpile) (C := RX12) (T := TX12) (N := 21) hx hb hts iw_X12_isWished_X12 hown hK hP 0 rfl rfl 20 (by decide) (hts (.fieldLink RX12 43 "GoesIntoModel" "pile" "[Z") (List.mem_of_getElem? (i := 3) rfl)) (fun _ h9 => h9) rfl dX12_isWished_85 ?_
          refine lv_iload_n hx hb dX12_isWished_88 rfl (lv_at hl 0 rfl) ?_
          refine lv_iconst (v := (1 : Int32)) hx hb dX12_isWished_89 (by decide) ?_
          refine lv_isub hx hb dX12_isWished_90 ?_
          refine lv_topi (fun y12z ey12z => ?_)
          have h := xl_at h ey12z
          obtain ⟨b13z, h⟩ := xn h
          refine va_zald hx hb hK hP 7 2 rfl rfl b13z dX12_isWished_91 ?_
          refine lv_topi (fun y14z ey14z => ?_)
          have h := xl_at h ey14z
          refine lv_istore (lv' := [(5, .int y14z), (2, .int y11z), (4, .int y5z), (0, .ref q_Md), (1, .int v1), (3, .int v3)]) hx hb dX12_isWished_92 hl (by decide) rfl (fun ls hl => ?_)
          refine lv_aload_n hx hb dX12_isWished_94 rfl (lv_at hl 3 rfl) ?_
          refine va_get (D := (dC, dI)) (ci := 12) (v := .ref q_mpile) (C := RX12) (T := TX12) (N := 21) hx hb hts iw_X12_isWished_X12 hown hK hP 0 rfl rfl 20 (by decide) (hts (.fieldLink RX12 43 "GoesIntoModel" "pile" "[Z") (List.mem_of_getElem? (i := 3) rfl)) (fun _ h9 => h9) rfl dX12_isWished_95 ?_
          refine lv_iload_n hx hb dX12_isWished_98 rfl (lv_at hl 1 rfl) ?_
          obtain ⟨b15z, h⟩ := xn h
          refine va_zald hx hb hK hP 7 2 rfl rfl b15z dX12_isWished_99 ?_
          refine lv_topi (fun y16z ey16z => ?_)
          have h := xl_at h ey16z
          refine lv_istore (lv' := [(6, .int y16z), (5, .int y14z), (2, .int y11z), (4, .int y5z), (0, .ref q_Md), (1, .int v1), (3, .int v3)]) hx hb dX12_isWished_100 hl (by decide) rfl (fun ls hl => ?_)
          refine lv_aload_n hx hb dX12_isWished_102 rfl (lv_at hl 4 rfl) ?_
          refine va_get (D := (dC, dI)) (ci := 12) (v := .ref q_mpile) (C := RX12) (T := TX12) (N := 21) hx hb hts iw_X12_isWished_X12 hown hK hP 0 rfl rfl 20 (by decide) (hts (.fieldLink RX12 43 "GoesIntoModel" "pile" "[Z") (List.mem_of_getElem? (i := 3) rfl)) (fun _ h9 => h9) rfl dX12_isWished_103 ?_
          refine lv_iload_n hx hb dX12_isWished_106 rfl (lv_at hl 2 rfl) ?_
          refine lv_iconst (v := (1 : Int32)) hx hb dX12_isWished_107 (by decide) ?_
          refine lv_isub hx hb dX12_isWished_108 ?_
          refine lv_iload hx hb dX12_isWished_109 (lv_at hl 3 rfl) ?_
          refine lv_bipush (v := (38 : Int32)) hx hb dX12_isWished_111 (by decide) ?_
          refine lv_icmp_ne (tgt := 134) hx hb dX12_isWished_113 (by decide) (fun c17z => ?_) (fun c17z => ?_)
          · have h := xf h c17z
            refine lv_iload hx hb dX12_isWished_134 (lv_at hl 3 rfl) ?_
            refine lv_bipush (v := (124 : Int32)) hx hb dX12_isWished_136 (by decide) ?_
            refine lv_icmp_ne (tgt := 159) hx hb dX12_isWished_138 (by decide) (fun c18z => ?_) (fun c18z => ?_)
            · have h := xf h c18z
              refine lv_iload hx hb dX12_isWished_159 (lv_at hl 1 rfl) ?_
              refine lv_iload hx hb dX12_isWished_161 (lv_at hl 0 rfl) ?_
              refine lv_icmp_eq (tgt := 170) hx hb dX12_isWished_163 (by decide) (fun c19z => ?_) (fun c19z => ?_)
              · have h := xt h c19z
                refine lv_iconst (v := (0 : Int32)) hx hb dX12_isWished_170 (by decide) ?_
                exact k_X12_isWished_171 C0 N res q_Md q_mtext q_mprimes q_mtable q_misOdd q_misHigh q_misTop q_mpile q_mtold q_mstretch q_mfewest q_mbits v1 (0 : Int32) (y11z - (1 : Int32)) m_length m_toldMany m_fate m_tail m_round m_tableKind m_areLaid a_mtext a_mtable a_misOdd a_misHigh a_misTop _ ih y11z v3 m_primeMany m_unlike m_isFree a_mprimes a_mpile  h _ _ hP hD hS _ (lv_sub hl [4, 5, 2, 6] rfl)
              · have h := xf h c19z
                refine lv_iconst (v := (1 : Int32)) hx hb dX12_isWished_166 (by decide) ?_
                refine lv_goto (tgt := 171) hx hb dX12_isWished_167 (by decide) ?_
                exact k_X12_isWished_171 C0 N res q_Md q_mtext q_mprimes q_mtable q_misOdd q_misHigh q_misTop q_mpile q_mtold q_mstretch q_mfewest q_mbits v1 (1 : Int32) (y11z - (1 : Int32)) m_length m_toldMany m_fate m_tail m_round m_tableKind m_areLaid a_mtext a_mtable a_misOdd a_misHigh a_misTop _ ih y11z v3 m_primeMany m_unlike m_isFree a_mprimes a_mpile  h _ _ hP hD hS _ (lv_sub hl [4, 5, 2, 6] rfl)
            · have h := xt h c18z
              refine lv_iload hx hb dX12_isWished_141 (lv_at hl 1 rfl) ?_
              refine lv_if_ne (tgt := 151) hx hb dX12_isWished_143 (by decide) (fun c22z => ?_) (fun c22z => ?_)
              · have h := xf h c22z
                exact k_X12_isWished_151 C0 N res q_Md q_mtext q_mprimes q_mtable q_misOdd q_misHigh q_misTop q_mpile q_mtold q_mstretch q_mfewest q_mbits v1 (y11z - (1 : Int32)) m_length m_toldMany m_fate m_tail m_round m_tableKind m_areLaid a_mtext a_mtable a_misOdd a_misHigh a_misTop _ ih y11z v3 m_primeMany m_unlike m_isFree a_mprimes a_mpile  h _ _ hP hD hS _ (lv_sub hl [4, 5, 2, 6] rfl)
              · have h := xt h c22z
                refine lv_iload hx hb dX12_isWished_146 (lv_at hl 0 rfl) ?_
                refine lv_if_eq (tgt := 155) hx hb dX12_isWished_148 (by decide) (fun c23z => ?_) (fun c23z => ?_)
                · have h := xt h c23z
                  refine lv_iconst (v := (0 : Int32)) hx hb dX12_isWished_155 (by decide) ?_
                  refine lv_goto (tgt := 171) hx hb dX12_isWished_156 (by decide) ?_
                  exact k_X12_isWished_171 C0 N res q_Md q_mtext q_mprimes q_mtable q_misOdd q_misHigh q_misTop q_mpile q_mtold q_mstretch q_mfewest q_mbits v1 (0 : Int32) (y11z - (1 : Int32)) m_length m_toldMany m_fate m_tail m_round m_tableKind m_areLaid a_mtext a_mtable a_misOdd a_misHigh a_misTop _ ih y11z v3 m_primeMany m_unlike m_isFree a_mprimes a_mpile  h _ _ hP hD hS _ (lv_sub hl [4, 5, 2, 6] rfl)
                · have h := xf h c23z
                  exact k_X12_isWished_151 C0 N res q_Md q_mtext q_mprimes q_mtable q_misOdd q_misHigh q_misTop q_mpile q_mtold q_mstretch q_mfewest q_mbits v1 (y11z - (1 : Int32)) m_length m_toldMany m_fate m_tail m_round m_tableKind m_areLaid a_mtext a_mtable a_misOdd a_misHigh a_misTop _ ih y11z v3 m_primeMany m_unlike m_isFree a_mprimes a_mpile  h _ _ hP hD hS _ (lv_sub hl [4, 5, 2, 6] rfl)
          · have h := xt h c17z
            refine lv_iload hx hb dX12_isWished_116 (lv_at hl 1 rfl) ?_
            refine lv_if_eq (tgt := 130) hx hb dX12_isWished_118 (by decide) (fun c24z => ?_) (fun c24z => ?_)
            · have h := xt h c24z
              exact k_X12_isWished_130 C0 N res q_Md q_mtext q_mprimes q_mtable q_misOdd q_misHigh q_misTop q_mpile q_mtold q_mstretch q_mfewest q_mbits v1 (y11z - (1 : Int32)) m_length m_toldMany m_fate m_tail m_round m_tableKind m_areLaid a_mtext a_mtable a_misOdd a_misHigh a_misTop _ ih y11z v3 m_primeMany m_unlike m_isFree a_mprimes a_mpile  h _ _ hP hD hS _ (lv_sub hl [4, 5, 2, 6] rfl)
            · have h := xf h c24z
              refine lv_iload hx hb dX12_isWished_121 (lv_at hl 0 rfl) ?_
              refine lv_if_eq (tgt := 130) hx hb dX12_isWished_123 (by decide) (fun c25z => ?_) (fun c25z => ?_)
              · have h := xt h c25z
                exact k_X12_isWished_130 C0 N res q_Md q_mtext q_mprimes q_mtable q_misOdd q_misHigh q_misTop q_mpile q_mtold q_mstretch q_mfewest q_mbits v1 (y11z - (1 : Int32)) m_length m_toldMany m_fate m_tail m_round m_tableKind m_areLaid a_mtext a_mtable a_misOdd a_misHigh a_misTop _ ih y11z v3 m_primeMany m_unlike m_isFree a_mprimes a_mpile  h _ _ hP hD hS _ (lv_sub hl [4, 5, 2, 6] rfl)
              · have h := xf h c25z
                refine lv_iconst (v := (1 : Int32)) hx hb dX12_isWished_126 (by decide) ?_
                refine lv_goto (tgt := 171) hx hb dX12_isWished_127 (by decide) ?_
                exact k_X12_isWished_171 C0 N res q_Md q_mtext q_mprimes q_mtable q_misOdd q_misHigh q_misTop q_mpile q_mtold q_mstretch q_mfewest q_mbits v1 (1 : Int32) (y11z - (1 : Int32)) m_length m_toldMany m_fate m_tail m_round m_tableKind m_areLaid a_mtext a_mtable a_misOdd a_misHigh a_misTop _ ih y11z v3 m_primeMany m_unlike m_isFree a_mprimes a_mpile  h _ _ hP hD hS _ (lv_sub hl [4, 5, 2, 6] rfl)
        · have h := xt h c10z
          refine lv_aload_n hx hb dX12_isWished_54 rfl (lv_at hl 1 rfl) ?_
          refine va_get (D := (dC, dI)) (ci := 12) (v := .ref q_mpile) (C := RX12) (T := TX12) (N := 21) hx hb hts iw_X12_isWished_X12 hown hK hP 0 rfl rfl 20 (by decide) (hts (.fieldLink RX12 43 "GoesIntoModel" "pile" "[Z") (List.mem_of_getElem? (i := 3) rfl)) (fun _ h9 => h9) rfl dX12_isWished_55 ?_
          refine lv_iload_n hx hb dX12_isWished_58 rfl (lv_at hl 3 rfl) ?_
          refine lv_iconst (v := (1 : Int32)) hx hb dX12_isWished_59 (by decide) ?_
          refine lv_isub hx hb dX12_isWished_60 ?_
          refine lv_aload_n hx hb dX12_isWished_61 rfl (lv_at hl 1 rfl) ?_
          refine va_get (D := (dC, dI)) (ci := 12) (v := .ref q_mpile) (C := RX12) (T := TX12) (N := 21) hx hb hts iw_X12_isWished_X12 hown hK hP 0 rfl rfl 20 (by decide) (hts (.fieldLink RX12 43 "GoesIntoModel" "pile" "[Z") (List.mem_of_getElem? (i := 3) rfl)) (fun _ h9 => h9) rfl dX12_isWished_62 ?_
          refine lv_iload_n hx hb dX12_isWished_65 rfl (lv_at hl 3 rfl) ?_
          refine lv_iconst (v := (1 : Int32)) hx hb dX12_isWished_66 (by decide) ?_
          refine lv_isub hx hb dX12_isWished_67 ?_
          refine lv_topi (fun y26z ey26z => ?_)
          have h := xl_at h ey26z
          obtain ⟨b27z, h⟩ := xn h
          refine va_zald hx hb hK hP 7 2 rfl rfl b27z dX12_isWished_68 ?_
          refine lv_if_ne (tgt := 76) hx hb dX12_isWished_69 (by decide) (fun c28z => ?_) (fun c28z => ?_)
          · have h := xf h c28z
            refine lv_iconst (v := (0 : Int32)) hx hb dX12_isWished_76 (by decide) ?_
            exact k_X12_isWished_77 C0 N res q_Md q_mtext q_mprimes q_mtable q_misOdd q_misHigh q_misTop q_mpile q_mtold q_mstretch q_mfewest q_mbits v1 (0 : Int32) (v2 - (1 : Int32)) m_length m_toldMany m_fate m_tail m_round m_tableKind m_areLaid a_mtext a_mtable a_misOdd a_misHigh a_misTop _ ih v2 v3 m_primeMany m_unlike m_isFree a_mprimes a_mpile  h _ _ hP hD hS _ (lv_sub hl [1, 2, 3, 4] rfl)
          · have h := xt h c28z
            refine lv_iconst (v := (1 : Int32)) hx hb dX12_isWished_72 (by decide) ?_
            refine lv_goto (tgt := 77) hx hb dX12_isWished_73 (by decide) ?_
            exact k_X12_isWished_77 C0 N res q_Md q_mtext q_mprimes q_mtable q_misOdd q_misHigh q_misTop q_mpile q_mtold q_mstretch q_mfewest q_mbits v1 (1 : Int32) (v2 - (1 : Int32)) m_length m_toldMany m_fate m_tail m_round m_tableKind m_areLaid a_mtext a_mtable a_misOdd a_misHigh a_misTop _ ih v2 v3 m_primeMany m_unlike m_isFree a_mprimes a_mpile  h _ _ hP hD hS _ (lv_sub hl [1, 2, 3, 4] rfl)
      · have h := xf h c9z
        refine lv_aload_n hx hb dX12_isWished_28 rfl (lv_at hl 1 rfl) ?_
        refine va_get (D := (dC, dI)) (ci := 12) (v := .ref q_mpile) (C := RX12) (T := TX12) (N := 21) hx hb hts iw_X12_isWished_X12 hown hK hP 0 rfl rfl 20 (by decide) (hts (.fieldLink RX12 43 "GoesIntoModel" "pile" "[Z") (List.mem_of_getElem? (i := 3) rfl)) (fun _ h9 => h9) rfl dX12_isWished_29 ?_
        refine lv_iload_n hx hb dX12_isWished_32 rfl (lv_at hl 3 rfl) ?_
        refine lv_aload_n hx hb dX12_isWished_33 rfl (lv_at hl 1 rfl) ?_
        refine lv_iload hx hb dX12_isWished_34 (lv_at hl 0 rfl) ?_
        refine lv_iload_n hx hb dX12_isWished_36 rfl (lv_at hl 2 rfl) ?_
        obtain ⟨r31z, hr31z, h⟩ := xb_at h
        have hPc := hP.sub (ws' := (wd65 cyI cyJ cyZ q_Md q_mprimes q_mtable q_misOdd q_misHigh q_misTop q_mtext q_mtold q_mstretch q_mfewest q_mbits q_mpile m_length m_primeMany m_toldMany m_fate m_tail m_round m_tableKind m_areLaid m_unlike m_isFree a_mprimes a_mtable a_misOdd a_misHigh a_misTop)) [0, 2, 3, 4, 5, 6] rfl
        have hDc := hD.sub (ws' := (wd65 cyI cyJ cyZ q_Md q_mprimes q_mtable q_misOdd q_misHigh q_misTop q_mtext q_mtold q_mstretch q_mfewest q_mbits q_mpile m_length m_primeMany m_toldMany m_fate m_tail m_round m_tableKind m_areLaid m_unlike m_isFree a_mprimes a_mtable a_misOdd a_misHigh a_misTop)) [0, 2, 3, 4, 5, 6] (by decide) rfl
        refine cal_i [0, 2, 3, 4, 5, 6] [1, 7] (va_runV (As := [.int y5z, .int v1]) (rest := [.int v2, .ref q_mpile]) ⟨hx, hb, hml, hown, hts⟩ (c_X12_seen l dC dI cyI cyJ cyZ N r31z H.size q_Md q_mprimes q_mtable q_misOdd q_misHigh q_misTop q_mtext q_mtold q_mstretch q_mfewest q_mbits q_mpile y5z v1 m_length m_primeMany m_toldMany m_fate m_tail m_round m_tableKind m_areLaid m_unlike m_isFree a_mprimes a_mtable a_misOdd a_misHigh a_misTop hr31z) (cwV 2 hts gX12_isWished_X12_seen rfl rfl rfl ⟨rfl, hd_X12_seen⟩ ⟨Nat.le_of_ble_eq_true rfl, Nat.le_of_ble_eq_true rfl⟩) ⟨pC.blind, va_recv hK hPc (ci := 12) (q0 := 0) rfl rfl, pC.pre hPc hG hDc⟩ rfl rfl hl.1 rfl (lv_room (Nat.le_of_ble_eq_true rfl)) dX12_isWished_37 ⟨Nat.zero_le _, Nat.zero_le _⟩) hP hD hS hA rfl rfl rfl (by decide) (fun x33z u32z H locs hw hP hD hS => ?_)
        obtain rfl := hw.symm
        have hP : va_P (dC, dI) vwCl (wd66 cyI cyJ cyZ q_Md q_mtext q_mprimes q_mtable q_misOdd q_misHigh q_misTop q_mpile q_mtold q_mstretch q_mfewest q_mbits m_length r31z.2.1 m_toldMany m_fate m_tail m_round m_tableKind m_areLaid r31z.2.2.1 r31z.2.2.2.1 a_mtext r31z.2.2.2.2 a_mtable a_misOdd a_misHigh a_misTop a_mpile) H := hP.sub [2, 0, 3, 4, 5, 6, 7, 1] rfl
        have hD : va_D A (wd66 cyI cyJ cyZ q_Md q_mtext q_mprimes q_mtable q_misOdd q_misHigh q_misTop q_mpile q_mtold q_mstretch q_mfewest q_mbits m_length r31z.2.1 m_toldMany m_fate m_tail m_round m_tableKind m_areLaid r31z.2.2.1 r31z.2.2.2.1 a_mtext r31z.2.2.2.2 a_mtable a_misOdd a_misHigh a_misTop a_mpile) := hD.sub [2, 0, 3, 4, 5, 6, 7, 1] (by decide) rfl
        obtain ⟨b34z, h⟩ := xn h
        refine va_zast hx hb hK hP hD hS 7 2 rfl rfl b34z dX12_isWished_40 (fun H locs hP hD hS => ?_)
        have hP : va_P (dC, dI) vwCl (wd66 cyI cyJ cyZ q_Md q_mtext q_mprimes q_mtable q_misOdd q_misHigh q_misTop q_mpile q_mtold q_mstretch q_mfewest q_mbits m_length r31z.2.1 m_toldMany m_fate m_tail m_round m_tableKind m_areLaid r31z.2.2.1 r31z.2.2.2.1 a_mtext r31z.2.2.2.2 a_mtable a_misOdd a_misHigh a_misTop (upd a_mpile v2.toNatClampNeg (vp_nar .boolean r31z.1))) H := hP
        have hD : va_D A (wd66 cyI cyJ cyZ q_Md q_mtext q_mprimes q_mtable q_misOdd q_misHigh q_misTop q_mpile q_mtold q_mstretch q_mfewest q_mbits m_length r31z.2.1 m_toldMany m_fate m_tail m_round m_tableKind m_areLaid r31z.2.2.1 r31z.2.2.2.1 a_mtext r31z.2.2.2.2 a_mtable a_misOdd a_misHigh a_misTop (upd a_mpile v2.toNatClampNeg (vp_nar .boolean r31z.1))) := hD
        obtain ⟨y35z, ey35z⟩ : ∃ z : Int32, z = v2 + (1 : Int32) := ⟨_, rfl⟩
        have h := xl_at h ey35z
        refine lv_iinc (v := y35z) (lv' := [(2, .int y35z), (4, .int y5z), (0, .ref q_Md), (1, .int v1), (3, .int v3)]) hx hb dX12_isWished_41 hl (k := 3) rfl (by rw [ey35z]; rfl) (by decide) rfl (fun ls hl => ?_)
        refine lv_goto (tgt := 172) hx hb dX12_isWished_44 (by decide) ?_
        obtain ⟨y36z, ey36z⟩ : ∃ z : Int32, z = v3 + (1 : Int32) := ⟨_, rfl⟩
        have h := xl_at h ey36z
        refine lv_iinc (v := y36z) (lv' := [(3, .int y36z), (2, .int y35z), (4, .int y5z), (0, .ref q_Md), (1, .int v1)]) hx hb dX12_isWished_172 hl (k := 4) rfl (by rw [ey36z]; rfl) (by decide) rfl (fun ls hl => ?_)
        refine lv_goto (tgt := 4) hx hb dX12_isWished_175 (by decide) ?_
        exact ih y35z y36z r31z.2.1 r31z.2.2.1 r31z.2.2.2.1 r31z.2.2.2.2 (upd a_mpile v2.toNatClampNeg (vp_nar .boolean r31z.1)) h _ _ hP hD hS _ (lv_sub hl [3, 4, 1, 0] rfl)
def f_X12_isWished (N : Nat) (v1 : Int32) (m_length : Int32) (m_primeMany : Int32) (m_unlike : Int32) (m_isFree : Int32) (a_mtext : Nat → Int32) (a_mprimes : Nat → Int64) (a_mtable : Nat → Int32) (a_misOdd : Nat → Int32) (a_misHigh : Nat → Int32) (a_misTop : Nat → Int32) (a_mpile : Nat → Int32) : Option (Int32 × Int32 × Int32 × Int32 × (Nat → Int64) × (Nat → Int32)) :=
  l_X12_isWished_4 N v1 m_length a_mtext a_mtable a_misOdd a_misHigh a_misTop N ((0 : Int32), (0 : Int32), m_primeMany, m_unlike, m_isFree, a_mprimes, a_mpile)
set_option maxRecDepth 100000 in
set_option maxHeartbeats 4000000 in
theorem k_X12_isWished_0 {p : Program} {l : Launch} {e : Env} {s : State} {m : MethodId} {args : Array Value} {below : List Frame} {meth : Method} {c : Code} {dC : Nat → ClassId} {dI : Nat → Nat → Nat} {cyI cyJ cyZ : ClassId} {A : Nat → Prop} (C0 : mC p s m meth c args cX12_isWished (some .boolean) 7 RX12 wsX12_isWished (gK dC dI cyI cyJ cyZ) A) (N : Nat) (res : Int32 × Int32 × Int32 × Int32 × (Nat → Int64) × (Nat → Int32)) (q_Md : Nat) (q_mtext : Nat) (q_mprimes : Nat) (q_mtable : Nat) (q_misOdd : Nat) (q_misHigh : Nat) (q_misTop : Nat) (q_mpile : Nat) (q_mtold : Nat) (q_mstretch : Nat) (q_mfewest : Nat) (q_mbits : Nat) (v1 : Int32) (m_length : Int32) (m_primeMany : Int32) (m_toldMany : Int32) (m_fate : Int32) (m_tail : Int32) (m_round : Int32) (m_tableKind : Int32) (m_areLaid : Int32) (m_unlike : Int32) (m_isFree : Int32) (a_mtext : Nat → Int32) (a_mprimes : Nat → Int64) (a_mtable : Nat → Int32) (a_misOdd : Nat → Int32) (a_misHigh : Nat → Int32) (a_misTop : Nat → Int32) (a_mpile : Nat → Int32) (h : f_X12_isWished N v1 m_length m_primeMany m_unlike m_isFree a_mtext a_mprimes a_mtable a_misOdd a_misHigh a_misTop a_mpile = some res) : ∀ (H : Heap) (locs : List Loc), va_P (dC, dI) vwCl (wd66 cyI cyJ cyZ q_Md q_mtext q_mprimes q_mtable q_misOdd q_misHigh q_misTop q_mpile q_mtold q_mstretch q_mfewest q_mbits m_length m_primeMany m_toldMany m_fate m_tail m_round m_tableKind m_areLaid m_unlike m_isFree a_mtext a_mprimes a_mtable a_misOdd a_misHigh a_misTop a_mpile) H → va_D A (wd66 cyI cyJ cyZ q_Md q_mtext q_mprimes q_mtable q_misOdd q_misHigh q_misTop q_mpile q_mtold q_mstretch q_mfewest q_mbits m_length m_primeMany m_toldMany m_fate m_tail m_round m_tableKind m_areLaid m_unlike m_isFree a_mtext a_mprimes a_mtable a_misOdd a_misHigh a_misTop a_mpile) → va_S A s.heap H locs → ∀ (ls : Array Slot), lv_has ls 7 [(0, .ref q_Md), (1, .int v1)] → W p l e (headSpec wsX12_isWished rm_X12_isWished).room s m args below meth c H locs 0 0 (MQ below (va_Qi (fun (r : Int32) (_ : Unit) => r = res.1) (bW dC dI (fun (u : Unit) => (wd66 cyI cyJ cyZ q_Md q_mtext q_mprimes q_mtable q_misOdd q_misHigh q_misTop q_mpile q_mtold q_mstretch q_mfewest q_mbits m_length res.2.1 m_toldMany m_fate m_tail m_round m_tableKind m_areLaid res.2.2.1 res.2.2.2.1 a_mtext res.2.2.2.2.1 a_mtable a_misOdd a_misHigh a_misTop res.2.2.2.2.2)) A) A) args s 0 0 A) (F0 m 0 ls []) := by
  obtain ⟨hx, hb, hr, hml, hown, hts, hlocks, hG, hA⟩ := id C0
  have hK := hG.1
  intro H locs hP hD hS ls hl
  unfold f_X12_isWished at h
  refine lv_iconst (v := (0 : Int32)) hx hb dX12_isWished_0 (by decide) ?_
  refine lv_istore_n (lv' := [(2, .int (0 : Int32)), (0, .ref q_Md), (1, .int v1)]) hx hb dX12_isWished_1 rfl hl (by decide) rfl (fun ls hl => ?_)
  refine lv_iconst (v := (0 : Int32)) hx hb dX12_isWished_2 (by decide) ?_
  refine lv_istore_n (lv' := [(3, .int (0 : Int32)), (2, .int (0 : Int32)), (0, .ref q_Md), (1, .int v1)]) hx hb dX12_isWished_3 rfl hl (by decide) rfl (fun ls hl => ?_)
  exact k_X12_isWished_4 C0 N res q_Md q_mtext q_mprimes q_mtable q_misOdd q_misHigh q_misTop q_mpile q_mtold q_mstretch q_mfewest q_mbits v1 m_length m_toldMany m_fate m_tail m_round m_tableKind m_areLaid a_mtext a_mtable a_misOdd a_misHigh a_misTop N (0 : Int32) (0 : Int32) m_primeMany m_unlike m_isFree a_mprimes a_mpile h _ _ hP hD hS _ (lv_sub hl [2, 3, 1, 0] rfl)
set_option maxRecDepth 100000 in
set_option maxHeartbeats 4000000 in
theorem c_X12_isWished (l : Launch) (dC : Nat → ClassId) (dI : Nat → Nat → Nat) (cyI cyJ cyZ : ClassId) (N : Nat) (res : Int32 × Int32 × Int32 × Int32 × (Nat → Int64) × (Nat → Int32)) (sz : Nat) (q_Md : Nat) (q_mtext : Nat) (q_mprimes : Nat) (q_mtable : Nat) (q_misOdd : Nat) (q_misHigh : Nat) (q_misTop : Nat) (q_mpile : Nat) (q_mtold : Nat) (q_mstretch : Nat) (q_mfewest : Nat) (q_mbits : Nat) (v1 : Int32) (m_length : Int32) (m_primeMany : Int32) (m_toldMany : Int32) (m_fate : Int32) (m_tail : Int32) (m_round : Int32) (m_tableKind : Int32) (m_areLaid : Int32) (m_unlike : Int32) (m_isFree : Int32) (a_mtext : Nat → Int32) (a_mprimes : Nat → Int64) (a_mtable : Nat → Int32) (a_misOdd : Nat → Int32) (a_misHigh : Nat → Int32) (a_misTop : Nat → Int32) (a_mpile : Nat → Int32) (h : f_X12_isWished N v1 m_length m_primeMany m_unlike m_isFree a_mtext a_mprimes a_mtable a_misOdd a_misHigh a_misTop a_mpile = some res) : Met l yX12_isWished wsX12_isWished rm_X12_isWished (pC dC dI cyI cyJ cyZ [.ref q_Md, .int v1] sz (wd66 cyI cyJ cyZ q_Md q_mtext q_mprimes q_mtable q_misOdd q_misHigh q_misTop q_mpile q_mtold q_mstretch q_mfewest q_mbits m_length m_primeMany m_toldMany m_fate m_tail m_round m_tableKind m_areLaid m_unlike m_isFree a_mtext a_mprimes a_mtable a_misOdd a_misHigh a_misTop a_mpile)) (va_Qi (fun (r : Int32) (_ : Unit) => r = res.1) (bW dC dI (fun (u : Unit) => (wd66 cyI cyJ cyZ q_Md q_mtext q_mprimes q_mtable q_misOdd q_misHigh q_misTop q_mpile q_mtold q_mstretch q_mfewest q_mbits m_length res.2.1 m_toldMany m_fate m_tail m_round m_tableKind m_areLaid res.2.2.1 res.2.2.2.1 a_mtext res.2.2.2.2.1 a_mtable a_misOdd a_misHigh a_misTop res.2.2.2.2.2)) (va_A (wd66 cyI cyJ cyZ q_Md q_mtext q_mprimes q_mtable q_misOdd q_misHigh q_misTop q_mpile q_mtold q_mstretch q_mfewest q_mbits m_length m_primeMany m_toldMany m_fate m_tail m_round m_tableKind m_areLaid m_unlike m_isFree a_mtext a_mprimes a_mtable a_misOdd a_misHigh a_misTop a_mpile) sz)) (va_A (wd66 cyI cyJ cyZ q_Md q_mtext q_mprimes q_mtable q_misOdd q_misHigh q_misTop q_mpile q_mtold q_mstretch q_mfewest q_mbits m_length m_primeMany m_toldMany m_fate m_tail m_round m_tableKind m_areLaid m_unlike m_isFree a_mtext a_mprimes a_mtable a_misOdd a_misHigh a_misTop a_mpile) sz)) 0 0 (va_A (wd66 cyI cyJ cyZ q_Md q_mtext q_mprimes q_mtable q_misOdd q_misHigh q_misTop q_mpile q_mtold q_mstretch q_mfewest q_mbits m_length m_primeMany m_toldMany m_fate m_tail m_round m_tableKind m_areLaid m_unlike m_isFree a_mtext a_mprimes a_mtable a_misOdd a_misHigh a_misTop a_mpile) sz) := by
  refine Met.ofW (cc := cX12_isWished) (maxL := 7) (ret := (some .boolean)) (by decide) rfl ?_
  intro p e s m args below meth c s₁ B hml hv
  obtain ⟨rfl, hsz, hP, hG, hD0⟩ := hv
  have hx := B.exec
  have hb := B.bytes
  have hr := B.returns
  have hts := atoms_spec (ws := wsX12_isWished) B.pre
  have hown : s.vm.findClass RX12 = some m.cls := findClass_of_methodNamed B.named
  have hlocks := B.notSynchronized
  subst hsz
  have hD := hD0.self (sz := s.heap.size)
  generalize hAe : va_A (wd66 cyI cyJ cyZ q_Md q_mtext q_mprimes q_mtable q_misOdd q_misHigh q_misTop q_mpile q_mtold q_mstretch q_mfewest q_mbits m_length m_primeMany m_toldMany m_fate m_tail m_round m_tableKind m_areLaid m_unlike m_isFree a_mtext a_mprimes a_mtable a_misOdd a_misHigh a_misTop a_mpile) s.heap.size = A at hD ⊢
  have hA : ∀ q : Nat, s.heap.size ≤ q → A q := fun q h => by rw [← hAe]; exact Or.inr h
  have hS : va_S A s.heap s.heap [] := va_S.rf
  have hl := lv_entry ([.ref q_Md, .int v1]) (n := 7) (Nat.le_of_ble_eq_true rfl)
  rw [lg_entry_eq]
  generalize (lg_sl ([.ref q_Md, .int v1]) ++ List.replicate (7 - (lg_sl ([.ref q_Md, .int v1])).length) Slot.unset).toArray = ls at hl ⊢
  have hl : lv_has ls 7 [(0, .ref q_Md), (1, .int v1)] := hl
  exact k_X12_isWished_0 ⟨hx, hb, hr, hml, hown, hts, hlocks, hG, hA⟩ N res q_Md q_mtext q_mprimes q_mtable q_misOdd q_misHigh q_misTop q_mpile q_mtold q_mstretch q_mfewest q_mbits v1 m_length m_primeMany m_toldMany m_fate m_tail m_round m_tableKind m_areLaid m_unlike m_isFree a_mtext a_mprimes a_mtable a_misOdd a_misHigh a_misTop a_mpile  h _ _ hP hD hS _ hl
/-- the cells Md, mtext, mprimes, mtable, misOdd, misHigh, misTop, mbits, mpile -/
abbrev wd67 (cyI cyJ cyZ : ClassId) (q_Md : Nat) (q_mtext : Nat) (q_mprimes : Nat) (q_mtable : Nat) (q_misOdd : Nat) (q_misHigh : Nat) (q_misTop : Nat) (q_mbits : Nat) (q_mpile : Nat) (q_mtold : Nat) (q_mstretch : Nat) (q_mfewest : Nat) (m_length : Int32) (m_primeMany : Int32) (m_toldMany : Int32) (m_fate : Int32) (m_tail : Int32) (m_round : Int32) (m_tableKind : Int32) (m_areLaid : Int32) (m_unlike : Int32) (m_isFree : Int32) (a_mtext : Nat → Int32) (a_mprimes : Nat → Int64) (a_mtable : Nat → Int32) (a_misOdd : Nat → Int32) (a_misHigh : Nat → Int32) (a_misTop : Nat → Int32) (a_mbits : Nat → Int64) (a_mpile : Nat → Int32) : va_W := [(q_Md, .inr (12, [.int m_length, .ref q_mtext, .int m_primeMany, .ref q_mprimes, .int m_toldMany, .ref q_mtold, .int m_fate, .int m_tail, .int m_round, .int m_tableKind, .ref q_mtable, .ref q_mstretch, .ref q_mfewest, .int m_areLaid, .ref q_misOdd, .ref q_misHigh, .ref q_misTop, .ref q_mbits, .int m_unlike, .int m_isFree, .ref q_mpile])), (q_mtext, .inl (cyI, 60, .inl a_mtext)), (q_mprimes, .inl (cyJ, 40, .inr (.inl a_mprimes))), (q_mtable, .inl (cyI, 50001, .inl a_mtable)), (q_misOdd, .inl (cyZ, 5001, .inl a_misOdd)), (q_misHigh, .inl (cyZ, 5001, .inl a_misHigh)), (q_misTop, .inl (cyZ, 5001, .inl a_misTop)), (q_mbits, .inl (cyJ, 80, .inr (.inl a_mbits))), (q_mpile, .inl (cyZ, 9, .inl a_mpile))]
abbrev rm_X12_wished : Room := { frames := 5, cells := 0, slots := 0, locals := 130 }
theorem hd_X12_wished : yX12_wished.cls ≠ "java/lang/invoke/MethodHandle" ∧ yX12_wished.cls ≠ "java/lang/invoke/VarHandle" ∧ (parseMethodDescriptor yX12_wished.desc).map (fun d => d.parameters.length) = some 2 := by decide +kernel
theorem iw_X12_wished_X12 : ∀ w ∈ wsX120, w ∈ wsX12_wished := List.forall_mem_cons.mpr ⟨List.mem_of_getElem? (i := 79) rfl, List.forall_mem_cons.mpr ⟨List.mem_of_getElem? (i := 80) rfl, List.forall_mem_cons.mpr ⟨List.mem_of_getElem? (i := 81) rfl, List.forall_mem_cons.mpr ⟨List.mem_of_getElem? (i := 82) rfl, List.forall_mem_cons.mpr ⟨List.mem_of_getElem? (i := 83) rfl, List.forall_mem_cons.mpr ⟨List.mem_of_getElem? (i := 84) rfl, List.forall_mem_cons.mpr ⟨List.mem_of_getElem? (i := 85) rfl, List.forall_mem_cons.mpr ⟨List.mem_of_getElem? (i := 86) rfl, List.forall_mem_cons.mpr ⟨List.mem_of_getElem? (i := 87) rfl, List.forall_mem_cons.mpr ⟨List.mem_of_getElem? (i := 88) rfl, List.forall_mem_cons.mpr ⟨List.mem_of_getElem? (i := 89) rfl, List.forall_mem_cons.mpr ⟨List.mem_of_getElem? (i := 90) rfl, List.forall_mem_cons.mpr ⟨List.mem_of_getElem? (i := 91) rfl, List.forall_mem_cons.mpr ⟨List.mem_of_getElem? (i := 92) rfl, List.forall_mem_cons.mpr ⟨List.mem_of_getElem? (i := 93) rfl, List.forall_mem_cons.mpr ⟨List.mem_of_getElem? (i := 94) rfl, List.forall_mem_cons.mpr ⟨List.mem_of_getElem? (i := 95) rfl, List.forall_mem_cons.mpr ⟨List.mem_of_getElem? (i := 96) rfl, List.forall_mem_cons.mpr ⟨List.mem_of_getElem? (i := 97) rfl, List.forall_mem_cons.mpr ⟨List.mem_of_getElem? (i := 98) rfl, List.forall_mem_cons.mpr ⟨List.mem_of_getElem? (i := 99) rfl, fun _ h => absurd h List.not_mem_nil⟩⟩⟩⟩⟩⟩⟩⟩⟩⟩⟩⟩⟩⟩⟩⟩⟩⟩⟩⟩⟩
def j_X12_wished_72 (N : Nat) (v2 : Int32) (v3 : Int32) (m_primeMany : Int32) (m_tableKind : Int32) (m_areLaid : Int32) (m_unlike : Int32) (m_isFree : Int32) (a_mprimes : Nat → Int64) (a_mtable : Nat → Int32) (a_misOdd : Nat → Int32) (a_misHigh : Nat → Int32) (a_misTop : Nat → Int32) (a_mbits : Nat → Int64) (a_mpile : Nat → Int32) : Option (Int32 × Int32 × Int32 × Int32 × Int32 × Int32 × (Nat → Int64) × (Nat → Int32) × (Nat → Int32) × (Nat → Int32) × (Nat → Int32) × (Nat → Int64) × (Nat → Int32)) :=
  if 0 ≤ v2 then
    some ((-4 : Int32), m_primeMany, m_tableKind, m_areLaid, m_unlike, m_isFree, a_mprimes, a_mtable, a_misOdd, a_misHigh, a_misTop, a_mbits, a_mpile)
  else
    some (v3, m_primeMany, m_tableKind, m_areLaid, m_unlike, m_isFree, a_mprimes, a_mtable, a_misOdd, a_misHigh, a_misTop, a_mbits, a_mpile)
set_option maxRecDepth 100000 in
set_option maxHeartbeats 4000000 in
theorem k_X12_wished_72 {p : Program} {l : Launch} {e : Env} {s : State} {m : MethodId} {args : Array Value} {below : List Frame} {meth : Method} {c : Code} {dC : Nat → ClassId} {dI : Nat → Nat → Nat} {cyI cyJ cyZ : ClassId} {A : Nat → Prop} (C0 : mC p s m meth c args cX12_wished (some .int) 5 RX12 wsX12_wished (gK dC dI cyI cyJ cyZ) A) (N : Nat) (res : Int32 × Int32 × Int32 × Int32 × Int32 × Int32 × (Nat → Int64) × (Nat → Int32) × (Nat → Int32) × (Nat → Int32) × (Nat → Int32) × (Nat → Int64) × (Nat → Int32)) (q_Md : Nat) (q_mtext : Nat) (q_mprimes : Nat) (q_mtable : Nat) (q_misOdd : Nat) (q_misHigh : Nat) (q_misTop : Nat) (q_mbits : Nat) (q_mpile : Nat) (q_mtold : Nat) (q_mstretch : Nat) (q_mfewest : Nat) (v2 : Int32) (v3 : Int32) (m_length : Int32) (m_primeMany : Int32) (m_toldMany : Int32) (m_fate : Int32) (m_tail : Int32) (m_round : Int32) (m_tableKind : Int32) (m_areLaid : Int32) (m_unlike : Int32) (m_isFree : Int32) (a_mtext : Nat → Int32) (a_mprimes : Nat → Int64) (a_mtable : Nat → Int32) (a_misOdd : Nat → Int32) (a_misHigh : Nat → Int32) (a_misTop : Nat → Int32) (a_mbits : Nat → Int64) (a_mpile : Nat → Int32) (h : j_X12_wished_72 N v2 v3 m_primeMany m_tableKind m_areLaid m_unlike m_isFree a_mprimes a_mtable a_misOdd a_misHigh a_misTop a_mbits a_mpile = some res) : ∀ (H : Heap) (locs : List Loc), va_P (dC, dI) vwCl (wd67 cyI cyJ cyZ q_Md q_mtext q_mprimes q_mtable q_misOdd q_misHigh q_misTop q_mbits q_mpile q_mtold q_mstretch q_mfewest m_length m_primeMany m_toldMany m_fate m_tail m_round m_tableKind m_areLaid m_unlike m_isFree a_mtext a_mprimes a_mtable a_misOdd a_misHigh a_misTop a_mbits a_mpile) H → va_D A (wd67 cyI cyJ cyZ q_Md q_mtext q_mprimes q_mtable q_misOdd q_misHigh q_misTop q_mbits q_mpile q_mtold q_mstretch q_mfewest m_length m_primeMany m_toldMany m_fate m_tail m_round m_tableKind m_areLaid m_unlike m_isFree a_mtext a_mprimes a_mtable a_misOdd a_misHigh a_misTop a_mbits a_mpile) → va_S A s.heap H locs → ∀ (ls : Array Slot), lv_has ls 5 [(2, .int v2), (3, .int v3)] → W p l e (headSpec wsX12_wished rm_X12_wished).room s m args below meth c H locs 0 0 (MQ below (va_Qi (fun (r : Int32) (_ : Unit) => r = res.1) (bW dC dI (fun (u : Unit) => (wd67 cyI cyJ cyZ q_Md q_mtext q_mprimes q_mtable q_misOdd q_misHigh q_misTop q_mbits q_mpile q_mtold q_mstretch q_mfewest m_length res.2.1 m_toldMany m_fate m_tail m_round res.2.2.1 res.2.2.2.1 res.2.2.2.2.1 res.2.2.2.2.2.1 a_mtext res.2.2.2.2.2.2.1 res.2.2.2.2.2.2.2.1 res.2.2.2.2.2.2.2.2.1 res.2.2.2.2.2.2.2.2.2.1 res.2.2.2.2.2.2.2.2.2.2.1 res.2.2.2.2.2.2.2.2.2.2.2.1 res.2.2.2.2.2.2.2.2.2.2.2.2)) A) A) args s 0 0 A) (F0 m 72 ls []) := by
  obtain ⟨hx, hb, hr, hml, hown, hts, hlocks, hG, hA⟩ := id C0
  have hK := hG.1
  intro H locs hP hD hS ls hl
  unfold j_X12_wished_72 at h
  refine lv_iload_n hx hb dX12_wished_72 rfl (lv_at hl 0 rfl) ?_
  refine lv_if_ge (tgt := 80) hx hb dX12_wished_73 (by decide) (fun c14z => ?_) (fun c14z => ?_)
  · have h := xt h c14z
    refine lv_bipush (v := (-4 : Int32)) hx hb dX12_wished_80 (by decide) ?_
    obtain rfl := Option.some.inj h
    exact W.iret (v := (-4 : Int32)) hx hb hr (fun t ht hW => ⟨⟨_, (), rfl, rfl, by rw [ht]; exact hP, hD⟩, hS.F ht⟩) hS.2.2 dX12_wished_82 hlocks
  · have h := xf h c14z
    refine lv_iload_n hx hb dX12_wished_76 rfl (lv_at hl 1 rfl) ?_
    refine lv_goto (tgt := 82) hx hb dX12_wished_77 (by decide) ?_
    obtain rfl := Option.some.inj h
    exact W.iret (v := v3) hx hb hr (fun t ht hW => ⟨⟨_, (), rfl, rfl, by rw [ht]; exact hP, hD⟩, hS.F ht⟩) hS.2.2 dX12_wished_82 hlocks
def s_X12_wished_40 (N : Nat) (v1 : Int32) (v2 : Int32) (m_length : Int32) (m_tableKind : Int32) (m_areLaid : Int32) (a_mtext : Nat → Int32) (a_mtable : Nat → Int32) (a_misOdd : Nat → Int32) (a_misHigh : Nat → Int32) (a_misTop : Nat → Int32) (a_mbits : Nat → Int64) (k_40 : (Int32 × Int32 × Int32 × Int32 × Int32 × (Nat → Int64) × (Nat → Int32)) → Option (Int32 × Int32 × Int32 × Int32 × Int32 × Int32 × (Nat → Int64) × (Nat → Int32) × (Nat → Int32) × (Nat → Int32) × (Nat → Int32) × (Nat → Int64) × (Nat → Int32))) (v3 : Int32) (v4 : Int32) (m_primeMany : Int32) (m_unlike : Int32) (m_isFree : Int32) (a_mprimes : Nat → Int64) (a_mpile : Nat → Int32) : Option (Int32 × Int32 × Int32 × Int32 × Int32 × Int32 × (Nat → Int64) × (Nat → Int32) × (Nat → Int32) × (Nat → Int32) × (Nat → Int32) × (Nat → Int64) × (Nat → Int32)) :=
  if v1 < v4 then
    j_X12_wished_72 N v2 v3 m_primeMany m_tableKind m_areLaid m_unlike m_isFree a_mprimes a_mtable a_misOdd a_misHigh a_misTop a_mbits a_mpile
  else
    Option.bind (f_X12_isWished N v4 m_length m_primeMany m_unlike m_isFree a_mtext a_mprimes a_mtable a_misOdd a_misHigh a_misTop a_mpile) fun r15z =>
    if r15z.1 = 0 then
      xl (v4 + (1 : Int32)) fun y19z =>
      k_40 (v3, y19z, r15z.2.1, r15z.2.2.1, r15z.2.2.2.1, r15z.2.2.2.2.1, r15z.2.2.2.2.2)
    else
      if v3 = v2 then
        some (v4, r15z.2.1, m_tableKind, m_areLaid, r15z.2.2.1, r15z.2.2.2.1, r15z.2.2.2.2.1, a_mtable, a_misOdd, a_misHigh, a_misTop, a_mbits, r15z.2.2.2.2.2)
      else
        xl (v3 + (1 : Int32)) fun y21z =>
        xl (v4 + (1 : Int32)) fun y22z =>
        k_40 (y21z, y22z, r15z.2.1, r15z.2.2.1, r15z.2.2.2.1, r15z.2.2.2.2.1, r15z.2.2.2.2.2)
def l_X12_wished_40 (N : Nat) (v1 : Int32) (v2 : Int32) (m_length : Int32) (m_tableKind : Int32) (m_areLaid : Int32) (a_mtext : Nat → Int32) (a_mtable : Nat → Int32) (a_misOdd : Nat → Int32) (a_misHigh : Nat → Int32) (a_misTop : Nat → Int32) (a_mbits : Nat → Int64) (n : Nat) (z : Int32 × Int32 × Int32 × Int32 × Int32 × (Nat → Int64) × (Nat → Int32)) : Option (Int32 × Int32 × Int32 × Int32 × Int32 × Int32 × (Nat → Int64) × (Nat → Int32) × (Nat → Int32) × (Nat → Int32) × (Nat → Int32) × (Nat → Int64) × (Nat → Int32)) := lp (fun k z => s_X12_wished_40 N v1 v2 m_length m_tableKind m_areLaid a_mtext a_mtable a_misOdd a_misHigh a_misTop a_mbits k z.1 z.2.1 z.2.2.1 z.2.2.2.1 z.2.2.2.2.1 z.2.2.2.2.2.1 z.2.2.2.2.2.2) n z
set_option maxRecDepth 100000 in
set_option maxHeartbeats 4000000 in
theorem k_X12_wished_40 {p : Program} {l : Launch} {e : Env} {s : State} {m : MethodId} {args : Array Value} {below : List Frame} {meth : Method} {c : Code} {dC : Nat → ClassId} {dI : Nat → Nat → Nat} {cyI cyJ cyZ : ClassId} {A : Nat → Prop} (C0 : mC p s m meth c args cX12_wished (some .int) 5 RX12 wsX12_wished (gK dC dI cyI cyJ cyZ) A) (N : Nat) (res : Int32 × Int32 × Int32 × Int32 × Int32 × Int32 × (Nat → Int64) × (Nat → Int32) × (Nat → Int32) × (Nat → Int32) × (Nat → Int32) × (Nat → Int64) × (Nat → Int32)) (q_Md : Nat) (q_mtext : Nat) (q_mprimes : Nat) (q_mtable : Nat) (q_misOdd : Nat) (q_misHigh : Nat) (q_misTop : Nat) (q_mbits : Nat) (q_mpile : Nat) (q_mtold : Nat) (q_mstretch : Nat) (q_mfewest : Nat) (v1 : Int32) (v2 : Int32) (m_length : Int32) (m_toldMany : Int32) (m_fate : Int32) (m_tail : Int32) (m_round : Int32) (m_tableKind : Int32) (m_areLaid : Int32) (a_mtext : Nat → Int32) (a_mtable : Nat → Int32) (a_misOdd : Nat → Int32) (a_misHigh : Nat → Int32) (a_misTop : Nat → Int32) (a_mbits : Nat → Int64) : ∀ (n : Nat) (v3 : Int32) (v4 : Int32) (m_primeMany : Int32) (m_unlike : Int32) (m_isFree : Int32) (a_mprimes : Nat → Int64) (a_mpile : Nat → Int32), l_X12_wished_40 N v1 v2 m_length m_tableKind m_areLaid a_mtext a_mtable a_misOdd a_misHigh a_misTop a_mbits n (v3, v4, m_primeMany, m_unlike, m_isFree, a_mprimes, a_mpile) = some res → ∀ (H : Heap) (locs : List Loc), va_P (dC, dI) vwCl (wd67 cyI cyJ cyZ q_Md q_mtext q_mprimes q_mtable q_misOdd q_misHigh q_misTop q_mbits q_mpile q_mtold q_mstretch q_mfewest m_length m_primeMany m_toldMany m_fate m_tail m_round m_tableKind m_areLaid m_unlike m_isFree a_mtext a_mprimes a_mtable a_misOdd a_misHigh a_misTop a_mbits a_mpile) H → va_D A (wd67 cyI cyJ cyZ q_Md q_mtext q_mprimes q_mtable q_misOdd q_misHigh q_misTop q_mbits q_mpile q_mtold q_mstretch q_mfewest m_length m_primeMany m_toldMany m_fate m_tail m_round m_tableKind m_areLaid m_unlike m_isFree a_mtext a_mprimes a_mtable a_misOdd a_misHigh a_misTop a_mbits a_mpile) → va_S A s.heap H locs → ∀ (ls : Array Slot), lv_has ls 5 [(0, .ref q_Md), (1, .int v1), (2, .int v2), (3, .int v3), (4, .int v4)] → W p l e (headSpec wsX12_wished rm_X12_wished).room s m args below meth c H locs 0 0 (MQ below (va_Qi (fun (r : Int32) (_ : Unit) => r = res.1) (bW dC dI (fun (u : Unit) => (wd67 cyI cyJ cyZ q_Md q_mtext q_mprimes q_mtable q_misOdd q_misHigh q_misTop q_mbits q_mpile q_mtold q_mstretch q_mfewest m_length res.2.1 m_toldMany m_fate m_tail m_round res.2.2.1 res.2.2.2.1 res.2.2.2.2.1 res.2.2.2.2.2.1 a_mtext res.2.2.2.2.2.2.1 res.2.2.2.2.2.2.2.1 res.2.2.2.2.2.2.2.2.1 res.2.2.2.2.2.2.2.2.2.1 res.2.2.2.2.2.2.2.2.2.2.1 res.2.2.2.2.2.2.2.2.2.2.2.1 res.2.2.2.2.2.2.2.2.2.2.2.2)) A) A) args s 0 0 A) (F0 m 40 ls []) := by
  obtain ⟨hx, hb, hr, hml, hown, hts, hlocks, hG, hA⟩ := id C0
  have hK := hG.1
  intro n
  induction n with
  | zero =>
    intro v3 v4 m_primeMany m_unlike m_isFree a_mprimes a_mpile h
    cases h
  | succ n ih =>
    intro v3 v4 m_primeMany m_unlike m_isFree a_mprimes a_mpile h H locs hP hD hS ls hl
    have h : s_X12_wished_40 N v1 v2 m_length m_tableKind m_areLaid a_mtext a_mtable a_misOdd a_misHigh a_misTop a_mbits (l_X12_wished_40 N v1 v2 m_length m_tableKind m_areLaid a_mtext a_mtable a_misOdd a_misHigh a_misTop a_mbits n) v3 v4 m_primeMany m_unlike m_isFree a_mprimes a_mpile = some res := h
    unfold s_X12_wished_40 at h
    refine lv_iload hx hb dX12_wished_40 (lv_at hl 4 rfl) ?_
    refine lv_iload_n hx hb dX12_wished_42 rfl (lv_at hl 1 rfl) ?_
    refine lv_icmp_gt (tgt := 72) hx hb dX12_wished_43 (by decide) (fun c13z => ?_) (fun c13z => ?_)
    · have h := xt h c13z
      exact k_X12_wished_72 C0 N res q_Md q_mtext q_mprimes q_mtable q_misOdd q_misHigh q_misTop q_mbits q_mpile q_mtold q_mstretch q_mfewest v2 v3 m_length m_primeMany m_toldMany m_fate m_tail m_round m_tableKind m_areLaid m_unlike m_isFree a_mtext a_mprimes a_mtable a_misOdd a_misHigh a_misTop a_mbits a_mpile  h _ _ hP hD hS _ (lv_sub hl [2, 3] rfl)
    · have h := xf h c13z
      refine lv_aload_n hx hb dX12_wished_46 rfl (lv_at hl 0 rfl) ?_
      refine lv_iload hx hb dX12_wished_47 (lv_at hl 4 rfl) ?_
      obtain ⟨r15z, hr15z, h⟩ := xb_at h
      have hPc := hP.sub (ws' := (wd66 cyI cyJ cyZ q_Md q_mtext q_mprimes q_mtable q_misOdd q_misHigh q_misTop q_mpile q_mtold q_mstretch q_mfewest q_mbits m_length m_primeMany m_toldMany m_fate m_tail m_round m_tableKind m_areLaid m_unlike m_isFree a_mtext a_mprimes a_mtable a_misOdd a_misHigh a_misTop a_mpile)) [0, 1, 2, 3, 4, 5, 6, 8] rfl
      have hDc := hD.sub (ws' := (wd66 cyI cyJ cyZ q_Md q_mtext q_mprimes q_mtable q_misOdd q_misHigh q_misTop q_mpile q_mtold q_mstretch q_mfewest q_mbits m_length m_primeMany m_toldMany m_fate m_tail m_round m_tableKind m_areLaid m_unlike m_isFree a_mtext a_mprimes a_mtable a_misOdd a_misHigh a_misTop a_mpile)) [0, 1, 2, 3, 4, 5, 6, 8] (by decide) rfl
      refine cal_i [0, 1, 2, 3, 4, 5, 6, 8] [7] (va_runV (As := [.int v4]) (rest := []) ⟨hx, hb, hml, hown, hts⟩ (c_X12_isWished l dC dI cyI cyJ cyZ N r15z H.size q_Md q_mtext q_mprimes q_mtable q_misOdd q_misHigh q_misTop q_mpile q_mtold q_mstretch q_mfewest q_mbits v4 m_length m_primeMany m_toldMany m_fate m_tail m_round m_tableKind m_areLaid m_unlike m_isFree a_mtext a_mprimes a_mtable a_misOdd a_misHigh a_misTop a_mpile hr15z) (cwV 1 hts gX12_wished_X12_isWished rfl rfl rfl ⟨rfl, hd_X12_isWished⟩ ⟨Nat.le_of_ble_eq_true rfl, Nat.le_of_ble_eq_true rfl⟩) ⟨pC.blind, va_recv hK hPc (ci := 12) (q0 := 0) rfl rfl, pC.pre hPc hG hDc⟩ rfl rfl hl.1 rfl (lv_room (Nat.le_of_ble_eq_true rfl)) dX12_wished_49 ⟨Nat.zero_le _, Nat.zero_le _⟩) hP hD hS hA rfl rfl rfl (by decide) (fun x17z u16z H locs hw hP hD hS => ?_)
      obtain rfl := hw.symm
      have hP : va_P (dC, dI) vwCl (wd67 cyI cyJ cyZ q_Md q_mtext q_mprimes q_mtable q_misOdd q_misHigh q_misTop q_mbits q_mpile q_mtold q_mstretch q_mfewest m_length r15z.2.1 m_toldMany m_fate m_tail m_round m_tableKind m_areLaid r15z.2.2.1 r15z.2.2.2.1 a_mtext r15z.2.2.2.2.1 a_mtable a_misOdd a_misHigh a_misTop a_mbits r15z.2.2.2.2.2) H := hP.sub [1, 2, 3, 4, 5, 6, 7, 0, 8] rfl
      have hD : va_D A (wd67 cyI cyJ cyZ q_Md q_mtext q_mprimes q_mtable q_misOdd q_misHigh q_misTop q_mbits q_mpile q_mtold q_mstretch q_mfewest m_length r15z.2.1 m_toldMany m_fate m_tail m_round m_tableKind m_areLaid r15z.2.2.1 r15z.2.2.2.1 a_mtext r15z.2.2.2.2.1 a_mtable a_misOdd a_misHigh a_misTop a_mbits r15z.2.2.2.2.2) := hD.sub [1, 2, 3, 4, 5, 6, 7, 0, 8] (by decide) rfl
      refine lv_if_eq (tgt := 66) hx hb dX12_wished_52 (by decide) (fun c18z => ?_) (fun c18z => ?_)
      · have h := xt h c18z
        obtain ⟨y19z, ey19z⟩ : ∃ z : Int32, z = v4 + (1 : Int32) := ⟨_, rfl⟩
        have h := xl_at h ey19z
        refine lv_iinc (v := y19z) (lv' := [(4, .int y19z), (0, .ref q_Md), (1, .int v1), (2, .int v2), (3, .int v3)]) hx hb dX12_wished_66 hl (k := 4) rfl (by rw [ey19z]; rfl) (by decide) rfl (fun ls hl => ?_)
        refine lv_goto (tgt := 40) hx hb dX12_wished_69 (by decide) ?_
        exact ih v3 y19z r15z.2.1 r15z.2.2.1 r15z.2.2.2.1 r15z.2.2.2.2.1 r15z.2.2.2.2.2 h _ _ hP hD hS _ (lv_sub hl [1, 2, 3, 4, 0] rfl)
      · have h := xf h c18z
        refine lv_iload_n hx hb dX12_wished_55 rfl (lv_at hl 3 rfl) ?_
        refine lv_iload_n hx hb dX12_wished_56 rfl (lv_at hl 2 rfl) ?_
        refine lv_icmp_ne (tgt := 63) hx hb dX12_wished_57 (by decide) (fun c20z => ?_) (fun c20z => ?_)
        · have h := xf h c20z
          obtain ⟨y21z, ey21z⟩ : ∃ z : Int32, z = v3 + (1 : Int32) := ⟨_, rfl⟩
          have h := xl_at h ey21z
          refine lv_iinc (v := y21z) (lv' := [(3, .int y21z), (0, .ref q_Md), (1, .int v1), (2, .int v2), (4, .int v4)]) hx hb dX12_wished_63 hl (k := 3) rfl (by rw [ey21z]; rfl) (by decide) rfl (fun ls hl => ?_)
          obtain ⟨y22z, ey22z⟩ : ∃ z : Int32, z = v4 + (1 : Int32) := ⟨_, rfl⟩
          have h := xl_at h ey22z
          refine lv_iinc (v := y22z) (lv' := [(4, .int y22z), (3, .int y21z), (0, .ref q_Md), (1, .int v1), (2, .int v2)]) hx hb dX12_wished_66 hl (k := 4) rfl (by rw [ey22z]; rfl) (by decide) rfl (fun ls hl => ?_)
          refine lv_goto (tgt := 40) hx hb dX12_wished_69 (by decide) ?_
          exact ih y21z y22z r15z.2.1 r15z.2.2.1 r15z.2.2.2.1 r15z.2.2.2.2.1 r15z.2.2.2.2.2 h _ _ hP hD hS _ (lv_sub hl [2, 3, 4, 1, 0] rfl)
        · have h := xt h c20z
          refine lv_iload hx hb dX12_wished_60 (lv_at hl 4 rfl) ?_
          obtain rfl := Option.some.inj h
          exact W.iret (v := v4) hx hb hr (fun t ht hW => ⟨⟨_, (), rfl, rfl, by rw [ht]; exact hP, hD⟩, hS.F ht⟩) hS.2.2 dX12_wished_62 hlocks
def f_X12_wished (N : Nat) (v1 : Int32) (v2 : Int32) (m_length : Int32) (m_primeMany : Int32) (m_tableKind : Int32) (m_areLaid : Int32) (m_unlike : Int32) (m_isFree : Int32) (a_mtext : Nat → Int32) (a_mprimes : Nat → Int64) (a_mtable : Nat → Int32) (a_misOdd : Nat → Int32) (a_misHigh : Nat → Int32) (a_misTop : Nat → Int32) (a_mbits : Nat → Int64) (a_mpile : Nat → Int32) : Option (Int32 × Int32 × Int32 × Int32 × Int32 × Int32 × (Nat → Int64) × (Nat → Int32) × (Nat → Int32) × (Nat → Int32) × (Nat → Int32) × (Nat → Int64) × (Nat → Int32)) :=
  Option.bind (f_X12_in N v1.toInt64 (1 : Int64) (5000 : Int64)) fun r1z =>
  if r1z = 0 then
    some ((-1 : Int32), m_primeMany, m_tableKind, m_areLaid, m_unlike, m_isFree, a_mprimes, a_mtable, a_misOdd, a_misHigh, a_misTop, a_mbits, a_mpile)
  else
    if (-1 : Int32) ≤ v2 then
      Option.bind (f_X12_fault N  m_length a_mtext) fun r6z =>
      if r6z = (-4 : Int32) then
        Option.bind (f_X12_layFlags N  m_primeMany m_tableKind m_areLaid a_mprimes a_mtable a_misOdd a_misHigh a_misTop a_mbits) fun r10z =>
        l_X12_wished_40 N v1 v2 m_length r10z.2.1 r10z.2.2.1 a_mtext r10z.2.2.2.2.1 r10z.2.2.2.2.2.1 r10z.2.2.2.2.2.2.1 r10z.2.2.2.2.2.2.2.1 r10z.2.2.2.2.2.2.2.2 N ((0 : Int32), (1 : Int32), r10z.1, m_unlike, m_isFree, r10z.2.2.2.1, a_mpile)
      else
        some ((-2 : Int32), m_primeMany, m_tableKind, m_areLaid, m_unlike, m_isFree, a_mprimes, a_mtable, a_misOdd, a_misHigh, a_misTop, a_mbits, a_mpile)
    else
      some ((-1 : Int32), m_primeMany, m_tableKind, m_areLaid, m_unlike, m_isFree, a_mprimes, a_mtable, a_misOdd, a_misHigh, a_misTop, a_mbits, a_mpile)
set_option maxRecDepth 100000 in
set_option maxHeartbeats 4000000 in
theorem k_X12_wished_0 {p : Program} {l : Launch} {e : Env} {s : State} {m : MethodId} {args : Array Value} {below : List Frame} {meth : Method} {c : Code} {dC : Nat → ClassId} {dI : Nat → Nat → Nat} {cyI cyJ cyZ : ClassId} {A : Nat → Prop} (C0 : mC p s m meth c args cX12_wished (some .int) 5 RX12 wsX12_wished (gK dC dI cyI cyJ cyZ) A) (N : Nat) (res : Int32 × Int32 × Int32 × Int32 × Int32 × Int32 × (Nat → Int64) × (Nat → Int32) × (Nat → Int32) × (Nat → Int32) × (Nat → Int32) × (Nat → Int64) × (Nat → Int32)) (q_Md : Nat) (q_mtext : Nat) (q_mprimes : Nat) (q_mtable : Nat) (q_misOdd : Nat) (q_misHigh : Nat) (q_misTop : Nat) (q_mbits : Nat) (q_mpile : Nat) (q_mtold : Nat) (q_mstretch : Nat) (q_mfewest : Nat) (v1 : Int32) (v2 : Int32) (m_length : Int32) (m_primeMany : Int32) (m_toldMany : Int32) (m_fate : Int32) (m_tail : Int32) (m_round : Int32) (m_tableKind : Int32) (m_areLaid : Int32) (m_unlike : Int32) (m_isFree : Int32) (a_mtext : Nat → Int32) (a_mprimes : Nat → Int64) (a_mtable : Nat → Int32) (a_misOdd : Nat → Int32) (a_misHigh : Nat → Int32) (a_misTop : Nat → Int32) (a_mbits : Nat → Int64) (a_mpile : Nat → Int32) (h : f_X12_wished N v1 v2 m_length m_primeMany m_tableKind m_areLaid m_unlike m_isFree a_mtext a_mprimes a_mtable a_misOdd a_misHigh a_misTop a_mbits a_mpile = some res) : ∀ (H : Heap) (locs : List Loc), va_P (dC, dI) vwCl (wd67 cyI cyJ cyZ q_Md q_mtext q_mprimes q_mtable q_misOdd q_misHigh q_misTop q_mbits q_mpile q_mtold q_mstretch q_mfewest m_length m_primeMany m_toldMany m_fate m_tail m_round m_tableKind m_areLaid m_unlike m_isFree a_mtext a_mprimes a_mtable a_misOdd a_misHigh a_misTop a_mbits a_mpile) H → va_D A (wd67 cyI cyJ cyZ q_Md q_mtext q_mprimes q_mtable q_misOdd q_misHigh q_misTop q_mbits q_mpile q_mtold q_mstretch q_mfewest m_length m_primeMany m_toldMany m_fate m_tail m_round m_tableKind m_areLaid m_unlike m_isFree a_mtext a_mprimes a_mtable a_misOdd a_misHigh a_misTop a_mbits a_mpile) → va_S A s.heap H locs → ∀ (ls : Array Slot), lv_has ls 5 [(0, .ref q_Md), (1, .int v1), (2, .int v2)] → W p l e (headSpec wsX12_wished rm_X12_wished).room s m args below meth c H locs 0 0 (MQ below (va_Qi (fun (r : Int32) (_ : Unit) => r = res.1) (bW dC dI (fun (u : Unit) => (wd67 cyI cyJ cyZ q_Md q_mtext q_mprimes q_mtable q_misOdd q_misHigh q_misTop q_mbits q_mpile q_mtold q_mstretch q_mfewest m_length res.2.1 m_toldMany m_fate m_tail m_round res.2.2.1 res.2.2.2.1 res.2.2.2.2.1 res.2.2.2.2.2.1 a_mtext res.2.2.2.2.2.2.1 res.2.2.2.2.2.2.2.1 res.2.2.2.2.2.2.2.2.1 res.2.2.2.2.2.2.2.2.2.1 res.2.2.2.2.2.2.2.2.2.2.1 res.2.2.2.2.2.2.2.2.2.2.2.1 res.2.2.2.2.2.2.2.2.2.2.2.2)) A) A) args s 0 0 A) (F0 m 0 ls []) := by
  obtain ⟨hx, hb, hr, hml, hown, hts, hlocks, hG, hA⟩ := id C0
  have hK := hG.1
  intro H locs hP hD hS ls hl
  unfold f_X12_wished at h
  refine lv_iload_n hx hb dX12_wished_0 rfl (lv_at hl 1 rfl) ?_
  refine lv_i2l (v := v1.toInt64) hx hb dX12_wished_1 rfl ?_
  refine lv_lconst (v := (1 : Int64)) hx hb dX12_wished_2 (by decide) ?_
  refine lv_ldc2 (v := (5000 : Int64)) hx hb hown (hts (.constantLong RX12 143 (5000)) (List.mem_of_getElem? (i := 1) rfl)) dX12_wished_3 ?_
  obtain ⟨r1z, hr1z, h⟩ := xb_at h
  have hPc := hP.sub (ws' := (wd37 cyI cyJ cyZ)) [] rfl
  have hDc := hD.sub (ws' := (wd37 cyI cyJ cyZ)) [] (by decide) rfl
  refine cal_i [] [0, 1, 2, 3, 4, 5, 6, 7, 8] (va_runS (As := [.long v1.toInt64, .long (1 : Int64), .long (5000 : Int64)]) (rest := []) ⟨hx, hb, hml, hown, hts⟩ (c_X12_in l dC dI cyI cyJ cyZ N r1z H.size  v1.toInt64 (1 : Int64) (5000 : Int64)  hr1z) (va_cwS 3 hts gX12_wished_X12_in rfl rfl rfl hd_X12_in ⟨Nat.le_of_ble_eq_true rfl, Nat.le_of_ble_eq_true rfl⟩) ⟨pC.blind, pC.pre hPc hG hDc⟩ rfl rfl hl.1 rfl (lv_room (Nat.le_of_ble_eq_true rfl)) dX12_wished_6 ⟨Nat.zero_le _, Nat.zero_le _⟩) hP hD hS hA rfl rfl rfl (by decide) (fun x3z u2z H locs hw hP hD hS => ?_)
  obtain rfl := hw.symm
  have hP : va_P (dC, dI) vwCl (wd67 cyI cyJ cyZ q_Md q_mtext q_mprimes q_mtable q_misOdd q_misHigh q_misTop q_mbits q_mpile q_mtold q_mstretch q_mfewest m_length m_primeMany m_toldMany m_fate m_tail m_round m_tableKind m_areLaid m_unlike m_isFree a_mtext a_mprimes a_mtable a_misOdd a_misHigh a_misTop a_mbits a_mpile) H := hP.sub [0, 1, 2, 3, 4, 5, 6, 7, 8] rfl
  have hD : va_D A (wd67 cyI cyJ cyZ q_Md q_mtext q_mprimes q_mtable q_misOdd q_misHigh q_misTop q_mbits q_mpile q_mtold q_mstretch q_mfewest m_length m_primeMany m_toldMany m_fate m_tail m_round m_tableKind m_areLaid m_unlike m_isFree a_mtext a_mprimes a_mtable a_misOdd a_misHigh a_misTop a_mbits a_mpile) := hD.sub [0, 1, 2, 3, 4, 5, 6, 7, 8] (by decide) rfl
  refine lv_if_eq (tgt := 17) hx hb dX12_wished_9 (by decide) (fun c4z => ?_) (fun c4z => ?_)
  · have h := xt h c4z
    refine lv_iconst (v := (-1 : Int32)) hx hb dX12_wished_17 (by decide) ?_
    obtain rfl := Option.some.inj h
    exact W.iret (v := (-1 : Int32)) hx hb hr (fun t ht hW => ⟨⟨_, (), rfl, rfl, by rw [ht]; exact hP, hD⟩, hS.F ht⟩) hS.2.2 dX12_wished_18 hlocks
  · have h := xf h c4z
    refine lv_iload_n hx hb dX12_wished_12 rfl (lv_at hl 2 rfl) ?_
    refine lv_iconst (v := (-1 : Int32)) hx hb dX12_wished_13 (by decide) ?_
    refine lv_icmp_ge (tgt := 19) hx hb dX12_wished_14 (by decide) (fun c5z => ?_) (fun c5z => ?_)
    · have h := xt h c5z
      refine lv_aload_n hx hb dX12_wished_19 rfl (lv_at hl 0 rfl) ?_
      obtain ⟨r6z, hr6z, h⟩ := xb_at h
      have hPc := hP.sub (ws' := (wd64 cyI cyJ cyZ q_Md q_mtext q_mprimes q_mtold q_mtable q_mstretch q_mfewest q_misOdd q_misHigh q_misTop q_mbits q_mpile m_length m_primeMany m_toldMany m_fate m_tail m_round m_tableKind m_areLaid m_unlike m_isFree a_mtext)) [0, 1] rfl
      have hDc := hD.sub (ws' := (wd64 cyI cyJ cyZ q_Md q_mtext q_mprimes q_mtold q_mtable q_mstretch q_mfewest q_misOdd q_misHigh q_misTop q_mbits q_mpile m_length m_primeMany m_toldMany m_fate m_tail m_round m_tableKind m_areLaid m_unlike m_isFree a_mtext)) [0, 1] (by decide) rfl
      refine cal_i [0, 1] [2, 3, 4, 5, 6, 7, 8] (va_runV (As := []) (rest := []) ⟨hx, hb, hml, hown, hts⟩ (c_X12_fault l dC dI cyI cyJ cyZ N r6z H.size q_Md q_mtext q_mprimes q_mtold q_mtable q_mstretch q_mfewest q_misOdd q_misHigh q_misTop q_mbits q_mpile  m_length m_primeMany m_toldMany m_fate m_tail m_round m_tableKind m_areLaid m_unlike m_isFree a_mtext hr6z) (cwV 0 hts gX12_wished_X12_fault rfl rfl rfl ⟨rfl, hd_X12_fault⟩ ⟨Nat.le_of_ble_eq_true rfl, Nat.le_of_ble_eq_true rfl⟩) ⟨pC.blind, va_recv hK hPc (ci := 12) (q0 := 0) rfl rfl, pC.pre hPc hG hDc⟩ rfl rfl hl.1 rfl (lv_room (Nat.le_of_ble_eq_true rfl)) dX12_wished_20 ⟨Nat.zero_le _, Nat.zero_le _⟩) hP hD hS hA rfl rfl rfl (by decide) (fun x8z u7z H locs hw hP hD hS => ?_)
      obtain rfl := hw.symm
      have hP : va_P (dC, dI) vwCl (wd67 cyI cyJ cyZ q_Md q_mtext q_mprimes q_mtable q_misOdd q_misHigh q_misTop q_mbits q_mpile q_mtold q_mstretch q_mfewest m_length m_primeMany m_toldMany m_fate m_tail m_round m_tableKind m_areLaid m_unlike m_isFree a_mtext a_mprimes a_mtable a_misOdd a_misHigh a_misTop a_mbits a_mpile) H := hP.sub [7, 8, 0, 1, 2, 3, 4, 5, 6] rfl
      have hD : va_D A (wd67 cyI cyJ cyZ q_Md q_mtext q_mprimes q_mtable q_misOdd q_misHigh q_misTop q_mbits q_mpile q_mtold q_mstretch q_mfewest m_length m_primeMany m_toldMany m_fate m_tail m_round m_tableKind m_areLaid m_unlike m_isFree a_mtext a_mprimes a_mtable a_misOdd a_misHigh a_misTop a_mbits a_mpile) := hD.sub [7, 8, 0, 1, 2, 3, 4, 5, 6] (by decide) rfl
      refine lv_bipush (v := (-4 : Int32)) hx hb dX12_wished_23 (by decide) ?_
      refine lv_icmp_eq (tgt := 31) hx hb dX12_wished_25 (by decide) (fun c9z => ?_) (fun c9z => ?_)
      · have h := xt h c9z
        refine lv_aload_n hx hb dX12_wished_31 rfl (lv_at hl 0 rfl) ?_
        obtain ⟨r10z, hr10z, h⟩ := xb_at h
        have hPc := hP.sub (ws' := (wd63 cyI cyJ cyZ q_Md q_mprimes q_mtable q_misOdd q_misHigh q_misTop q_mbits q_mtext q_mtold q_mstretch q_mfewest q_mpile m_length m_primeMany m_toldMany m_fate m_tail m_round m_tableKind m_areLaid m_unlike m_isFree a_mprimes a_mtable a_misOdd a_misHigh a_misTop a_mbits)) [0, 2, 3, 4, 5, 6, 7] rfl
        have hDc := hD.sub (ws' := (wd63 cyI cyJ cyZ q_Md q_mprimes q_mtable q_misOdd q_misHigh q_misTop q_mbits q_mtext q_mtold q_mstretch q_mfewest q_mpile m_length m_primeMany m_toldMany m_fate m_tail m_round m_tableKind m_areLaid m_unlike m_isFree a_mprimes a_mtable a_misOdd a_misHigh a_misTop a_mbits)) [0, 2, 3, 4, 5, 6, 7] (by decide) rfl
        refine cal_v [0, 2, 3, 4, 5, 6, 7] [1, 8] (va_runV (As := []) (rest := []) ⟨hx, hb, hml, hown, hts⟩ (c_X12_layFlags l dC dI cyI cyJ cyZ N r10z H.size q_Md q_mprimes q_mtable q_misOdd q_misHigh q_misTop q_mbits q_mtext q_mtold q_mstretch q_mfewest q_mpile  m_length m_primeMany m_toldMany m_fate m_tail m_round m_tableKind m_areLaid m_unlike m_isFree a_mprimes a_mtable a_misOdd a_misHigh a_misTop a_mbits hr10z) (cwV 0 hts gX12_wished_X12_layFlags rfl rfl rfl ⟨rfl, hd_X12_layFlags⟩ ⟨Nat.le_of_ble_eq_true rfl, Nat.le_of_ble_eq_true rfl⟩) ⟨pC.blind, va_recv hK hPc (ci := 12) (q0 := 0) rfl rfl, pC.pre hPc hG hDc⟩ rfl rfl hl.1 rfl (lv_room (Nat.le_of_ble_eq_true rfl)) dX12_wished_32 ⟨Nat.zero_le _, Nat.zero_le _⟩) hP hD hS hA rfl rfl rfl (by decide) (fun u11z H locs _ hP hD hS => ?_)
        have hP : va_P (dC, dI) vwCl (wd67 cyI cyJ cyZ q_Md q_mtext q_mprimes q_mtable q_misOdd q_misHigh q_misTop q_mbits q_mpile q_mtold q_mstretch q_mfewest m_length r10z.1 m_toldMany m_fate m_tail m_round r10z.2.1 r10z.2.2.1 m_unlike m_isFree a_mtext r10z.2.2.2.1 r10z.2.2.2.2.1 r10z.2.2.2.2.2.1 r10z.2.2.2.2.2.2.1 r10z.2.2.2.2.2.2.2.1 r10z.2.2.2.2.2.2.2.2 a_mpile) H := hP.sub [2, 0, 3, 4, 5, 6, 7, 8, 1] rfl
        have hD : va_D A (wd67 cyI cyJ cyZ q_Md q_mtext q_mprimes q_mtable q_misOdd q_misHigh q_misTop q_mbits q_mpile q_mtold q_mstretch q_mfewest m_length r10z.1 m_toldMany m_fate m_tail m_round r10z.2.1 r10z.2.2.1 m_unlike m_isFree a_mtext r10z.2.2.2.1 r10z.2.2.2.2.1 r10z.2.2.2.2.2.1 r10z.2.2.2.2.2.2.1 r10z.2.2.2.2.2.2.2.1 r10z.2.2.2.2.2.2.2.2 a_mpile) := hD.sub [2, 0, 3, 4, 5, 6, 7, 8, 1] (by decide) rfl
        refine lv_iconst (v := (0 : Int32)) hx hb dX12_wished_35 (by decide) ?_
        refine lv_istore_n (lv' := [(3, .int (0 : Int32)), (0, .ref q_Md), (1, .int v1), (2, .int v2)]) hx hb dX12_wished_36 rfl hl (by decide) rfl (fun ls hl => ?_)
        refine lv_iconst (v := (1 : Int32)) hx hb dX12_wished_37 (by decide) ?_
        refine lv_istore (lv' := [(4, .int (1 : Int32)), (3, .int (0 : Int32)), (0, .ref q_Md), (1, .int v1), (2, .int v2)]) hx hb dX12_wished_38 hl (by decide) rfl (fun ls hl => ?_)
        exact k_X12_wished_40 C0 N res q_Md q_mtext q_mprimes q_mtable q_misOdd q_misHigh q_misTop q_mbits q_mpile q_mtold q_mstretch q_mfewest v1 v2 m_length m_toldMany m_fate m_tail m_round r10z.2.1 r10z.2.2.1 a_mtext r10z.2.2.2.2.1 r10z.2.2.2.2.2.1 r10z.2.2.2.2.2.2.1 r10z.2.2.2.2.2.2.2.1 r10z.2.2.2.2.2.2.2.2 N (0 : Int32) (1 : Int32) r10z.1 m_unlike m_isFree r10z.2.2.2.1 a_mpile h _ _ hP hD hS _ (lv_sub hl [2, 3, 4, 1, 0] rfl)
      · have h := xf h c9z
        refine lv_bipush (v := (-2 : Int32)) hx hb dX12_wished_28 (by decide) ?_
        obtain rfl := Option.some.inj h
        exact W.iret (v := (-2 : Int32)) hx hb hr (fun t ht hW => ⟨⟨_, (), rfl, rfl, by rw [ht]; exact hP, hD⟩, hS.F ht⟩) hS.2.2 dX12_wished_30 hlocks
    · have h := xf h c5z
      refine lv_iconst (v := (-1 : Int32)) hx hb dX12_wished_17 (by decide) ?_
      obtain rfl := Option.some.inj h
      exact W.iret (v := (-1 : Int32)) hx hb hr (fun t ht hW => ⟨⟨_, (), rfl, rfl, by rw [ht]; exact hP, hD⟩, hS.F ht⟩) hS.2.2 dX12_wished_18 hlocks
set_option maxRecDepth 100000 in
set_option maxHeartbeats 4000000 in
theorem c_X12_wished (l : Launch) (dC : Nat → ClassId) (dI : Nat → Nat → Nat) (cyI cyJ cyZ : ClassId) (N : Nat) (res : Int32 × Int32 × Int32 × Int32 × Int32 × Int32 × (Nat → Int64) × (Nat → Int32) × (Nat → Int32) × (Nat → Int32) × (Nat → Int32) × (Nat → Int64) × (Nat → Int32)) (sz : Nat) (q_Md : Nat) (q_mtext : Nat) (q_mprimes : Nat) (q_mtable : Nat) (q_misOdd : Nat) (q_misHigh : Nat) (q_misTop : Nat) (q_mbits : Nat) (q_mpile : Nat) (q_mtold : Nat) (q_mstretch : Nat) (q_mfewest : Nat) (v1 : Int32) (v2 : Int32) (m_length : Int32) (m_primeMany : Int32) (m_toldMany : Int32) (m_fate : Int32) (m_tail : Int32) (m_round : Int32) (m_tableKind : Int32) (m_areLaid : Int32) (m_unlike : Int32) (m_isFree : Int32) (a_mtext : Nat → Int32) (a_mprimes : Nat → Int64) (a_mtable : Nat → Int32) (a_misOdd : Nat → Int32) (a_misHigh : Nat → Int32) (a_misTop : Nat → Int32) (a_mbits : Nat → Int64) (a_mpile : Nat → Int32) (h : f_X12_wished N v1 v2 m_length m_primeMany m_tableKind m_areLaid m_unlike m_isFree a_mtext a_mprimes a_mtable a_misOdd a_misHigh a_misTop a_mbits a_mpile = some res) : Met l yX12_wished wsX12_wished rm_X12_wished (pC dC dI cyI cyJ cyZ [.ref q_Md, .int v1, .int v2] sz (wd67 cyI cyJ cyZ q_Md q_mtext q_mprimes q_mtable q_misOdd q_misHigh q_misTop q_mbits q_mpile q_mtold q_mstretch q_mfewest m_length m_primeMany m_toldMany m_fate m_tail m_round m_tableKind m_areLaid m_unlike m_isFree a_mtext a_mprimes a_mtable a_misOdd a_misHigh a_misTop a_mbits a_mpile)) (va_Qi (fun (r : Int32) (_ : Unit) => r = res.1) (bW dC dI (fun (u : Unit) => (wd67 cyI cyJ cyZ q_Md q_mtext q_mprimes q_mtable q_misOdd q_misHigh q_misTop q_mbits q_mpile q_mtold q_mstretch q_mfewest m_length res.2.1 m_toldMany m_fate m_tail m_round res.2.2.1 res.2.2.2.1 res.2.2.2.2.1 res.2.2.2.2.2.1 a_mtext res.2.2.2.2.2.2.1 res.2.2.2.2.2.2.2.1 res.2.2.2.2.2.2.2.2.1 res.2.2.2.2.2.2.2.2.2.1 res.2.2.2.2.2.2.2.2.2.2.1 res.2.2.2.2.2.2.2.2.2.2.2.1 res.2.2.2.2.2.2.2.2.2.2.2.2)) (va_A (wd67 cyI cyJ cyZ q_Md q_mtext q_mprimes q_mtable q_misOdd q_misHigh q_misTop q_mbits q_mpile q_mtold q_mstretch q_mfewest m_length m_primeMany m_toldMany m_fate m_tail m_round m_tableKind m_areLaid m_unlike m_isFree a_mtext a_mprimes a_mtable a_misOdd a_misHigh a_misTop a_mbits a_mpile) sz)) (va_A (wd67 cyI cyJ cyZ q_Md q_mtext q_mprimes q_mtable q_misOdd q_misHigh q_misTop q_mbits q_mpile q_mtold q_mstretch q_mfewest m_length m_primeMany m_toldMany m_fate m_tail m_round m_tableKind m_areLaid m_unlike m_isFree a_mtext a_mprimes a_mtable a_misOdd a_misHigh a_misTop a_mbits a_mpile) sz)) 0 0 (va_A (wd67 cyI cyJ cyZ q_Md q_mtext q_mprimes q_mtable q_misOdd q_misHigh q_misTop q_mbits q_mpile q_mtold q_mstretch q_mfewest m_length m_primeMany m_toldMany m_fate m_tail m_round m_tableKind m_areLaid m_unlike m_isFree a_mtext a_mprimes a_mtable a_misOdd a_misHigh a_misTop a_mbits a_mpile) sz) := by
  refine Met.ofW (cc := cX12_wished) (maxL := 5) (ret := (some .int)) (by decide) rfl ?_
  intro p e s m args below meth c s₁ B hml hv
  obtain ⟨rfl, hsz, hP, hG, hD0⟩ := hv
  have hx := B.exec
  have hb := B.bytes
  have hr := B.returns
  have hts := atoms_spec (ws := wsX12_wished) B.pre
  have hown : s.vm.findClass RX12 = some m.cls := findClass_of_methodNamed B.named
  have hlocks := B.notSynchronized
  subst hsz
  have hD := hD0.self (sz := s.heap.size)
  generalize hAe : va_A (wd67 cyI cyJ cyZ q_Md q_mtext q_mprimes q_mtable q_misOdd q_misHigh q_misTop q_mbits q_mpile q_mtold q_mstretch q_mfewest m_length m_primeMany m_toldMany m_fate m_tail m_round m_tableKind m_areLaid m_unlike m_isFree a_mtext a_mprimes a_mtable a_misOdd a_misHigh a_misTop a_mbits a_mpile) s.heap.size = A at hD ⊢
  have hA : ∀ q : Nat, s.heap.size ≤ q → A q := fun q h => by rw [← hAe]; exact Or.inr h
  have hS : va_S A s.heap s.heap [] := va_S.rf
  have hl := lv_entry ([.ref q_Md, .int v1, .int v2]) (n := 5) (Nat.le_of_ble_eq_true rfl)
  rw [lg_entry_eq]
  generalize (lg_sl ([.ref q_Md, .int v1, .int v2]) ++ List.replicate (5 - (lg_sl ([.ref q_Md, .int v1, .int v2])).length) Slot.unset).toArray = ls at hl ⊢
  have hl : lv_has ls 5 [(0, .ref q_Md), (1, .int v1), (2, .int v2)] := hl
  exact k_X12_wished_0 ⟨hx, hb, hr, hml, hown, hts, hlocks, hG, hA⟩ N res q_Md q_mtext q_mprimes q_mtable q_misOdd q_misHigh q_misTop q_mbits q_mpile q_mtold q_mstretch q_mfewest v1 v2 m_length m_primeMany m_toldMany m_fate m_tail m_round m_tableKind m_areLaid m_unlike m_isFree a_mtext a_mprimes a_mtable a_misOdd a_misHigh a_misTop a_mbits a_mpile  h _ _ hP hD hS _ hl
abbrev rm_X12_holds : Room := { frames := 5, cells := 0, slots := 0, locals := 130 }
theorem hd_X12_holds : yX12_holds.cls ≠ "java/lang/invoke/MethodHandle" ∧ yX12_holds.cls ≠ "java/lang/invoke/VarHandle" ∧ (parseMethodDescriptor yX12_holds.desc).map (fun d => d.parameters.length) = some 1 := by decide +kernel
theorem iw_X12_holds_X12 : ∀ w ∈ wsX120, w ∈ wsX12_holds := List.forall_mem_cons.mpr ⟨List.mem_of_getElem? (i := 79) rfl, List.forall_mem_cons.mpr ⟨List.mem_of_getElem? (i := 80) rfl, List.forall_mem_cons.mpr ⟨List.mem_of_getElem? (i := 81) rfl, List.forall_mem_cons.mpr ⟨List.mem_of_getElem? (i := 82) rfl, List.forall_mem_cons.mpr ⟨List.mem_of_getElem? (i := 83) rfl, List.forall_mem_cons.mpr ⟨List.mem_of_getElem? (i := 84) rfl, List.forall_mem_cons.mpr ⟨List.mem_of_getElem? (i := 85) rfl, List.forall_mem_cons.mpr ⟨List.mem_of_getElem? (i := 86) rfl, List.forall_mem_cons.mpr ⟨List.mem_of_getElem? (i := 87) rfl, List.forall_mem_cons.mpr ⟨List.mem_of_getElem? (i := 88) rfl, List.forall_mem_cons.mpr ⟨List.mem_of_getElem? (i := 89) rfl, List.forall_mem_cons.mpr ⟨List.mem_of_getElem? (i := 90) rfl, List.forall_mem_cons.mpr ⟨List.mem_of_getElem? (i := 91) rfl, List.forall_mem_cons.mpr ⟨List.mem_of_getElem? (i := 92) rfl, List.forall_mem_cons.mpr ⟨List.mem_of_getElem? (i := 93) rfl, List.forall_mem_cons.mpr ⟨List.mem_of_getElem? (i := 94) rfl, List.forall_mem_cons.mpr ⟨List.mem_of_getElem? (i := 95) rfl, List.forall_mem_cons.mpr ⟨List.mem_of_getElem? (i := 96) rfl, List.forall_mem_cons.mpr ⟨List.mem_of_getElem? (i := 97) rfl, List.forall_mem_cons.mpr ⟨List.mem_of_getElem? (i := 98) rfl, List.forall_mem_cons.mpr ⟨List.mem_of_getElem? (i := 99) rfl, fun _ h => absurd h List.not_mem_nil⟩⟩⟩⟩⟩⟩⟩⟩⟩⟩⟩⟩⟩⟩⟩⟩⟩⟩⟩⟩⟩
def f_X12_holds (N : Nat) (v1 : Int32) (m_length : Int32) (m_primeMany : Int32) (m_tableKind : Int32) (m_areLaid : Int32) (m_unlike : Int32) (m_isFree : Int32) (a_mtext : Nat → Int32) (a_mprimes : Nat → Int64) (a_mtable : Nat → Int32) (a_misOdd : Nat → Int32) (a_misHigh : Nat → Int32) (a_misTop : Nat → Int32) (a_mbits : Nat → Int64) (a_mpile : Nat → Int32) : Option (Int32 × Int32 × Int32 × Int32 × Int32 × Int32 × (Nat → Int64) × (Nat → Int32) × (Nat → Int32) × (Nat → Int32) × (Nat → Int32) × (Nat → Int64) × (Nat → Int32)) :=
  Option.bind (f_X12_in N v1.toInt64 (1 : Int64) (5000 : Int64)) fun r1z =>
  if r1z = 0 then
    some ((-1 : Int32), m_primeMany, m_tableKind, m_areLaid, m_unlike, m_isFree, a_mprimes, a_mtable, a_misOdd, a_misHigh, a_misTop, a_mbits, a_mpile)
  else
    Option.bind (f_X12_fault N  m_length a_mtext) fun r5z =>
    if r5z = (-4 : Int32) then
      Option.bind (f_X12_layFlags N  m_primeMany m_tableKind m_areLaid a_mprimes a_mtable a_misOdd a_misHigh a_misTop a_mbits) fun r9z =>
      Option.bind (f_X12_isWished N v1 m_length r9z.1 m_unlike m_isFree a_mtext r9z.2.2.2.1 r9z.2.2.2.2.1 r9z.2.2.2.2.2.1 r9z.2.2.2.2.2.2.1 r9z.2.2.2.2.2.2.2.1 a_mpile) fun r12z =>
      if r12z.1 = 0 then
        some ((0 : Int32), r12z.2.1, r9z.2.1, r9z.2.2.1, r12z.2.2.1, r12z.2.2.2.1, r12z.2.2.2.2.1, r9z.2.2.2.2.1, r9z.2.2.2.2.2.1, r9z.2.2.2.2.2.2.1, r9z.2.2.2.2.2.2.2.1, r9z.2.2.2.2.2.2.2.2, r12z.2.2.2.2.2)
      else
        some ((1 : Int32), r12z.2.1, r9z.2.1, r9z.2.2.1, r12z.2.2.1, r12z.2.2.2.1, r12z.2.2.2.2.1, r9z.2.2.2.2.1, r9z.2.2.2.2.2.1, r9z.2.2.2.2.2.2.1, r9z.2.2.2.2.2.2.2.1, r9z.2.2.2.2.2.2.2.2, r12z.2.2.2.2.2)
    else
      some ((-2 : Int32), m_primeMany, m_tableKind, m_areLaid, m_unlike, m_isFree, a_mprimes, a_mtable, a_misOdd, a_misHigh, a_misTop, a_mbits, a_mpile)
set_option maxRecDepth 100000 in
set_option maxHeartbeats 4000000 in
theorem k_X12_holds_0 {p : Program} {l : Launch} {e : Env} {s : State} {m : MethodId} {args : Array Value} {below : List Frame} {meth : Method} {c : Code} {dC : Nat → ClassId} {dI : Nat → Nat → Nat} {cyI cyJ cyZ : ClassId} {A : Nat → Prop} (C0 : mC p s m meth c args cX12_holds (some .int) 2 RX12 wsX12_holds (gK dC dI cyI cyJ cyZ) A) (N : Nat) (res : Int32 × Int32 × Int32 × Int32 × Int32 × Int32 × (Nat → Int64) × (Nat → Int32) × (Nat → Int32) × (Nat → Int32) × (Nat → Int32) × (Nat → Int64) × (Nat → Int32)) (q_Md : Nat) (q_mtext : Nat) (q_mprimes : Nat) (q_mtable : Nat) (q_misOdd : Nat) (q_misHigh : Nat) (q_misTop : Nat) (q_mbits : Nat) (q_mpile : Nat) (q_mtold : Nat) (q_mstretch : Nat) (q_mfewest : Nat) (v1 : Int32) (m_length : Int32) (m_primeMany : Int32) (m_toldMany : Int32) (m_fate : Int32) (m_tail : Int32) (m_round : Int32) (m_tableKind : Int32) (m_areLaid : Int32) (m_unlike : Int32) (m_isFree : Int32) (a_mtext : Nat → Int32) (a_mprimes : Nat → Int64) (a_mtable : Nat → Int32) (a_misOdd : Nat → Int32) (a_misHigh : Nat → Int32) (a_misTop : Nat → Int32) (a_mbits : Nat → Int64) (a_mpile : Nat → Int32) (h : f_X12_holds N v1 m_length m_primeMany m_tableKind m_areLaid m_unlike m_isFree a_mtext a_mprimes a_mtable a_misOdd a_misHigh a_misTop a_mbits a_mpile = some res) : ∀ (H : Heap) (locs : List Loc), va_P (dC, dI) vwCl (wd67 cyI cyJ cyZ q_Md q_mtext q_mprimes q_mtable q_misOdd q_misHigh q_misTop q_mbits q_mpile q_mtold q_mstretch q_mfewest m_length m_primeMany m_toldMany m_fate m_tail m_round m_tableKind m_areLaid m_unlike m_isFree a_mtext a_mprimes a_mtable a_misOdd a_misHigh a_misTop a_mbits a_mpile) H → va_D A (wd67 cyI cyJ cyZ q_Md q_mtext q_mprimes q_mtable q_misOdd q_misHigh q_misTop q_mbits q_mpile q_mtold q_mstretch q_mfewest m_length m_primeMany m_toldMany m_fate m_tail m_round m_tableKind m_areLaid m_unlike m_isFree a_mtext a_mprimes a_mtable a_misOdd a_misHigh a_misTop a_mbits a_mpile) → va_S A s.heap H locs → ∀ (ls : Array Slot), lv_has ls 2 [(0, .ref q_Md), (1, .int v1)] → W p l e (headSpec wsX12_holds rm_X12_holds).room s m args below meth c H locs 0 0 (MQ below (va_Qi (fun (r : Int32) (_ : Unit) => r = res.1) (bW dC dI (fun (u : Unit) => (wd67 cyI cyJ cyZ q_Md q_mtext q_mprimes q_mtable q_misOdd q_misHigh q_misTop q_mbits q_mpile q_mtold q_mstretch q_mfewest m_length res.2.1 m_toldMany m_fate m_tail m_round res.2.2.1 res.2.2.2.1 res.2.2.2.2.1 res.2.2.2.2.2.1 a_mtext res.2.2.2.2.2.2.1 res.2.2.2.2.2.2.2.1 res.2.2.2.2.2.2.2.2.1 res.2.2.2.2.2.2.2.2.2.1 res.2.2.2.2.2.2.2.2.2.2.1 res.2.2.2.2.2.2.2.2.2.2.2.1 res.2.2.2.2.2.2.2.2.2.2.2.2)) A) A) args s 0 0 A) (F0 m 0 ls []) := by
  obtain ⟨hx, hb, hr, hml, hown, hts, hlocks, hG, hA⟩ := id C0
  have hK := hG.1
  intro H locs hP hD hS ls hl
  unfold f_X12_holds at h
  refine lv_iload_n hx hb dX12_holds_0 rfl (lv_at hl 1 rfl) ?_
  refine lv_i2l (v := v1.toInt64) hx hb dX12_holds_1 rfl ?_
  refine lv_lconst (v := (1 : Int64)) hx hb dX12_holds_2 (by decide) ?_
  refine lv_ldc2 (v := (5000 : Int64)) hx hb hown (hts (.constantLong RX12 143 (5000)) (List.mem_of_getElem? (i := 1) rfl)) dX12_holds_3 ?_
  obtain ⟨r1z, hr1z, h⟩ := xb_at h
  have hPc := hP.sub (ws' := (wd37 cyI cyJ cyZ)) [] rfl
  have hDc := hD.sub (ws' := (wd37 cyI cyJ cyZ)) [] (by decide) rfl
  refine cal_i [] [0, 1, 2, 3, 4, 5, 6, 7, 8] (va_runS (As := [.long v1.toInt64, .long (1 : Int64), .long (5000 : Int64)]) (rest := []) ⟨hx, hb, hml, hown, hts⟩ (c_X12_in l dC dI cyI cyJ cyZ N r1z H.size  v1.toInt64 (1 : Int64) (5000 : Int64)  hr1z) (va_cwS 3 hts gX12_holds_X12_in rfl rfl rfl hd_X12_in ⟨Nat.le_of_ble_eq_true rfl, Nat.le_of_ble_eq_true rfl⟩) ⟨pC.blind, pC.pre hPc hG hDc⟩ rfl rfl hl.1 rfl (lv_room (Nat.le_of_ble_eq_true rfl)) dX12_holds_6 ⟨Nat.zero_le _, Nat.zero_le _⟩) hP hD hS hA rfl rfl rfl (by decide) (fun x3z u2z H locs hw hP hD hS => ?_)
  obtain rfl := hw.symm
  have hP : va_P (dC, dI) vwCl (wd67 cyI cyJ cyZ q_Md q_mtext q_mprimes q_mtable q_misOdd q_misHigh q_misTop q_mbits q_mpile q_mtold q_mstretch q_mfewest m_length m_primeMany m_toldMany m_fate m_tail m_round m_tableKind m_areLaid m_unlike m_isFree a_mtext a_mprimes a_mtable a_misOdd a_misHigh a_misTop a_mbits a_mpile) H := hP.sub [0, 1, 2, 3, 4, 5, 6, 7, 8] rfl
  have hD : va_D A (wd67 cyI cyJ cyZ q_Md q_mtext q_mprimes q_mtable q_misOdd q_misHigh q_misTop q_mbits q_mpile q_mtold q_mstretch q_mfewest m_length m_primeMany m_toldMany m_fate m_tail m_round m_tableKind m_areLaid m_unlike m_isFree a_mtext a_mprimes a_mtable a_misOdd a_misHigh a_misTop a_mbits a_mpile) := hD.sub [0, 1, 2, 3, 4, 5, 6, 7, 8] (by decide) rfl
  refine lv_if_ne (tgt := 14) hx hb dX12_holds_9 (by decide) (fun c4z => ?_) (fun c4z => ?_)
  · have h := xf h c4z
    refine lv_aload_n hx hb dX12_holds_14 rfl (lv_at hl 0 rfl) ?_
    obtain ⟨r5z, hr5z, h⟩ := xb_at h
    have hPc := hP.sub (ws' := (wd64 cyI cyJ cyZ q_Md q_mtext q_mprimes q_mtold q_mtable q_mstretch q_mfewest q_misOdd q_misHigh q_misTop q_mbits q_mpile m_length m_primeMany m_toldMany m_fate m_tail m_round m_tableKind m_areLaid m_unlike m_isFree a_mtext)) [0, 1] rfl
    have hDc := hD.sub (ws' := (wd64 cyI cyJ cyZ q_Md q_mtext q_mprimes q_mtold q_mtable q_mstretch q_mfewest q_misOdd q_misHigh q_misTop q_mbits q_mpile m_length m_primeMany m_toldMany m_fate m_tail m_round m_tableKind m_areLaid m_unlike m_isFree a_mtext)) [0, 1] (by decide) rfl
    refine cal_i [0, 1] [2, 3, 4, 5, 6, 7, 8] (va_runV (As := []) (rest := []) ⟨hx, hb, hml, hown, hts⟩ (c_X12_fault l dC dI cyI cyJ cyZ N r5z H.size q_Md q_mtext q_mprimes q_mtold q_mtable q_mstretch q_mfewest q_misOdd q_misHigh q_misTop q_mbits q_mpile  m_length m_primeMany m_toldMany m_fate m_tail m_round m_tableKind m_areLaid m_unlike m_isFree a_mtext hr5z) (cwV 0 hts gX12_holds_X12_fault rfl rfl rfl ⟨rfl, hd_X12_fault⟩ ⟨Nat.le_of_ble_eq_true rfl, Nat.le_of_ble_eq_true rfl⟩) ⟨pC.blind, va_recv hK hPc (ci := 12) (q0 := 0) rfl rfl, pC.pre hPc hG hDc⟩ rfl rfl hl.1 rfl (lv_room (Nat.le_of_ble_eq_true rfl)) dX12_holds_15 ⟨Nat.zero_le _, Nat.zero_le _⟩) hP hD hS hA rfl rfl rfl (by decide) (fun x7z u6z H locs hw hP hD hS => ?_)
    obtain rfl := hw.symm
    have hP : va_P (dC, dI) vwCl (wd67 cyI cyJ cyZ q_Md q_mtext q_mprimes q_mtable q_misOdd q_misHigh q_misTop q_mbits q_mpile q_mtold q_mstretch q_mfewest m_length m_primeMany m_toldMany m_fate m_tail m_round m_tableKind m_areLaid m_unlike m_isFree a_mtext a_mprimes a_mtable a_misOdd a_misHigh a_misTop a_mbits a_mpile) H := hP.sub [7, 8, 0, 1, 2, 3, 4, 5, 6] rfl
    have hD : va_D A (wd67 cyI cyJ cyZ q_Md q_mtext q_mprimes q_mtable q_misOdd q_misHigh q_misTop q_mbits q_mpile q_mtold q_mstretch q_mfewest m_length m_primeMany m_toldMany m_fate m_tail m_round m_tableKind m_areLaid m_unlike m_isFree a_mtext a_mprimes a_mtable a_misOdd a_misHigh a_misTop a_mbits a_mpile) := hD.sub [7, 8, 0, 1, 2, 3, 4, 5, 6] (by decide) rfl
    refine lv_bipush (v := (-4 : Int32)) hx hb dX12_holds_18 (by decide) ?_
    refine lv_icmp_eq (tgt := 26) hx hb dX12_holds_20 (by decide) (fun c8z => ?_) (fun c8z => ?_)
    · have h := xt h c8z
      refine lv_aload_n hx hb dX12_holds_26 rfl (lv_at hl 0 rfl) ?_
      obtain ⟨r9z, hr9z, h⟩ := xb_at h
      have hPc := hP.sub (ws' := (wd63 cyI cyJ cyZ q_Md q_mprimes q_mtable q_misOdd q_misHigh q_misTop q_mbits q_mtext q_mtold q_mstretch q_mfewest q_mpile m_length m_primeMany m_toldMany m_fate m_tail m_round m_tableKind m_areLaid m_unlike m_isFree a_mprimes a_mtable a_misOdd a_misHigh a_misTop a_mbits)) [0, 2, 3, 4, 5, 6, 7] rfl
      have hDc := hD.sub (ws' := (wd63 cyI cyJ cyZ q_Md q_mprimes q_mtable q_misOdd q_misHigh q_misTop q_mbits q_mtext q_mtold q_mstretch q_mfewest q_mpile m_length m_primeMany m_toldMany m_fate m_tail m_round m_tableKind m_areLaid m_unlike m_isFree a_mprimes a_mtable a_misOdd a_misHigh a_misTop a_mbits)) [0, 2, 3, 4, 5, 6, 7] (by decide) rfl
      refine cal_v [0, 2, 3, 4, 5, 6, 7] [1, 8] (va_runV (As := []) (rest := []) ⟨hx, hb, hml, hown, hts⟩ (c_X12_layFlags l dC dI cyI cyJ cyZ N r9z H.size q_Md q_mprimes q_mtable q_misOdd q_misHigh q_misTop q_mbits q_mtext q_mtold q_mstretch q_mfewest q_mpile  m_length m_primeMany m_toldMany m_fate m_tail m_round m_tableKind m_areLaid m_unlike m_isFree a_mprimes a_mtable a_misOdd a_misHigh a_misTop a_mbits hr9z) (cwV 0 hts gX12_holds_X12_layFlags rfl rfl rfl ⟨rfl, hd_X12_layFlags⟩ ⟨Nat.le_of_ble_eq_true rfl, Nat.le_of_ble_eq_true rfl⟩) ⟨pC.blind, va_recv hK hPc (ci := 12) (q0 := 0) rfl rfl, pC.pre hPc hG hDc⟩ rfl rfl hl.1 rfl (lv_room (Nat.le_of_ble_eq_true rfl)) dX12_holds_27 ⟨Nat.zero_le _, Nat.zero_le _⟩) hP hD hS hA rfl rfl rfl (by decide) (fun u10z H locs _ hP hD hS => ?_)
      have hP : va_P (dC, dI) vwCl (wd67 cyI cyJ cyZ q_Md q_mtext q_mprimes q_mtable q_misOdd q_misHigh q_misTop q_mbits q_mpile q_mtold q_mstretch q_mfewest m_length r9z.1 m_toldMany m_fate m_tail m_round r9z.2.1 r9z.2.2.1 m_unlike m_isFree a_mtext r9z.2.2.2.1 r9z.2.2.2.2.1 r9z.2.2.2.2.2.1 r9z.2.2.2.2.2.2.1 r9z.2.2.2.2.2.2.2.1 r9z.2.2.2.2.2.2.2.2 a_mpile) H := hP.sub [2, 0, 3, 4, 5, 6, 7, 8, 1] rfl
      have hD : va_D A (wd67 cyI cyJ cyZ q_Md q_mtext q_mprimes q_mtable q_misOdd q_misHigh q_misTop q_mbits q_mpile q_mtold q_mstretch q_mfewest m_length r9z.1 m_toldMany m_fate m_tail m_round r9z.2.1 r9z.2.2.1 m_unlike m_isFree a_mtext r9z.2.2.2.1 r9z.2.2.2.2.1 r9z.2.2.2.2.2.1 r9z.2.2.2.2.2.2.1 r9z.2.2.2.2.2.2.2.1 r9z.2.2.2.2.2.2.2.2 a_mpile) := hD.sub [2, 0, 3, 4, 5, 6, 7, 8, 1] (by decide) rfl
      refine lv_aload_n hx hb dX12_holds_30 rfl (lv_at hl 0 rfl) ?_
      refine lv_iload_n hx hb dX12_holds_31 rfl (lv_at hl 1 rfl) ?_
      obtain ⟨r12z, hr12z, h⟩ := xb_at h
      have hPc := hP.sub (ws' := (wd66 cyI cyJ cyZ q_Md q_mtext q_mprimes q_mtable q_misOdd q_misHigh q_misTop q_mpile q_mtold q_mstretch q_mfewest q_mbits m_length r9z.1 m_toldMany m_fate m_tail m_round r9z.2.1 r9z.2.2.1 m_unlike m_isFree a_mtext r9z.2.2.2.1 r9z.2.2.2.2.1 r9z.2.2.2.2.2.1 r9z.2.2.2.2.2.2.1 r9z.2.2.2.2.2.2.2.1 a_mpile)) [0, 1, 2, 3, 4, 5, 6, 8] rfl
      have hDc := hD.sub (ws' := (wd66 cyI cyJ cyZ q_Md q_mtext q_mprimes q_mtable q_misOdd q_misHigh q_misTop q_mpile q_mtold q_mstretch q_mfewest q_mbits m_length r9z.1 m_toldMany m_fate m_tail m_round r9z.2.1 r9z.2.2.1 m_unlike m_isFree a_mtext r9z.2.2.2.1 r9z.2.2.2.2.1 r9z.2.2.2.2.2.1 r9z.2.2.2.2.2.2.1 r9z.2.2.2.2.2.2.2.1 a_mpile)) [0, 1, 2, 3, 4, 5, 6, 8] (by decide) rfl
      refine cal_i [0, 1, 2, 3, 4, 5, 6, 8] [7] (va_runV (As := [.int v1]) (rest := []) ⟨hx, hb, hml, hown, hts⟩ (c_X12_isWished l dC dI cyI cyJ cyZ N r12z H.size q_Md q_mtext q_mprimes q_mtable q_misOdd q_misHigh q_misTop q_mpile q_mtold q_mstretch q_mfewest q_mbits v1 m_length r9z.1 m_toldMany m_fate m_tail m_round r9z.2.1 r9z.2.2.1 m_unlike m_isFree a_mtext r9z.2.2.2.1 r9z.2.2.2.2.1 r9z.2.2.2.2.2.1 r9z.2.2.2.2.2.2.1 r9z.2.2.2.2.2.2.2.1 a_mpile hr12z) (cwV 1 hts gX12_holds_X12_isWished rfl rfl rfl ⟨rfl, hd_X12_isWished⟩ ⟨Nat.le_of_ble_eq_true rfl, Nat.le_of_ble_eq_true rfl⟩) ⟨pC.blind, va_recv hK hPc (ci := 12) (q0 := 0) rfl rfl, pC.pre hPc hG hDc⟩ rfl rfl hl.1 rfl (lv_room (Nat.le_of_ble_eq_true rfl)) dX12_holds_32 ⟨Nat.zero_le _, Nat.zero_le _⟩) hP hD hS hA rfl rfl rfl (by decide) (fun x14z u13z H locs hw hP hD hS => ?_)
      obtain rfl := hw.symm
      have hP : va_P (dC, dI) vwCl (wd67 cyI cyJ cyZ q_Md q_mtext q_mprimes q_mtable q_misOdd q_misHigh q_misTop q_mbits q_mpile q_mtold q_mstretch q_mfewest m_length r12z.2.1 m_toldMany m_fate m_tail m_round r9z.2.1 r9z.2.2.1 r12z.2.2.1 r12z.2.2.2.1 a_mtext r12z.2.2.2.2.1 r9z.2.2.2.2.1 r9z.2.2.2.2.2.1 r9z.2.2.2.2.2.2.1 r9z.2.2.2.2.2.2.2.1 r9z.2.2.2.2.2.2.2.2 r12z.2.2.2.2.2) H := hP.sub [1, 2, 3, 4, 5, 6, 7, 0, 8] rfl
      have hD : va_D A (wd67 cyI cyJ cyZ q_Md q_mtext q_mprimes q_mtable q_misOdd q_misHigh q_misTop q_mbits q_mpile q_mtold q_mstretch q_mfewest m_length r12z.2.1 m_toldMany m_fate m_tail m_round r9z.2.1 r9z.2.2.1 r12z.2.2.1 r12z.2.2.2.1 a_mtext r12z.2.2.2.2.1 r9z.2.2.2.2.1 r9z.2.2.2.2.2.1 r9z.2.2.2.2.2.2.1 r9z.2.2.2.2.2.2.2.1 r9z.2.2.2.2.2.2.2.2 r12z.2.2.2.2.2) := hD.sub [1, 2, 3, 4, 5, 6, 7, 0, 8] (by decide) rfl
      refine lv_if_eq (tgt := 42) hx hb dX12_holds_35 (by decide) (fun c15z => ?_) (fun c15z => ?_)
      · have h := xt h c15z
        refine lv_iconst (v := (0 : Int32)) hx hb dX12_holds_42 (by decide) ?_
        obtain rfl := Option.some.inj h
        exact W.iret (v := (0 : Int32)) hx hb hr (fun t ht hW => ⟨⟨_, (), rfl, rfl, by rw [ht]; exact hP, hD⟩, hS.F ht⟩) hS.2.2 dX12_holds_43 hlocks
      · have h := xf h c15z
        refine lv_iconst (v := (1 : Int32)) hx hb dX12_holds_38 (by decide) ?_
        refine lv_goto (tgt := 43) hx hb dX12_holds_39 (by decide) ?_
        obtain rfl := Option.some.inj h
        exact W.iret (v := (1 : Int32)) hx hb hr (fun t ht hW => ⟨⟨_, (), rfl, rfl, by rw [ht]; exact hP, hD⟩, hS.F ht⟩) hS.2.2 dX12_holds_43 hlocks
    · have h := xf h c8z
      refine lv_bipush (v := (-2 : Int32)) hx hb dX12_holds_23 (by decide) ?_
      obtain rfl := Option.some.inj h
      exact W.iret (v := (-2 : Int32)) hx hb hr (fun t ht hW => ⟨⟨_, (), rfl, rfl, by rw [ht]; exact hP, hD⟩, hS.F ht⟩) hS.2.2 dX12_holds_25 hlocks
  · have h := xt h c4z
    refine lv_iconst (v := (-1 : Int32)) hx hb dX12_holds_12 (by decide) ?_
    obtain rfl := Option.some.inj h
    exact W.iret (v := (-1 : Int32)) hx hb hr (fun t ht hW => ⟨⟨_, (), rfl, rfl, by rw [ht]; exact hP, hD⟩, hS.F ht⟩) hS.2.2 dX12_holds_13 hlocks
set_option maxRecDepth 100000 in
set_option maxHeartbeats 4000000 in
theorem c_X12_holds (l : Launch) (dC : Nat → ClassId) (dI : Nat → Nat → Nat) (cyI cyJ cyZ : ClassId) (N : Nat) (res : Int32 × Int32 × Int32 × Int32 × Int32 × Int32 × (Nat → Int64) × (Nat → Int32) × (Nat → Int32) × (Nat → Int32) × (Nat → Int32) × (Nat → Int64) × (Nat → Int32)) (sz : Nat) (q_Md : Nat) (q_mtext : Nat) (q_mprimes : Nat) (q_mtable : Nat) (q_misOdd : Nat) (q_misHigh : Nat) (q_misTop : Nat) (q_mbits : Nat) (q_mpile : Nat) (q_mtold : Nat) (q_mstretch : Nat) (q_mfewest : Nat) (v1 : Int32) (m_length : Int32) (m_primeMany : Int32) (m_toldMany : Int32) (m_fate : Int32) (m_tail : Int32) (m_round : Int32) (m_tableKind : Int32) (m_areLaid : Int32) (m_unlike : Int32) (m_isFree : Int32) (a_mtext : Nat → Int32) (a_mprimes : Nat → Int64) (a_mtable : Nat → Int32) (a_misOdd : Nat → Int32) (a_misHigh : Nat → Int32) (a_misTop : Nat → Int32) (a_mbits : Nat → Int64) (a_mpile : Nat → Int32) (h : f_X12_holds N v1 m_length m_primeMany m_tableKind m_areLaid m_unlike m_isFree a_mtext a_mprimes a_mtable a_misOdd a_misHigh a_misTop a_mbits a_mpile = some res) : Met l yX12_holds wsX12_holds rm_X12_holds (pC dC dI cyI cyJ cyZ [.ref q_Md, .int v1] sz (wd67 cyI cyJ cyZ q_Md q_mtext q_mprimes q_mtable q_misOdd q_misHigh q_misTop q_mbits q_mpile q_mtold q_mstretch q_mfewest m_length m_primeMany m_toldMany m_fate m_tail m_round m_tableKind m_areLaid m_unlike m_isFree a_mtext a_mprimes a_mtable a_misOdd a_misHigh a_misTop a_mbits a_mpile)) (va_Qi (fun (r : Int32) (_ : Unit) => r = res.1) (bW dC dI (fun (u : Unit) => (wd67 cyI cyJ cyZ q_Md q_mtext q_mprimes q_mtable q_misOdd q_misHigh q_misTop q_mbits q_mpile q_mtold q_mstretch q_mfewest m_length res.2.1 m_toldMany m_fate m_tail m_round res.2.2.1 res.2.2.2.1 res.2.2.2.2.1 res.2.2.2.2.2.1 a_mtext res.2.2.2.2.2.2.1 res.2.2.2.2.2.2.2.1 res.2.2.2.2.2.2.2.2.1 res.2.2.2.2.2.2.2.2.2.1 res.2.2.2.2.2.2.2.2.2.2.1 res.2.2.2.2.2.2.2.2.2.2.2.1 res.2.2.2.2.2.2.2.2.2.2.2.2)) (va_A (wd67 cyI cyJ cyZ q_Md q_mtext q_mprimes q_mtable q_misOdd q_misHigh q_misTop q_mbits q_mpile q_mtold q_mstretch q_mfewest m_length m_primeMany m_toldMany m_fate m_tail m_round m_tableKind m_areLaid m_unlike m_isFree a_mtext a_mprimes a_mtable a_misOdd a_misHigh a_misTop a_mbits a_mpile) sz)) (va_A (wd67 cyI cyJ cyZ q_Md q_mtext q_mprimes q_mtable q_misOdd q_misHigh q_misTop q_mbits q_mpile q_mtold q_mstretch q_mfewest m_length m_primeMany m_toldMany m_fate m_tail m_round m_tableKind m_areLaid m_unlike m_isFree a_mtext a_mprimes a_mtable a_misOdd a_misHigh a_misTop a_mbits a_mpile) sz)) 0 0 (va_A (wd67 cyI cyJ cyZ q_Md q_mtext q_mprimes q_mtable q_misOdd q_misHigh q_misTop q_mbits q_mpile q_mtold q_mstretch q_mfewest m_length m_primeMany m_toldMany m_fate m_tail m_round m_tableKind m_areLaid m_unlike m_isFree a_mtext a_mprimes a_mtable a_misOdd a_misHigh a_misTop a_mbits a_mpile) sz) := by
  refine Met.ofW (cc := cX12_holds) (maxL := 2) (ret := (some .int)) (by decide) rfl ?_
  intro p e s m args below meth c s₁ B hml hv
  obtain ⟨rfl, hsz, hP, hG, hD0⟩ := hv
  have hx := B.exec
  have hb := B.bytes
  have hr := B.returns
  have hts := atoms_spec (ws := wsX12_holds) B.pre
  have hown : s.vm.findClass RX12 = some m.cls := findClass_of_methodNamed B.named
  have hlocks := B.notSynchronized
  subst hsz
  have hD := hD0.self (sz := s.heap.size)
  generalize hAe : va_A (wd67 cyI cyJ cyZ q_Md q_mtext q_mprimes q_mtable q_misOdd q_misHigh q_misTop q_mbits q_mpile q_mtold q_mstretch q_mfewest m_length m_primeMany m_toldMany m_fate m_tail m_round m_tableKind m_areLaid m_unlike m_isFree a_mtext a_mprimes a_mtable a_misOdd a_misHigh a_misTop a_mbits a_mpile) s.heap.size = A at hD ⊢
  have hA : ∀ q : Nat, s.heap.size ≤ q → A q := fun q h => by rw [← hAe]; exact Or.inr h
  have hS : va_S A s.heap s.heap [] := va_S.rf
  have hl := lv_entry ([.ref q_Md, .int v1]) (n := 2) (Nat.le_of_ble_eq_true rfl)
  rw [lg_entry_eq]
  generalize (lg_sl ([.ref q_Md, .int v1]) ++ List.replicate (2 - (lg_sl ([.ref q_Md, .int v1])).length) Slot.unset).toArray = ls at hl ⊢
  have hl : lv_has ls 2 [(0, .ref q_Md), (1, .int v1)] := hl
  exact k_X12_holds_0 ⟨hx, hb, hr, hml, hown, hts, hlocks, hG, hA⟩ N res q_Md q_mtext q_mprimes q_mtable q_misOdd q_misHigh q_misTop q_mbits q_mpile q_mtold q_mstretch q_mfewest v1 m_length m_primeMany m_toldMany m_fate m_tail m_round m_tableKind m_areLaid m_unlike m_isFree a_mtext a_mprimes a_mtable a_misOdd a_misHigh a_misTop a_mbits a_mpile  h _ _ hP hD hS _ hl
abbrev rm_X12_count : Room := { frames := 2, cells := 0, slots := 0, locals := 47 }
theorem hd_X12_count : yX12_count.cls ≠ "java/lang/invoke/MethodHandle" ∧ yX12_count.cls ≠ "java/lang/invoke/VarHandle" ∧ (parseMethodDescriptor yX12_count.desc).map (fun d => d.parameters.length) = some 1 := by decide +kernel
theorem iw_X12_count_X12 : ∀ w ∈ wsX120, w ∈ wsX12_count := List.forall_mem_cons.mpr ⟨List.mem_of_getElem? (i := 12) rfl, List.forall_mem_cons.mpr ⟨List.mem_of_getElem? (i := 13) rfl, List.forall_mem_cons.mpr ⟨List.mem_of_getElem? (i := 14) rfl, List.forall_mem_cons.mpr ⟨List.mem_of_getElem? (i := 15) rfl, List.forall_mem_cons.mpr ⟨List.mem_of_getElem? (i := 16) rfl, List.forall_mem_cons.mpr ⟨List.mem_of_getElem? (i := 17) rfl, List.forall_mem_cons.mpr ⟨List.mem_of_getElem? (i := 18) rfl, List.forall_mem_cons.mpr ⟨List.mem_of_getElem? (i := 19) rfl, List.forall_mem_cons.mpr ⟨List.mem_of_getElem? (i := 20) rfl, List.forall_mem_cons.mpr ⟨List.mem_of_getElem? (i := 21) rfl, List.forall_mem_cons.mpr ⟨List.mem_of_getElem? (i := 22) rfl, List.forall_mem_cons.mpr ⟨List.mem_of_getElem? (i := 23) rfl, List.forall_mem_cons.mpr ⟨List.mem_of_getElem? (i := 24) rfl, List.forall_mem_cons.mpr ⟨List.mem_of_getElem? (i := 25) rfl, List.forall_mem_cons.mpr ⟨List.mem_of_getElem? (i := 26) rfl, List.forall_mem_cons.mpr ⟨List.mem_of_getElem? (i := 27) rfl, List.forall_mem_cons.mpr ⟨List.mem_of_getElem? (i := 28) rfl, List.forall_mem_cons.mpr ⟨List.mem_of_getElem? (i := 29) rfl, List.forall_mem_cons.mpr ⟨List.mem_of_getElem? (i := 30) rfl, List.forall_mem_cons.mpr ⟨List.mem_of_getElem? (i := 31) rfl, List.forall_mem_cons.mpr ⟨List.mem_of_getElem? (i := 32) rfl, fun _ h => absurd h List.not_mem_nil⟩⟩⟩⟩⟩⟩⟩⟩⟩⟩⟩⟩⟩⟩⟩⟩⟩⟩⟩⟩⟩
def j_X12_count_50 (N : Nat) (v1 : Int32) (v2 : Int32) (m_length : Int32) : Option (Int32) :=
  if v1 = 0 then
    some m_length
  else
    some v2
set_option maxRecDepth 100000 in
set_option maxHeartbeats 4000000 in
theorem k_X12_count_50 {p : Program} {l : Launch} {e : Env} {s : State} {m : MethodId} {args : Array Value} {below : List Frame} {meth : Method} {c : Code} {dC : Nat → ClassId} {dI : Nat → Nat → Nat} {cyI cyJ cyZ : ClassId} {A : Nat → Prop} (C0 : mC p s m meth c args cX12_count (some .int) 4 RX12 wsX12_count (gK dC dI cyI cyJ cyZ) A) (N : Nat) (res : Int32) (q_Md : Nat) (q_mtext : Nat) (q_mprimes : Nat) (q_mtold : Nat) (q_mtable : Nat) (q_mstretch : Nat) (q_mfewest : Nat) (q_misOdd : Nat) (q_misHigh : Nat) (q_misTop : Nat) (q_mbits : Nat) (q_mpile : Nat) (v1 : Int32) (v2 : Int32) (m_length : Int32) (m_primeMany : Int32) (m_toldMany : Int32) (m_fate : Int32) (m_tail : Int32) (m_round : Int32) (m_tableKind : Int32) (m_areLaid : Int32) (m_unlike : Int32) (m_isFree : Int32) (a_mtext : Nat → Int32) (h : j_X12_count_50 N v1 v2 m_length = some res) : ∀ (H : Heap) (locs : List Loc), va_P (dC, dI) vwCl (wd64 cyI cyJ cyZ q_Md q_mtext q_mprimes q_mtold q_mtable q_mstretch q_mfewest q_misOdd q_misHigh q_misTop q_mbits q_mpile m_length m_primeMany m_toldMany m_fate m_tail m_round m_tableKind m_areLaid m_unlike m_isFree a_mtext) H → va_D A (wd64 cyI cyJ cyZ q_Md q_mtext q_mprimes q_mtold q_mtable q_mstretch q_mfewest q_misOdd q_misHigh q_misTop q_mbits q_mpile m_length m_primeMany m_toldMany m_fate m_tail m_round m_tableKind m_areLaid m_unlike m_isFree a_mtext) → va_S A s.heap H locs → ∀ (ls : Array Slot), lv_has ls 4 [(0, .ref q_Md), (1, .int v1), (2, .int v2)] → W p l e (headSpec wsX12_count rm_X12_count).room s m args below meth c H locs 0 0 (MQ below (va_Qi (fun (r : Int32) (_ : Unit) => r = res) (bW dC dI (fun (u : Unit) => (wd64 cyI cyJ cyZ q_Md q_mtext q_mprimes q_mtold q_mtable q_mstretch q_mfewest q_misOdd q_misHigh q_misTop q_mbits q_mpile m_length m_primeMany m_toldMany m_fate m_tail m_round m_tableKind m_areLaid m_unlike m_isFree a_mtext)) A) A) args s 0 0 A) (F0 m 50 ls []) := by
  obtain ⟨hx, hb, hr, hml, hown, hts, hlocks, hG, hA⟩ := id C0
  have hK := hG.1
  intro H locs hP hD hS ls hl
  unfold j_X12_count_50 at h
  refine lv_iload_n hx hb dX12_count_50 rfl (lv_at hl 1 rfl) ?_
  refine lv_if_ne (tgt := 61) hx hb dX12_count_51 (by decide) (fun c6z => ?_) (fun c6z => ?_)
  · have h := xf h c6z
    refine lv_iload_n hx hb dX12_count_61 rfl (lv_at hl 2 rfl) ?_
    obtain rfl := Option.some.inj h
    exact W.iret (v := v2) hx hb hr (fun t ht hW => ⟨⟨_, (), rfl, rfl, by rw [ht]; exact hP, hD⟩, hS.F ht⟩) hS.2.2 dX12_count_62 hlocks
  · have h := xt h c6z
    refine lv_aload_n hx hb dX12_count_54 rfl (lv_at hl 0 rfl) ?_
    refine va_get (D := (dC, dI)) (ci := 12) (v := .int m_length) (C := RX12) (T := TX12) (N := 21) hx hb hts iw_X12_count_X12 hown hK hP 0 rfl rfl 0 (by decide) (hts (.fieldLink RX12 157 "GoesIntoModel" "length" "I") (List.mem_of_getElem? (i := 1) rfl)) (fun _ h9 => h9) rfl dX12_count_55 ?_
    refine lv_goto (tgt := 62) hx hb dX12_count_58 (by decide) ?_
    obtain rfl := Option.some.inj h
    exact W.iret (v := m_length) hx hb hr (fun t ht hW => ⟨⟨_, (), rfl, rfl, by rw [ht]; exact hP, hD⟩, hS.F ht⟩) hS.2.2 dX12_count_62 hlocks
def s_X12_count_16 (N : Nat) (v1 : Int32) (m_length : Int32) (a_mtext : Nat → Int32) (k_16 : (Int32 × Int32) → Option (Int32)) (v2 : Int32) (v3 : Int32) : Option (Int32) :=
  if m_length ≤ v3 then
    j_X12_count_50 N v1 v2 m_length
  else
    if v3 < 0 ∨ 60 ≤ v3.toNatClampNeg then
      none
    else
      Option.bind (f_X12_looks N (a_mtext v3.toNatClampNeg)) fun r8z =>
      if r8z = 0 then
        xl (v2 + (0 : Int32)) fun y12z =>
        xl (v3 + (1 : Int32)) fun y13z =>
        k_16 (y12z, y13z)
      else
        xl (v2 + (1 : Int32)) fun y14z =>
        xl (v3 + (1 : Int32)) fun y15z =>
        k_16 (y14z, y15z)
def l_X12_count_16 (N : Nat) (v1 : Int32) (m_length : Int32) (a_mtext : Nat → Int32) (n : Nat) (z : Int32 × Int32) : Option (Int32) := lp (fun k z => s_X12_count_16 N v1 m_length a_mtext k z.1 z.2) n z
set_option maxRecDepth 100000 in
set_option maxHeartbeats 4000000 in
theorem k_X12_count_16 {p : Program} {l : Launch} {e : Env} {s : State} {m : MethodId} {args : Array Value} {below : List Frame} {meth : Method} {c : Code} {dC : Nat → ClassId} {dI : Nat → Nat → Nat} {cyI cyJ cyZ : ClassId} {A : Nat → Prop} (C0 : mC p s m meth c args cX12_count (some .int) 4 RX12 wsX12_count (gK dC dI cyI cyJ cyZ) A) (N : Nat) (res : Int32) (q_Md : Nat) (q_mtext : Nat) (q_mprimes : Nat) (q_mtold : Nat) (q_mtable : Nat) (q_mstretch : Nat) (q_mfewest : Nat) (q_misOdd : Nat) (q_misHigh : Nat) (q_misTop : Nat) (q_mbits : Nat) (q_mpile : Nat) (v1 : Int32) (m_length : Int32) (m_primeMany : Int32) (m_toldMany : Int32) (m_fate : Int32) (m_tail : Int32) (m_round : Int32) (m_tableKind : Int32) (m_areLaid : Int32) (m_unlike : Int32) (m_isFree : Int32) (a_mtext : Nat → Int32) : ∀ (n : Nat) (v2 : Int32) (v3 : Int32), l_X12_count_16 N v1 m_length a_mtext n (v2, v3) = some res → ∀ (H : Heap) (locs : List Loc), va_P (dC, dI) vwCl (wd64 cyI cyJ cyZ q_Md q_mtext q_mprimes q_mtold q_mtable q_mstretch q_mfewest q_misOdd q_misHigh q_misTop q_mbits q_mpile m_length m_primeMany m_toldMany m_fate m_tail m_round m_tableKind m_areLaid m_unlike m_isFree a_mtext) H → va_D A (wd64 cyI cyJ cyZ q_Md q_mtext q_mprimes q_mtold q_mtable q_mstretch q_mfewest q_misOdd q_misHigh q_misTop q_mbits q_mpile m_length m_primeMany m_toldMany m_fate m_tail m_round m_tableKind m_areLaid m_unlike m_isFree a_mtext) → va_S A s.heap H locs → ∀ (ls : Array Slot), lv_has ls 4 [(0, .ref q_Md), (1, .int v1), (2, .int v2), (3, .int v3)] → W p l e (headSpec wsX12_count rm_X12_count).room s m args below meth c H locs 0 0 (MQ below (va_Qi (fun (r : Int32) (_ : Unit) => r = res) (bW dC dI (fun (u : Unit) => (wd64 cyI cyJ cyZ q_Md q_mtext q_mprimes q_mtold q_mtable q_mstretch q_mfewest q_misOdd q_misHigh q_misTop q_mbits q_mpile m_length m_primeMany m_toldMany m_fate m_tail m_round m_tableKind m_areLaid m_unlike m_isFree a_mtext)) A) A) args s 0 0 A) (F0 m 16 ls []) := by
  obtain ⟨hx, hb, hr, hml, hown, hts, hlocks, hG, hA⟩ := id C0
  have hK := hG.1
  intro n
  induction n with
  | zero =>
    intro v2 v3 h
    cases h
  | succ n ih =>
    intro v2 v3 h H locs hP hD hS ls hl
    have h : s_X12_count_16 N v1 m_length a_mtext (l_X12_count_16 N v1 m_length a_mtext n) v2 v3 = some res := h
    unfold s_X12_count_16 at h
    refine lv_iload_n hx hb dX12_count_16 rfl (lv_at hl 3 rfl) ?_
    refine lv_aload_n hx hb dX12_count_17 rfl (lv_at hl 0 rfl) ?_
    refine va_get (D := (dC, dI)) (ci := 12) (v := .int m_length) (C := RX12) (T := TX12) (N := 21) hx hb hts iw_X12_count_X12 hown hK hP 0 rfl rfl 0 (by decide) (hts (.fieldLink RX12 157 "GoesIntoModel" "length" "I") (List.mem_of_getElem? (i := 1) rfl)) (fun _ h9 => h9) rfl dX12_count_18 ?_
    refine lv_icmp_ge (tgt := 50) hx hb dX12_count_21 (by decide) (fun c5z => ?_) (fun c5z => ?_)
    · have h := xt h c5z
      exact k_X12_count_50 C0 N res q_Md q_mtext q_mprimes q_mtold q_mtable q_mstretch q_mfewest q_misOdd q_misHigh q_misTop q_mbits q_mpile v1 v2 m_length m_primeMany m_toldMany m_fate m_tail m_round m_tableKind m_areLaid m_unlike m_isFree a_mtext  h _ _ hP hD hS _ (lv_sub hl [0, 1, 2] rfl)
    · have h := xf h c5z
      refine lv_iload_n hx hb dX12_count_24 rfl (lv_at hl 2 rfl) ?_
      refine lv_aload_n hx hb dX12_count_25 rfl (lv_at hl 0 rfl) ?_
      refine va_get (D := (dC, dI)) (ci := 12) (v := .ref q_mtext) (C := RX12) (T := TX12) (N := 21) hx hb hts iw_X12_count_X12 hown hK hP 0 rfl rfl 1 (by decide) (hts (.fieldLink RX12 7 "GoesIntoModel" "text" "[I") (List.mem_of_getElem? (i := 2) rfl)) (fun _ h9 => h9) rfl dX12_count_26 ?_
      refine lv_iload_n hx hb dX12_count_29 rfl (lv_at hl 3 rfl) ?_
      obtain ⟨b7z, h⟩ := xn h
      refine va_iald hx hb hK hP 1 0 rfl rfl b7z dX12_count_30 ?_
      obtain ⟨r8z, hr8z, h⟩ := xb_at h
      have hPc := hP.sub (ws' := (wd37 cyI cyJ cyZ)) [] rfl
      have hDc := hD.sub (ws' := (wd37 cyI cyJ cyZ)) [] (by decide) rfl
      refine cal_i [] [0, 1] (va_runS (As := [.int (a_mtext v3.toNatClampNeg)]) (rest := [.int v2]) ⟨hx, hb, hml, hown, hts⟩ (c_X12_looks l dC dI cyI cyJ cyZ N r8z H.size  (a_mtext v3.toNatClampNeg)  hr8z) (va_cwS 1 hts gX12_count_X12_looks rfl rfl rfl hd_X12_looks ⟨Nat.le_of_ble_eq_true rfl, Nat.le_of_ble_eq_true rfl⟩) ⟨pC.blind, pC.pre hPc hG hDc⟩ rfl rfl hl.1 rfl (lv_room (Nat.le_of_ble_eq_true rfl)) dX12_count_31 ⟨Nat.zero_le _, Nat.zero_le _⟩) hP hD hS hA rfl rfl rfl (by decide) (fun x10z u9z H locs hw hP hD hS => ?_)
      obtain rfl := hw.symm
      have hP : va_P (dC, dI) vwCl (wd64 cyI cyJ cyZ q_Md q_mtext q_mprimes q_mtold q_mtable q_mstretch q_mfewest q_misOdd q_misHigh q_misTop q_mbits q_mpile m_length m_primeMany m_toldMany m_fate m_tail m_round m_tableKind m_areLaid m_unlike m_isFree a_mtext) H := hP.sub [0, 1] rfl
      have hD : va_D A (wd64 cyI cyJ cyZ q_Md q_mtext q_mprimes q_mtold q_mtable q_mstretch q_mfewest q_misOdd q_misHigh q_misTop q_mbits q_mpile m_length m_primeMany m_toldMany m_fate m_tail m_round m_tableKind m_areLaid m_unlike m_isFree a_mtext) := hD.sub [0, 1] (by decide) rfl
      refine lv_if_eq (tgt := 41) hx hb dX12_count_34 (by decide) (fun c11z => ?_) (fun c11z => ?_)
      · have h := xt h c11z
        refine lv_iconst (v := (0 : Int32)) hx hb dX12_count_41 (by decide) ?_
        refine lv_iadd hx hb dX12_count_42 ?_
        refine lv_topi (fun y12z ey12z => ?_)
        have h := xl_at h ey12z
        refine lv_istore_n (lv' := [(2, .int y12z), (0, .ref q_Md), (1, .int v1), (3, .int v3)]) hx hb dX12_count_43 rfl hl (by decide) rfl (fun ls hl => ?_)
        obtain ⟨y13z, ey13z⟩ : ∃ z : Int32, z = v3 + (1 : Int32) := ⟨_, rfl⟩
        have h := xl_at h ey13z
        refine lv_iinc (v := y13z) (lv' := [(3, .int y13z), (2, .int y12z), (0, .ref q_Md), (1, .int v1)]) hx hb dX12_count_44 hl (k := 3) rfl (by rw [ey13z]; rfl) (by decide) rfl (fun ls hl => ?_)
        refine lv_goto (tgt := 16) hx hb dX12_count_47 (by decide) ?_
        exact ih y12z y13z h _ _ hP hD hS _ (lv_sub hl [2, 3, 1, 0] rfl)
      · have h := xf h c11z
        refine lv_iconst (v := (1 : Int32)) hx hb dX12_count_37 (by decide) ?_
        refine lv_goto (tgt := 42) hx hb dX12_count_38 (by decide) ?_
        refine lv_iadd hx hb dX12_count_42 ?_
        refine lv_topi (fun y14z ey14z => ?_)
        have h := xl_at h ey14z
        refine lv_istore_n (lv' := [(2, .int y14z), (0, .ref q_Md), (1, .int v1), (3, .int v3)]) hx hb dX12_count_43 rfl hl (by decide) rfl (fun ls hl => ?_)
        obtain ⟨y15z, ey15z⟩ : ∃ z : Int32, z = v3 + (1 : Int32) := ⟨_, rfl⟩
        have h := xl_at h ey15z
        refine lv_iinc (v := y15z) (lv' := [(3, .int y15z), (2, .int y14z), (0, .ref q_Md), (1, .int v1)]) hx hb dX12_count_44 hl (k := 3) rfl (by rw [ey15z]; rfl) (by decide) rfl (fun ls hl => ?_)
        refine lv_goto (tgt := 16) hx hb dX12_count_47 (by decide) ?_
        exact ih y14z y15z h _ _ hP hD hS _ (lv_sub hl [2, 3, 1, 0] rfl)
def f_X12_count (N : Nat) (v1 : Int32) (m_length : Int32) (a_mtext : Nat → Int32) : Option (Int32) :=
  Option.bind (f_X12_in N v1.toInt64 (0 : Int64) (1 : Int64)) fun r1z =>
  if r1z = 0 then
    some (-1 : Int32)
  else
    l_X12_count_16 N v1 m_length a_mtext N ((0 : Int32), (0 : Int32))
set_option maxRecDepth 100000 in
set_option maxHeartbeats 4000000 in
theorem k_X12_count_0 {p : Program} {l : Launch} {e : Env} {s : State} {m : MethodId} {args : Array Value} {below : List Frame} {meth : Method} {c : Code} {dC : Nat → ClassId} {dI : Nat → Nat → Nat} {cyI cyJ cyZ : ClassId} {A : Nat → Prop} (C0 : mC p s m meth c args cX12_count (some .int) 4 RX12 wsX12_count (gK dC dI cyI cyJ cyZ) A) (N : Nat) (res : Int32) (q_Md : Nat) (q_mtext : Nat) (q_mprimes : Nat) (q_mtold : Nat) (q_mtable : Nat) (q_mstretch : Nat) (q_mfewest : Nat) (q_misOdd : Nat) (q_misHigh : Nat) (q_misTop : Nat) (q_mbits : Nat) (q_mpile : Nat) (v1 : Int32) (m_length : Int32) (m_primeMany : Int32) (m_toldMany : Int32) (m_fate : Int32) (m_tail : Int32) (m_round : Int32) (m_tableKind : Int32) (m_areLaid : Int32) (m_unlike : Int32) (m_isFree : Int32) (a_mtext : Nat → Int32) (h : f_X12_count N v1 m_length a_mtext = some res) : ∀ (H : Heap) (locs : List Loc), va_P (dC, dI) vwCl (wd64 cyI cyJ cyZ q_Md q_mtext q_mprimes q_mtold q_mtable q_mstretch q_mfewest q_misOdd q_misHigh q_misTop q_mbits q_mpile m_length m_primeMany m_toldMany m_fate m_tail m_round m_tableKind m_areLaid m_unlike m_isFree a_mtext) H → va_D A (wd64 cyI cyJ cyZ q_Md q_mtext q_mprimes q_mtold q_mtable q_mstretch q_mfewest q_misOdd q_misHigh q_misTop q_mbits q_mpile m_length m_primeMany m_toldMany m_fate m_tail m_round m_tableKind m_areLaid m_unlike m_isFree a_mtext) → va_S A s.heap H locs → ∀ (ls : Array Slot), lv_has ls 4 [(0, .ref q_Md), (1, .int v1)] → W p l e (headSpec wsX12_count rm_X12_count).room s m args below meth c H locs 0 0 (MQ below (va_Qi (fun (r : Int32) (_ : Unit) => r = res) (bW dC dI (fun (u : Unit) => (wd64 cyI cyJ cyZ q_Md q_mtext q_mprimes q_mtold q_mtable q_mstretch q_mfewest q_misOdd q_misHigh q_misTop q_mbits q_mpile m_length m_primeMany m_toldMany m_fate m_tail m_round m_tableKind m_areLaid m_unlike m_isFree a_mtext)) A) A) args s 0 0 A) (F0 m 0 ls []) := by
  obtain ⟨hx, hb, hr, hml, hown, hts, hlocks, hG, hA⟩ := id C0
  have hK := hG.1
  intro H locs hP hD hS ls hl
  unfold f_X12_count at h
  refine lv_iload_n hx hb dX12_count_0 rfl (lv_at hl 1 rfl) ?_
  refine lv_i2l (v := v1.toInt64) hx hb dX12_count_1 rfl ?_
  refine lv_lconst (v := (0 : Int64)) hx hb dX12_count_2 (by decide) ?_
  refine lv_lconst (v := (1 : Int64)) hx hb dX12_count_3 (by decide) ?_
  obtain ⟨r1z, hr1z, h⟩ := xb_at h
  have hPc := hP.sub (ws' := (wd37 cyI cyJ cyZ)) [] rfl
  have hDc := hD.sub (ws' := (wd37 cyI cyJ cyZ)) [] (by decide) rfl
  refine cal_i [] [0, 1] (va_runS (As := [.long v1.toInt64, .long (0 : Int64), .long (1 : Int64)]) (rest := []) ⟨hx, hb, hml, hown, hts⟩ (c_X12_in l dC dI cyI cyJ cyZ N r1z H.size  v1.toInt64 (0 : Int64) (1 : Int64)  hr1z) (va_cwS 3 hts gX12_count_X12_in rfl rfl rfl hd_X12_in ⟨Nat.le_of_ble_eq_true rfl, Nat.le_of_ble_eq_true rfl⟩) ⟨pC.blind, pC.pre hPc hG hDc⟩ rfl rfl hl.1 rfl (lv_room (Nat.le_of_ble_eq_true rfl)) dX12_count_4 ⟨Nat.zero_le _, Nat.zero_le _⟩) hP hD hS hA rfl rfl rfl (by decide) (fun x3z u2z H locs hw hP hD hS => ?_)
  obtain rfl := hw.symm
  have hP : va_P (dC, dI) vwCl (wd64 cyI cyJ cyZ q_Md q_mtext q_mprimes q_mtold q_mtable q_mstretch q_mfewest q_misOdd q_misHigh q_misTop q_mbits q_mpile m_length m_primeMany m_toldMany m_fate m_tail m_round m_tableKind m_areLaid m_unlike m_isFree a_mtext) H := hP.sub [0, 1] rfl
  have hD : va_D A (wd64 cyI cyJ cyZ q_Md q_mtext q_mprimes q_mtold q_mtable q_mstretch q_mfewest q_misOdd q_misHigh q_misTop q_mbits q_mpile m_length m_primeMany m_toldMany m_fate m_tail m_round m_tableKind m_areLaid m_unlike m_isFree a_mtext) := hD.sub [0, 1] (by decide) rfl
  refine lv_if_ne (tgt := 12) hx hb dX12_count_7 (by decide) (fun c4z => ?_) (fun c4z => ?_)
  · have h := xf h c4z
    refine lv_iconst (v := (0 : Int32)) hx hb dX12_count_12 (by decide) ?_
    refine lv_istore_n (lv' := [(2, .int (0 : Int32)), (0, .ref q_Md), (1, .int v1)]) hx hb dX12_count_13 rfl hl (by decide) rfl (fun ls hl => ?_)
    refine lv_iconst (v := (0 : Int32)) hx hb dX12_count_14 (by decide) ?_
    refine lv_istore_n (lv' := [(3, .int (0 : Int32)), (2, .int (0 : Int32)), (0, .ref q_Md), (1, .int v1)]) hx hb dX12_count_15 rfl hl (by decide) rfl (fun ls hl => ?_)
    exact k_X12_count_16 C0 N res q_Md q_mtext q_mprimes q_mtold q_mtable q_mstretch q_mfewest q_misOdd q_misHigh q_misTop q_mbits q_mpile v1 m_length m_primeMany m_toldMany m_fate m_tail m_round m_tableKind m_areLaid m_unlike m_isFree a_mtext N (0 : Int32) (0 : Int32) h _ _ hP hD hS _ (lv_sub hl [2, 3, 1, 0] rfl)
  · have h := xt h c4z
    refine lv_iconst (v := (-1 : Int32)) hx hb dX12_count_10 (by decide) ?_
    obtain rfl := Option.some.inj h
    exact W.iret (v := (-1 : Int32)) hx hb hr (fun t ht hW => ⟨⟨_, (), rfl, rfl, by rw [ht]; exact hP, hD⟩, hS.F ht⟩) hS.2.2 dX12_count_11 hlocks
set_option maxRecDepth 100000 in
set_option maxHeartbeats 4000000 in
theorem c_X12_count (l : Launch) (dC : Nat → ClassId) (dI : Nat → Nat → Nat) (cyI cyJ cyZ : ClassId) (N : Nat) (res : Int32) (sz : Nat) (q_Md : Nat) (q_mtext : Nat) (q_mprimes : Nat) (q_mtold : Nat) (q_mtable : Nat) (q_mstretch : Nat) (q_mfewest : Nat) (q_misOdd : Nat) (q_misHigh : Nat) (q_misTop : Nat) (q_mbits : Nat) (q_mpile : Nat) (v1 : Int32) (m_length : Int32) (m_primeMany : Int32) (m_toldMany : Int32) (m_fate : Int32) (m_tail : Int32) (m_round : Int32) (m_tableKind : Int32) (m_areLaid : Int32) (m_unlike : Int32) (m_isFree : Int32) (a_mtext : Nat → Int32) (h : f_X12_count N v1 m_length a_mtext = some res) : Met l yX12_count wsX12_count rm_X12_count (pC dC dI cyI cyJ cyZ [.ref q_Md, .int v1] sz (wd64 cyI cyJ cyZ q_Md q_mtext q_mprimes q_mtold q_mtable q_mstretch q_mfewest q_misOdd q_misHigh q_misTop q_mbits q_mpile m_length m_primeMany m_toldMany m_fate m_tail m_round m_tableKind m_areLaid m_unlike m_isFree a_mtext)) (va_Qi (fun (r : Int32) (_ : Unit) => r = res) (bW dC dI (fun (u : Unit) => (wd64 cyI cyJ cyZ q_Md q_mtext q_mprimes q_mtold q_mtable q_mstretch q_mfewest q_misOdd q_misHigh q_misTop q_mbits q_mpile m_length m_primeMany m_toldMany m_fate m_tail m_round m_tableKind m_areLaid m_unlike m_isFree a_mtext)) (va_A (wd64 cyI cyJ cyZ q_Md q_mtext q_mprimes q_mtold q_mtable q_mstretch q_mfewest q_misOdd q_misHigh q_misTop q_mbits q_mpile m_length m_primeMany m_toldMany m_fate m_tail m_round m_tableKind m_areLaid m_unlike m_isFree a_mtext) sz)) (va_A (wd64 cyI cyJ cyZ q_Md q_mtext q_mprimes q_mtold q_mtable q_mstretch q_mfewest q_misOdd q_misHigh q_misTop q_mbits q_mpile m_length m_primeMany m_toldMany m_fate m_tail m_round m_tableKind m_areLaid m_unlike m_isFree a_mtext) sz)) 0 0 (va_A (wd64 cyI cyJ cyZ q_Md q_mtext q_mprimes q_mtold q_mtable q_mstretch q_mfewest q_misOdd q_misHigh q_misTop q_mbits q_mpile m_length m_primeMany m_toldMany m_fate m_tail m_round m_tableKind m_areLaid m_unlike m_isFree a_mtext) sz) := by
  refine Met.ofW (cc := cX12_count) (maxL := 4) (ret := (some .int)) (by decide) rfl ?_
  intro p e s m args below meth c s₁ B hml hv
  obtain ⟨rfl, hsz, hP, hG, hD0⟩ := hv
  have hx := B.exec
  have hb := B.bytes
  have hr := B.returns
  have hts := atoms_spec (ws := wsX12_count) B.pre
  have hown : s.vm.findClass RX12 = some m.cls := findClass_of_methodNamed B.named
  have hlocks := B.notSynchronized
  subst hsz
  have hD := hD0.self (sz := s.heap.size)
  generalize hAe : va_A (wd64 cyI cyJ cyZ q_Md q_mtext q_mprimes q_mtold q_mtable q_mstretch q_mfewest q_misOdd q_misHigh q_misTop q_mbits q_mpile m_length m_primeMany m_toldMany m_fate m_tail m_round m_tableKind m_areLaid m_unlike m_isFree a_mtext) s.heap.size = A at hD ⊢
  have hA : ∀ q : Nat, s.heap.size ≤ q → A q := fun q h => by rw [← hAe]; exact Or.inr h
  have hS : va_S A s.heap s.heap [] := va_S.rf
  have hl := lv_entry ([.ref q_Md, .int v1]) (n := 4) (Nat.le_of_ble_eq_true rfl)
  rw [lg_entry_eq]
  generalize (lg_sl ([.ref q_Md, .int v1]) ++ List.replicate (4 - (lg_sl ([.ref q_Md, .int v1])).length) Slot.unset).toArray = ls at hl ⊢
  have hl : lv_has ls 4 [(0, .ref q_Md), (1, .int v1)] := hl
  exact k_X12_count_0 ⟨hx, hb, hr, hml, hown, hts, hlocks, hG, hA⟩ N res q_Md q_mtext q_mprimes q_mtold q_mtable q_mstretch q_mfewest q_misOdd q_misHigh q_misTop q_mbits q_mpile v1 m_length m_primeMany m_toldMany m_fate m_tail m_round m_tableKind m_areLaid m_unlike m_isFree a_mtext  h _ _ hP hD hS _ hl
