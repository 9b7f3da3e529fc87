abbrev rm_X12_in : Room := { frames := 0, cells := 0, slots := 0, locals := 0 }
theorem hd_X12_in : yX12_in.cls ≠ "java/lang/invoke/MethodHandle" ∧ yX12_in.cls ≠ "java/lang/invoke/VarHandle" ∧ (parseMethodDescriptor yX12_in.desc).map (fun d => d.parameters.length) = some 3 := by decide +kernel
def f_X12_in (N : Nat) (v0 : Int64) (v2 : Int64) (v4 : Int64) : Option (Int32) :=
  if v0 < v2 then
    some (0 : Int32)
  else
    if v4 < v0 then
      some (0 : Int32)
    else
      some (1 : Int32)
set_option maxRecDepth 100000 in
set_option maxHeartbeats 4000000 in
theorem k_X12_in_0 {p : Program} {l : Launch} {e : Env} {s : State} {m : MethodId} {args : Array Value} {below : List Frame} {meth : Method} {c : Code} {dC : Nat → ClassId} {dI : Nat → Nat → Nat} {cyI cyJ cyZ : ClassId} {A : Nat → Prop} (C0 : mC p s m meth c args cX12_in (some .boolean) 6 RX12 wsX12_in (gK dC dI cyI cyJ cyZ) A) (N : Nat) (res : Int32) (v0 : Int64) (v2 : Int64) (v4 : Int64) (h : f_X12_in N v0 v2 v4 = some res) : ∀ (H : Heap) (locs : List Loc), va_P (dC, dI) vwCl (wd37 cyI cyJ cyZ) H → va_D A (wd37 cyI cyJ cyZ) → va_S A s.heap H locs → ∀ (ls : Array Slot), lv_has ls 6 [(0, .long v0), (2, .long v2), (4, .long v4)] → W p l e (headSpec wsX12_in rm_X12_in).room s m args below meth c H locs 0 0 (MQ below (va_Qi (fun (r : Int32) (_ : Unit) => r = res) (bW dC dI (fun (u : Unit) => (wd37 cyI cyJ cyZ)) A) A) args s 0 0 A) (F0 m 0 ls []) := by
  obtain ⟨hx, hb, hr, hml, hown, hts, hlocks, hG, hA⟩ := id C0
  have hK := hG.1
  intro H locs hP hD hS ls hl
  unfold f_X12_in at h
  refine lv_lload_n hx hb dX12_in_0 rfl (lv_at hl 0 rfl) ?_
  refine lv_lload_n hx hb dX12_in_1 rfl (lv_at hl 1 rfl) ?_
  refine W.lcmp hx hb dX12_in_2 ?_
  refine lv_if_lt (tgt := 17) hx hb dX12_in_3 (by decide) (fun c1z => ?_) (fun c1z => ?_)
  · have c1z := (lg_cmp_lt _ _).mp c1z
    have h := xt h c1z
    refine lv_iconst (v := (0 : Int32)) hx hb dX12_in_17 (by decide) ?_
    obtain rfl := Option.some.inj h
    exact W.zret (v := (0 : Int32)) hx hb hr rfl (fun t ht hW => ⟨⟨_, (), rfl, rfl, by rw [ht]; exact hP, hD⟩, hS.F ht⟩) hS.2.2 dX12_in_18 hlocks
  · have c1z := fun z => c1z ((lg_cmp_lt _ _).mpr z)
    have h := xf h c1z
    refine lv_lload_n hx hb dX12_in_6 rfl (lv_at hl 0 rfl) ?_
    refine lv_lload hx hb dX12_in_7 (lv_at hl 2 rfl) ?_
    refine W.lcmp hx hb dX12_in_9 ?_
    refine lv_if_gt (tgt := 17) hx hb dX12_in_10 (by decide) (fun c2z => ?_) (fun c2z => ?_)
    · have c2z := (lg_cmp_gt _ _).mp c2z
      have h := xt h c2z
      refine lv_iconst (v := (0 : Int32)) hx hb dX12_in_17 (by decide) ?_
      obtain rfl := Option.some.inj h
      exact W.zret (v := (0 : Int32)) hx hb hr rfl (fun t ht hW => ⟨⟨_, (), rfl, rfl, by rw [ht]; exact hP, hD⟩, hS.F ht⟩) hS.2.2 dX12_in_18 hlocks
    · have c2z := fun z => c2z ((lg_cmp_gt _ _).mpr z)
      have h := xf h c2z
      refine lv_iconst (v := (1 : Int32)) hx hb dX12_in_13 (by decide) ?_
      refine lv_goto (tgt := 18) hx hb dX12_in_14 (by decide) ?_
      obtain rfl := Option.some.inj h
      exact W.zret (v := (1 : Int32)) hx hb hr rfl (fun t ht hW => ⟨⟨_, (), rfl, rfl, by rw [ht]; exact hP, hD⟩, hS.F ht⟩) hS.2.2 dX12_in_18 hlocks
set_option maxRecDepth 100000 in
set_option maxHeartbeats 4000000 in
theorem c_X12_in (l : Launch) (dC : Nat → ClassId) (dI : Nat → Nat → Nat) (cyI cyJ cyZ : ClassId) (N : Nat) (res : Int32) (sz : Nat) (v0 : Int64) (v2 : Int64) (v4 : Int64) (h : f_X12_in N v0 v2 v4  = some res) : Met l yX12_in wsX12_in rm_X12_in (pC dC dI cyI cyJ cyZ [.long v0, .long v2, .long v4] sz (wd37 cyI cyJ cyZ)) (va_Qi (fun (r : Int32) (_ : Unit) => r = res) (bW dC dI (fun (u : Unit) => (wd37 cyI cyJ cyZ)) (va_A (wd37 cyI cyJ cyZ) sz)) (va_A (wd37 cyI cyJ cyZ) sz)) 0 0 (va_A (wd37 cyI cyJ cyZ) sz) := by
  refine Met.ofW (cc := cX12_in) (maxL := 6) (ret := (some .boolean)) (by decide) rfl ?_
  intro p e s m args below meth c s₁ B hml hv
  obtain ⟨rfl, hsz, hP, hG, hD0⟩ := hv
  have hx := B.exec
  have hb := B.bytes
  have hr := B.returns
  have hts := atoms_spec (ws := wsX12_in) B.pre
  have hown : s.vm.findClass RX12 = some m.cls := findClass_of_methodNamed B.named
  have hlocks := B.notSynchronized
  subst hsz
  have hD := hD0.self (sz := s.heap.size)
  generalize hAe : va_A (wd37 cyI cyJ cyZ) s.heap.size = A at hD ⊢
  have hA : ∀ q : Nat, s.heap.size ≤ q → A q := fun q h => by rw [← hAe]; exact Or.inr h
  have hS : va_S A s.heap s.heap [] := va_S.rf
  have hl := lv_entry ([.long v0, .long v2, .long v4]) (n := 6) (Nat.le_of_ble_eq_true rfl)
  rw [lg_entry_eq]
  generalize (lg_sl ([.long v0, .long v2, .long v4]) ++ List.replicate (6 - (lg_sl ([.long v0, .long v2, .long v4])).length) Slot.unset).toArray = ls at hl ⊢
  have hl : lv_has ls 6 [(0, .long v0), (2, .long v2), (4, .long v4)] := hl
  exact k_X12_in_0 ⟨hx, hb, hr, hml, hown, hts, hlocks, hG, hA⟩ N res  v0 v2 v4  h _ _ hP hD hS _ hl
abbrev rm_X12_common : Room := { frames := 0, cells := 0, slots := 0, locals := 0 }
theorem hd_X12_common : yX12_common.cls ≠ "java/lang/invoke/MethodHandle" ∧ yX12_common.cls ≠ "java/lang/invoke/VarHandle" ∧ (parseMethodDescriptor yX12_common.desc).map (fun d => d.parameters.length) = some 2 := by decide +kernel
def s_X12_common_6 (N : Nat) (k_6 : (Int64 × Int64) → Option (Int64)) (v4 : Int64) (v6 : Int64) : Option (Int64) :=
  if v6 = (0 : Int64) then
    some v4
  else
    if v6 = 0 then
      none
    else
      xl (v4 - v4 / v6 * v6) fun y3z =>
      k_6 (v6, y3z)
def l_X12_common_6 (N : Nat) (n : Nat) (z : Int64 × Int64) : Option (Int64) := lp (fun k z => s_X12_common_6 N k z.1 z.2) n z
set_option maxRecDepth 100000 in
set_option maxHeartbeats 4000000 in
theorem k_X12_common_6 {p : Program} {l : Launch} {e : Env} {s : State} {m : MethodId} {args : Array Value} {below : List Frame} {meth : Method} {c : Code} {dC : Nat → ClassId} {dI : Nat → Nat → Nat} {cyI cyJ cyZ : ClassId} {A : Nat → Prop} (C0 : mC p s m meth c args cX12_common (some .long) 10 RX12 wsX12_common (gK dC dI cyI cyJ cyZ) A) (N : Nat) (res : Int64) : ∀ (n : Nat) (v4 : Int64) (v6 : Int64), l_X12_common_6 N n (v4, v6) = some res → ∀ (H : Heap) (locs : List Loc), va_P (dC, dI) vwCl (wd37 cyI cyJ cyZ) H → va_D A (wd37 cyI cyJ cyZ) → va_S A s.heap H locs → ∀ (ls : Array Slot), lv_has ls 10 [(4, .long v4), (6, .long v6)] → W p l e (headSpec wsX12_common rm_X12_common).room s m args below meth c H locs 0 0 (MQ below (va_Ql (fun (r : Int64) (_ : Unit) => r = res) (bW dC dI (fun (u : Unit) => (wd37 cyI cyJ cyZ)) A) A) args s 0 0 A) (F0 m 6 ls []) := by
  obtain ⟨hx, hb, hr, hml, hown, hts, hlocks, hG, hA⟩ := id C0
  have hK := hG.1
  intro n
  induction n with
  | zero =>
    intro v4 v6 h
    cases h
  | succ n ih =>
    intro v4 v6 h H locs hP hD hS ls hl
    have h : s_X12_common_6 N (l_X12_common_6 N n) v4 v6 = some res := h
    unfold s_X12_common_6 at h
    refine lv_lload hx hb dX12_common_6 (lv_at hl 1 rfl) ?_
    refine lv_lconst (v := (0 : Int64)) hx hb dX12_common_8 (by decide) ?_
    refine W.lcmp hx hb dX12_common_9 ?_
    refine lv_if_eq (tgt := 31) hx hb dX12_common_10 (by decide) (fun c1z => ?_) (fun c1z => ?_)
    · have c1z := (lg_cmp_eq _ _).mp c1z
      have h := xt h c1z
      refine lv_lload hx hb dX12_common_31 (lv_at hl 0 rfl) ?_
      obtain rfl := Option.some.inj h
      exact W.lret (v := v4) hx hb hr (fun t ht hW => ⟨⟨_, (), rfl, rfl, by rw [ht]; exact hP, hD⟩, hS.F ht⟩) hS.2.2 dX12_common_33 hlocks
    · have c1z := fun z => c1z ((lg_cmp_eq _ _).mpr z)
      have h := xf h c1z
      refine lv_lload hx hb dX12_common_13 (lv_at hl 0 rfl) ?_
      refine lv_lload hx hb dX12_common_15 (lv_at hl 1 rfl) ?_
      obtain ⟨b2z, h⟩ := xn h
      refine lv_lrem hx hb dX12_common_17 b2z ?_
      refine lv_topl (fun y3z ey3z => ?_)
      have h := xl_at h ey3z
      refine lv_lstore (lv' := [(8, .long y3z), (4, .long v4), (6, .long v6)]) hx hb dX12_common_18 hl (by decide) rfl (fun ls hl => ?_)
      refine lv_lload hx hb dX12_common_20 (lv_at hl 2 rfl) ?_
      refine lv_lstore (lv' := [(4, .long v6), (8, .long y3z), (6, .long v6)]) hx hb dX12_common_22 hl (by decide) rfl (fun ls hl => ?_)
      refine lv_lload hx hb dX12_common_24 (lv_at hl 1 rfl) ?_
      refine lv_lstore (lv' := [(6, .long y3z), (4, .long v6), (8, .long y3z)]) hx hb dX12_common_26 hl (by decide) rfl (fun ls hl => ?_)
      refine lv_goto (tgt := 6) hx hb dX12_common_28 (by decide) ?_
      exact ih v6 y3z h _ _ hP hD hS _ (lv_sub hl [1, 0] rfl)
def f_X12_common (N : Nat) (v0 : Int64) (v2 : Int64) : Option (Int64) :=
  l_X12_common_6 N N (v0, v2)
set_option maxRecDepth 100000 in
set_option maxHeartbeats 4000000 in
theorem k_X12_common_0 {p : Program} {l : Launch} {e : Env} {s : State} {m : MethodId} {args : Array Value} {below : List Frame} {meth : Method} {c : Code} {dC : Nat → ClassId} {dI : Nat → Nat → Nat} {cyI cyJ cyZ : ClassId} {A : Nat → Prop} (C0 : mC p s m meth c args cX12_common (some .long) 10 RX12 wsX12_common (gK dC dI cyI cyJ cyZ) A) (N : Nat) (res : Int64) (v0 : Int64) (v2 : Int64) (h : f_X12_common N v0 v2 = some res) : ∀ (H : Heap) (locs : List Loc), va_P (dC, dI) vwCl (wd37 cyI cyJ cyZ) H → va_D A (wd37 cyI cyJ cyZ) → va_S A s.heap H locs → ∀ (ls : Array Slot), lv_has ls 10 [(0, .long v0), (2, .long v2)] → W p l e (headSpec wsX12_common rm_X12_common).room s m args below meth c H locs 0 0 (MQ below (va_Ql (fun (r : Int64) (_ : Unit) => r = res) (bW dC dI (fun (u : Unit) => (wd37 cyI cyJ cyZ)) A) A) args s 0 0 A) (F0 m 0 ls []) := by
  obtain ⟨hx, hb, hr, hml, hown, hts, hlocks, hG, hA⟩ := id C0
  have hK := hG.1
  intro H locs hP hD hS ls hl
  unfold f_X12_common at h
  refine lv_lload_n hx hb dX12_common_0 rfl (lv_at hl 0 rfl) ?_
  refine lv_lstore (lv' := [(4, .long v0), (0, .long v0), (2, .long v2)]) hx hb dX12_common_1 hl (by decide) rfl (fun ls hl => ?_)
  refine lv_lload_n hx hb dX12_common_3 rfl (lv_at hl 2 rfl) ?_
  refine lv_lstore (lv' := [(6, .long v2), (4, .long v0), (0, .long v0), (2, .long v2)]) hx hb dX12_common_4 hl (by decide) rfl (fun ls hl => ?_)
  exact k_X12_common_6 C0 N res N v0 v2 h _ _ hP hD hS _ (lv_sub hl [1, 0] rfl)
set_option maxRecDepth 100000 in
set_option maxHeartbeats 4000000 in
theorem c_X12_common (l : Launch) (dC : Nat → ClassId) (dI : Nat → Nat → Nat) (cyI cyJ cyZ : ClassId) (N : Nat) (res : Int64) (sz : Nat) (v0 : Int64) (v2 : Int64) (h : f_X12_common N v0 v2  = some res) : Met l yX12_common wsX12_common rm_X12_common (pC dC dI cyI cyJ cyZ [.long v0, .long v2] sz (wd37 cyI cyJ cyZ)) (va_Ql (fun (r : Int64) (_ : Unit) => r = res) (bW dC dI (fun (u : Unit) => (wd37 cyI cyJ cyZ)) (va_A (wd37 cyI cyJ cyZ) sz)) (va_A (wd37 cyI cyJ cyZ) sz)) 0 0 (va_A (wd37 cyI cyJ cyZ) sz) := by
  refine Met.ofW (cc := cX12_common) (maxL := 10) (ret := (some .long)) (by decide) rfl ?_
  intro p e s m args below meth c s₁ B hml hv
  obtain ⟨rfl, hsz, hP, hG, hD0⟩ := hv
  have hx := B.exec
  have hb := B.bytes
  have hr := B.returns
  have hts := atoms_spec (ws := wsX12_common) B.pre
  have hown : s.vm.findClass RX12 = some m.cls := findClass_of_methodNamed B.named
  have hlocks := B.notSynchronized
  subst hsz
  have hD := hD0.self (sz := s.heap.size)
  generalize hAe : va_A (wd37 cyI cyJ cyZ) s.heap.size = A at hD ⊢
  have hA : ∀ q : Nat, s.heap.size ≤ q → A q := fun q h => by rw [← hAe]; exact Or.inr h
  have hS : va_S A s.heap s.heap [] := va_S.rf
  have hl := lv_entry ([.long v0, .long v2]) (n := 10) (Nat.le_of_ble_eq_true rfl)
  rw [lg_entry_eq]
  generalize (lg_sl ([.long v0, .long v2]) ++ List.replicate (10 - (lg_sl ([.long v0, .long v2])).length) Slot.unset).toArray = ls at hl ⊢
  have hl : lv_has ls 10 [(0, .long v0), (2, .long v2)] := hl
  exact k_X12_common_0 ⟨hx, hb, hr, hml, hown, hts, hlocks, hG, hA⟩ N res  v0 v2  h _ _ hP hD hS _ hl
/-- the cells Md, mprimes -/
abbrev wd55 (cyI cyJ cyZ : ClassId) (q_Md : Nat) (q_mprimes : Nat) (q_mtext : Nat) (q_mtold : Nat) (q_mtable : Nat) (q_mstretch : Nat) (q_mfewest : Nat) (q_misOdd : Nat) (q_misHigh : Nat) (q_misTop : Nat) (q_mbits : Nat) (q_mpile : Nat) (m_length : Int32) (m_primeMany : Int32) (m_toldMany : Int32) (m_fate : Int32) (m_tail : Int32) (m_round : Int32) (m_tableKind : Int32) (m_areLaid : Int32) (m_unlike : Int32) (m_isFree : Int32) (a_mprimes : Nat → Int64) : va_W := [(q_Md, .inr (12, [.int m_length, .ref q_mtext, .int m_primeMany, .ref q_mprimes, .int m_toldMany, .ref q_mtold, .int m_fate, .int m_tail, .int m_round, .int m_tableKind, .ref q_mtable, .ref q_mstretch, .ref q_mfewest, .int m_areLaid, .ref q_misOdd, .ref q_misHigh, .ref q_misTop, .ref q_mbits, .int m_unlike, .int m_isFree, .ref q_mpile])), (q_mprimes, .inl (cyJ, 40, .inr (.inl a_mprimes)))]
abbrev rm_X12_layPrimes : Room := { frames := 0, cells := 0, slots := 0, locals := 0 }
theorem hd_X12_layPrimes : yX12_layPrimes.cls ≠ "java/lang/invoke/MethodHandle" ∧ yX12_layPrimes.cls ≠ "java/lang/invoke/VarHandle" ∧ (parseMethodDescriptor yX12_layPrimes.desc).map (fun d => d.parameters.length) = some 1 := by decide +kernel
theorem iw_X12_layPrimes_X12 : ∀ w ∈ wsX120, w ∈ wsX12_layPrimes := List.forall_mem_cons.mpr ⟨List.mem_of_getElem? (i := 4) rfl, List.forall_mem_cons.mpr ⟨List.mem_of_getElem? (i := 5) rfl, List.forall_mem_cons.mpr ⟨List.mem_of_getElem? (i := 6) rfl, List.forall_mem_cons.mpr ⟨List.mem_of_getElem? (i := 7) rfl, List.forall_mem_cons.mpr ⟨List.mem_of_getElem? (i := 8) rfl, List.forall_mem_cons.mpr ⟨List.mem_of_getElem? (i := 9) rfl, List.forall_mem_cons.mpr ⟨List.mem_of_getElem? (i := 10) rfl, List.forall_mem_cons.mpr ⟨List.mem_of_getElem? (i := 11) rfl, List.forall_mem_cons.mpr ⟨List.mem_of_getElem? (i := 12) rfl, List.forall_mem_cons.mpr ⟨List.mem_of_getElem? (i := 13) rfl, List.forall_mem_cons.mpr ⟨List.mem_of_getElem? (i := 14) rfl, List.forall_mem_cons.mpr ⟨List.mem_of_getElem? (i := 15) rfl, List.forall_mem_cons.mpr ⟨List.mem_of_getElem? (i := 16) rfl, List.forall_mem_cons.mpr ⟨List.mem_of_getElem? (i := 17) rfl, List.forall_mem_cons.mpr ⟨List.mem_of_getElem? (i := 18) rfl, List.forall_mem_cons.mpr ⟨List.mem_of_getElem? (i := 19) rfl, List.forall_mem_cons.mpr ⟨List.mem_of_getElem? (i := 20) rfl, List.forall_mem_cons.mpr ⟨List.mem_of_getElem? (i := 21) rfl, List.forall_mem_cons.mpr ⟨List.mem_of_getElem? (i := 22) rfl, List.forall_mem_cons.mpr ⟨List.mem_of_getElem? (i := 23) rfl, List.forall_mem_cons.mpr ⟨List.mem_of_getElem? (i := 24) rfl, fun _ h => absurd h List.not_mem_nil⟩⟩⟩⟩⟩⟩⟩⟩⟩⟩⟩⟩⟩⟩⟩⟩⟩⟩⟩⟩⟩
def j_X12_layPrimes_69 (N : Nat) (v3 : Int64) (m_primeMany : Int32) (a_mprimes : Nat → Int64) : Option (Int32 × (Nat → Int64)) :=
  if v3 ≤ (1 : Int64) then
    some (m_primeMany, a_mprimes)
  else
    if m_primeMany < 0 ∨ 40 ≤ m_primeMany.toNatClampNeg then
      none
    else
      xl (m_primeMany + (1 : Int32)) fun y4z =>
      some (y4z, vp_updL a_mprimes m_primeMany.toNatClampNeg v3)
set_option maxRecDepth 100000 in
set_option maxHeartbeats 4000000 in
theorem k_X12_layPrimes_69 {p : Program} {l : Launch} {e : Env} {s : State} {m : MethodId} {args : Array Value} {below : List Frame} {meth : Method} {c : Code} {dC : Nat → ClassId} {dI : Nat → Nat → Nat} {cyI cyJ cyZ : ClassId} {A : Nat → Prop} (C0 : mC p s m meth c args cX12_layPrimes none 7 RX12 wsX12_layPrimes (gK dC dI cyI cyJ cyZ) A) (N : Nat) (res : Int32 × (Nat → Int64)) (q_Md : Nat) (q_mprimes : Nat) (q_mtext : Nat) (q_mtold : Nat) (q_mtable : Nat) (q_mstretch : Nat) (q_mfewest : Nat) (q_misOdd : Nat) (q_misHigh : Nat) (q_misTop : Nat) (q_mbits : Nat) (q_mpile : Nat) (v3 : Int64) (m_length : Int32) (m_primeMany : Int32) (m_toldMany : Int32) (m_fate : Int32) (m_tail : Int32) (m_round : Int32) (m_tableKind : Int32) (m_areLaid : Int32) (m_unlike : Int32) (m_isFree : Int32) (a_mprimes : Nat → Int64) (h : j_X12_layPrimes_69 N v3 m_primeMany a_mprimes = some res) : ∀ (H : Heap) (locs : List Loc), va_P (dC, dI) vwCl (wd55 cyI cyJ cyZ q_Md q_mprimes q_mtext q_mtold q_mtable q_mstretch q_mfewest q_misOdd q_misHigh q_misTop q_mbits q_mpile m_length m_primeMany m_toldMany m_fate m_tail m_round m_tableKind m_areLaid m_unlike m_isFree a_mprimes) H → va_D A (wd55 cyI cyJ cyZ q_Md q_mprimes q_mtext q_mtold q_mtable q_mstretch q_mfewest q_misOdd q_misHigh q_misTop q_mbits q_mpile m_length m_primeMany m_toldMany m_fate m_tail m_round m_tableKind m_areLaid m_unlike m_isFree a_mprimes) → va_S A s.heap H locs → ∀ (ls : Array Slot), lv_has ls 7 [(0, .ref q_Md), (3, .long v3)] → W p l e (headSpec wsX12_layPrimes rm_X12_layPrimes).room s m args below meth c H locs 0 0 (MQ below (va_Qv (fun (_ : Unit) => True) (bW dC dI (fun (u : Unit) => (wd55 cyI cyJ cyZ q_Md q_mprimes q_mtext q_mtold q_mtable q_mstretch q_mfewest q_misOdd q_misHigh q_misTop q_mbits q_mpile m_length res.1 m_toldMany m_fate m_tail m_round m_tableKind m_areLaid m_unlike m_isFree res.2)) A) A) args s 0 0 A) (F0 m 69 ls []) := by
  obtain ⟨hx, hb, hr, hml, hown, hts, hlocks, hG, hA⟩ := id C0
  have hK := hG.1
  intro H locs hP hD hS ls hl
  unfold j_X12_layPrimes_69 at h
  refine lv_lload_n hx hb dX12_layPrimes_69 rfl (lv_at hl 1 rfl) ?_
  refine lv_lconst (v := (1 : Int64)) hx hb dX12_layPrimes_70 (by decide) ?_
  refine W.lcmp hx hb dX12_layPrimes_71 ?_
  refine lv_if_le (tgt := 95) hx hb dX12_layPrimes_72 (by decide) (fun c2z => ?_) (fun c2z => ?_)
  · have c2z := (lg_cmp_le _ _).mp c2z
    have h := xt h c2z
    obtain rfl := Option.some.inj h
    exact W.vret hx hb hr (fun t ht hW => ⟨⟨(), rfl, trivial, by rw [ht]; exact hP, hD⟩, hS.F ht⟩) hS.2.2 dX12_layPrimes_95 hlocks
  · have c2z := fun z => c2z ((lg_cmp_le _ _).mpr z)
    have h := xf h c2z
    refine lv_aload_n hx hb dX12_layPrimes_75 rfl (lv_at hl 0 rfl) ?_
    refine va_get (D := (dC, dI)) (ci := 12) (v := .ref q_mprimes) (C := RX12) (T := TX12) (N := 21) hx hb hts iw_X12_layPrimes_X12 hown hK hP 0 rfl rfl 3 (by decide) (hts (.fieldLink RX12 13 "GoesIntoModel" "primes" "[J") (List.mem_of_getElem? (i := 3) rfl)) (fun _ h9 => h9) rfl dX12_layPrimes_76 ?_
    refine lv_aload_n hx hb dX12_layPrimes_79 rfl (lv_at hl 0 rfl) ?_
    refine va_get (D := (dC, dI)) (ci := 12) (v := .int m_primeMany) (C := RX12) (T := TX12) (N := 21) hx hb hts iw_X12_layPrimes_X12 hown hK hP 0 rfl rfl 2 (by decide) (hts (.fieldLink RX12 50 "GoesIntoModel" "primeMany" "I") (List.mem_of_getElem? (i := 1) rfl)) (fun _ h9 => h9) rfl dX12_layPrimes_80 ?_
    refine lv_lload_n hx hb dX12_layPrimes_83 rfl (lv_at hl 1 rfl) ?_
    obtain ⟨b3z, h⟩ := xn h
    refine va_last hx hb hK hP hD hS 1 1 rfl rfl b3z dX12_layPrimes_84 (fun H locs hP hD hS => ?_)
    have hP : va_P (dC, dI) vwCl (wd55 cyI cyJ cyZ q_Md q_mprimes q_mtext q_mtold q_mtable q_mstretch q_mfewest q_misOdd q_misHigh q_misTop q_mbits q_mpile m_length m_primeMany m_toldMany m_fate m_tail m_round m_tableKind m_areLaid m_unlike m_isFree (vp_updL a_mprimes m_primeMany.toNatClampNeg v3)) H := hP
    have hD : va_D A (wd55 cyI cyJ cyZ q_Md q_mprimes q_mtext q_mtold q_mtable q_mstretch q_mfewest q_misOdd q_misHigh q_misTop q_mbits q_mpile m_length m_primeMany m_toldMany m_fate m_tail m_round m_tableKind m_areLaid m_unlike m_isFree (vp_updL a_mprimes m_primeMany.toNatClampNeg v3)) := hD
    refine lv_aload_n hx hb dX12_layPrimes_85 rfl (lv_at hl 0 rfl) ?_
    refine lv_dup hx hb dX12_layPrimes_86 rfl ?_
    refine va_get (D := (dC, dI)) (ci := 12) (v := .int m_primeMany) (C := RX12) (T := TX12) (N := 21) hx hb hts iw_X12_layPrimes_X12 hown hK hP 0 rfl rfl 2 (by decide) (hts (.fieldLink RX12 50 "GoesIntoModel" "primeMany" "I") (List.mem_of_getElem? (i := 1) rfl)) (fun _ h9 => h9) rfl dX12_layPrimes_87 ?_
    refine lv_iconst (v := (1 : Int32)) hx hb dX12_layPrimes_90 (by decide) ?_
    refine lv_iadd hx hb dX12_layPrimes_91 ?_
    refine lv_topi (fun y4z ey4z => ?_)
    have h := xl_at h ey4z
    refine va_put (D := (dC, dI)) (ci := 12) (v := .int y4z) (ty := .int) (C := RX12) (T := TX12) (N := 21) hx hb hts iw_X12_layPrimes_X12 tyX12 tyX12_ok nmX12 hown hK hP hD hS 0 rfl rfl 2 (by decide) (hts (.fieldLink RX12 50 "GoesIntoModel" "primeMany" "I") (List.mem_of_getElem? (i := 1) rfl)) (fun _ h9 => h9) rfl (tyX12_ok 2 (by decide)) rfl rfl (Nat.le_of_ble_eq_true rfl) dX12_layPrimes_92 (fun H locs hP hD hS => ?_)
    have hP : va_P (dC, dI) vwCl (wd55 cyI cyJ cyZ q_Md q_mprimes q_mtext q_mtold q_mtable q_mstretch q_mfewest q_misOdd q_misHigh q_misTop q_mbits q_mpile m_length y4z m_toldMany m_fate m_tail m_round m_tableKind m_areLaid m_unlike m_isFree (vp_updL a_mprimes m_primeMany.toNatClampNeg v3)) H := hP
    have hD : va_D A (wd55 cyI cyJ cyZ q_Md q_mprimes q_mtext q_mtold q_mtable q_mstretch q_mfewest q_misOdd q_misHigh q_misTop q_mbits q_mpile m_length y4z m_toldMany m_fate m_tail m_round m_tableKind m_areLaid m_unlike m_isFree (vp_updL a_mprimes m_primeMany.toNatClampNeg v3)) := hD
    obtain rfl := Option.some.inj h
    exact W.vret hx hb hr (fun t ht hW => ⟨⟨(), rfl, trivial, by rw [ht]; exact hP, hD⟩, hS.F ht⟩) hS.2.2 dX12_layPrimes_95 hlocks
def s_X12_layPrimes_22 (N : Nat) (k_12 : (Int64 × Int64 × Int32 × (Nat → Int64)) → Option (Int32 × (Nat → Int64))) (v5 : Int64) (k_22 : (Int64 × Int32 × (Nat → Int64)) → Option (Int32 × (Nat → Int64))) (v3 : Int64) (m_primeMany : Int32) (a_mprimes : Nat → Int64) : Option (Int32 × (Nat → Int64)) :=
  if v5 = 0 then
    none
  else
    if (v3 - v3 / v5 * v5) = (0 : Int64) then
      if m_primeMany < 0 ∨ 40 ≤ m_primeMany.toNatClampNeg then
        none
      else
        xl (m_primeMany + (1 : Int32)) fun y9z =>
        xl (v3 / v5) fun y10z =>
        k_22 (y10z, y9z, vp_updL a_mprimes m_primeMany.toNatClampNeg v5)
    else
      xl (v5 + (1 : Int64)) fun y7z =>
      k_12 (v3, y7z, m_primeMany, a_mprimes)
def l_X12_layPrimes_22 (N : Nat) (k_12 : (Int64 × Int64 × Int32 × (Nat → Int64)) → Option (Int32 × (Nat → Int64))) (v5 : Int64) (n : Nat) (z : Int64 × Int32 × (Nat → Int64)) : Option (Int32 × (Nat → Int64)) := lp (fun k z => s_X12_layPrimes_22 N k_12 v5 k z.1 z.2.1 z.2.2) n z
set_option maxRecDepth 100000 in
set_option maxHeartbeats 4000000 in
theorem k_X12_layPrimes_22 {p : Program} {l : Launch} {e : Env} {s : State} {m : MethodId} {args : Array Value} {below : List Frame} {meth : Method} {c : Code} {dC : Nat → ClassId} {dI : Nat → Nat → Nat} {cyI cyJ cyZ : ClassId} {A : Nat → Prop} (C0 : mC p s m meth c args cX12_layPrimes none 7 RX12 wsX12_layPrimes (gK dC dI cyI cyJ cyZ) A) (N : Nat) (res : Int32 × (Nat → Int64)) (q_Md : Nat) (q_mprimes : Nat) (q_mtext : Nat) (q_mtold : Nat) (q_mtable : Nat) (q_mstretch : Nat) (q_mfewest : Nat) (q_misOdd : Nat) (q_misHigh : Nat) (q_misTop : Nat) (q_mbits : Nat) (q_mpile : Nat) (m_length : Int32) (m_toldMany : Int32) (m_fate : Int32) (m_tail : Int32) (m_round : Int32) (m_tableKind : Int32) (m_areLaid : Int32) (m_unlike : Int32) (m_isFree : Int32) (k_12 : (Int64 × Int64 × Int32 × (Nat → Int64)) → Option (Int32 × (Nat → Int64))) (hk_12 : ∀ (v3 : Int64) (v5 : Int64) (m_primeMany : Int32) (a_mprimes : Nat → Int64), k_12 (v3, v5, m_primeMany, a_mprimes) = some res → ∀ (H : Heap) (locs : List Loc), va_P (dC, dI) vwCl (wd55 cyI cyJ cyZ q_Md q_mprimes q_mtext q_mtold q_mtable q_mstretch q_mfewest q_misOdd q_misHigh q_misTop q_mbits q_mpile m_length m_primeMany m_toldMany m_fate m_tail m_round m_tableKind m_areLaid m_unlike m_isFree a_mprimes) H → va_D A (wd55 cyI cyJ cyZ q_Md q_mprimes q_mtext q_mtold q_mtable q_mstretch q_mfewest q_misOdd q_misHigh q_misTop q_mbits q_mpile m_length m_primeMany m_toldMany m_fate m_tail m_round m_tableKind m_areLaid m_unlike m_isFree a_mprimes) → va_S A s.heap H locs → ∀ (ls : Array Slot), lv_has ls 7 [(0, .ref q_Md), (3, .long v3), (5, .long v5)] → W p l e (headSpec wsX12_layPrimes rm_X12_layPrimes).room s m args below meth c H locs 0 0 (MQ below (va_Qv (fun (_ : Unit) => True) (bW dC dI (fun (u : Unit) => (wd55 cyI cyJ cyZ q_Md q_mprimes q_mtext q_mtold q_mtable q_mstretch q_mfewest q_misOdd q_misHigh q_misTop q_mbits q_mpile m_length res.1 m_toldMany m_fate m_tail m_round m_tableKind m_areLaid m_unlike m_isFree res.2)) A) A) args s 0 0 A) (F0 m 12 ls [])) (v5 : Int64) : ∀ (n : Nat) (v3 : Int64) (m_primeMany : Int32) (a_mprimes : Nat → Int64), l_X12_layPrimes_22 N k_12 v5 n (v3, m_primeMany, a_mprimes) = some res → ∀ (H : Heap) (locs : List Loc), va_P (dC, dI) vwCl (wd55 cyI cyJ cyZ q_Md q_mprimes q_mtext q_mtold q_mtable q_mstretch q_mfewest q_misOdd q_misHigh q_misTop q_mbits q_mpile m_length m_primeMany m_toldMany m_fate m_tail m_round m_tableKind m_areLaid m_unlike m_isFree a_mprimes) H → va_D A (wd55 cyI cyJ cyZ q_Md q_mprimes q_mtext q_mtold q_mtable q_mstretch q_mfewest q_misOdd q_misHigh q_misTop q_mbits q_mpile m_length m_primeMany m_toldMany m_fate m_tail m_round m_tableKind m_areLaid m_unlike m_isFree a_mprimes) → va_S A s.heap H locs → ∀ (ls : Array Slot), lv_has ls 7 [(0, .ref q_Md), (3, .long v3), (5, .long v5)] → W p l e (headSpec wsX12_layPrimes rm_X12_layPrimes).room s m args below meth c H locs 0 0 (MQ below (va_Qv (fun (_ : Unit) => True) (bW dC dI (fun (u : Unit) => (wd55 cyI cyJ cyZ q_Md q_mprimes q_mtext q_mtold q_mtable q_mstretch q_mfewest q_misOdd q_misHigh q_misTop q_mbits q_mpile m_length res.1 m_toldMany m_fate m_tail m_round m_tableKind m_areLaid m_unlike m_isFree res.2)) A) A) args s 0 0 A) (F0 m 22 ls []) := by
  obtain ⟨hx, hb, hr, hml, hown, hts, hlocks, hG, hA⟩ := id C0
  have hK := hG.1
  intro n
  induction n with
  | zero =>
    intro v3 m_primeMany a_mprimes h
    cases h
  | succ n ih =>
    intro v3 m_primeMany a_mprimes h H locs hP hD hS ls hl
    have h : s_X12_layPrimes_22 N k_12 v5 (l_X12_layPrimes_22 N k_12 v5 n) v3 m_primeMany a_mprimes = some res := h
    unfold s_X12_layPrimes_22 at h
    refine lv_lload_n hx hb dX12_layPrimes_22 rfl (lv_at hl 1 rfl) ?_
    refine lv_lload hx hb dX12_layPrimes_23 (lv_at hl 2 rfl) ?_
    obtain ⟨b5z, h⟩ := xn h
    refine lv_lrem hx hb dX12_layPrimes_25 b5z ?_
    refine lv_lconst (v := (0 : Int64)) hx hb dX12_layPrimes_26 (by decide) ?_
    refine W.lcmp hx hb dX12_layPrimes_27 ?_
    refine lv_if_ne (tgt := 60) hx hb dX12_layPrimes_28 (by decide) (fun c6z => ?_) (fun c6z => ?_)
    · have c6z := fun z => c6z ((lg_cmp_eq _ _).mpr z)
      have h := xf h c6z
      refine lv_lload hx hb dX12_layPrimes_60 (lv_at hl 2 rfl) ?_
      refine lv_lconst (v := (1 : Int64)) hx hb dX12_layPrimes_62 (by decide) ?_
      refine lv_ladd hx hb dX12_layPrimes_63 ?_
      refine lv_topl (fun y7z ey7z => ?_)
      have h := xl_at h ey7z
      refine lv_lstore (lv' := [(5, .long y7z), (0, .ref q_Md), (3, .long v3)]) hx hb dX12_layPrimes_64 hl (by decide) rfl (fun ls hl => ?_)
      refine lv_goto (tgt := 12) hx hb dX12_layPrimes_66 (by decide) ?_
      exact hk_12 v3 y7z m_primeMany a_mprimes h _ _ hP hD hS _ (lv_sub hl [1, 2, 0] rfl)
    · have c6z := (lg_cmp_eq _ _).mp c6z
      have h := xt h c6z
      refine lv_aload_n hx hb dX12_layPrimes_31 rfl (lv_at hl 0 rfl) ?_
      refine va_get (D := (dC, dI)) (ci := 12) (v := .ref q_mprimes) (C := RX12) (T := TX12) (N := 21) hx hb hts iw_X12_layPrimes_X12 hown hK hP 0 rfl rfl 3 (by decide) (hts (.fieldLink RX12 13 "GoesIntoModel" "primes" "[J") (List.mem_of_getElem? (i := 3) rfl)) (fun _ h9 => h9) rfl dX12_layPrimes_32 ?_
      refine lv_aload_n hx hb dX12_layPrimes_35 rfl (lv_at hl 0 rfl) ?_
      refine va_get (D := (dC, dI)) (ci := 12) (v := .int m_primeMany) (C := RX12) (T := TX12) (N := 21) hx hb hts iw_X12_layPrimes_X12 hown hK hP 0 rfl rfl 2 (by decide) (hts (.fieldLink RX12 50 "GoesIntoModel" "primeMany" "I") (List.mem_of_getElem? (i := 1) rfl)) (fun _ h9 => h9) rfl dX12_layPrimes_36 ?_
      refine lv_lload hx hb dX12_layPrimes_39 (lv_at hl 2 rfl) ?_
      obtain ⟨b8z, h⟩ := xn h
      refine va_last hx hb hK hP hD hS 1 1 rfl rfl b8z dX12_layPrimes_41 (fun H locs hP hD hS => ?_)
      have hP : va_P (dC, dI) vwCl (wd55 cyI cyJ cyZ q_Md q_mprimes q_mtext q_mtold q_mtable q_mstretch q_mfewest q_misOdd q_misHigh q_misTop q_mbits q_mpile m_length m_primeMany m_toldMany m_fate m_tail m_round m_tableKind m_areLaid m_unlike m_isFree (vp_updL a_mprimes m_primeMany.toNatClampNeg v5)) H := hP
      have hD : va_D A (wd55 cyI cyJ cyZ q_Md q_mprimes q_mtext q_mtold q_mtable q_mstretch q_mfewest q_misOdd q_misHigh q_misTop q_mbits q_mpile m_length m_primeMany m_toldMany m_fate m_tail m_round m_tableKind m_areLaid m_unlike m_isFree (vp_updL a_mprimes m_primeMany.toNatClampNeg v5)) := hD
      refine lv_aload_n hx hb dX12_layPrimes_42 rfl (lv_at hl 0 rfl) ?_
      refine lv_dup hx hb dX12_layPrimes_43 rfl ?_
      refine va_get (D := (dC, dI)) (ci := 12) (v := .int m_primeMany) (C := RX12) (T := TX12) (N := 21) hx hb hts iw_X12_layPrimes_X12 hown hK hP 0 rfl rfl 2 (by decide) (hts (.fieldLink RX12 50 "GoesIntoModel" "primeMany" "I") (List.mem_of_getElem? (i := 1) rfl)) (fun _ h9 => h9) rfl dX12_layPrimes_44 ?_
      refine lv_iconst (v := (1 : Int32)) hx hb dX12_layPrimes_47 (by decide) ?_
      refine lv_iadd hx hb dX12_layPrimes_48 ?_
      refine lv_topi (fun y9z ey9z => ?_)
      have h := xl_at h ey9z
      refine va_put (D := (dC, dI)) (ci := 12) (v := .int y9z) (ty := .int) (C := RX12) (T := TX12) (N := 21) hx hb hts iw_X12_layPrimes_X12 tyX12 tyX12_ok nmX12 hown hK hP hD hS 0 rfl rfl 2 (by decide) (hts (.fieldLink RX12 50 "GoesIntoModel" "primeMany" "I") (List.mem_of_getElem? (i := 1) rfl)) (fun _ h9 => h9) rfl (tyX12_ok 2 (by decide)) rfl rfl (Nat.le_of_ble_eq_true rfl) dX12_layPrimes_49 (fun H locs hP hD hS => ?_)
      have hP : va_P (dC, dI) vwCl (wd55 cyI cyJ cyZ q_Md q_mprimes q_mtext q_mtold q_mtable q_mstretch q_mfewest q_misOdd q_misHigh q_misTop q_mbits q_mpile m_length y9z m_toldMany m_fate m_tail m_round m_tableKind m_areLaid m_unlike m_isFree (vp_updL a_mprimes m_primeMany.toNatClampNeg v5)) H := hP
      have hD : va_D A (wd55 cyI cyJ cyZ q_Md q_mprimes q_mtext q_mtold q_mtable q_mstretch q_mfewest q_misOdd q_misHigh q_misTop q_mbits q_mpile m_length y9z m_toldMany m_fate m_tail m_round m_tableKind m_areLaid m_unlike m_isFree (vp_updL a_mprimes m_primeMany.toNatClampNeg v5)) := hD
      refine lv_lload_n hx hb dX12_layPrimes_52 rfl (lv_at hl 1 rfl) ?_
      refine lv_lload hx hb dX12_layPrimes_53 (lv_at hl 2 rfl) ?_
      refine lv_ldiv hx hb dX12_layPrimes_55 b5z ?_
      refine lv_topl (fun y10z ey10z => ?_)
      have h := xl_at h ey10z
      refine lv_lstore_n (lv' := [(3, .long y10z), (0, .ref q_Md), (5, .long v5)]) hx hb dX12_layPrimes_56 rfl hl (by decide) rfl (fun ls hl => ?_)
      refine lv_goto (tgt := 22) hx hb dX12_layPrimes_57 (by decide) ?_
      exact ih y10z y9z (vp_updL a_mprimes m_primeMany.toNatClampNeg v5) h _ _ hP hD hS _ (lv_sub hl [1, 0, 2] rfl)
def s_X12_layPrimes_12 (N : Nat) (k_12 : (Int64 × Int64 × Int32 × (Nat → Int64)) → Option (Int32 × (Nat → Int64))) (v3 : Int64) (v5 : Int64) (m_primeMany : Int32) (a_mprimes : Nat → Int64) : Option (Int32 × (Nat → Int64)) :=
  if v3 < (v5 * v5) then
    j_X12_layPrimes_69 N v3 m_primeMany a_mprimes
  else
    l_X12_layPrimes_22 N k_12 v5 N (v3, m_primeMany, a_mprimes)
def l_X12_layPrimes_12 (N : Nat) (n : Nat) (z : Int64 × Int64 × Int32 × (Nat → Int64)) : Option (Int32 × (Nat → Int64)) := lp (fun k z => s_X12_layPrimes_12 N k z.1 z.2.1 z.2.2.1 z.2.2.2) n z
set_option maxRecDepth 100000 in
set_option maxHeartbeats 4000000 in
theorem k_X12_layPrimes_12 {p : Program} {l : Launch} {e : Env} {s : State} {m : MethodId} {args : Array Value} {below : List Frame} {meth : Method} {c : Code} {dC : Nat → ClassId} {dI : Nat → Nat → Nat} {cyI cyJ cyZ : ClassId} {A : Nat → Prop} (C0 : mC p s m meth c args cX12_layPrimes none 7 RX12 wsX12_layPrimes (gK dC dI cyI cyJ cyZ) A) (N : Nat) (res : Int32 × (Nat → Int64)) (q_Md : Nat) (q_mprimes : Nat) (q_mtext : Nat) (q_mtold : Nat) (q_mtable : Nat) (q_mstretch : Nat) (q_mfewest : Nat) (q_misOdd : Nat) (q_misHigh : Nat) (q_misTop : Nat) (q_mbits : Nat) (q_mpile : Nat) (m_length : Int32) (m_toldMany : Int32) (m_fate : Int32) (m_tail : Int32) (m_round : Int32) (m_tableKind : Int32) (m_areLaid : Int32) (m_unlike : Int32) (m_isFree : Int32) : ∀ (n : Nat) (v3 : Int64) (v5 : Int64) (m_primeMany : Int32) (a_mprimes : Nat → Int64), l_X12_layPrimes_12 N n (v3, v5, m_primeMany, a_mprimes) = some res → ∀ (H : Heap) (locs : List Loc), va_P (dC, dI) vwCl (wd55 cyI cyJ cyZ q_Md q_mprimes q_mtext q_mtold q_mtable q_mstretch q_mfewest q_misOdd q_misHigh q_misTop q_mbits q_mpile m_length m_primeMany m_toldMany m_fate m_tail m_round m_tableKind m_areLaid m_unlike m_isFree a_mprimes) H → va_D A (wd55 cyI cyJ cyZ q_Md q_mprimes q_mtext q_mtold q_mtable q_mstretch q_mfewest q_misOdd q_misHigh q_misTop q_mbits q_mpile m_length m_primeMany m_toldMany m_fate m_tail m_round m_tableKind m_areLaid m_unlike m_isFree a_mprimes) → va_S A s.heap H locs → ∀ (ls : Array Slot), lv_has ls 7 [(0, .ref q_Md), (3, .long v3), (5, .long v5)] → W p l e (headSpec wsX12_layPrimes rm_X12_layPrimes).room s m args below meth c H locs 0 0 (MQ below (va_Qv (fun (_ : Unit) => True) (bW dC dI (fun (u : Unit) => (wd55 cyI cyJ cyZ q_Md q_mprimes q_mtext q_mtold q_mtable q_mstretch q_mfewest q_misOdd q_misHigh q_misTop q_mbits q_mpile m_length res.1 m_toldMany m_fate m_tail m_round m_tableKind m_areLaid m_unlike m_isFree res.2)) A) A) args s 0 0 A) (F0 m 12 ls []) := by
  obtain ⟨hx, hb, hr, hml, hown, hts, hlocks, hG, hA⟩ := id C0
  have hK := hG.1
  intro n
  induction n with
  | zero =>
    intro v3 v5 m_primeMany a_mprimes h
    cases h
  | succ n ih =>
    intro v3 v5 m_primeMany a_mprimes h H locs hP hD hS ls hl
    have h : s_X12_layPrimes_12 N (l_X12_layPrimes_12 N n) v3 v5 m_primeMany a_mprimes = some res := h
    unfold s_X12_layPrimes_12 at h
    refine lv_lload hx hb dX12_layPrimes_12 (lv_at hl 2 rfl) ?_
    refine lv_lload hx hb dX12_layPrimes_14 (lv_at hl 2 rfl) ?_
    refine lv_lmul hx hb dX12_layPrimes_16 ?_
    refine lv_lload_n hx hb dX12_layPrimes_17 rfl (lv_at hl 1 rfl) ?_
    refine W.lcmp hx hb dX12_layPrimes_18 ?_
    refine lv_if_gt (tgt := 69) hx hb dX12_layPrimes_19 (by decide) (fun c1z => ?_) (fun c1z => ?_)
    · have c1z := (lg_cmp_gt _ _).mp c1z
      have h := xt h c1z
      exact k_X12_layPrimes_69 C0 N res q_Md q_mprimes q_mtext q_mtold q_mtable q_mstretch q_mfewest q_misOdd q_misHigh q_misTop q_mbits q_mpile v3 m_length m_primeMany m_toldMany m_fate m_tail m_round m_tableKind m_areLaid m_unlike m_isFree a_mprimes  h _ _ hP hD hS _ (lv_sub hl [0, 1] rfl)
    · have c1z := fun z => c1z ((lg_cmp_gt _ _).mpr z)
      have h := xf h c1z
      exact k_X12_layPrimes_22 C0 N res q_Md q_mprimes q_mtext q_mtold q_mtable q_mstretch q_mfewest q_misOdd q_misHigh q_misTop q_mbits q_mpile m_length m_toldMany m_fate m_tail m_round m_tableKind m_areLaid m_unlike m_isFree _ ih v5 N v3 m_primeMany a_mprimes h _ _ hP hD hS _ (lv_sub hl [0, 1, 2] rfl)
def f_X12_layPrimes (N : Nat) (v1 : Int64) (m_primeMany : Int32) (a_mprimes : Nat → Int64) : Option (Int32 × (Nat → Int64)) :=
  l_X12_layPrimes_12 N N (v1, (2 : Int64), (0 : Int32), a_mprimes)
set_option maxRecDepth 100000 in
set_option maxHeartbeats 4000000 in
theorem k_X12_layPrimes_0 {p : Program} {l : Launch} {e : Env} {s : State} {m : MethodId} {args : Array Value} {below : List Frame} {meth : Method} {c : Code} {dC : Nat → ClassId} {dI : Nat → Nat → Nat} {cyI cyJ cyZ : ClassId} {A : Nat → Prop} (C0 : mC p s m meth c args cX12_layPrimes none 7 RX12 wsX12_layPrimes (gK dC dI cyI cyJ cyZ) A) (N : Nat) (res : Int32 × (Nat → Int64)) (q_Md : Nat) (q_mprimes : Nat) (q_mtext : Nat) (q_mtold : Nat) (q_mtable : Nat) (q_mstretch : Nat) (q_mfewest : Nat) (q_misOdd : Nat) (q_misHigh : Nat) (q_misTop : Nat) (q_mbits : Nat) (q_mpile : Nat) (v1 : Int64) (m_length : Int32) (m_primeMany : Int32) (m_toldMany : Int32) (m_fate : Int32) (m_tail : Int32) (m_round : Int32) (m_tableKind : Int32) (m_areLaid : Int32) (m_unlike : Int32) (m_isFree : Int32) (a_mprimes : Nat → Int64) (h : f_X12_layPrimes N v1 m_primeMany a_mprimes = some res) : ∀ (H : Heap) (locs : List Loc), va_P (dC, dI) vwCl (wd55 cyI cyJ cyZ q_Md q_mprimes q_mtext q_mtold q_mtable q_mstretch q_mfewest q_misOdd q_misHigh q_misTop q_mbits q_mpile m_length m_primeMany m_toldMany m_fate m_tail m_round m_tableKind m_areLaid m_unlike m_isFree a_mprimes) H → va_D A (wd55 cyI cyJ cyZ q_Md q_mprimes q_mtext q_mtold q_mtable q_mstretch q_mfewest q_misOdd q_misHigh q_misTop q_mbits q_mpile m_length m_primeMany m_toldMany m_fate m_tail m_round m_tableKind m_areLaid m_unlike m_isFree a_mprimes) → va_S A s.heap H locs → ∀ (ls : Array Slot), lv_has ls 7 [(0, .ref q_Md), (1, .long v1)] → W p l e (headSpec wsX12_layPrimes rm_X12_layPrimes).room s m args below meth c H locs 0 0 (MQ below (va_Qv (fun (_ : Unit) => True) (bW dC dI (fun (u : Unit) => (wd55 cyI cyJ cyZ q_Md q_mprimes q_mtext q_mtold q_mtable q_mstretch q_mfewest q_misOdd q_misHigh q_misTop q_mbits q_mpile m_length res.1 m_toldMany m_fate m_tail m_round m_tableKind m_areLaid m_unlike m_isFree res.2)) A) A) args s 0 0 A) (F0 m 0 ls []) := by
  obtain ⟨hx, hb, hr, hml, hown, hts, hlocks, hG, hA⟩ := id C0
  have hK := hG.1
  intro H locs hP hD hS ls hl
  unfold f_X12_layPrimes at h
  refine lv_aload_n hx hb dX12_layPrimes_0 rfl (lv_at hl 0 rfl) ?_
  refine lv_iconst (v := (0 : Int32)) hx hb dX12_layPrimes_1 (by decide) ?_
  refine va_put (D := (dC, dI)) (ci := 12) (v := .int (0 : Int32)) (ty := .int) (C := RX12) (T := TX12) (N := 21) hx hb hts iw_X12_layPrimes_X12 tyX12 tyX12_ok nmX12 hown hK hP hD hS 0 rfl rfl 2 (by decide) (hts (.fieldLink RX12 50 "GoesIntoModel" "primeMany" "I") (List.mem_of_getElem? (i := 1) rfl)) (fun _ h9 => h9) rfl (tyX12_ok 2 (by decide)) rfl rfl (Nat.le_of_ble_eq_true rfl) dX12_layPrimes_2 (fun H locs hP hD hS => ?_)
  have hP : va_P (dC, dI) vwCl (wd55 cyI cyJ cyZ q_Md q_mprimes q_mtext q_mtold q_mtable q_mstretch q_mfewest q_misOdd q_misHigh q_misTop q_mbits q_mpile m_length (0 : Int32) m_toldMany m_fate m_tail m_round m_tableKind m_areLaid m_unlike m_isFree a_mprimes) H := hP
  have hD : va_D A (wd55 cyI cyJ cyZ q_Md q_mprimes q_mtext q_mtold q_mtable q_mstretch q_mfewest q_misOdd q_misHigh q_misTop q_mbits q_mpile m_length (0 : Int32) m_toldMany m_fate m_tail m_round m_tableKind m_areLaid m_unlike m_isFree a_mprimes) := hD
  refine lv_lload_n hx hb dX12_layPrimes_5 rfl (lv_at hl 1 rfl) ?_
  refine lv_lstore_n (lv' := [(3, .long v1), (0, .ref q_Md), (1, .long v1)]) hx hb dX12_layPrimes_6 rfl hl (by decide) rfl (fun ls hl => ?_)
  refine lv_ldc2 (v := (2 : Int64)) hx hb hown (hts (.constantLong RX12 53 (2)) (List.mem_of_getElem? (i := 2) rfl)) dX12_layPrimes_7 ?_
  refine lv_lstore (lv' := [(5, .long (2 : Int64)), (3, .long v1), (0, .ref q_Md), (1, .long v1)]) hx hb dX12_layPrimes_10 hl (by decide) rfl (fun ls hl => ?_)
  exact k_X12_layPrimes_12 C0 N res q_Md q_mprimes q_mtext q_mtold q_mtable q_mstretch q_mfewest q_misOdd q_misHigh q_misTop q_mbits q_mpile m_length m_toldMany m_fate m_tail m_round m_tableKind m_areLaid m_unlike m_isFree N v1 (2 : Int64) (0 : Int32) a_mprimes h _ _ hP hD hS _ (lv_sub hl [2, 1, 0] rfl)
set_option maxRecDepth 100000 in
set_option maxHeartbeats 4000000 in
theorem c_X12_layPrimes (l : Launch) (dC : Nat → ClassId) (dI : Nat → Nat → Nat) (cyI cyJ cyZ : ClassId) (N : Nat) (res : Int32 × (Nat → Int64)) (sz : Nat) (q_Md : Nat) (q_mprimes : Nat) (q_mtext : Nat) (q_mtold : Nat) (q_mtable : Nat) (q_mstretch : Nat) (q_mfewest : Nat) (q_misOdd : Nat) (q_misHigh : Nat) (q_misTop : Nat) (q_mbits : Nat) (q_mpile : Nat) (v1 : Int64) (m_length : Int32) (m_primeMany : Int32) (m_toldMany : Int32) (m_fate : Int32) (m_tail : Int32) (m_round : Int32) (m_tableKind : Int32) (m_areLaid : Int32) (m_unlike : Int32) (m_isFree : Int32) (a_mprimes : Nat → Int64) (h : f_X12_layPrimes N v1 m_primeMany a_mprimes = some res) : Met l yX12_layPrimes wsX12_layPrimes rm_X12_layPrimes (pC dC dI cyI cyJ cyZ [.ref q_Md, .long v1] sz (wd55 cyI cyJ cyZ q_Md q_mprimes q_mtext q_mtold q_mtable q_mstretch q_mfewest q_misOdd q_misHigh q_misTop q_mbits q_mpile m_length m_primeMany m_toldMany m_fate m_tail m_round m_tableKind m_areLaid m_unlike m_isFree a_mprimes)) (va_Qv (fun (_ : Unit) => True) (bW dC dI (fun (u : Unit) => (wd55 cyI cyJ cyZ q_Md q_mprimes q_mtext q_mtold q_mtable q_mstretch q_mfewest q_misOdd q_misHigh q_misTop q_mbits q_mpile m_length res.1 m_toldMany m_fate m_tail m_round m_tableKind m_areLaid m_unlike m_isFree res.2)) (va_A (wd55 cyI cyJ cyZ q_Md q_mprimes q_mtext q_mtold q_mtable q_mstretch q_mfewest q_misOdd q_misHigh q_misTop q_mbits q_mpile m_length m_primeMany m_toldMany m_fate m_tail m_round m_tableKind m_areLaid m_unlike m_isFree a_mprimes) sz)) (va_A (wd55 cyI cyJ cyZ q_Md q_mprimes q_mtext q_mtold q_mtable q_mstretch q_mfewest q_misOdd q_misHigh q_misTop q_mbits q_mpile m_length m_primeMany m_toldMany m_fate m_tail m_round m_tableKind m_areLaid m_unlike m_isFree a_mprimes) sz)) 0 0 (va_A (wd55 cyI cyJ cyZ q_Md q_mprimes q_mtext q_mtold q_mtable q_mstretch q_mfewest q_misOdd q_misHigh q_misTop q_mbits q_mpile m_length m_primeMany m_toldMany m_fate m_tail m_round m_tableKind m_areLaid m_unlike m_isFree a_mprimes) sz) := by
  refine Met.ofW (cc := cX12_layPrimes) (maxL := 7) (ret := none) (by decide) rfl ?_
  intro p e s m args below meth c s₁ B hml hv
  obtain ⟨rfl, hsz, hP, hG, hD0⟩ := hv
  have hx := B.exec
  have hb := B.bytes
  have hr := B.returns
  have hts := atoms_spec (ws := wsX12_layPrimes) B.pre
  have hown : s.vm.findClass RX12 = some m.cls := findClass_of_methodNamed B.named
  have hlocks := B.notSynchronized
  subst hsz
  have hD := hD0.self (sz := s.heap.size)
  generalize hAe : va_A (wd55 cyI cyJ cyZ q_Md q_mprimes q_mtext q_mtold q_mtable q_mstretch q_mfewest q_misOdd q_misHigh q_misTop q_mbits q_mpile m_length m_primeMany m_toldMany m_fate m_tail m_round m_tableKind m_areLaid m_unlike m_isFree a_mprimes) s.heap.size = A at hD ⊢
  have hA : ∀ q : Nat, s.heap.size ≤ q → A q := fun q h => by rw [← hAe]; exact Or.inr h
  have hS : va_S A s.heap s.heap [] := va_S.rf
  have hl := lv_entry ([.ref q_Md, .long v1]) (n := 7) (Nat.le_of_ble_eq_true rfl)
  rw [lg_entry_eq]
  generalize (lg_sl ([.ref q_Md, .long v1]) ++ List.replicate (7 - (lg_sl ([.ref q_Md, .long v1])).length) Slot.unset).toArray = ls at hl ⊢
  have hl : lv_has ls 7 [(0, .ref q_Md), (1, .long v1)] := hl
  exact k_X12_layPrimes_0 ⟨hx, hb, hr, hml, hown, hts, hlocks, hG, hA⟩ N res q_Md q_mprimes q_mtext q_mtold q_mtable q_mstretch q_mfewest q_misOdd q_misHigh q_misTop q_mbits q_mpile v1 m_length m_primeMany m_toldMany m_fate m_tail m_round m_tableKind m_areLaid m_unlike m_isFree a_mprimes  h _ _ hP hD hS _ hl
abbrev rm_X12_wholeSum : Room := { frames := 1, cells := 0, slots := 0, locals := 26 }
theorem hd_X12_wholeSum : yX12_wholeSum.cls ≠ "java/lang/invoke/MethodHandle" ∧ yX12_wholeSum.cls ≠ "java/lang/invoke/VarHandle" ∧ (parseMethodDescriptor yX12_wholeSum.desc).map (fun d => d.parameters.length) = some 2 := by decide +kernel
theorem iw_X12_wholeSum_X12 : ∀ w ∈ wsX120, w ∈ wsX12_wholeSum := List.forall_mem_cons.mpr ⟨List.mem_of_getElem? (i := 9) rfl, List.forall_mem_cons.mpr ⟨List.mem_of_getElem? (i := 10) rfl, List.forall_mem_cons.mpr ⟨List.mem_of_getElem? (i := 11) rfl, List.forall_mem_cons.mpr ⟨List.mem_of_getElem? (i := 12) rfl, List.forall_mem_cons.mpr ⟨List.mem_of_getElem? (i := 13) rfl, List.forall_mem_cons.mpr ⟨List.mem_of_getElem? (i := 14) rfl, List.forall_mem_cons.mpr ⟨List.mem_of_getElem? (i := 15) rfl, List.forall_mem_cons.mpr ⟨List.mem_of_getElem? (i := 16) rfl, List.forall_mem_cons.mpr ⟨List.mem_of_getElem? (i := 17) rfl, List.forall_mem_cons.mpr ⟨List.mem_of_getElem? (i := 18) rfl, List.forall_mem_cons.mpr ⟨List.mem_of_getElem? (i := 19) rfl, List.forall_mem_cons.mpr ⟨List.mem_of_getElem? (i := 20) rfl, List.forall_mem_cons.mpr ⟨List.mem_of_getElem? (i := 21) rfl, List.forall_mem_cons.mpr ⟨List.mem_of_getElem? (i := 22) rfl, List.forall_mem_cons.mpr ⟨List.mem_of_getElem? (i := 23) rfl, List.forall_mem_cons.mpr ⟨List.mem_of_getElem? (i := 24) rfl, List.forall_mem_cons.mpr ⟨List.mem_of_getElem? (i := 25) rfl, List.forall_mem_cons.mpr ⟨List.mem_of_getElem? (i := 26) rfl, List.forall_mem_cons.mpr ⟨List.mem_of_getElem? (i := 27) rfl, List.forall_mem_cons.mpr ⟨List.mem_of_getElem? (i := 28) rfl, List.forall_mem_cons.mpr ⟨List.mem_of_getElem? (i := 29) rfl, fun _ h => absurd h List.not_mem_nil⟩⟩⟩⟩⟩⟩⟩⟩⟩⟩⟩⟩⟩⟩⟩⟩⟩⟩⟩⟩⟩
def j_X12_wholeSum_77 (N : Nat) (k_11 : (Int64 × Int32) → Option (Int64 × Int32 × (Nat → Int64))) (v3 : Int32) (v4 : Int64) (v6 : Int32) (v9 : Int64) (v11 : Int64) : Option (Int64 × Int32 × (Nat → Int64)) :=
  if v3 = 0 then
    xl (v4 * v11) fun y9z =>
    k_11 (y9z, v6)
  else
    xl (v4 * ((1 : Int64) + v9)) fun y10z =>
    k_11 (y10z, v6)
set_option maxRecDepth 100000 in
set_option maxHeartbeats 4000000 in
theorem k_X12_wholeSum_77 {p : Program} {l : Launch} {e : Env} {s : State} {m : MethodId} {args : Array Value} {below : List Frame} {meth : Method} {c : Code} {dC : Nat → ClassId} {dI : Nat → Nat → Nat} {cyI cyJ cyZ : ClassId} {A : Nat → Prop} (C0 : mC p s m meth c args cX12_wholeSum (some .long) 13 RX12 wsX12_wholeSum (gK dC dI cyI cyJ cyZ) A) (N : Nat) (res : Int64 × Int32 × (Nat → Int64)) (q_Md : Nat) (q_mprimes : Nat) (q_mtext : Nat) (q_mtold : Nat) (q_mtable : Nat) (q_mstretch : Nat) (q_mfewest : Nat) (q_misOdd : Nat) (q_misHigh : Nat) (q_misTop : Nat) (q_mbits : Nat) (q_mpile : Nat) (v3 : Int32) (v9 : Int64) (v11 : Int64) (m_length : Int32) (m_primeMany : Int32) (m_toldMany : Int32) (m_fate : Int32) (m_tail : Int32) (m_round : Int32) (m_tableKind : Int32) (m_areLaid : Int32) (m_unlike : Int32) (m_isFree : Int32) (a_mprimes : Nat → Int64) (k_11 : (Int64 × Int32) → Option (Int64 × Int32 × (Nat → Int64))) (hk_11 : ∀ (v4 : Int64) (v6 : Int32), k_11 (v4, v6) = some res → ∀ (H : Heap) (locs : List Loc), va_P (dC, dI) vwCl (wd55 cyI cyJ cyZ q_Md q_mprimes q_mtext q_mtold q_mtable q_mstretch q_mfewest q_misOdd q_misHigh q_misTop q_mbits q_mpile m_length m_primeMany m_toldMany m_fate m_tail m_round m_tableKind m_areLaid m_unlike m_isFree a_mprimes) H → va_D A (wd55 cyI cyJ cyZ q_Md q_mprimes q_mtext q_mtold q_mtable q_mstretch q_mfewest q_misOdd q_misHigh q_misTop q_mbits q_mpile m_length m_primeMany m_toldMany m_fate m_tail m_round m_tableKind m_areLaid m_unlike m_isFree a_mprimes) → va_S A s.heap H locs → ∀ (ls : Array Slot), lv_has ls 13 [(0, .ref q_Md), (3, .int v3), (4, .long v4), (6, .int v6)] → W p l e (headSpec wsX12_wholeSum rm_X12_wholeSum).room s m args below meth c H locs 0 0 (MQ below (va_Ql (fun (r : Int64) (_ : Unit) => r = res.1) (bW dC dI (fun (u : Unit) => (wd55 cyI cyJ cyZ q_Md q_mprimes q_mtext q_mtold q_mtable q_mstretch q_mfewest q_misOdd q_misHigh q_misTop q_mbits q_mpile m_length res.2.1 m_toldMany m_fate m_tail m_round m_tableKind m_areLaid m_unlike m_isFree res.2.2)) A) A) args s 0 0 A) (F0 m 11 ls [])) (v4 : Int64) (v6 : Int32) (h : j_X12_wholeSum_77 N k_11 v3 v4 v6 v9 v11 = some res) : ∀ (H : Heap) (locs : List Loc), va_P (dC, dI) vwCl (wd55 cyI cyJ cyZ q_Md q_mprimes q_mtext q_mtold q_mtable q_mstretch q_mfewest q_misOdd q_misHigh q_misTop q_mbits q_mpile m_length m_primeMany m_toldMany m_fate m_tail m_round m_tableKind m_areLaid m_unlike m_isFree a_mprimes) H → va_D A (wd55 cyI cyJ cyZ q_Md q_mprimes q_mtext q_mtold q_mtable q_mstretch q_mfewest q_misOdd q_misHigh q_misTop q_mbits q_mpile m_length m_primeMany m_toldMany m_fate m_tail m_round m_tableKind m_areLaid m_unlike m_isFree a_mprimes) → va_S A s.heap H locs → ∀ (ls : Array Slot), lv_has ls 13 [(0, .ref q_Md), (3, .int v3), (4, .long v4), (6, .int v6), (9, .long v9), (11, .long v11)] → W p l e (headSpec wsX12_wholeSum rm_X12_wholeSum).room s m args below meth c H locs 0 0 (MQ below (va_Ql (fun (r : Int64) (_ : Unit) => r = res.1) (bW dC dI (fun (u : Unit) => (wd55 cyI cyJ cyZ q_Md q_mprimes q_mtext q_mtold q_mtable q_mstretch q_mfewest q_misOdd q_misHigh q_misTop q_mbits q_mpile m_length res.2.1 m_toldMany m_fate m_tail m_round m_tableKind m_areLaid m_unlike m_isFree res.2.2)) A) A) args s 0 0 A) (F0 m 77 ls []) := by
  obtain ⟨hx, hb, hr, hml, hown, hts, hlocks, hG, hA⟩ := id C0
  have hK := hG.1
  intro H locs hP hD hS ls hl
  unfold j_X12_wholeSum_77 at h
  refine lv_lload hx hb dX12_wholeSum_77 (lv_at hl 2 rfl) ?_
  refine lv_iload_n hx hb dX12_wholeSum_79 rfl (lv_at hl 1 rfl) ?_
  refine lv_if_eq (tgt := 90) hx hb dX12_wholeSum_80 (by decide) (fun c8z => ?_) (fun c8z => ?_)
  · have h := xt h c8z
    refine lv_lload hx hb dX12_wholeSum_90 (lv_at hl 5 rfl) ?_
    refine lv_lmul hx hb dX12_wholeSum_92 ?_
    refine lv_topl (fun y9z ey9z => ?_)
    have h := xl_at h ey9z
    refine lv_lstore (lv' := [(4, .long y9z), (0, .ref q_Md), (3, .int v3), (6, .int v6), (9, .long v9), (11, .long v11)]) hx hb dX12_wholeSum_93 hl (by decide) rfl (fun ls hl => ?_)
    refine lv_goto (tgt := 11) hx hb dX12_wholeSum_95 (by decide) ?_
    exact hk_11 y9z v6 h _ _ hP hD hS _ (lv_sub hl [1, 2, 0, 3] rfl)
  · have h := xf h c8z
    refine lv_lconst (v := (1 : Int64)) hx hb dX12_wholeSum_83 (by decide) ?_
    refine lv_lload hx hb dX12_wholeSum_84 (lv_at hl 4 rfl) ?_
    refine lv_ladd hx hb dX12_wholeSum_86 ?_
    refine lv_goto (tgt := 92) hx hb dX12_wholeSum_87 (by decide) ?_
    refine lv_lmul hx hb dX12_wholeSum_92 ?_
    refine lv_topl (fun y10z ey10z => ?_)
    have h := xl_at h ey10z
    refine lv_lstore (lv' := [(4, .long y10z), (0, .ref q_Md), (3, .int v3), (6, .int v6), (9, .long v9), (11, .long v11)]) hx hb dX12_wholeSum_93 hl (by decide) rfl (fun ls hl => ?_)
    refine lv_goto (tgt := 11) hx hb dX12_wholeSum_95 (by decide) ?_
    exact hk_11 y10z v6 h _ _ hP hD hS _ (lv_sub hl [1, 2, 0, 3] rfl)
def s_X12_wholeSum_35 (N : Nat) (k_11 : (Int64 × Int32) → Option (Int64 × Int32 × (Nat → Int64))) (v3 : Int32) (v4 : Int64) (v7 : Int64) (m_primeMany : Int32) (a_mprimes : Nat → Int64) (k_35 : (Int32 × Int64 × Int64) → Option (Int64 × Int32 × (Nat → Int64))) (v6 : Int32) (v9 : Int64) (v11 : Int64) : Option (Int64 × Int32 × (Nat → Int64)) :=
  if m_primeMany ≤ v6 then
    j_X12_wholeSum_77 N k_11 v3 v4 v6 v9 v11
  else
    if v6 < 0 ∨ 40 ≤ v6.toNatClampNeg then
      none
    else
      if (a_mprimes v6.toNatClampNeg) = v7 then
        xl (v9 * v7) fun y13z =>
        xl (v11 + y13z) fun y14z =>
        xl (v6 + (1 : Int32)) fun y15z =>
        k_35 (y15z, y13z, y14z)
      else
        j_X12_wholeSum_77 N k_11 v3 v4 v6 v9 v11
def l_X12_wholeSum_35 (N : Nat) (k_11 : (Int64 × Int32) → Option (Int64 × Int32 × (Nat → Int64))) (v3 : Int32) (v4 : Int64) (v7 : Int64) (m_primeMany : Int32) (a_mprimes : Nat → Int64) (n : Nat) (z : Int32 × Int64 × Int64) : Option (Int64 × Int32 × (Nat → Int64)) := lp (fun k z => s_X12_wholeSum_35 N k_11 v3 v4 v7 m_primeMany a_mprimes k z.1 z.2.1 z.2.2) n z
set_option maxRecDepth 100000 in
set_option maxHeartbeats 4000000 in
theorem k_X12_wholeSum_35 {p : Program} {l : Launch} {e : Env} {s : State} {m : MethodId} {args : Array Value} {below : List Frame} {meth : Method} {c : Code} {dC : Nat → ClassId} {dI : Nat → Nat → Nat} {cyI cyJ cyZ : ClassId} {A : Nat → Prop} (C0 : mC p s m meth c args cX12_wholeSum (some .long) 13 RX12 wsX12_wholeSum (gK dC dI cyI cyJ cyZ) A) (N : Nat) (res : Int64 × Int32 × (Nat → Int64)) (q_Md : Nat) (q_mprimes : Nat) (q_mtext : Nat) (q_mtold : Nat) (q_mtable : Nat) (q_mstretch : Nat) (q_mfewest : Nat) (q_misOdd : Nat) (q_misHigh : Nat) (q_misTop : Nat) (q_mbits : Nat) (q_mpile : Nat) (v3 : Int32) (v7 : Int64) (m_length : Int32) (m_primeMany : Int32) (m_toldMany : Int32) (m_fate : Int32) (m_tail : Int32) (m_round : Int32) (m_tableKind : Int32) (m_areLaid : Int32) (m_unlike : Int32) (m_isFree : Int32) (a_mprimes : Nat → Int64) (k_11 : (Int64 × Int32) → Option (Int64 × Int32 × (Nat → Int64))) (hk_11 : ∀ (v4 : Int64) (v6 : Int32), k_11 (v4, v6) = some res → ∀ (H : Heap) (locs : List Loc), va_P (dC, dI) vwCl (wd55 cyI cyJ cyZ q_Md q_mprimes q_mtext q_mtold q_mtable q_mstretch q_mfewest q_misOdd q_misHigh q_misTop q_mbits q_mpile m_length m_primeMany m_toldMany m_fate m_tail m_round m_tableKind m_areLaid m_unlike m_isFree a_mprimes) H → va_D A (wd55 cyI cyJ cyZ q_Md q_mprimes q_mtext q_mtold q_mtable q_mstretch q_mfewest q_misOdd q_misHigh q_misTop q_mbits q_mpile m_length m_primeMany m_toldMany m_fate m_tail m_round m_tableKind m_areLaid m_unlike m_isFree a_mprimes) → va_S A s.heap H locs → ∀ (ls : Array Slot), lv_has ls 13 [(0, .ref q_Md), (3, .int v3), (4, .long v4), (6, .int v6)] → W p l e (headSpec wsX12_wholeSum rm_X12_wholeSum).room s m args below meth c H locs 0 0 (MQ below (va_Ql (fun (r : Int64) (_ : Unit) => r = res.1) (bW dC dI (fun (u : Unit) => (wd55 cyI cyJ cyZ q_Md q_mprimes q_mtext q_mtold q_mtable q_mstretch q_mfewest q_misOdd q_misHigh q_misTop q_mbits q_mpile m_length res.2.1 m_toldMany m_fate m_tail m_round m_tableKind m_areLaid m_unlike m_isFree res.2.2)) A) A) args s 0 0 A) (F0 m 11 ls [])) (v4 : Int64) : ∀ (n : Nat) (v6 : Int32) (v9 : Int64) (v11 : Int64), l_X12_wholeSum_35 N k_11 v3 v4 v7 m_primeMany a_mprimes n (v6, v9, v11) = some res → ∀ (H : Heap) (locs : List Loc), va_P (dC, dI) vwCl (wd55 cyI cyJ cyZ q_Md q_mprimes q_mtext q_mtold q_mtable q_mstretch q_mfewest q_misOdd q_misHigh q_misTop q_mbits q_mpile m_length m_primeMany m_toldMany m_fate m_tail m_round m_tableKind m_areLaid m_unlike m_isFree a_mprimes) H → va_D A (wd55 cyI cyJ cyZ q_Md q_mprimes q_mtext q_mtold q_mtable q_mstretch q_mfewest q_misOdd q_misHigh q_misTop q_mbits q_mpile m_length m_primeMany m_toldMany m_fate m_tail m_round m_tableKind m_areLaid m_unlike m_isFree a_mprimes) → va_S A s.heap H locs → ∀ (ls : Array Slot), lv_has ls 13 [(0, .ref q_Md), (3, .int v3), (4, .long v4), (6, .int v6), (7, .long v7), (9, .long v9), (11, .long v11)] → W p l e (headSpec wsX12_wholeSum rm_X12_wholeSum).room s m args below meth c H locs 0 0 (MQ below (va_Ql (fun (r : Int64) (_ : Unit) => r = res.1) (bW dC dI (fun (u : Unit) => (wd55 cyI cyJ cyZ q_Md q_mprimes q_mtext q_mtold q_mtable q_mstretch q_mfewest q_misOdd q_misHigh q_misTop q_mbits q_mpile m_length res.2.1 m_toldMany m_fate m_tail m_round m_tableKind m_areLaid m_unlike m_isFree res.2.2)) A) A) args s 0 0 A) (F0 m 35 ls []) := by
  obtain ⟨hx, hb, hr, hml, hown, hts, hlocks, hG, hA⟩ := id C0
  have hK := hG.1
  intro n
  induction n with
  | zero =>
    intro v6 v9 v11 h
    cases h
  | succ n ih =>
    intro v6 v9 v11 h H locs hP hD hS ls hl
    have h : s_X12_wholeSum_35 N k_11 v3 v4 v7 m_primeMany a_mprimes (l_X12_wholeSum_35 N k_11 v3 v4 v7 m_primeMany a_mprimes n) v6 v9 v11 = some res := h
    unfold s_X12_wholeSum_35 at h
    refine lv_iload hx hb dX12_wholeSum_35 (lv_at hl 3 rfl) ?_
    refine lv_aload_n hx hb dX12_wholeSum_37 rfl (lv_at hl 0 rfl) ?_
    refine va_get (D := (dC, dI)) (ci := 12) (v := .int m_primeMany) (C := RX12) (T := TX12) (N := 21) hx hb hts iw_X12_wholeSum_X12 hown hK hP 0 rfl rfl 2 (by decide) (hts (.fieldLink RX12 50 "GoesIntoModel" "primeMany" "I") (List.mem_of_getElem? (i := 1) rfl)) (fun _ h9 => h9) rfl dX12_wholeSum_38 ?_
    refine lv_icmp_ge (tgt := 77) hx hb dX12_wholeSum_41 (by decide) (fun c7z => ?_) (fun c7z => ?_)
    · have h := xt h c7z
      exact k_X12_wholeSum_77 C0 N res q_Md q_mprimes q_mtext q_mtold q_mtable q_mstretch q_mfewest q_misOdd q_misHigh q_misTop q_mbits q_mpile v3 v9 v11 m_length m_primeMany m_toldMany m_fate m_tail m_round m_tableKind m_areLaid m_unlike m_isFree a_mprimes k_11 hk_11 v4 v6  h _ _ hP hD hS _ (lv_sub hl [0, 1, 2, 3, 5, 6] rfl)
    · have h := xf h c7z
      refine lv_aload_n hx hb dX12_wholeSum_44 rfl (lv_at hl 0 rfl) ?_
      refine va_get (D := (dC, dI)) (ci := 12) (v := .ref q_mprimes) (C := RX12) (T := TX12) (N := 21) hx hb hts iw_X12_wholeSum_X12 hown hK hP 0 rfl rfl 3 (by decide) (hts (.fieldLink RX12 13 "GoesIntoModel" "primes" "[J") (List.mem_of_getElem? (i := 2) rfl)) (fun _ h9 => h9) rfl dX12_wholeSum_45 ?_
      refine lv_iload hx hb dX12_wholeSum_48 (lv_at hl 3 rfl) ?_
      obtain ⟨b11z, h⟩ := xn h
      refine va_lald hx hb hK hP 1 1 rfl rfl b11z dX12_wholeSum_50 ?_
      refine lv_lload hx hb dX12_wholeSum_51 (lv_at hl 4 rfl) ?_
      refine W.lcmp hx hb dX12_wholeSum_53 ?_
      refine lv_if_ne (tgt := 77) hx hb dX12_wholeSum_54 (by decide) (fun c12z => ?_) (fun c12z => ?_)
      · have c12z := fun z => c12z ((lg_cmp_eq _ _).mpr z)
        have h := xf h c12z
        exact k_X12_wholeSum_77 C0 N res q_Md q_mprimes q_mtext q_mtold q_mtable q_mstretch q_mfewest q_misOdd q_misHigh q_misTop q_mbits q_mpile v3 v9 v11 m_length m_primeMany m_toldMany m_fate m_tail m_round m_tableKind m_areLaid m_unlike m_isFree a_mprimes k_11 hk_11 v4 v6  h _ _ hP hD hS _ (lv_sub hl [0, 1, 2, 3, 5, 6] rfl)
      · have c12z := (lg_cmp_eq _ _).mp c12z
        have h := xt h c12z
        refine lv_lload hx hb dX12_wholeSum_57 (lv_at hl 5 rfl) ?_
        refine lv_lload hx hb dX12_wholeSum_59 (lv_at hl 4 rfl) ?_
        refine lv_lmul hx hb dX12_wholeSum_61 ?_
        refine lv_topl (fun y13z ey13z => ?_)
        have h := xl_at h ey13z
        refine lv_lstore (lv' := [(9, .long y13z), (0, .ref q_Md), (3, .int v3), (4, .long v4), (6, .int v6), (7, .long v7), (11, .long v11)]) hx hb dX12_wholeSum_62 hl (by decide) rfl (fun ls hl => ?_)
        refine lv_lload hx hb dX12_wholeSum_64 (lv_at hl 6 rfl) ?_
        refine lv_lload hx hb dX12_wholeSum_66 (lv_at hl 0 rfl) ?_
        refine lv_ladd hx hb dX12_wholeSum_68 ?_
        refine lv_topl (fun y14z ey14z => ?_)
        have h := xl_at h ey14z
        refine lv_lstore (lv' := [(11, .long y14z), (9, .long y13z), (0, .ref q_Md), (3, .int v3), (4, .long v4), (6, .int v6), (7, .long v7)]) hx hb dX12_wholeSum_69 hl (by decide) rfl (fun ls hl => ?_)
        obtain ⟨y15z, ey15z⟩ : ∃ z : Int32, z = v6 + (1 : Int32) := ⟨_, rfl⟩
        have h := xl_at h ey15z
        refine lv_iinc (v := y15z) (lv' := [(6, .int y15z), (11, .long y14z), (9, .long y13z), (0, .ref q_Md), (3, .int v3), (4, .long v4), (7, .long v7)]) hx hb dX12_wholeSum_71 hl (k := 5) rfl (by rw [ey15z]; rfl) (by decide) rfl (fun ls hl => ?_)
        refine lv_goto (tgt := 35) hx hb dX12_wholeSum_74 (by decide) ?_
        exact ih y15z y13z y14z h _ _ hP hD hS _ (lv_sub hl [3, 4, 5, 0, 6, 2, 1] rfl)
def s_X12_wholeSum_11 (N : Nat) (v3 : Int32) (m_primeMany : Int32) (a_mprimes : Nat → Int64) (k_11 : (Int64 × Int32) → Option (Int64 × Int32 × (Nat → Int64))) (v4 : Int64) (v6 : Int32) : Option (Int64 × Int32 × (Nat → Int64)) :=
  if m_primeMany ≤ v6 then
    some (v4, m_primeMany, a_mprimes)
  else
    if v6 < 0 ∨ 40 ≤ v6.toNatClampNeg then
      none
    else
      xl (a_mprimes v6.toNatClampNeg) fun y6z =>
      l_X12_wholeSum_35 N k_11 v3 v4 y6z m_primeMany a_mprimes N (v6, (1 : Int64), (1 : Int64))
def l_X12_wholeSum_11 (N : Nat) (v3 : Int32) (m_primeMany : Int32) (a_mprimes : Nat → Int64) (n : Nat) (z : Int64 × Int32) : Option (Int64 × Int32 × (Nat → Int64)) := lp (fun k z => s_X12_wholeSum_11 N v3 m_primeMany a_mprimes k z.1 z.2) n z
set_option maxRecDepth 100000 in
set_option maxHeartbeats 4000000 in
theorem k_X12_wholeSum_11 {p : Program} {l : Launch} {e : Env} {s : State} {m : MethodId} {args : Array Value} {below : List Frame} {meth : Method} {c : Code} {dC : Nat → ClassId} {dI : Nat → Nat → Nat} {cyI cyJ cyZ : ClassId} {A : Nat → Prop} (C0 : mC p s m meth c args cX12_wholeSum (some .long) 13 RX12 wsX12_wholeSum (gK dC dI cyI cyJ cyZ) A) (N : Nat) (res : Int64 × Int32 × (Nat → Int64)) (q_Md : Nat) (q_mprimes : Nat) (q_mtext : Nat) (q_mtold : Nat) (q_mtable : Nat) (q_mstretch : Nat) (q_mfewest : Nat) (q_misOdd : Nat) (q_misHigh : Nat) (q_misTop : Nat) (q_mbits : Nat) (q_mpile : Nat) (v3 : Int32) (m_length : Int32) (m_primeMany : Int32) (m_toldMany : Int32) (m_fate : Int32) (m_tail : Int32) (m_round : Int32) (m_tableKind : Int32) (m_areLaid : Int32) (m_unlike : Int32) (m_isFree : Int32) (a_mprimes : Nat → Int64) : ∀ (n : Nat) (v4 : Int64) (v6 : Int32), l_X12_wholeSum_11 N v3 m_primeMany a_mprimes n (v4, v6) = some res → ∀ (H : Heap) (locs : List Loc), va_P (dC, dI) vwCl (wd55 cyI cyJ cyZ q_Md q_mprimes q_mtext q_mtold q_mtable q_mstretch q_mfewest q_misOdd q_misHigh q_misTop q_mbits q_mpile m_length m_primeMany m_toldMany m_fate m_tail m_round m_tableKind m_areLaid m_unlike m_isFree a_mprimes) H → va_D A (wd55 cyI cyJ cyZ q_Md q_mprimes q_mtext q_mtold q_mtable q_mstretch q_mfewest q_misOdd q_misHigh q_misTop q_mbits q_mpile m_length m_primeMany m_toldMany m_fate m_tail m_round m_tableKind m_areLaid m_unlike m_isFree a_mprimes) → va_S A s.heap H locs → ∀ (ls : Array Slot), lv_has ls 13 [(0, .ref q_Md), (3, .int v3), (4, .long v4), (6, .int v6)] → W p l e (headSpec wsX12_wholeSum rm_X12_wholeSum).room s m args below meth c H locs 0 0 (MQ below (va_Ql (fun (r : Int64) (_ : Unit) => r = res.1) (bW dC dI (fun (u : Unit) => (wd55 cyI cyJ cyZ q_Md q_mprimes q_mtext q_mtold q_mtable q_mstretch q_mfewest q_misOdd q_misHigh q_misTop q_mbits q_mpile m_length res.2.1 m_toldMany m_fate m_tail m_round m_tableKind m_areLaid m_unlike m_isFree res.2.2)) A) A) args s 0 0 A) (F0 m 11 ls []) := by
  obtain ⟨hx, hb, hr, hml, hown, hts, hlocks, hG, hA⟩ := id C0
  have hK := hG.1
  intro n
  induction n with
  | zero =>
    intro v4 v6 h
    cases h
  | succ n ih =>
    intro v4 v6 h H locs hP hD hS ls hl
    have h : s_X12_wholeSum_11 N v3 m_primeMany a_mprimes (l_X12_wholeSum_11 N v3 m_primeMany a_mprimes n) v4 v6 = some res := h
    unfold s_X12_wholeSum_11 at h
    refine lv_iload hx hb dX12_wholeSum_11 (lv_at hl 3 rfl) ?_
    refine lv_aload_n hx hb dX12_wholeSum_13 rfl (lv_at hl 0 rfl) ?_
    refine va_get (D := (dC, dI)) (ci := 12) (v := .int m_primeMany) (C := RX12) (T := TX12) (N := 21) hx hb hts iw_X12_wholeSum_X12 hown hK hP 0 rfl rfl 2 (by decide) (hts (.fieldLink RX12 50 "GoesIntoModel" "primeMany" "I") (List.mem_of_getElem? (i := 1) rfl)) (fun _ h9 => h9) rfl dX12_wholeSum_14 ?_
    refine lv_icmp_ge (tgt := 98) hx hb dX12_wholeSum_17 (by decide) (fun c4z => ?_) (fun c4z => ?_)
    · have h := xt h c4z
      refine lv_lload hx hb dX12_wholeSum_98 (lv_at hl 2 rfl) ?_
      obtain rfl := Option.some.inj h
      exact W.lret (v := v4) hx hb hr (fun t ht hW => ⟨⟨_, (), rfl, rfl, by rw [ht]; exact hP, hD⟩, hS.F ht⟩) hS.2.2 dX12_wholeSum_100 hlocks
    · have h := xf h c4z
      refine lv_aload_n hx hb dX12_wholeSum_20 rfl (lv_at hl 0 rfl) ?_
      refine va_get (D := (dC, dI)) (ci := 12) (v := .ref q_mprimes) (C := RX12) (T := TX12) (N := 21) hx hb hts iw_X12_wholeSum_X12 hown hK hP 0 rfl rfl 3 (by decide) (hts (.fieldLink RX12 13 "GoesIntoModel" "primes" "[J") (List.mem_of_getElem? (i := 2) rfl)) (fun _ h9 => h9) rfl dX12_wholeSum_21 ?_
      refine lv_iload hx hb dX12_wholeSum_24 (lv_at hl 3 rfl) ?_
      obtain ⟨b5z, h⟩ := xn h
      refine va_lald hx hb hK hP 1 1 rfl rfl b5z dX12_wholeSum_26 ?_
      refine lv_topl (fun y6z ey6z => ?_)
      have h := xl_at h ey6z
      refine lv_lstore (lv' := [(7, .long y6z), (0, .ref q_Md), (3, .int v3), (4, .long v4), (6, .int v6)]) hx hb dX12_wholeSum_27 hl (by decide) rfl (fun ls hl => ?_)
      refine lv_lconst (v := (1 : Int64)) hx hb dX12_wholeSum_29 (by decide) ?_
      refine lv_lstore (lv' := [(9, .long (1 : Int64)), (7, .long y6z), (0, .ref q_Md), (3, .int v3), (4, .long v4), (6, .int v6)]) hx hb dX12_wholeSum_30 hl (by decide) rfl (fun ls hl => ?_)
      refine lv_lconst (v := (1 : Int64)) hx hb dX12_wholeSum_32 (by decide) ?_
      refine lv_lstore (lv' := [(11, .long (1 : Int64)), (9, .long (1 : Int64)), (7, .long y6z), (0, .ref q_Md), (3, .int v3), (4, .long v4), (6, .int v6)]) hx hb dX12_wholeSum_33 hl (by decide) rfl (fun ls hl => ?_)
      exact k_X12_wholeSum_35 C0 N res q_Md q_mprimes q_mtext q_mtold q_mtable q_mstretch q_mfewest q_misOdd q_misHigh q_misTop q_mbits q_mpile v3 y6z m_length m_primeMany m_toldMany m_fate m_tail m_round m_tableKind m_areLaid m_unlike m_isFree a_mprimes _ ih v4 N v6 (1 : Int64) (1 : Int64) h _ _ hP hD hS _ (lv_sub hl [3, 4, 5, 6, 2, 1, 0] rfl)
def f_X12_wholeSum (N : Nat) (v1 : Int64) (v3 : Int32) (m_primeMany : Int32) (a_mprimes : Nat → Int64) : Option (Int64 × Int32 × (Nat → Int64)) :=
  Option.bind (f_X12_layPrimes N v1 m_primeMany a_mprimes) fun r1z =>
  l_X12_wholeSum_11 N v3 r1z.1 r1z.2 N ((1 : Int64), (0 : Int32))
set_option maxRecDepth 100000 in
set_option maxHeartbeats 4000000 in
theorem k_X12_wholeSum_0 {p : Program} {l : Launch} {e : Env} {s : State} {m : MethodId} {args : Array Value} {below : List Frame} {meth : Method} {c : Code} {dC : Nat → ClassId} {dI : Nat → Nat → Nat} {cyI cyJ cyZ : ClassId} {A : Nat → Prop} (C0 : mC p s m meth c args cX12_wholeSum (some .long) 13 RX12 wsX12_wholeSum (gK dC dI cyI cyJ cyZ) A) (N : Nat) (res : Int64 × Int32 × (Nat → Int64)) (q_Md : Nat) (q_mprimes : Nat) (q_mtext : Nat) (q_mtold : Nat) (q_mtable : Nat) (q_mstretch : Nat) (q_mfewest : Nat) (q_misOdd : Nat) (q_misHigh : Nat) (q_misTop : Nat) (q_mbits : Nat) (q_mpile : Nat) (v1 : Int64) (v3 : Int32) (m_length : Int32) (m_primeMany : Int32) (m_toldMany : Int32) (m_fate : Int32) (m_tail : Int32) (m_round : Int32) (m_tableKind : Int32) (m_areLaid : Int32) (m_unlike : Int32) (m_isFree : Int32) (a_mprimes : Nat → Int64) (h : f_X12_wholeSum N v1 v3 m_primeMany a_mprimes = some res) : ∀ (H : Heap) (locs : List Loc), va_P (dC, dI) vwCl (wd55 cyI cyJ cyZ q_Md q_mprimes q_mtext q_mtold q_mtable q_mstretch q_mfewest q_misOdd q_misHigh q_misTop q_mbits q_mpile m_length m_primeMany m_toldMany m_fate m_tail m_round m_tableKind m_areLaid m_unlike m_isFree a_mprimes) H → va_D A (wd55 cyI cyJ cyZ q_Md q_mprimes q_mtext q_mtold q_mtable q_mstretch q_mfewest q_misOdd q_misHigh q_misTop q_mbits q_mpile m_length m_primeMany m_toldMany m_fate m_tail m_round m_tableKind m_areLaid m_unlike m_isFree a_mprimes) → va_S A s.heap H locs → ∀ (ls : Array Slot), lv_has ls 13 [(0, .ref q_Md), (1, .long v1), (3, .int v3)] → W p l e (headSpec wsX12_wholeSum rm_X12_wholeSum).room s m args below meth c H locs 0 0 (MQ below (va_Ql (fun (r : Int64) (_ : Unit) => r = res.1) (bW dC dI (fun (u : Unit) => (wd55 cyI cyJ cyZ q_Md q_mprimes q_mtext q_mtold q_mtable q_mstretch q_mfewest q_misOdd q_misHigh q_misTop q_mbits q_mpile m_length res.2.1 m_toldMany m_fate m_tail m_round m_tableKind m_areLaid m_unlike m_isFree res.2.2)) A) A) args s 0 0 A) (F0 m 0 ls []) := by
  obtain ⟨hx, hb, hr, hml, hown, hts, hlocks, hG, hA⟩ := id C0
  have hK := hG.1
  intro H locs hP hD hS ls hl
  unfold f_X12_wholeSum at h
  refine lv_aload_n hx hb dX12_wholeSum_0 rfl (lv_at hl 0 rfl) ?_
  refine lv_lload_n hx hb dX12_wholeSum_1 rfl (lv_at hl 1 rfl) ?_
  obtain ⟨r1z, hr1z, h⟩ := xb_at h
  have hPc := hP.sub (ws' := (wd55 cyI cyJ cyZ q_Md q_mprimes q_mtext q_mtold q_mtable q_mstretch q_mfewest q_misOdd q_misHigh q_misTop q_mbits q_mpile m_length m_primeMany m_toldMany m_fate m_tail m_round m_tableKind m_areLaid m_unlike m_isFree a_mprimes)) [0, 1] rfl
  have hDc := hD.sub (ws' := (wd55 cyI cyJ cyZ q_Md q_mprimes q_mtext q_mtold q_mtable q_mstretch q_mfewest q_misOdd q_misHigh q_misTop q_mbits q_mpile m_length m_primeMany m_toldMany m_fate m_tail m_round m_tableKind m_areLaid m_unlike m_isFree a_mprimes)) [0, 1] (by decide) rfl
  refine cal_v [0, 1] [] (va_runV (As := [.long v1]) (rest := []) ⟨hx, hb, hml, hown, hts⟩ (c_X12_layPrimes l dC dI cyI cyJ cyZ N r1z H.size q_Md q_mprimes q_mtext q_mtold q_mtable q_mstretch q_mfewest q_misOdd q_misHigh q_misTop q_mbits q_mpile v1 m_length m_primeMany m_toldMany m_fate m_tail m_round m_tableKind m_areLaid m_unlike m_isFree a_mprimes hr1z) (cwV 1 hts gX12_wholeSum_X12_layPrimes rfl rfl rfl ⟨rfl, hd_X12_layPrimes⟩ ⟨Nat.le_of_ble_eq_true rfl, Nat.le_of_ble_eq_true rfl⟩) ⟨pC.blind, va_recv hK hPc (ci := 12) (q0 := 0) rfl rfl, pC.pre hPc hG hDc⟩ rfl rfl hl.1 rfl (lv_room (Nat.le_of_ble_eq_true rfl)) dX12_wholeSum_2 ⟨Nat.zero_le _, Nat.zero_le _⟩) hP hD hS hA rfl rfl rfl (by decide) (fun u2z H locs _ hP hD hS => ?_)
  have hP : va_P (dC, dI) vwCl (wd55 cyI cyJ cyZ q_Md q_mprimes q_mtext q_mtold q_mtable q_mstretch q_mfewest q_misOdd q_misHigh q_misTop q_mbits q_mpile m_length r1z.1 m_toldMany m_fate m_tail m_round m_tableKind m_areLaid m_unlike m_isFree r1z.2) H := hP.sub [0, 1] rfl
  have hD : va_D A (wd55 cyI cyJ cyZ q_Md q_mprimes q_mtext q_mtold q_mtable q_mstretch q_mfewest q_misOdd q_misHigh q_misTop q_mbits q_mpile m_length r1z.1 m_toldMany m_fate m_tail m_round m_tableKind m_areLaid m_unlike m_isFree r1z.2) := hD.sub [0, 1] (by decide) rfl
  refine lv_lconst (v := (1 : Int64)) hx hb dX12_wholeSum_5 (by decide) ?_
  refine lv_lstore (lv' := [(4, .long (1 : Int64)), (0, .ref q_Md), (1, .long v1), (3, .int v3)]) hx hb dX12_wholeSum_6 hl (by decide) rfl (fun ls hl => ?_)
  refine lv_iconst (v := (0 : Int32)) hx hb dX12_wholeSum_8 (by decide) ?_
  refine lv_istore (lv' := [(6, .int (0 : Int32)), (4, .long (1 : Int64)), (0, .ref q_Md), (1, .long v1), (3, .int v3)]) hx hb dX12_wholeSum_9 hl (by decide) rfl (fun ls hl => ?_)
  exact k_X12_wholeSum_11 C0 N res q_Md q_mprimes q_mtext q_mtold q_mtable q_mstretch q_mfewest q_misOdd q_misHigh q_misTop q_mbits q_mpile v3 m_length r1z.1 m_toldMany m_fate m_tail m_round m_tableKind m_areLaid m_unlike m_isFree r1z.2 N (1 : Int64) (0 : Int32) h _ _ hP hD hS _ (lv_sub hl [2, 4, 1, 0] rfl)
set_option maxRecDepth 100000 in
set_option maxHeartbeats 4000000 in
theorem c_X12_wholeSum (l : Launch) (dC : Nat → ClassId) (dI : Nat → Nat → Nat) (cyI cyJ cyZ : ClassId) (N : Nat) (res : Int64 × Int32 × (Nat → Int64)) (sz : Nat) (q_Md : Nat) (q_mprimes : Nat) (q_mtext : Nat) (q_mtold : Nat) (q_mtable : Nat) (q_mstretch : Nat) (q_mfewest : Nat) (q_misOdd : Nat) (q_misHigh : Nat) (q_misTop : Nat) (q_mbits : Nat) (q_mpile : Nat) (v1 : Int64) (v3 : Int32) (m_length : Int32) (m_primeMany : Int32) (m_toldMany : Int32) (m_fate : Int32) (m_tail : Int32) (m_round : Int32) (m_tableKind : Int32) (m_areLaid : Int32) (m_unlike : Int32) (m_isFree : Int32) (a_mprimes : Nat → Int64) (h : f_X12_wholeSum N v1 v3 m_primeMany a_mprimes = some res) : Met l yX12_wholeSum wsX12_wholeSum rm_X12_wholeSum (pC dC dI cyI cyJ cyZ [.ref q_Md, .long v1, .int v3] sz (wd55 cyI cyJ cyZ q_Md q_mprimes q_mtext q_mtold q_mtable q_mstretch q_mfewest q_misOdd q_misHigh q_misTop q_mbits q_mpile m_length m_primeMany m_toldMany m_fate m_tail m_round m_tableKind m_areLaid m_unlike m_isFree a_mprimes)) (va_Ql (fun (r : Int64) (_ : Unit) => r = res.1) (bW dC dI (fun (u : Unit) => (wd55 cyI cyJ cyZ q_Md q_mprimes q_mtext q_mtold q_mtable q_mstretch q_mfewest q_misOdd q_misHigh q_misTop q_mbits q_mpile m_length res.2.1 m_toldMany m_fate m_tail m_round m_tableKind m_areLaid m_unlike m_isFree res.2.2)) (va_A (wd55 cyI cyJ cyZ q_Md q_mprimes q_mtext q_mtold q_mtable q_mstretch q_mfewest q_misOdd q_misHigh q_misTop q_mbits q_mpile m_length m_primeMany m_toldMany m_fate m_tail m_round m_tableKind m_areLaid m_unlike m_isFree a_mprimes) sz)) (va_A (wd55 cyI cyJ cyZ q_Md q_mprimes q_mtext q_mtold q_mtable q_mstretch q_mfewest q_misOdd q_misHigh q_misTop q_mbits q_mpile m_length m_primeMany m_toldMany m_fate m_tail m_round m_tableKind m_areLaid m_unlike m_isFree a_mprimes) sz)) 0 0 (va_A (wd55 cyI cyJ cyZ q_Md q_mprimes q_mtext q_mtold q_mtable q_mstretch q_mfewest q_misOdd q_misHigh q_misTop q_mbits q_mpile m_length m_primeMany m_toldMany m_fate m_tail m_round m_tableKind m_areLaid m_unlike m_isFree a_mprimes) sz) := by
  refine Met.ofW (cc := cX12_wholeSum) (maxL := 13) (ret := (some .long)) (by decide) rfl ?_
  intro p e s m args below meth c s₁ B hml hv
  obtain ⟨rfl, hsz, hP, hG, hD0⟩ := hv
  have hx := B.exec
  have hb := B.bytes
  have hr := B.returns
  have hts := atoms_spec (ws := wsX12_wholeSum) B.pre
  have hown : s.vm.findClass RX12 = some m.cls := findClass_of_methodNamed B.named
  have hlocks := B.notSynchronized
  subst hsz
  have hD := hD0.self (sz := s.heap.size)
  generalize hAe : va_A (wd55 cyI cyJ cyZ q_Md q_mprimes q_mtext q_mtold q_mtable q_mstretch q_mfewest q_misOdd q_misHigh q_misTop q_mbits q_mpile m_length m_primeMany m_toldMany m_fate m_tail m_round m_tableKind m_areLaid m_unlike m_isFree a_mprimes) s.heap.size = A at hD ⊢
  have hA : ∀ q : Nat, s.heap.size ≤ q → A q := fun q h => by rw [← hAe]; exact Or.inr h
  have hS : va_S A s.heap s.heap [] := va_S.rf
  have hl := lv_entry ([.ref q_Md, .long v1, .int v3]) (n := 13) (Nat.le_of_ble_eq_true rfl)
  rw [lg_entry_eq]
  generalize (lg_sl ([.ref q_Md, .long v1, .int v3]) ++ List.replicate (13 - (lg_sl ([.ref q_Md, .long v1, .int v3])).length) Slot.unset).toArray = ls at hl ⊢
  have hl : lv_has ls 13 [(0, .ref q_Md), (1, .long v1), (3, .int v3)] := hl
  exact k_X12_wholeSum_0 ⟨hx, hb, hr, hml, hown, hts, hlocks, hG, hA⟩ N res q_Md q_mprimes q_mtext q_mtold q_mtable q_mstretch q_mfewest q_misOdd q_misHigh q_misTop q_mbits q_mpile v1 v3 m_length m_primeMany m_toldMany m_fate m_tail m_round m_tableKind m_areLaid m_unlike m_isFree a_mprimes  h _ _ hP hD hS _ hl
abbrev rm_X12_sumOf : Room := { frames := 2, cells := 0, slots := 0, locals := 58 }
theorem hd_X12_sumOf : yX12_sumOf.cls ≠ "java/lang/invoke/MethodHandle" ∧ yX12_sumOf.cls ≠ "java/lang/invoke/VarHandle" ∧ (parseMethodDescriptor yX12_sumOf.desc).map (fun d => d.parameters.length) = some 2 := by decide +kernel
theorem iw_X12_sumOf_X12 : ∀ w ∈ wsX120, w ∈ wsX12_sumOf := List.forall_mem_cons.mpr ⟨List.mem_of_getElem? (i := 13) rfl, List.forall_mem_cons.mpr ⟨List.mem_of_getElem? (i := 14) rfl, List.forall_mem_cons.mpr ⟨List.mem_of_getElem? (i := 15) rfl, List.forall_mem_cons.mpr ⟨List.mem_of_getElem? (i := 16) rfl, List.forall_mem_cons.mpr ⟨List.mem_of_getElem? (i := 17) rfl, List.forall_mem_cons.mpr ⟨List.mem_of_getElem? (i := 18) rfl, List.forall_mem_cons.mpr ⟨List.mem_of_getElem? (i := 19) rfl, List.forall_mem_cons.mpr ⟨List.mem_of_getElem? (i := 20) rfl, List.forall_mem_cons.mpr ⟨List.mem_of_getElem? (i := 21) rfl, List.forall_mem_cons.mpr ⟨List.mem_of_getElem? (i := 22) rfl, List.forall_mem_cons.mpr ⟨List.mem_of_getElem? (i := 23) rfl, List.forall_mem_cons.mpr ⟨List.mem_of_getElem? (i := 24) rfl, List.forall_mem_cons.mpr ⟨List.mem_of_getElem? (i := 25) rfl, List.forall_mem_cons.mpr ⟨List.mem_of_getElem? (i := 26) rfl, List.forall_mem_cons.mpr ⟨List.mem_of_getElem? (i := 27) rfl, List.forall_mem_cons.mpr ⟨List.mem_of_getElem? (i := 28) rfl, List.forall_mem_cons.mpr ⟨List.mem_of_getElem? (i := 29) rfl, List.forall_mem_cons.mpr ⟨List.mem_of_getElem? (i := 30) rfl, List.forall_mem_cons.mpr ⟨List.mem_of_getElem? (i := 31) rfl, List.forall_mem_cons.mpr ⟨List.mem_of_getElem? (i := 32) rfl, List.forall_mem_cons.mpr ⟨List.mem_of_getElem? (i := 33) rfl, fun _ h => absurd h List.not_mem_nil⟩⟩⟩⟩⟩⟩⟩⟩⟩⟩⟩⟩⟩⟩⟩⟩⟩⟩⟩⟩⟩
def j_X12_sumOf_28 (N : Nat) (v1 : Int32) (v2 : Int64) (s0 : Int32) (s1 : Int64) (m_primeMany : Int32) (a_mprimes : Nat → Int64) : Option (Int64 × Int32 × (Nat → Int64)) :=
  Option.bind (f_X12_wholeSum N s1 s0 m_primeMany a_mprimes) fun r3z =>
  if v1 = 0 then
    some (r3z.1, r3z.2.1, r3z.2.2)
  else
    if (3 : Int32) ≤ v1 then
      some ((r3z.1 - v2) - (1 : Int64), r3z.2.1, r3z.2.2)
    else
      some (r3z.1 - v2, r3z.2.1, r3z.2.2)
set_option maxRecDepth 100000 in
set_option maxHeartbeats 4000000 in
theorem k_X12_sumOf_28 {p : Program} {l : Launch} {e : Env} {s : State} {m : MethodId} {args : Array Value} {below : List Frame} {meth : Method} {c : Code} {dC : Nat → ClassId} {dI : Nat → Nat → Nat} {cyI cyJ cyZ : ClassId} {A : Nat → Prop} (C0 : mC p s m meth c args cX12_sumOf (some .long) 6 RX12 wsX12_sumOf (gK dC dI cyI cyJ cyZ) A) (N : Nat) (res : Int64 × Int32 × (Nat → Int64)) (q_Md : Nat) (q_mprimes : Nat) (q_mtext : Nat) (q_mtold : Nat) (q_mtable : Nat) (q_mstretch : Nat) (q_mfewest : Nat) (q_misOdd : Nat) (q_misHigh : Nat) (q_misTop : Nat) (q_mbits : Nat) (q_mpile : Nat) (v1 : Int32) (v2 : Int64) (s0 : Int32) (s1 : Int64) (m_length : Int32) (m_primeMany : Int32) (m_toldMany : Int32) (m_fate : Int32) (m_tail : Int32) (m_round : Int32) (m_tableKind : Int32) (m_areLaid : Int32) (m_unlike : Int32) (m_isFree : Int32) (a_mprimes : Nat → Int64) (h : j_X12_sumOf_28 N v1 v2 s0 s1 m_primeMany a_mprimes = some res) : ∀ (H : Heap) (locs : List Loc), va_P (dC, dI) vwCl (wd55 cyI cyJ cyZ q_Md q_mprimes q_mtext q_mtold q_mtable q_mstretch q_mfewest q_misOdd q_misHigh q_misTop q_mbits q_mpile m_length m_primeMany m_toldMany m_fate m_tail m_round m_tableKind m_areLaid m_unlike m_isFree a_mprimes) H → va_D A (wd55 cyI cyJ cyZ q_Md q_mprimes q_mtext q_mtold q_mtable q_mstretch q_mfewest q_misOdd q_misHigh q_misTop q_mbits q_mpile m_length m_primeMany m_toldMany m_fate m_tail m_round m_tableKind m_areLaid m_unlike m_isFree a_mprimes) → va_S A s.heap H locs → ∀ (ls : Array Slot), lv_has ls 6 [(1, .int v1), (2, .long v2)] → W p l e (headSpec wsX12_sumOf rm_X12_sumOf).room s m args below meth c H locs 0 0 (MQ below (va_Ql (fun (r : Int64) (_ : Unit) => r = res.1) (bW dC dI (fun (u : Unit) => (wd55 cyI cyJ cyZ q_Md q_mprimes q_mtext q_mtold q_mtable q_mstretch q_mfewest q_misOdd q_misHigh q_misTop q_mbits q_mpile m_length res.2.1 m_toldMany m_fate m_tail m_round m_tableKind m_areLaid m_unlike m_isFree res.2.2)) A) A) args s 0 0 A) (F0 m 28 ls [.int s0, .long s1, .ref q_Md]) := by
  obtain ⟨hx, hb, hr, hml, hown, hts, hlocks, hG, hA⟩ := id C0
  have hK := hG.1
  intro H locs hP hD hS ls hl
  unfold j_X12_sumOf_28 at h
  obtain ⟨r3z, hr3z, h⟩ := xb_at h
  have hPc := hP.sub (ws' := (wd55 cyI cyJ cyZ q_Md q_mprimes q_mtext q_mtold q_mtable q_mstretch q_mfewest q_misOdd q_misHigh q_misTop q_mbits q_mpile m_length m_primeMany m_toldMany m_fate m_tail m_round m_tableKind m_areLaid m_unlike m_isFree a_mprimes)) [0, 1] rfl
  have hDc := hD.sub (ws' := (wd55 cyI cyJ cyZ q_Md q_mprimes q_mtext q_mtold q_mtable q_mstretch q_mfewest q_misOdd q_misHigh q_misTop q_mbits q_mpile m_length m_primeMany m_toldMany m_fate m_tail m_round m_tableKind m_areLaid m_unlike m_isFree a_mprimes)) [0, 1] (by decide) rfl
  refine cal_l [0, 1] [] (va_runV (As := [.long s1, .int s0]) (rest := []) ⟨hx, hb, hml, hown, hts⟩ (c_X12_wholeSum l dC dI cyI cyJ cyZ N r3z H.size q_Md q_mprimes q_mtext q_mtold q_mtable q_mstretch q_mfewest q_misOdd q_misHigh q_misTop q_mbits q_mpile s1 s0 m_length m_primeMany m_toldMany m_fate m_tail m_round m_tableKind m_areLaid m_unlike m_isFree a_mprimes hr3z) (cwV 2 hts gX12_sumOf_X12_wholeSum rfl rfl rfl ⟨rfl, hd_X12_wholeSum⟩ ⟨Nat.le_of_ble_eq_true rfl, Nat.le_of_ble_eq_true rfl⟩) ⟨pC.blind, va_recv hK hPc (ci := 12) (q0 := 0) rfl rfl, pC.pre hPc hG hDc⟩ rfl rfl hl.1 rfl (lv_room (Nat.le_of_ble_eq_true rfl)) dX12_sumOf_28 ⟨Nat.zero_le _, Nat.zero_le _⟩) hP hD hS hA rfl rfl rfl (by decide) (fun x5z u4z H locs hw hP hD hS => ?_)
  obtain rfl := hw.symm
  have hP : va_P (dC, dI) vwCl (wd55 cyI cyJ cyZ q_Md q_mprimes q_mtext q_mtold q_mtable q_mstretch q_mfewest q_misOdd q_misHigh q_misTop q_mbits q_mpile m_length r3z.2.1 m_toldMany m_fate m_tail m_round m_tableKind m_areLaid m_unlike m_isFree r3z.2.2) H := hP.sub [0, 1] rfl
  have hD : va_D A (wd55 cyI cyJ cyZ q_Md q_mprimes q_mtext q_mtold q_mtable q_mstretch q_mfewest q_misOdd q_misHigh q_misTop q_mbits q_mpile m_length r3z.2.1 m_toldMany m_fate m_tail m_round m_tableKind m_areLaid m_unlike m_isFree r3z.2.2) := hD.sub [0, 1] (by decide) rfl
  refine lv_lstore (lv' := [(4, .long r3z.1), (1, .int v1), (2, .long v2)]) hx hb dX12_sumOf_31 hl (by decide) rfl (fun ls hl => ?_)
  refine lv_iload_n hx hb dX12_sumOf_33 rfl (lv_at hl 1 rfl) ?_
  refine lv_if_ne (tgt := 42) hx hb dX12_sumOf_34 (by decide) (fun c6z => ?_) (fun c6z => ?_)
  · have h := xf h c6z
    refine lv_iload_n hx hb dX12_sumOf_42 rfl (lv_at hl 1 rfl) ?_
    refine lv_iconst (v := (3 : Int32)) hx hb dX12_sumOf_43 (by decide) ?_
    refine lv_icmp_ge (tgt := 54) hx hb dX12_sumOf_44 (by decide) (fun c7z => ?_) (fun c7z => ?_)
    · have h := xt h c7z
      refine lv_lload hx hb dX12_sumOf_54 (lv_at hl 0 rfl) ?_
      refine lv_lload_n hx hb dX12_sumOf_56 rfl (lv_at hl 2 rfl) ?_
      refine lv_lsub hx hb dX12_sumOf_57 ?_
      refine lv_lconst (v := (1 : Int64)) hx hb dX12_sumOf_58 (by decide) ?_
      refine lv_lsub hx hb dX12_sumOf_59 ?_
      obtain rfl := Option.some.inj h
      exact W.lret (v := (r3z.1 - v2) - (1 : Int64)) hx hb hr (fun t ht hW => ⟨⟨_, (), rfl, rfl, by rw [ht]; exact hP, hD⟩, hS.F ht⟩) hS.2.2 dX12_sumOf_60 hlocks
    · have h := xf h c7z
      refine lv_lload hx hb dX12_sumOf_47 (lv_at hl 0 rfl) ?_
      refine lv_lload_n hx hb dX12_sumOf_49 rfl (lv_at hl 2 rfl) ?_
      refine lv_lsub hx hb dX12_sumOf_50 ?_
      refine lv_goto (tgt := 60) hx hb dX12_sumOf_51 (by decide) ?_
      obtain rfl := Option.some.inj h
      exact W.lret (v := r3z.1 - v2) hx hb hr (fun t ht hW => ⟨⟨_, (), rfl, rfl, by rw [ht]; exact hP, hD⟩, hS.F ht⟩) hS.2.2 dX12_sumOf_60 hlocks
  · have h := xt h c6z
    refine lv_lload hx hb dX12_sumOf_37 (lv_at hl 0 rfl) ?_
    refine lv_goto (tgt := 60) hx hb dX12_sumOf_39 (by decide) ?_
    obtain rfl := Option.some.inj h
    exact W.lret (v := r3z.1) hx hb hr (fun t ht hW => ⟨⟨_, (), rfl, rfl, by rw [ht]; exact hP, hD⟩, hS.F ht⟩) hS.2.2 dX12_sumOf_60 hlocks
def f_X12_sumOf (N : Nat) (v1 : Int32) (v2 : Int64) (m_primeMany : Int32) (a_mprimes : Nat → Int64) : Option (Int64 × Int32 × (Nat → Int64)) :=
  if v2 = (1 : Int64) then
    if v1 = 0 then
      some ((1 : Int64), m_primeMany, a_mprimes)
    else
      some ((0 : Int64), m_primeMany, a_mprimes)
  else
    if v1 = (2 : Int32) then
      j_X12_sumOf_28 N v1 v2 (1 : Int32) v2 m_primeMany a_mprimes
    else
      j_X12_sumOf_28 N v1 v2 (0 : Int32) v2 m_primeMany a_mprimes
set_option maxRecDepth 100000 in
set_option maxHeartbeats 4000000 in
theorem k_X12_sumOf_0 {p : Program} {l : Launch} {e : Env} {s : State} {m : MethodId} {args : Array Value} {below : List Frame} {meth : Method} {c : Code} {dC : Nat → ClassId} {dI : Nat → Nat → Nat} {cyI cyJ cyZ : ClassId} {A : Nat → Prop} (C0 : mC p s m meth c args cX12_sumOf (some .long) 6 RX12 wsX12_sumOf (gK dC dI cyI cyJ cyZ) A) (N : Nat) (res : Int64 × Int32 × (Nat → Int64)) (q_Md : Nat) (q_mprimes : Nat) (q_mtext : Nat) (q_mtold : Nat) (q_mtable : Nat) (q_mstretch : Nat) (q_mfewest : Nat) (q_misOdd : Nat) (q_misHigh : Nat) (q_misTop : Nat) (q_mbits : Nat) (q_mpile : Nat) (v1 : Int32) (v2 : Int64) (m_length : Int32) (m_primeMany : Int32) (m_toldMany : Int32) (m_fate : Int32) (m_tail : Int32) (m_round : Int32) (m_tableKind : Int32) (m_areLaid : Int32) (m_unlike : Int32) (m_isFree : Int32) (a_mprimes : Nat → Int64) (h : f_X12_sumOf N v1 v2 m_primeMany a_mprimes = some res) : ∀ (H : Heap) (locs : List Loc), va_P (dC, dI) vwCl (wd55 cyI cyJ cyZ q_Md q_mprimes q_mtext q_mtold q_mtable q_mstretch q_mfewest q_misOdd q_misHigh q_misTop q_mbits q_mpile m_length m_primeMany m_toldMany m_fate m_tail m_round m_tableKind m_areLaid m_unlike m_isFree a_mprimes) H → va_D A (wd55 cyI cyJ cyZ q_Md q_mprimes q_mtext q_mtold q_mtable q_mstretch q_mfewest q_misOdd q_misHigh q_misTop q_mbits q_mpile m_length m_primeMany m_toldMany m_fate m_tail m_round m_tableKind m_areLaid m_unlike m_isFree a_mprimes) → va_S A s.heap H locs → ∀ (ls : Array Slot), lv_has ls 6 [(0, .ref q_Md), (1, .int v1), (2, .long v2)] → W p l e (headSpec wsX12_sumOf rm_X12_sumOf).room s m args below meth c H locs 0 0 (MQ below (va_Ql (fun (r : Int64) (_ : Unit) => r = res.1) (bW dC dI (fun (u : Unit) => (wd55 cyI cyJ cyZ q_Md q_mprimes q_mtext q_mtold q_mtable q_mstretch q_mfewest q_misOdd q_misHigh q_misTop q_mbits q_mpile m_length res.2.1 m_toldMany m_fate m_tail m_round m_tableKind m_areLaid m_unlike m_isFree res.2.2)) A) A) args s 0 0 A) (F0 m 0 ls []) := by
  obtain ⟨hx, hb, hr, hml, hown, hts, hlocks, hG, hA⟩ := id C0
  have hK := hG.1
  intro H locs hP hD hS ls hl
  unfold f_X12_sumOf at h
  refine lv_lload_n hx hb dX12_sumOf_0 rfl (lv_at hl 2 rfl) ?_
  refine lv_lconst (v := (1 : Int64)) hx hb dX12_sumOf_1 (by decide) ?_
  refine W.lcmp hx hb dX12_sumOf_2 ?_
  refine lv_if_ne (tgt := 16) hx hb dX12_sumOf_3 (by decide) (fun c1z => ?_) (fun c1z => ?_)
  · have c1z := fun z => c1z ((lg_cmp_eq _ _).mpr z)
    have h := xf h c1z
    refine lv_aload_n hx hb dX12_sumOf_16 rfl (lv_at hl 0 rfl) ?_
    refine lv_lload_n hx hb dX12_sumOf_17 rfl (lv_at hl 2 rfl) ?_
    refine lv_iload_n hx hb dX12_sumOf_18 rfl (lv_at hl 1 rfl) ?_
    refine lv_iconst (v := (2 : Int32)) hx hb dX12_sumOf_19 (by decide) ?_
    refine lv_icmp_ne (tgt := 27) hx hb dX12_sumOf_20 (by decide) (fun c2z => ?_) (fun c2z => ?_)
    · have h := xf h c2z
      refine lv_iconst (v := (0 : Int32)) hx hb dX12_sumOf_27 (by decide) ?_
      exact k_X12_sumOf_28 C0 N res q_Md q_mprimes q_mtext q_mtold q_mtable q_mstretch q_mfewest q_misOdd q_misHigh q_misTop q_mbits q_mpile v1 v2 (0 : Int32) v2 m_length m_primeMany m_toldMany m_fate m_tail m_round m_tableKind m_areLaid m_unlike m_isFree a_mprimes  h _ _ hP hD hS _ (lv_sub hl [1, 2] rfl)
    · have h := xt h c2z
      refine lv_iconst (v := (1 : Int32)) hx hb dX12_sumOf_23 (by decide) ?_
      refine lv_goto (tgt := 28) hx hb dX12_sumOf_24 (by decide) ?_
      exact k_X12_sumOf_28 C0 N res q_Md q_mprimes q_mtext q_mtold q_mtable q_mstretch q_mfewest q_misOdd q_misHigh q_misTop q_mbits q_mpile v1 v2 (1 : Int32) v2 m_length m_primeMany m_toldMany m_fate m_tail m_round m_tableKind m_areLaid m_unlike m_isFree a_mprimes  h _ _ hP hD hS _ (lv_sub hl [1, 2] rfl)
  · have c1z := (lg_cmp_eq _ _).mp c1z
    have h := xt h c1z
    refine lv_iload_n hx hb dX12_sumOf_6 rfl (lv_at hl 1 rfl) ?_
    refine lv_if_ne (tgt := 14) hx hb dX12_sumOf_7 (by decide) (fun c8z => ?_) (fun c8z => ?_)
    · have h := xf h c8z
      refine lv_lconst (v := (0 : Int64)) hx hb dX12_sumOf_14 (by decide) ?_
      obtain rfl := Option.some.inj h
      exact W.lret (v := (0 : Int64)) hx hb hr (fun t ht hW => ⟨⟨_, (), rfl, rfl, by rw [ht]; exact hP, hD⟩, hS.F ht⟩) hS.2.2 dX12_sumOf_15 hlocks
    · have h := xt h c8z
      refine lv_lconst (v := (1 : Int64)) hx hb dX12_sumOf_10 (by decide) ?_
      refine lv_goto (tgt := 15) hx hb dX12_sumOf_11 (by decide) ?_
      obtain rfl := Option.some.inj h
      exact W.lret (v := (1 : Int64)) hx hb hr (fun t ht hW => ⟨⟨_, (), rfl, rfl, by rw [ht]; exact hP, hD⟩, hS.F ht⟩) hS.2.2 dX12_sumOf_15 hlocks
set_option maxRecDepth 100000 in
set_option maxHeartbeats 4000000 in
theorem c_X12_sumOf (l : Launch) (dC : Nat → ClassId) (dI : Nat → Nat → Nat) (cyI cyJ cyZ : ClassId) (N : Nat) (res : Int64 × Int32 × (Nat → Int64)) (sz : Nat) (q_Md : Nat) (q_mprimes : Nat) (q_mtext : Nat) (q_mtold : Nat) (q_mtable : Nat) (q_mstretch : Nat) (q_mfewest : Nat) (q_misOdd : Nat) (q_misHigh : Nat) (q_misTop : Nat) (q_mbits : Nat) (q_mpile : Nat) (v1 : Int32) (v2 : Int64) (m_length : Int32) (m_primeMany : Int32) (m_toldMany : Int32) (m_fate : Int32) (m_tail : Int32) (m_round : Int32) (m_tableKind : Int32) (m_areLaid : Int32) (m_unlike : Int32) (m_isFree : Int32) (a_mprimes : Nat → Int64) (h : f_X12_sumOf N v1 v2 m_primeMany a_mprimes = some res) : Met l yX12_sumOf wsX12_sumOf rm_X12_sumOf (pC dC dI cyI cyJ cyZ [.ref q_Md, .int v1, .long v2] sz (wd55 cyI cyJ cyZ q_Md q_mprimes q_mtext q_mtold q_mtable q_mstretch q_mfewest q_misOdd q_misHigh q_misTop q_mbits q_mpile m_length m_primeMany m_toldMany m_fate m_tail m_round m_tableKind m_areLaid m_unlike m_isFree a_mprimes)) (va_Ql (fun (r : Int64) (_ : Unit) => r = res.1) (bW dC dI (fun (u : Unit) => (wd55 cyI cyJ cyZ q_Md q_mprimes q_mtext q_mtold q_mtable q_mstretch q_mfewest q_misOdd q_misHigh q_misTop q_mbits q_mpile m_length res.2.1 m_toldMany m_fate m_tail m_round m_tableKind m_areLaid m_unlike m_isFree res.2.2)) (va_A (wd55 cyI cyJ cyZ q_Md q_mprimes q_mtext q_mtold q_mtable q_mstretch q_mfewest q_misOdd q_misHigh q_misTop q_mbits q_mpile m_length m_primeMany m_toldMany m_fate m_tail m_round m_tableKind m_areLaid m_unlike m_isFree a_mprimes) sz)) (va_A (wd55 cyI cyJ cyZ q_Md q_mprimes q_mtext q_mtold q_mtable q_mstretch q_mfewest q_misOdd q_misHigh q_misTop q_mbits q_mpile m_length m_primeMany m_toldMany m_fate m_tail m_round m_tableKind m_areLaid m_unlike m_isFree a_mprimes) sz)) 0 0 (va_A (wd55 cyI cyJ cyZ q_Md q_mprimes q_mtext q_mtold q_mtable q_mstretch q_mfewest q_misOdd q_misHigh q_misTop q_mbits q_mpile m_length m_primeMany m_toldMany m_fate m_tail m_round m_tableKind m_areLaid m_unlike m_isFree a_mprimes) sz) := by
  refine Met.ofW (cc := cX12_sumOf) (maxL := 6) (ret := (some .long)) (by decide) rfl ?_
  intro p e s m args below meth c s₁ B hml hv
  obtain ⟨rfl, hsz, hP, hG, hD0⟩ := hv
  have hx := B.exec
  have hb := B.bytes
  have hr := B.returns
  have hts := atoms_spec (ws := wsX12_sumOf) B.pre
  have hown : s.vm.findClass RX12 = some m.cls := findClass_of_methodNamed B.named
  have hlocks := B.notSynchronized
  subst hsz
  have hD := hD0.self (sz := s.heap.size)
  generalize hAe : va_A (wd55 cyI cyJ cyZ q_Md q_mprimes q_mtext q_mtold q_mtable q_mstretch q_mfewest q_misOdd q_misHigh q_misTop q_mbits q_mpile m_length m_primeMany m_toldMany m_fate m_tail m_round m_tableKind m_areLaid m_unlike m_isFree a_mprimes) s.heap.size = A at hD ⊢
  have hA : ∀ q : Nat, s.heap.size ≤ q → A q := fun q h => by rw [← hAe]; exact Or.inr h
  have hS : va_S A s.heap s.heap [] := va_S.rf
  have hl := lv_entry ([.ref q_Md, .int v1, .long v2]) (n := 6) (Nat.le_of_ble_eq_true rfl)
  rw [lg_entry_eq]
  generalize (lg_sl ([.ref q_Md, .int v1, .long v2]) ++ List.replicate (6 - (lg_sl ([.ref q_Md, .int v1, .long v2])).length) Slot.unset).toArray = ls at hl ⊢
  have hl : lv_has ls 6 [(0, .ref q_Md), (1, .int v1), (2, .long v2)] := hl
  exact k_X12_sumOf_0 ⟨hx, hb, hr, hml, hown, hts, hlocks, hG, hA⟩ N res q_Md q_mprimes q_mtext q_mtold q_mtable q_mstretch q_mfewest q_misOdd q_misHigh q_misTop q_mbits q_mpile v1 v2 m_length m_primeMany m_toldMany m_fate m_tail m_round m_tableKind m_areLaid m_unlike m_isFree a_mprimes  h _ _ hP hD hS _ hl
abbrev rm_X12_isNumber : Room := { frames := 1, cells := 0, slots := 0, locals := 25 }
theorem hd_X12_isNumber : yX12_isNumber.cls ≠ "java/lang/invoke/MethodHandle" ∧ yX12_isNumber.cls ≠ "java/lang/invoke/VarHandle" ∧ (parseMethodDescriptor yX12_isNumber.desc).map (fun d => d.parameters.length) = some 1 := by decide +kernel
def f_X12_isNumber (N : Nat) (v0 : Int64) : Option (Int32) :=
  Option.bind (f_X12_in N v0 (1 : Int64) (10000000000 : Int64)) fun r1z =>
  if r1z = 0 ∨ r1z = 1 then
    some r1z
  else
    none
set_option maxRecDepth 100000 in
set_option maxHeartbeats 4000000 in
theorem k_X12_isNumber_0 {p : Program} {l : Launch} {e : Env} {s : State} {m : MethodId} {args : Array Value} {below : List Frame} {meth : Method} {c : Code} {dC : Nat → ClassId} {dI : Nat → Nat → Nat} {cyI cyJ cyZ : ClassId} {A : Nat → Prop} (C0 : mC p s m meth c args cX12_isNumber (some .boolean) 2 RX12 wsX12_isNumber (gK dC dI cyI cyJ cyZ) A) (N : Nat) (res : Int32) (v0 : Int64) (h : f_X12_isNumber N v0 = some res) : ∀ (H : Heap) (locs : List Loc), va_P (dC, dI) vwCl (wd37 cyI cyJ cyZ) H → va_D A (wd37 cyI cyJ cyZ) → va_S A s.heap H locs → ∀ (ls : Array Slot), lv_has ls 2 [(0, .long v0)] → W p l e (headSpec wsX12_isNumber rm_X12_isNumber).room s m args below meth c H locs 0 0 (MQ below (va_Qi (fun (r : Int32) (_ : Unit) => r = res) (bW dC dI (fun (u : Unit) => (wd37 cyI cyJ cyZ)) A) A) args s 0 0 A) (F0 m 0 ls []) := by
  obtain ⟨hx, hb, hr, hml, hown, hts, hlocks, hG, hA⟩ := id C0
  have hK := hG.1
  intro H locs hP hD hS ls hl
  unfold f_X12_isNumber at h
  refine lv_lload_n hx hb dX12_isNumber_0 rfl (lv_at hl 0 rfl) ?_
  refine lv_lconst (v := (1 : Int64)) hx hb dX12_isNumber_1 (by decide) ?_
  refine lv_ldc2 (v := (10000000000 : Int64)) hx hb hown (hts (.constantLong RX12 63 (10000000000)) (List.mem_of_getElem? (i := 1) rfl)) dX12_isNumber_2 ?_
  obtain ⟨r1z, hr1z, h⟩ := xb_at h
  have hPc := hP.sub (ws' := (wd37 cyI cyJ cyZ)) [] rfl
  have hDc := hD.sub (ws' := (wd37 cyI cyJ cyZ)) [] (by decide) rfl
  refine cal_i [] [] (va_runS (As := [.long v0, .long (1 : Int64), .long (10000000000 : Int64)]) (rest := []) ⟨hx, hb, hml, hown, hts⟩ (c_X12_in l dC dI cyI cyJ cyZ N r1z H.size  v0 (1 : Int64) (10000000000 : Int64)  hr1z) (va_cwS 3 hts gX12_isNumber_X12_in rfl rfl rfl hd_X12_in ⟨Nat.le_of_ble_eq_true rfl, Nat.le_of_ble_eq_true rfl⟩) ⟨pC.blind, pC.pre hPc hG hDc⟩ rfl rfl hl.1 rfl (lv_room (Nat.le_of_ble_eq_true rfl)) dX12_isNumber_5 ⟨Nat.zero_le _, Nat.zero_le _⟩) hP hD hS hA rfl rfl rfl (by decide) (fun x3z u2z H locs hw hP hD hS => ?_)
  obtain rfl := hw.symm
  have hP : va_P (dC, dI) vwCl (wd37 cyI cyJ cyZ) H := hP.sub [] rfl
  have hD : va_D A (wd37 cyI cyJ cyZ) := hD.sub [] (by decide) rfl
  obtain ⟨b4z, h⟩ := xa h
  obtain rfl := Option.some.inj h
  exact W.zret (v := r1z) hx hb hr (xz01 b4z) (fun t ht hW => ⟨⟨_, (), rfl, rfl, by rw [ht]; exact hP, hD⟩, hS.F ht⟩) hS.2.2 dX12_isNumber_8 hlocks
set_option maxRecDepth 100000 in
set_option maxHeartbeats 4000000 in
theorem c_X12_isNumber (l : Launch) (dC : Nat → ClassId) (dI : Nat → Nat → Nat) (cyI cyJ cyZ : ClassId) (N : Nat) (res : Int32) (sz : Nat) (v0 : Int64) (h : f_X12_isNumber N v0  = some res) : Met l yX12_isNumber wsX12_isNumber rm_X12_isNumber (pC dC dI cyI cyJ cyZ [.long v0] sz (wd37 cyI cyJ cyZ)) (va_Qi (fun (r : Int32) (_ : Unit) => r = res) (bW dC dI (fun (u : Unit) => (wd37 cyI cyJ cyZ)) (va_A (wd37 cyI cyJ cyZ) sz)) (va_A (wd37 cyI cyJ cyZ) sz)) 0 0 (va_A (wd37 cyI cyJ cyZ) sz) := by
  refine Met.ofW (cc := cX12_isNumber) (maxL := 2) (ret := (some .boolean)) (by decide) rfl ?_
  intro p e s m args below meth c s₁ B hml hv
  obtain ⟨rfl, hsz, hP, hG, hD0⟩ := hv
  have hx := B.exec
  have hb := B.bytes
  have hr := B.returns
  have hts := atoms_spec (ws := wsX12_isNumber) B.pre
  have hown : s.vm.findClass RX12 = some m.cls := findClass_of_methodNamed B.named
  have hlocks := B.notSynchronized
  subst hsz
  have hD := hD0.self (sz := s.heap.size)
  generalize hAe : va_A (wd37 cyI cyJ cyZ) s.heap.size = A at hD ⊢
  have hA : ∀ q : Nat, s.heap.size ≤ q → A q := fun q h => by rw [← hAe]; exact Or.inr h
  have hS : va_S A s.heap s.heap [] := va_S.rf
  have hl := lv_entry ([.long v0]) (n := 2) (Nat.le_of_ble_eq_true rfl)
  rw [lg_entry_eq]
  generalize (lg_sl ([.long v0]) ++ List.replicate (2 - (lg_sl ([.long v0])).length) Slot.unset).toArray = ls at hl ⊢
  have hl : lv_has ls 2 [(0, .long v0)] := hl
  exact k_X12_isNumber_0 ⟨hx, hb, hr, hml, hown, hts, hlocks, hG, hA⟩ N res  v0  h _ _ hP hD hS _ hl
abbrev rm_X12_sum : Room := { frames := 3, cells := 0, slots := 0, locals := 83 }
theorem hd_X12_sum : yX12_sum.cls ≠ "java/lang/invoke/MethodHandle" ∧ yX12_sum.cls ≠ "java/lang/invoke/VarHandle" ∧ (parseMethodDescriptor yX12_sum.desc).map (fun d => d.parameters.length) = some 2 := by decide +kernel
theorem iw_X12_sum_X12 : ∀ w ∈ wsX120, w ∈ wsX12_sum := List.forall_mem_cons.mpr ⟨List.mem_of_getElem? (i := 26) rfl, List.forall_mem_cons.mpr ⟨List.mem_of_getElem? (i := 27) rfl, List.forall_mem_cons.mpr ⟨List.mem_of_getElem? (i := 28) rfl, List.forall_mem_cons.mpr ⟨List.mem_of_getElem? (i := 29) rfl, List.forall_mem_cons.mpr ⟨List.mem_of_getElem? (i := 30) rfl, List.forall_mem_cons.mpr ⟨List.mem_of_getElem? (i := 31) rfl, List.forall_mem_cons.mpr ⟨List.mem_of_getElem? (i := 32) rfl, List.forall_mem_cons.mpr ⟨List.mem_of_getElem? (i := 33) rfl, List.forall_mem_cons.mpr ⟨List.mem_of_getElem? (i := 34) rfl, List.forall_mem_cons.mpr ⟨List.mem_of_getElem? (i := 35) rfl, List.forall_mem_cons.mpr ⟨List.mem_of_getElem? (i := 36) rfl, List.forall_mem_cons.mpr ⟨List.mem_of_getElem? (i := 37) rfl, List.forall_mem_cons.mpr ⟨List.mem_of_getElem? (i := 38) rfl, List.forall_mem_cons.mpr ⟨List.mem_of_getElem? (i := 39) rfl, List.forall_mem_cons.mpr ⟨List.mem_of_getElem? (i := 40) rfl, List.forall_mem_cons.mpr ⟨List.mem_of_getElem? (i := 41) rfl, List.forall_mem_cons.mpr ⟨List.mem_of_getElem? (i := 42) rfl, List.forall_mem_cons.mpr ⟨List.mem_of_getElem? (i := 43) rfl, List.forall_mem_cons.mpr ⟨List.mem_of_getElem? (i := 44) rfl, List.forall_mem_cons.mpr ⟨List.mem_of_getElem? (i := 45) rfl, List.forall_mem_cons.mpr ⟨List.mem_of_getElem? (i := 46) rfl, fun _ h => absurd h List.not_mem_nil⟩⟩⟩⟩⟩⟩⟩⟩⟩⟩⟩⟩⟩⟩⟩⟩⟩⟩⟩⟩⟩
def f_X12_sum (N : Nat) (v1 : Int32) (v2 : Int64) (m_primeMany : Int32) (a_mprimes : Nat → Int64) : Option (Int64 × Int32 × (Nat → Int64)) :=
  Option.bind (f_X12_in N v1.toInt64 (0 : Int64) (3 : Int64)) fun r1z =>
  if r1z = 0 then
    some ((-1 : Int64), m_primeMany, a_mprimes)
  else
    Option.bind (f_X12_isNumber N v2) fun r5z =>
    if r5z = 0 then
      some ((-1 : Int64), m_primeMany, a_mprimes)
    else
      Option.bind (f_X12_sumOf N v1 v2 m_primeMany a_mprimes) fun r9z =>
      some (r9z.1, r9z.2.1, r9z.2.2)
set_option maxRecDepth 100000 in
set_option maxHeartbeats 4000000 in
theorem k_X12_sum_0 {p : Program} {l : Launch} {e : Env} {s : State} {m : MethodId} {args : Array Value} {below : List Frame} {meth : Method} {c : Code} {dC : Nat → ClassId} {dI : Nat → Nat → Nat} {cyI cyJ cyZ : ClassId} {A : Nat → Prop} (C0 : mC p s m meth c args cX12_sum (some .long) 4 RX12 wsX12_sum (gK dC dI cyI cyJ cyZ) A) (N : Nat) (res : Int64 × Int32 × (Nat → Int64)) (q_Md : Nat) (q_mprimes : Nat) (q_mtext : Nat) (q_mtold : Nat) (q_mtable : Nat) (q_mstretch : Nat) (q_mfewest : Nat) (q_misOdd : Nat) (q_misHigh : Nat) (q_misTop : Nat) (q_mbits : Nat) (q_mpile : Nat) (v1 : Int32) (v2 : Int64) (m_length : Int32) (m_primeMany : Int32) (m_toldMany : Int32) (m_fate : Int32) (m_tail : Int32) (m_round : Int32) (m_tableKind : Int32) (m_areLaid : Int32) (m_unlike : Int32) (m_isFree : Int32) (a_mprimes : Nat → Int64) (h : f_X12_sum N v1 v2 m_primeMany a_mprimes = some res) : ∀ (H : Heap) (locs : List Loc), va_P (dC, dI) vwCl (wd55 cyI cyJ cyZ q_Md q_mprimes q_mtext q_mtold q_mtable q_mstretch q_mfewest q_misOdd q_misHigh q_misTop q_mbits q_mpile m_length m_primeMany m_toldMany m_fate m_tail m_round m_tableKind m_areLaid m_unlike m_isFree a_mprimes) H → va_D A (wd55 cyI cyJ cyZ q_Md q_mprimes q_mtext q_mtold q_mtable q_mstretch q_mfewest q_misOdd q_misHigh q_misTop q_mbits q_mpile m_length m_primeMany m_toldMany m_fate m_tail m_round m_tableKind m_areLaid m_unlike m_isFree a_mprimes) → va_S A s.heap H locs → ∀ (ls : Array Slot), lv_has ls 4 [(0, .ref q_Md), (1, .int v1), (2, .long v2)] → W p l e (headSpec wsX12_sum rm_X12_sum).room s m args below meth c H locs 0 0 (MQ below (va_Ql (fun (r : Int64) (_ : Unit) => r = res.1) (bW dC dI (fun (u : Unit) => (wd55 cyI cyJ cyZ q_Md q_mprimes q_mtext q_mtold q_mtable q_mstretch q_mfewest q_misOdd q_misHigh q_misTop q_mbits q_mpile m_length res.2.1 m_toldMany m_fate m_tail m_round m_tableKind m_areLaid m_unlike m_isFree res.2.2)) A) A) args s 0 0 A) (F0 m 0 ls []) := by
  obtain ⟨hx, hb, hr, hml, hown, hts, hlocks, hG, hA⟩ := id C0
  have hK := hG.1
  intro H locs hP hD hS ls hl
  unfold f_X12_sum at h
  refine lv_iload_n hx hb dX12_sum_0 rfl (lv_at hl 1 rfl) ?_
  refine lv_i2l (v := v1.toInt64) hx hb dX12_sum_1 rfl ?_
  refine lv_lconst (v := (0 : Int64)) hx hb dX12_sum_2 (by decide) ?_
  refine lv_ldc2 (v := (3 : Int64)) hx hb hown (hts (.constantLong RX12 69 (3)) (List.mem_of_getElem? (i := 1) rfl)) dX12_sum_3 ?_
  obtain ⟨r1z, hr1z, h⟩ := xb_at h
  have hPc := hP.sub (ws' := (wd37 cyI cyJ cyZ)) [] rfl
  have hDc := hD.sub (ws' := (wd37 cyI cyJ cyZ)) [] (by decide) rfl
  refine cal_i [] [0, 1] (va_runS (As := [.long v1.toInt64, .long (0 : Int64), .long (3 : Int64)]) (rest := []) ⟨hx, hb, hml, hown, hts⟩ (c_X12_in l dC dI cyI cyJ cyZ N r1z H.size  v1.toInt64 (0 : Int64) (3 : Int64)  hr1z) (va_cwS 3 hts gX12_sum_X12_in rfl rfl rfl hd_X12_in ⟨Nat.le_of_ble_eq_true rfl, Nat.le_of_ble_eq_true rfl⟩) ⟨pC.blind, pC.pre hPc hG hDc⟩ rfl rfl hl.1 rfl (lv_room (Nat.le_of_ble_eq_true rfl)) dX12_sum_6 ⟨Nat.zero_le _, Nat.zero_le _⟩) hP hD hS hA rfl rfl rfl (by decide) (fun x3z u2z H locs hw hP hD hS => ?_)
  obtain rfl := hw.symm
  have hP : va_P (dC, dI) vwCl (wd55 cyI cyJ cyZ q_Md q_mprimes q_mtext q_mtold q_mtable q_mstretch q_mfewest q_misOdd q_misHigh q_misTop q_mbits q_mpile m_length m_primeMany m_toldMany m_fate m_tail m_round m_tableKind m_areLaid m_unlike m_isFree a_mprimes) H := hP.sub [0, 1] rfl
  have hD : va_D A (wd55 cyI cyJ cyZ q_Md q_mprimes q_mtext q_mtold q_mtable q_mstretch q_mfewest q_misOdd q_misHigh q_misTop q_mbits q_mpile m_length m_primeMany m_toldMany m_fate m_tail m_round m_tableKind m_areLaid m_unlike m_isFree a_mprimes) := hD.sub [0, 1] (by decide) rfl
  refine lv_if_eq (tgt := 28) hx hb dX12_sum_9 (by decide) (fun c4z => ?_) (fun c4z => ?_)
  · have h := xt h c4z
    refine lv_ldc2 (v := (-1 : Int64)) hx hb hown (hts (.constantLong RX12 79 (-1)) (List.mem_of_getElem? (i := 2) rfl)) dX12_sum_28 ?_
    obtain rfl := Option.some.inj h
    exact W.lret (v := (-1 : Int64)) hx hb hr (fun t ht hW => ⟨⟨_, (), rfl, rfl, by rw [ht]; exact hP, hD⟩, hS.F ht⟩) hS.2.2 dX12_sum_31 hlocks
  · have h := xf h c4z
    refine lv_lload_n hx hb dX12_sum_12 rfl (lv_at hl 2 rfl) ?_
    obtain ⟨r5z, hr5z, h⟩ := xb_at h
    have hPc := hP.sub (ws' := (wd37 cyI cyJ cyZ)) [] rfl
    have hDc := hD.sub (ws' := (wd37 cyI cyJ cyZ)) [] (by decide) rfl
    refine cal_i [] [0, 1] (va_runS (As := [.long v2]) (rest := []) ⟨hx, hb, hml, hown, hts⟩ (c_X12_isNumber l dC dI cyI cyJ cyZ N r5z H.size  v2  hr5z) (va_cwS 1 hts gX12_sum_X12_isNumber rfl rfl rfl hd_X12_isNumber ⟨Nat.le_of_ble_eq_true rfl, Nat.le_of_ble_eq_true rfl⟩) ⟨pC.blind, pC.pre hPc hG hDc⟩ rfl rfl hl.1 rfl (lv_room (Nat.le_of_ble_eq_true rfl)) dX12_sum_13 ⟨Nat.zero_le _, Nat.zero_le _⟩) hP hD hS hA rfl rfl rfl (by decide) (fun x7z u6z H locs hw hP hD hS => ?_)
    obtain rfl := hw.symm
    have hP : va_P (dC, dI) vwCl (wd55 cyI cyJ cyZ q_Md q_mprimes q_mtext q_mtold q_mtable q_mstretch q_mfewest q_misOdd q_misHigh q_misTop q_mbits q_mpile m_length m_primeMany m_toldMany m_fate m_tail m_round m_tableKind m_areLaid m_unlike m_isFree a_mprimes) H := hP.sub [0, 1] rfl
    have hD : va_D A (wd55 cyI cyJ cyZ q_Md q_mprimes q_mtext q_mtold q_mtable q_mstretch q_mfewest q_misOdd q_misHigh q_misTop q_mbits q_mpile m_length m_primeMany m_toldMany m_fate m_tail m_round m_tableKind m_areLaid m_unlike m_isFree a_mprimes) := hD.sub [0, 1] (by decide) rfl
    refine lv_if_eq (tgt := 28) hx hb dX12_sum_16 (by decide) (fun c8z => ?_) (fun c8z => ?_)
    · have h := xt h c8z
      refine lv_ldc2 (v := (-1 : Int64)) hx hb hown (hts (.constantLong RX12 79 (-1)) (List.mem_of_getElem? (i := 2) rfl)) dX12_sum_28 ?_
      obtain rfl := Option.some.inj h
      exact W.lret (v := (-1 : Int64)) hx hb hr (fun t ht hW => ⟨⟨_, (), rfl, rfl, by rw [ht]; exact hP, hD⟩, hS.F ht⟩) hS.2.2 dX12_sum_31 hlocks
    · have h := xf h c8z
      refine lv_aload_n hx hb dX12_sum_19 rfl (lv_at hl 0 rfl) ?_
      refine lv_iload_n hx hb dX12_sum_20 rfl (lv_at hl 1 rfl) ?_
      refine lv_lload_n hx hb dX12_sum_21 rfl (lv_at hl 2 rfl) ?_
      obtain ⟨r9z, hr9z, h⟩ := xb_at h
      have hPc := hP.sub (ws' := (wd55 cyI cyJ cyZ q_Md q_mprimes q_mtext q_mtold q_mtable q_mstretch q_mfewest q_misOdd q_misHigh q_misTop q_mbits q_mpile m_length m_primeMany m_toldMany m_fate m_tail m_round m_tableKind m_areLaid m_unlike m_isFree a_mprimes)) [0, 1] rfl
      have hDc := hD.sub (ws' := (wd55 cyI cyJ cyZ q_Md q_mprimes q_mtext q_mtold q_mtable q_mstretch q_mfewest q_misOdd q_misHigh q_misTop q_mbits q_mpile m_length m_primeMany m_toldMany m_fate m_tail m_round m_tableKind m_areLaid m_unlike m_isFree a_mprimes)) [0, 1] (by decide) rfl
      refine cal_l [0, 1] [] (va_runV (As := [.int v1, .long v2]) (rest := []) ⟨hx, hb, hml, hown, hts⟩ (c_X12_sumOf l dC dI cyI cyJ cyZ N r9z H.size q_Md q_mprimes q_mtext q_mtold q_mtable q_mstretch q_mfewest q_misOdd q_misHigh q_misTop q_mbits q_mpile v1 v2 m_length m_primeMany m_toldMany m_fate m_tail m_round m_tableKind m_areLaid m_unlike m_isFree a_mprimes hr9z) (cwV 2 hts gX12_sum_X12_sumOf rfl rfl rfl ⟨rfl, hd_X12_sumOf⟩ ⟨Nat.le_of_ble_eq_true rfl, Nat.le_of_ble_eq_true rfl⟩) ⟨pC.blind, va_recv hK hPc (ci := 12) (q0 := 0) rfl rfl, pC.pre hPc hG hDc⟩ rfl rfl hl.1 rfl (lv_room (Nat.le_of_ble_eq_true rfl)) dX12_sum_22 ⟨Nat.zero_le _, Nat.zero_le _⟩) hP hD hS hA rfl rfl rfl (by decide) (fun x11z u10z H locs hw hP hD hS => ?_)
      obtain rfl := hw.symm
      have hP : va_P (dC, dI) vwCl (wd55 cyI cyJ cyZ q_Md q_mprimes q_mtext q_mtold q_mtable q_mstretch q_mfewest q_misOdd q_misHigh q_misTop q_mbits q_mpile m_length r9z.2.1 m_toldMany m_fate m_tail m_round m_tableKind m_areLaid m_unlike m_isFree r9z.2.2) H := hP.sub [0, 1] rfl
      have hD : va_D A (wd55 cyI cyJ cyZ q_Md q_mprimes q_mtext q_mtold q_mtable q_mstretch q_mfewest q_misOdd q_misHigh q_misTop q_mbits q_mpile m_length r9z.2.1 m_toldMany m_fate m_tail m_round m_tableKind m_areLaid m_unlike m_isFree r9z.2.2) := hD.sub [0, 1] (by decide) rfl
      refine lv_goto (tgt := 31) hx hb dX12_sum_25 (by decide) ?_
      obtain rfl := Option.some.inj h
      exact W.lret (v := r9z.1) hx hb hr (fun t ht hW => ⟨⟨_, (), rfl, rfl, by rw [ht]; exact hP, hD⟩, hS.F ht⟩) hS.2.2 dX12_sum_31 hlocks
set_option maxRecDepth 100000 in
set_option maxHeartbeats 4000000 in
theorem c_X12_sum (l : Launch) (dC : Nat → ClassId) (dI : Nat → Nat → Nat) (cyI cyJ cyZ : ClassId) (N : Nat) (res : Int64 × Int32 × (Nat → Int64)) (sz : Nat) (q_Md : Nat) (q_mprimes : Nat) (q_mtext : Nat) (q_mtold : Nat) (q_mtable : Nat) (q_mstretch : Nat) (q_mfewest : Nat) (q_misOdd : Nat) (q_misHigh : Nat) (q_misTop : Nat) (q_mbits : Nat) (q_mpile : Nat) (v1 : Int32) (v2 : Int64) (m_length : Int32) (m_primeMany : Int32) (m_toldMany : Int32) (m_fate : Int32) (m_tail : Int32) (m_round : Int32) (m_tableKind : Int32) (m_areLaid : Int32) (m_unlike : Int32) (m_isFree : Int32) (a_mprimes : Nat → Int64) (h : f_X12_sum N v1 v2 m_primeMany a_mprimes = some res) : Met l yX12_sum wsX12_sum rm_X12_sum (pC dC dI cyI cyJ cyZ [.ref q_Md, .int v1, .long v2] sz (wd55 cyI cyJ cyZ q_Md q_mprimes q_mtext q_mtold q_mtable q_mstretch q_mfewest q_misOdd q_misHigh q_misTop q_mbits q_mpile m_length m_primeMany m_toldMany m_fate m_tail m_round m_tableKind m_areLaid m_unlike m_isFree a_mprimes)) (va_Ql (fun (r : Int64) (_ : Unit) => r = res.1) (bW dC dI (fun (u : Unit) => (wd55 cyI cyJ cyZ q_Md q_mprimes q_mtext q_mtold q_mtable q_mstretch q_mfewest q_misOdd q_misHigh q_misTop q_mbits q_mpile m_length res.2.1 m_toldMany m_fate m_tail m_round m_tableKind m_areLaid m_unlike m_isFree res.2.2)) (va_A (wd55 cyI cyJ cyZ q_Md q_mprimes q_mtext q_mtold q_mtable q_mstretch q_mfewest q_misOdd q_misHigh q_misTop q_mbits q_mpile m_length m_primeMany m_toldMany m_fate m_tail m_round m_tableKind m_areLaid m_unlike m_isFree a_mprimes) sz)) (va_A (wd55 cyI cyJ cyZ q_Md q_mprimes q_mtext q_mtold q_mtable q_mstretch q_mfewest q_misOdd q_misHigh q_misTop q_mbits q_mpile m_length m_primeMany m_toldMany m_fate m_tail m_round m_tableKind m_areLaid m_unlike m_isFree a_mprimes) sz)) 0 0 (va_A (wd55 cyI cyJ cyZ q_Md q_mprimes q_mtext q_mtold q_mtable q_mstretch q_mfewest q_misOdd q_misHigh q_misTop q_mbits q_mpile m_length m_primeMany m_toldMany m_fate m_tail m_round m_tableKind m_areLaid m_unlike m_isFree a_mprimes) sz) := by
  refine Met.ofW (cc := cX12_sum) (maxL := 4) (ret := (some .long)) (by decide) rfl ?_
  intro p e s m args below meth c s₁ B hml hv
  obtain ⟨rfl, hsz, hP, hG, hD0⟩ := hv
  have hx := B.exec
  have hb := B.bytes
  have hr := B.returns
  have hts := atoms_spec (ws := wsX12_sum) B.pre
  have hown : s.vm.findClass RX12 = some m.cls := findClass_of_methodNamed B.named
  have hlocks := B.notSynchronized
  subst hsz
  have hD := hD0.self (sz := s.heap.size)
  generalize hAe : va_A (wd55 cyI cyJ cyZ q_Md q_mprimes q_mtext q_mtold q_mtable q_mstretch q_mfewest q_misOdd q_misHigh q_misTop q_mbits q_mpile m_length m_primeMany m_toldMany m_fate m_tail m_round m_tableKind m_areLaid m_unlike m_isFree a_mprimes) s.heap.size = A at hD ⊢
  have hA : ∀ q : Nat, s.heap.size ≤ q → A q := fun q h => by rw [← hAe]; exact Or.inr h
  have hS : va_S A s.heap s.heap [] := va_S.rf
  have hl := lv_entry ([.ref q_Md, .int v1, .long v2]) (n := 4) (Nat.le_of_ble_eq_true rfl)
  rw [lg_entry_eq]
  generalize (lg_sl ([.ref q_Md, .int v1, .long v2]) ++ List.replicate (4 - (lg_sl ([.ref q_Md, .int v1, .long v2])).length) Slot.unset).toArray = ls at hl ⊢
  have hl : lv_has ls 4 [(0, .ref q_Md), (1, .int v1), (2, .long v2)] := hl
  exact k_X12_sum_0 ⟨hx, hb, hr, hml, hown, hts, hlocks, hG, hA⟩ N res q_Md q_mprimes q_mtext q_mtold q_mtable q_mstretch q_mfewest q_misOdd q_misHigh q_misTop q_mbits q_mpile v1 v2 m_length m_primeMany m_toldMany m_fate m_tail m_round m_tableKind m_areLaid m_unlike m_isFree a_mprimes  h _ _ hP hD hS _ hl
abbrev rm_X12_root : Room := { frames := 0, cells := 0, slots := 0, locals := 0 }
theorem hd_X12_root : yX12_root.cls ≠ "java/lang/invoke/MethodHandle" ∧ yX12_root.cls ≠ "java/lang/invoke/VarHandle" ∧ (parseMethodDescriptor yX12_root.desc).map (fun d => d.parameters.length) = some 1 := by decide +kernel
def s_X12_root_7 (N : Nat) (v0 : Int64) (k_7 : (Int64 × Int64) → Option (Int64)) (v2 : Int64) (v4 : Int64) : Option (Int64) :=
  if v4 ≤ v2 then
    some v2
  else
    xl (((v2 + v4) + (1 : Int64)) / (2 : Int64)) fun y2z =>
    if v0 < (y2z * y2z) then
      xl (y2z - (1 : Int64)) fun y4z =>
      k_7 (v2, y4z)
    else
      k_7 (y2z, v4)
def l_X12_root_7 (N : Nat) (v0 : Int64) (n : Nat) (z : Int64 × Int64) : Option (Int64) := lp (fun k z => s_X12_root_7 N v0 k z.1 z.2) n z
set_option maxRecDepth 100000 in
set_option maxHeartbeats 4000000 in
theorem k_X12_root_7 {p : Program} {l : Launch} {e : Env} {s : State} {m : MethodId} {args : Array Value} {below : List Frame} {meth : Method} {c : Code} {dC : Nat → ClassId} {dI : Nat → Nat → Nat} {cyI cyJ cyZ : ClassId} {A : Nat → Prop} (C0 : mC p s m meth c args cX12_root (some .long) 8 RX12 wsX12_root (gK dC dI cyI cyJ cyZ) A) (N : Nat) (res : Int64) (v0 : Int64) : ∀ (n : Nat) (v2 : Int64) (v4 : Int64), l_X12_root_7 N v0 n (v2, v4) = some res → ∀ (H : Heap) (locs : List Loc), va_P (dC, dI) vwCl (wd37 cyI cyJ cyZ) H → va_D A (wd37 cyI cyJ cyZ) → va_S A s.heap H locs → ∀ (ls : Array Slot), lv_has ls 8 [(0, .long v0), (2, .long v2), (4, .long v4)] → W p l e (headSpec wsX12_root rm_X12_root).room s m args below meth c H locs 0 0 (MQ below (va_Ql (fun (r : Int64) (_ : Unit) => r = res) (bW dC dI (fun (u : Unit) => (wd37 cyI cyJ cyZ)) A) A) args s 0 0 A) (F0 m 7 ls []) := by
  obtain ⟨hx, hb, hr, hml, hown, hts, hlocks, hG, hA⟩ := id C0
  have hK := hG.1
  intro n
  induction n with
  | zero =>
    intro v2 v4 h
    cases h
  | succ n ih =>
    intro v2 v4 h H locs hP hD hS ls hl
    have h : s_X12_root_7 N v0 (l_X12_root_7 N v0 n) v2 v4 = some res := h
    unfold s_X12_root_7 at h
    refine lv_lload_n hx hb dX12_root_7 rfl (lv_at hl 1 rfl) ?_
    refine lv_lload hx hb dX12_root_8 (lv_at hl 2 rfl) ?_
    refine W.lcmp hx hb dX12_root_10 ?_
    refine lv_if_ge (tgt := 51) hx hb dX12_root_11 (by decide) (fun c1z => ?_) (fun c1z => ?_)
    · have c1z := (lg_cmp_ge _ _).mp c1z
      have h := xt h c1z
      refine lv_lload_n hx hb dX12_root_51 rfl (lv_at hl 1 rfl) ?_
      obtain rfl := Option.some.inj h
      exact W.lret (v := v2) hx hb hr (fun t ht hW => ⟨⟨_, (), rfl, rfl, by rw [ht]; exact hP, hD⟩, hS.F ht⟩) hS.2.2 dX12_root_52 hlocks
    · have c1z := fun z => c1z ((lg_cmp_ge _ _).mpr z)
      have h := xf h c1z
      refine lv_lload_n hx hb dX12_root_14 rfl (lv_at hl 1 rfl) ?_
      refine lv_lload hx hb dX12_root_15 (lv_at hl 2 rfl) ?_
      refine lv_ladd hx hb dX12_root_17 ?_
      refine lv_lconst (v := (1 : Int64)) hx hb dX12_root_18 (by decide) ?_
      refine lv_ladd hx hb dX12_root_19 ?_
      refine lv_ldc2 (v := (2 : Int64)) hx hb hown (hts (.constantLong RX12 53 (2)) (List.mem_of_getElem? (i := 2) rfl)) dX12_root_20 ?_
      refine lv_ldiv hx hb dX12_root_23 (by decide) ?_
      refine lv_topl (fun y2z ey2z => ?_)
      have h := xl_at h ey2z
      refine lv_lstore (lv' := [(6, .long y2z), (0, .long v0), (2, .long v2), (4, .long v4)]) hx hb dX12_root_24 hl (by decide) rfl (fun ls hl => ?_)
      refine lv_lload hx hb dX12_root_26 (lv_at hl 0 rfl) ?_
      refine lv_lload hx hb dX12_root_28 (lv_at hl 0 rfl) ?_
      refine lv_lmul hx hb dX12_root_30 ?_
      refine lv_lload_n hx hb dX12_root_31 rfl (lv_at hl 1 rfl) ?_
      refine W.lcmp hx hb dX12_root_32 ?_
      refine lv_if_gt (tgt := 42) hx hb dX12_root_33 (by decide) (fun c3z => ?_) (fun c3z => ?_)
      · have c3z := (lg_cmp_gt _ _).mp c3z
        have h := xt h c3z
        refine lv_lload hx hb dX12_root_42 (lv_at hl 0 rfl) ?_
        refine lv_lconst (v := (1 : Int64)) hx hb dX12_root_44 (by decide) ?_
        refine lv_lsub hx hb dX12_root_45 ?_
        refine lv_topl (fun y4z ey4z => ?_)
        have h := xl_at h ey4z
        refine lv_lstore (lv' := [(4, .long y4z), (6, .long y2z), (0, .long v0), (2, .long v2)]) hx hb dX12_root_46 hl (by decide) rfl (fun ls hl => ?_)
        refine lv_goto (tgt := 7) hx hb dX12_root_48 (by decide) ?_
        exact ih v2 y4z h _ _ hP hD hS _ (lv_sub hl [2, 3, 0] rfl)
      · have c3z := fun z => c3z ((lg_cmp_gt _ _).mpr z)
        have h := xf h c3z
        refine lv_lload hx hb dX12_root_36 (lv_at hl 0 rfl) ?_
        refine lv_lstore_n (lv' := [(2, .long y2z), (6, .long y2z), (0, .long v0), (4, .long v4)]) hx hb dX12_root_38 rfl hl (by decide) rfl (fun ls hl => ?_)
        refine lv_goto (tgt := 48) hx hb dX12_root_39 (by decide) ?_
        refine lv_goto (tgt := 7) hx hb dX12_root_48 (by decide) ?_
        exact ih y2z v4 h _ _ hP hD hS _ (lv_sub hl [2, 0, 3] rfl)
def f_X12_root (N : Nat) (v0 : Int64) : Option (Int64) :=
  l_X12_root_7 N v0 N ((0 : Int64), (100000 : Int64))
set_option maxRecDepth 100000 in
set_option maxHeartbeats 4000000 in
theorem k_X12_root_0 {p : Program} {l : Launch} {e : Env} {s : State} {m : MethodId} {args : Array Value} {below : List Frame} {meth : Method} {c : Code} {dC : Nat → ClassId} {dI : Nat → Nat → Nat} {cyI cyJ cyZ : ClassId} {A : Nat → Prop} (C0 : mC p s m meth c args cX12_root (some .long) 8 RX12 wsX12_root (gK dC dI cyI cyJ cyZ) A) (N : Nat) (res : Int64) (v0 : Int64) (h : f_X12_root N v0 = some res) : ∀ (H : Heap) (locs : List Loc), va_P (dC, dI) vwCl (wd37 cyI cyJ cyZ) H → va_D A (wd37 cyI cyJ cyZ) → va_S A s.heap H locs → ∀ (ls : Array Slot), lv_has ls 8 [(0, .long v0)] → W p l e (headSpec wsX12_root rm_X12_root).room s m args below meth c H locs 0 0 (MQ below (va_Ql (fun (r : Int64) (_ : Unit) => r = res) (bW dC dI (fun (u : Unit) => (wd37 cyI cyJ cyZ)) A) A) args s 0 0 A) (F0 m 0 ls []) := by
  obtain ⟨hx, hb, hr, hml, hown, hts, hlocks, hG, hA⟩ := id C0
  have hK := hG.1
  intro H locs hP hD hS ls hl
  unfold f_X12_root at h
  refine lv_lconst (v := (0 : Int64)) hx hb dX12_root_0 (by decide) ?_
  refine lv_lstore_n (lv' := [(2, .long (0 : Int64)), (0, .long v0)]) hx hb dX12_root_1 rfl hl (by decide) rfl (fun ls hl => ?_)
  refine lv_ldc2 (v := (100000 : Int64)) hx hb hown (hts (.constantLong RX12 87 (100000)) (List.mem_of_getElem? (i := 1) rfl)) dX12_root_2 ?_
  refine lv_lstore (lv' := [(4, .long (100000 : Int64)), (2, .long (0 : Int64)), (0, .long v0)]) hx hb dX12_root_5 hl (by decide) rfl (fun ls hl => ?_)
  exact k_X12_root_7 C0 N res v0 N (0 : Int64) (100000 : Int64) h _ _ hP hD hS _ (lv_sub hl [2, 1, 0] rfl)
set_option maxRecDepth 100000 in
set_option maxHeartbeats 4000000 in
theorem c_X12_root (l : Launch) (dC : Nat → ClassId) (dI : Nat → Nat → Nat) (cyI cyJ cyZ : ClassId) (N : Nat) (res : Int64) (sz : Nat) (v0 : Int64) (h : f_X12_root N v0  = some res) : Met l yX12_root wsX12_root rm_X12_root (pC dC dI cyI cyJ cyZ [.long v0] sz (wd37 cyI cyJ cyZ)) (va_Ql (fun (r : Int64) (_ : Unit) => r = res) (bW dC dI (fun (u : Unit) => (wd37 cyI cyJ cyZ)) (va_A (wd37 cyI cyJ cyZ) sz)) (va_A (wd37 cyI cyJ cyZ) sz)) 0 0 (va_A (wd37 cyI cyJ cyZ) sz) := by
  refine Met.ofW (cc := cX12_root) (maxL := 8) (ret := (some .long)) (by decide) rfl ?_
  intro p e s m args below meth c s₁ B hml hv
  obtain ⟨rfl, hsz, hP, hG, hD0⟩ := hv
  have hx := B.exec
  have hb := B.bytes
  have hr := B.returns
  have hts := atoms_spec (ws := wsX12_root) B.pre
  have hown : s.vm.findClass RX12 = some m.cls := findClass_of_methodNamed B.named
  have hlocks := B.notSynchronized
  subst hsz
  have hD := hD0.self (sz := s.heap.size)
  generalize hAe : va_A (wd37 cyI cyJ cyZ) s.heap.size = A at hD ⊢
  have hA : ∀ q : Nat, s.heap.size ≤ q → A q := fun q h => by rw [← hAe]; exact Or.inr h
  have hS : va_S A s.heap s.heap [] := va_S.rf
  have hl := lv_entry ([.long v0]) (n := 8) (Nat.le_of_ble_eq_true rfl)
  rw [lg_entry_eq]
  generalize (lg_sl ([.long v0]) ++ List.replicate (8 - (lg_sl ([.long v0])).length) Slot.unset).toArray = ls at hl ⊢
  have hl : lv_has ls 8 [(0, .long v0)] := hl
  exact k_X12_root_0 ⟨hx, hb, hr, hml, hown, hts, hlocks, hG, hA⟩ N res  v0  h _ _ hP hD hS _ hl
/-- the cells Md -/
abbrev wd56 (cyI cyJ cyZ : ClassId) (q_Md : Nat) (q_mtext : Nat) (q_mprimes : Nat) (q_mtold : Nat) (q_mtable : Nat) (q_mstretch : Nat) (q_mfewest : Nat) (q_misOdd : Nat) (q_misHigh : Nat) (q_misTop : Nat) (q_mbits : Nat) (q_mpile : Nat) (m_length : Int32) (m_primeMany : Int32) (m_toldMany : Int32) (m_fate : Int32) (m_tail : Int32) (m_round : Int32) (m_tableKind : Int32) (m_areLaid : Int32) (m_unlike : Int32) (m_isFree : Int32) : va_W := [(q_Md, .inr (12, [.int m_length, .ref q_mtext, .int m_primeMany, .ref q_mprimes, .int m_toldMany, .ref q_mtold, .int m_fate, .int m_tail, .int m_round, .int m_tableKind, .ref q_mtable, .ref q_mstretch, .ref q_mfewest, .int m_areLaid, .ref q_misOdd, .ref q_misHigh, .ref q_misTop, .ref q_mbits, .int m_unlike, .int m_isFree, .ref q_mpile]))]
abbrev rm_X12_part : Room := { frames := 2, cells := 0, slots := 0, locals := 46 }
theorem hd_X12_part : yX12_part.cls ≠ "java/lang/invoke/MethodHandle" ∧ yX12_part.cls ≠ "java/lang/invoke/VarHandle" ∧ (parseMethodDescriptor yX12_part.desc).map (fun d => d.parameters.length) = some 2 := by decide +kernel
def j_X12_part_117 (N : Nat) (v3 : Int32) (v4 : Int32) : Option (Int64) :=
  if 0 ≤ v3 then
    some (-4 : Int64)
  else
    some v4.toInt64
set_option maxRecDepth 100000 in
set_option maxHeartbeats 4000000 in
theorem k_X12_part_117 {p : Program} {l : Launch} {e : Env} {s : State} {m : MethodId} {args : Array Value} {below : List Frame} {meth : Method} {c : Code} {dC : Nat → ClassId} {dI : Nat → Nat → Nat} {cyI cyJ cyZ : ClassId} {A : Nat → Prop} (C0 : mC p s m meth c args cX12_part (some .long) 7 RX12 wsX12_part (gK dC dI cyI cyJ cyZ) A) (N : Nat) (res : Int64) (q_Md : Nat) (q_mtext : Nat) (q_mprimes : Nat) (q_mtold : Nat) (q_mtable : Nat) (q_mstretch : Nat) (q_mfewest : Nat) (q_misOdd : Nat) (q_misHigh : Nat) (q_misTop : Nat) (q_mbits : Nat) (q_mpile : Nat) (v3 : Int32) (v4 : Int32) (m_length : Int32) (m_primeMany : Int32) (m_toldMany : Int32) (m_fate : Int32) (m_tail : Int32) (m_round : Int32) (m_tableKind : Int32) (m_areLaid : Int32) (m_unlike : Int32) (m_isFree : Int32) (h : j_X12_part_117 N v3 v4 = some res) : ∀ (H : Heap) (locs : List Loc), va_P (dC, dI) vwCl (wd56 cyI cyJ cyZ q_Md q_mtext q_mprimes q_mtold q_mtable q_mstretch q_mfewest q_misOdd q_misHigh q_misTop q_mbits q_mpile m_length m_primeMany m_toldMany m_fate m_tail m_round m_tableKind m_areLaid m_unlike m_isFree) H → va_D A (wd56 cyI cyJ cyZ q_Md q_mtext q_mprimes q_mtold q_mtable q_mstretch q_mfewest q_misOdd q_misHigh q_misTop q_mbits q_mpile m_length m_primeMany m_toldMany m_fate m_tail m_round m_tableKind m_areLaid m_unlike m_isFree) → va_S A s.heap H locs → ∀ (ls : Array Slot), lv_has ls 7 [(3, .int v3), (4, .int v4)] → W p l e (headSpec wsX12_part rm_X12_part).room s m args below meth c H locs 0 0 (MQ below (va_Ql (fun (r : Int64) (_ : Unit) => r = res) (bW dC dI (fun (u : Unit) => (wd56 cyI cyJ cyZ q_Md q_mtext q_mprimes q_mtold q_mtable q_mstretch q_mfewest q_misOdd q_misHigh q_misTop q_mbits q_mpile m_length m_primeMany m_toldMany m_fate m_tail m_round m_tableKind m_areLaid m_unlike m_isFree)) A) A) args s 0 0 A) (F0 m 117 ls []) := by
  obtain ⟨hx, hb, hr, hml, hown, hts, hlocks, hG, hA⟩ := id C0
  have hK := hG.1
  intro H locs hP hD hS ls hl
  unfold j_X12_part_117 at h
  refine lv_iload_n hx hb dX12_part_117 rfl (lv_at hl 0 rfl) ?_
  refine lv_if_ge (tgt := 127) hx hb dX12_part_118 (by decide) (fun c11z => ?_) (fun c11z => ?_)
  · have h := xt h c11z
    refine lv_ldc2 (v := (-4 : Int64)) hx hb hown (hts (.constantLong RX12 85 (-4)) (List.mem_of_getElem? (i := 2) rfl)) dX12_part_127 ?_
    obtain rfl := Option.some.inj h
    exact W.lret (v := (-4 : Int64)) hx hb hr (fun t ht hW => ⟨⟨_, (), rfl, rfl, by rw [ht]; exact hP, hD⟩, hS.F ht⟩) hS.2.2 dX12_part_130 hlocks
  · have h := xf h c11z
    refine lv_iload hx hb dX12_part_121 (lv_at hl 1 rfl) ?_
    refine lv_i2l (v := v4.toInt64) hx hb dX12_part_123 rfl ?_
    refine lv_goto (tgt := 130) hx hb dX12_part_124 (by decide) ?_
    obtain rfl := Option.some.inj h
    exact W.lret (v := v4.toInt64) hx hb hr (fun t ht hW => ⟨⟨_, (), rfl, rfl, by rw [ht]; exact hP, hD⟩, hS.F ht⟩) hS.2.2 dX12_part_130 hlocks
def s_X12_part_68 (N : Nat) (v1 : Int64) (v3 : Int32) (k_68 : (Int32 × Int64) → Option (Int64)) (v4 : Int32) (v5 : Int64) : Option (Int64) :=
  if v5 ≤ (0 : Int64) then
    j_X12_part_117 N v3 v4
  else
    if v5 = 0 then
      none
    else
      if (v1 - v1 / v5 * v5) = (0 : Int64) then
        if (v5 * v5) = v1 then
          xl (v5 - (1 : Int64)) fun y16z =>
          k_68 (v4, y16z)
        else
          if v4 = v3 then
            some (v1 / v5)
          else
            xl (v4 + (1 : Int32)) fun y18z =>
            xl (v5 - (1 : Int64)) fun y19z =>
            k_68 (y18z, y19z)
      else
        xl (v5 - (1 : Int64)) fun y14z =>
        k_68 (v4, y14z)
def l_X12_part_68 (N : Nat) (v1 : Int64) (v3 : Int32) (n : Nat) (z : Int32 × Int64) : Option (Int64) := lp (fun k z => s_X12_part_68 N v1 v3 k z.1 z.2) n z
set_option maxRecDepth 100000 in
set_option maxHeartbeats 4000000 in
theorem k_X12_part_68 {p : Program} {l : Launch} {e : Env} {s : State} {m : MethodId} {args : Array Value} {below : List Frame} {meth : Method} {c : Code} {dC : Nat → ClassId} {dI : Nat → Nat → Nat} {cyI cyJ cyZ : ClassId} {A : Nat → Prop} (C0 : mC p s m meth c args cX12_part (some .long) 7 RX12 wsX12_part (gK dC dI cyI cyJ cyZ) A) (N : Nat) (res : Int64) (q_Md : Nat) (q_mtext : Nat) (q_mprimes : Nat) (q_mtold : Nat) (q_mtable : Nat) (q_mstretch : Nat) (q_mfewest : Nat) (q_misOdd : Nat) (q_misHigh : Nat) (q_misTop : Nat) (q_mbits : Nat) (q_mpile : Nat) (v1 : Int64) (v3 : Int32) (m_length : Int32) (m_primeMany : Int32) (m_toldMany : Int32) (m_fate : Int32) (m_tail : Int32) (m_round : Int32) (m_tableKind : Int32) (m_areLaid : Int32) (m_unlike : Int32) (m_isFree : Int32) : ∀ (n : Nat) (v4 : Int32) (v5 : Int64), l_X12_part_68 N v1 v3 n (v4, v5) = some res → ∀ (H : Heap) (locs : List Loc), va_P (dC, dI) vwCl (wd56 cyI cyJ cyZ q_Md q_mtext q_mprimes q_mtold q_mtable q_mstretch q_mfewest q_misOdd q_misHigh q_misTop q_mbits q_mpile m_length m_primeMany m_toldMany m_fate m_tail m_round m_tableKind m_areLaid m_unlike m_isFree) H → va_D A (wd56 cyI cyJ cyZ q_Md q_mtext q_mprimes q_mtold q_mtable q_mstretch q_mfewest q_misOdd q_misHigh q_misTop q_mbits q_mpile m_length m_primeMany m_toldMany m_fate m_tail m_round m_tableKind m_areLaid m_unlike m_isFree) → va_S A s.heap H locs → ∀ (ls : Array Slot), lv_has ls 7 [(1, .long v1), (3, .int v3), (4, .int v4), (5, .long v5)] → W p l e (headSpec wsX12_part rm_X12_part).room s m args below meth c H locs 0 0 (MQ below (va_Ql (fun (r : Int64) (_ : Unit) => r = res) (bW dC dI (fun (u : Unit) => (wd56 cyI cyJ cyZ q_Md q_mtext q_mprimes q_mtold q_mtable q_mstretch q_mfewest q_misOdd q_misHigh q_misTop q_mbits q_mpile m_length m_primeMany m_toldMany m_fate m_tail m_round m_tableKind m_areLaid m_unlike m_isFree)) A) A) args s 0 0 A) (F0 m 68 ls []) := by
  obtain ⟨hx, hb, hr, hml, hown, hts, hlocks, hG, hA⟩ := id C0
  have hK := hG.1
  intro n
  induction n with
  | zero =>
    intro v4 v5 h
    cases h
  | succ n ih =>
    intro v4 v5 h H locs hP hD hS ls hl
    have h : s_X12_part_68 N v1 v3 (l_X12_part_68 N v1 v3 n) v4 v5 = some res := h
    unfold s_X12_part_68 at h
    refine lv_lload hx hb dX12_part_68 (lv_at hl 3 rfl) ?_
    refine lv_lconst (v := (0 : Int64)) hx hb dX12_part_70 (by decide) ?_
    refine W.lcmp hx hb dX12_part_71 ?_
    refine lv_if_le (tgt := 117) hx hb dX12_part_72 (by decide) (fun c10z => ?_) (fun c10z => ?_)
    · have c10z := (lg_cmp_le _ _).mp c10z
      have h := xt h c10z
      exact k_X12_part_117 C0 N res q_Md q_mtext q_mprimes q_mtold q_mtable q_mstretch q_mfewest q_misOdd q_misHigh q_misTop q_mbits q_mpile v3 v4 m_length m_primeMany m_toldMany m_fate m_tail m_round m_tableKind m_areLaid m_unlike m_isFree  h _ _ hP hD hS _ (lv_sub hl [1, 2] rfl)
    · have c10z := fun z => c10z ((lg_cmp_le _ _).mpr z)
      have h := xf h c10z
      refine lv_lload_n hx hb dX12_part_75 rfl (lv_at hl 0 rfl) ?_
      refine lv_lload hx hb dX12_part_76 (lv_at hl 3 rfl) ?_
      obtain ⟨b12z, h⟩ := xn h
      refine lv_lrem hx hb dX12_part_78 b12z ?_
      refine lv_lconst (v := (0 : Int64)) hx hb dX12_part_79 (by decide) ?_
      refine W.lcmp hx hb dX12_part_80 ?_
      refine lv_if_ne (tgt := 108) hx hb dX12_part_81 (by decide) (fun c13z => ?_) (fun c13z => ?_)
      · have c13z := fun z => c13z ((lg_cmp_eq _ _).mpr z)
        have h := xf h c13z
        refine lv_lload hx hb dX12_part_108 (lv_at hl 3 rfl) ?_
        refine lv_lconst (v := (1 : Int64)) hx hb dX12_part_110 (by decide) ?_
        refine lv_lsub hx hb dX12_part_111 ?_
        refine lv_topl (fun y14z ey14z => ?_)
        have h := xl_at h ey14z
        refine lv_lstore (lv' := [(5, .long y14z), (1, .long v1), (3, .int v3), (4, .int v4)]) hx hb dX12_part_112 hl (by decide) rfl (fun ls hl => ?_)
        refine lv_goto (tgt := 68) hx hb dX12_part_114 (by decide) ?_
        exact ih v4 y14z h _ _ hP hD hS _ (lv_sub hl [1, 2, 3, 0] rfl)
      · have c13z := (lg_cmp_eq _ _).mp c13z
        have h := xt h c13z
        refine lv_lload hx hb dX12_part_84 (lv_at hl 3 rfl) ?_
        refine lv_lload hx hb dX12_part_86 (lv_at hl 3 rfl) ?_
        refine lv_lmul hx hb dX12_part_88 ?_
        refine lv_lload_n hx hb dX12_part_89 rfl (lv_at hl 0 rfl) ?_
        refine W.lcmp hx hb dX12_part_90 ?_
        refine lv_if_eq (tgt := 108) hx hb dX12_part_91 (by decide) (fun c15z => ?_) (fun c15z => ?_)
        · have c15z := (lg_cmp_eq _ _).mp c15z
          have h := xt h c15z
          refine lv_lload hx hb dX12_part_108 (lv_at hl 3 rfl) ?_
          refine lv_lconst (v := (1 : Int64)) hx hb dX12_part_110 (by decide) ?_
          refine lv_lsub hx hb dX12_part_111 ?_
          refine lv_topl (fun y16z ey16z => ?_)
          have h := xl_at h ey16z
          refine lv_lstore (lv' := [(5, .long y16z), (1, .long v1), (3, .int v3), (4, .int v4)]) hx hb dX12_part_112 hl (by decide) rfl (fun ls hl => ?_)
          refine lv_goto (tgt := 68) hx hb dX12_part_114 (by decide) ?_
          exact ih v4 y16z h _ _ hP hD hS _ (lv_sub hl [1, 2, 3, 0] rfl)
        · have c15z := fun z => c15z ((lg_cmp_eq _ _).mpr z)
          have h := xf h c15z
          refine lv_iload hx hb dX12_part_94 (lv_at hl 2 rfl) ?_
          refine lv_iload_n hx hb dX12_part_96 rfl (lv_at hl 1 rfl) ?_
          refine lv_icmp_ne (tgt := 105) hx hb dX12_part_97 (by decide) (fun c17z => ?_) (fun c17z => ?_)
          · have h := xf h c17z
            obtain ⟨y18z, ey18z⟩ : ∃ z : Int32, z = v4 + (1 : Int32) := ⟨_, rfl⟩
            have h := xl_at h ey18z
            refine lv_iinc (v := y18z) (lv' := [(4, .int y18z), (1, .long v1), (3, .int v3), (5, .long v5)]) hx hb dX12_part_105 hl (k := 2) rfl (by rw [ey18z]; rfl) (by decide) rfl (fun ls hl => ?_)
            refine lv_lload hx hb dX12_part_108 (lv_at hl 3 rfl) ?_
            refine lv_lconst (v := (1 : Int64)) hx hb dX12_part_110 (by decide) ?_
            refine lv_lsub hx hb dX12_part_111 ?_
            refine lv_topl (fun y19z ey19z => ?_)
            have h := xl_at h ey19z
            refine lv_lstore (lv' := [(5, .long y19z), (4, .int y18z), (1, .long v1), (3, .int v3)]) hx hb dX12_part_112 hl (by decide) rfl (fun ls hl => ?_)
            refine lv_goto (tgt := 68) hx hb dX12_part_114 (by decide) ?_
            exact ih y18z y19z h _ _ hP hD hS _ (lv_sub hl [2, 3, 1, 0] rfl)
          · have h := xt h c17z
            refine lv_lload_n hx hb dX12_part_100 rfl (lv_at hl 0 rfl) ?_
            refine lv_lload hx hb dX12_part_101 (lv_at hl 3 rfl) ?_
            refine lv_ldiv hx hb dX12_part_103 b12z ?_
            obtain rfl := Option.some.inj h
            exact W.lret (v := v1 / v5) hx hb hr (fun t ht hW => ⟨⟨_, (), rfl, rfl, by rw [ht]; exact hP, hD⟩, hS.F ht⟩) hS.2.2 dX12_part_104 hlocks
def j_X12_part_62 (N : Nat) (v1 : Int64) (v3 : Int32) (v4 : Int32) : Option (Int64) :=
  Option.bind (f_X12_root N v1) fun r7z =>
  l_X12_part_68 N v1 v3 N (v4, r7z)
set_option maxRecDepth 100000 in
set_option maxHeartbeats 4000000 in
theorem k_X12_part_62 {p : Program} {l : Launch} {e : Env} {s : State} {m : MethodId} {args : Array Value} {below : List Frame} {meth : Method} {c : Code} {dC : Nat → ClassId} {dI : Nat → Nat → Nat} {cyI cyJ cyZ : ClassId} {A : Nat → Prop} (C0 : mC p s m meth c args cX12_part (some .long) 7 RX12 wsX12_part (gK dC dI cyI cyJ cyZ) A) (N : Nat) (res : Int64) (q_Md : Nat) (q_mtext : Nat) (q_mprimes : Nat) (q_mtold : Nat) (q_mtable : Nat) (q_mstretch : Nat) (q_mfewest : Nat) (q_misOdd : Nat) (q_misHigh : Nat) (q_misTop : Nat) (q_mbits : Nat) (q_mpile : Nat) (v1 : Int64) (v3 : Int32) (v4 : Int32) (m_length : Int32) (m_primeMany : Int32) (m_toldMany : Int32) (m_fate : Int32) (m_tail : Int32) (m_round : Int32) (m_tableKind : Int32) (m_areLaid : Int32) (m_unlike : Int32) (m_isFree : Int32) (h : j_X12_part_62 N v1 v3 v4 = some res) : ∀ (H : Heap) (locs : List Loc), va_P (dC, dI) vwCl (wd56 cyI cyJ cyZ q_Md q_mtext q_mprimes q_mtold q_mtable q_mstretch q_mfewest q_misOdd q_misHigh q_misTop q_mbits q_mpile m_length m_primeMany m_toldMany m_fate m_tail m_round m_tableKind m_areLaid m_unlike m_isFree) H → va_D A (wd56 cyI cyJ cyZ q_Md q_mtext q_mprimes q_mtold q_mtable q_mstretch q_mfewest q_misOdd q_misHigh q_misTop q_mbits q_mpile m_length m_primeMany m_toldMany m_fate m_tail m_round m_tableKind m_areLaid m_unlike m_isFree) → va_S A s.heap H locs → ∀ (ls : Array Slot), lv_has ls 7 [(1, .long v1), (3, .int v3), (4, .int v4)] → W p l e (headSpec wsX12_part rm_X12_part).room s m args below meth c H locs 0 0 (MQ below (va_Ql (fun (r : Int64) (_ : Unit) => r = res) (bW dC dI (fun (u : Unit) => (wd56 cyI cyJ cyZ q_Md q_mtext q_mprimes q_mtold q_mtable q_mstretch q_mfewest q_misOdd q_misHigh q_misTop q_mbits q_mpile m_length m_primeMany m_toldMany m_fate m_tail m_round m_tableKind m_areLaid m_unlike m_isFree)) A) A) args s 0 0 A) (F0 m 62 ls []) := by
  obtain ⟨hx, hb, hr, hml, hown, hts, hlocks, hG, hA⟩ := id C0
  have hK := hG.1
  intro H locs hP hD hS ls hl
  unfold j_X12_part_62 at h
  refine lv_lload_n hx hb dX12_part_62 rfl (lv_at hl 0 rfl) ?_
  obtain ⟨r7z, hr7z, h⟩ := xb_at h
  have hPc := hP.sub (ws' := (wd37 cyI cyJ cyZ)) [] rfl
  have hDc := hD.sub (ws' := (wd37 cyI cyJ cyZ)) [] (by decide) rfl
  refine cal_l [] [0] (va_runS (As := [.long v1]) (rest := []) ⟨hx, hb, hml, hown, hts⟩ (c_X12_root l dC dI cyI cyJ cyZ N r7z H.size  v1  hr7z) (va_cwS 1 hts gX12_part_X12_root rfl rfl rfl hd_X12_root ⟨Nat.le_of_ble_eq_true rfl, Nat.le_of_ble_eq_true rfl⟩) ⟨pC.blind, pC.pre hPc hG hDc⟩ rfl rfl hl.1 rfl (lv_room (Nat.le_of_ble_eq_true rfl)) dX12_part_63 ⟨Nat.zero_le _, Nat.zero_le _⟩) hP hD hS hA rfl rfl rfl (by decide) (fun x9z u8z H locs hw hP hD hS => ?_)
  obtain rfl := hw.symm
  have hP : va_P (dC, dI) vwCl (wd56 cyI cyJ cyZ q_Md q_mtext q_mprimes q_mtold q_mtable q_mstretch q_mfewest q_misOdd q_misHigh q_misTop q_mbits q_mpile m_length m_primeMany m_toldMany m_fate m_tail m_round m_tableKind m_areLaid m_unlike m_isFree) H := hP.sub [0] rfl
  have hD : va_D A (wd56 cyI cyJ cyZ q_Md q_mtext q_mprimes q_mtold q_mtable q_mstretch q_mfewest q_misOdd q_misHigh q_misTop q_mbits q_mpile m_length m_primeMany m_toldMany m_fate m_tail m_round m_tableKind m_areLaid m_unlike m_isFree) := hD.sub [0] (by decide) rfl
  refine lv_lstore (lv' := [(5, .long r7z), (1, .long v1), (3, .int v3), (4, .int v4)]) hx hb dX12_part_66 hl (by decide) rfl (fun ls hl => ?_)
  exact k_X12_part_68 C0 N res q_Md q_mtext q_mprimes q_mtold q_mtable q_mstretch q_mfewest q_misOdd q_misHigh q_misTop q_mbits q_mpile v1 v3 m_length m_primeMany m_toldMany m_fate m_tail m_round m_tableKind m_areLaid m_unlike m_isFree N v4 r7z h _ _ hP hD hS _ (lv_sub hl [1, 2, 3, 0] rfl)
def s_X12_part_22 (N : Nat) (v1 : Int64) (v3 : Int32) (k_22 : (Int32 × Int64) → Option (Int64)) (v4 : Int32) (v5 : Int64) : Option (Int64) :=
  if v1 < (v5 * v5) then
    j_X12_part_62 N v1 v3 v4
  else
    if v5 = 0 then
      none
    else
      if (v1 - v1 / v5 * v5) = (0 : Int64) then
        if v4 = v3 then
          some v5
        else
          xl (v4 + (1 : Int32)) fun y24z =>
          xl (v5 + (1 : Int64)) fun y25z =>
          k_22 (y24z, y25z)
      else
        xl (v5 + (1 : Int64)) fun y22z =>
        k_22 (v4, y22z)
def l_X12_part_22 (N : Nat) (v1 : Int64) (v3 : Int32) (n : Nat) (z : Int32 × Int64) : Option (Int64) := lp (fun k z => s_X12_part_22 N v1 v3 k z.1 z.2) n z
set_option maxRecDepth 100000 in
set_option maxHeartbeats 4000000 in
theorem k_X12_part_22 {p : Program} {l : Launch} {e : Env} {s : State} {m : MethodId} {args : Array Value} {below : List Frame} {meth : Method} {c : Code} {dC : Nat → ClassId} {dI : Nat → Nat → Nat} {cyI cyJ cyZ : ClassId} {A : Nat → Prop} (C0 : mC p s m meth c args cX12_part (some .long) 7 RX12 wsX12_part (gK dC dI cyI cyJ cyZ) A) (N : Nat) (res : Int64) (q_Md : Nat) (q_mtext : Nat) (q_mprimes : Nat) (q_mtold : Nat) (q_mtable : Nat) (q_mstretch : Nat) (q_mfewest : Nat) (q_misOdd : Nat) (q_misHigh : Nat) (q_misTop : Nat) (q_mbits : Nat) (q_mpile : Nat) (v1 : Int64) (v3 : Int32) (m_length : Int32) (m_primeMany : Int32) (m_toldMany : Int32) (m_fate : Int32) (m_tail : Int32) (m_round : Int32) (m_tableKind : Int32) (m_areLaid : Int32) (m_unlike : Int32) (m_isFree : Int32) : ∀ (n : Nat) (v4 : Int32) (v5 : Int64), l_X12_part_22 N v1 v3 n (v4, v5) = some res → ∀ (H : Heap) (locs : List Loc), va_P (dC, dI) vwCl (wd56 cyI cyJ cyZ q_Md q_mtext q_mprimes q_mtold q_mtable q_mstretch q_mfewest q_misOdd q_misHigh q_misTop q_mbits q_mpile m_length m_primeMany m_toldMany m_fate m_tail m_round m_tableKind m_areLaid m_unlike m_isFree) H → va_D A (wd56 cyI cyJ cyZ q_Md q_mtext q_mprimes q_mtold q_mtable q_mstretch q_mfewest q_misOdd q_misHigh q_misTop q_mbits q_mpile m_length m_primeMany m_toldMany m_fate m_tail m_round m_tableKind m_areLaid m_unlike m_isFree) → va_S A s.heap H locs → ∀ (ls : Array Slot), lv_has ls 7 [(1, .long v1), (3, .int v3), (4, .int v4), (5, .long v5)] → W p l e (headSpec wsX12_part rm_X12_part).room s m args below meth c H locs 0 0 (MQ below (va_Ql (fun (r : Int64) (_ : Unit) => r = res) (bW dC dI (fun (u : Unit) => (wd56 cyI cyJ cyZ q_Md q_mtext q_mprimes q_mtold q_mtable q_mstretch q_mfewest q_misOdd q_misHigh q_misTop q_mbits q_mpile m_length m_primeMany m_toldMany m_fate m_tail m_round m_tableKind m_areLaid m_unlike m_isFree)) A) A) args s 0 0 A) (F0 m 22 ls []) := by
  obtain ⟨hx, hb, hr, hml, hown, hts, hlocks, hG, hA⟩ := id C0
  have hK := hG.1
  intro n
  induction n with
  | zero =>
    intro v4 v5 h
    cases h
  | succ n ih =>
    intro v4 v5 h H locs hP hD hS ls hl
    have h : s_X12_part_22 N v1 v3 (l_X12_part_22 N v1 v3 n) v4 v5 = some res := h
    unfold s_X12_part_22 at h
    refine lv_lload hx hb dX12_part_22 (lv_at hl 3 rfl) ?_
    refine lv_lload hx hb dX12_part_24 (lv_at hl 3 rfl) ?_
    refine lv_lmul hx hb dX12_part_26 ?_
    refine lv_lload_n hx hb dX12_part_27 rfl (lv_at hl 0 rfl) ?_
    refine W.lcmp hx hb dX12_part_28 ?_
    refine lv_if_gt (tgt := 62) hx hb dX12_part_29 (by decide) (fun c6z => ?_) (fun c6z => ?_)
    · have c6z := (lg_cmp_gt _ _).mp c6z
      have h := xt h c6z
      exact k_X12_part_62 C0 N res q_Md q_mtext q_mprimes q_mtold q_mtable q_mstretch q_mfewest q_misOdd q_misHigh q_misTop q_mbits q_mpile v1 v3 v4 m_length m_primeMany m_toldMany m_fate m_tail m_round m_tableKind m_areLaid m_unlike m_isFree  h _ _ hP hD hS _ (lv_sub hl [0, 1, 2] rfl)
    · have c6z := fun z => c6z ((lg_cmp_gt _ _).mpr z)
      have h := xf h c6z
      refine lv_lload_n hx hb dX12_part_32 rfl (lv_at hl 0 rfl) ?_
      refine lv_lload hx hb dX12_part_33 (lv_at hl 3 rfl) ?_
      obtain ⟨b20z, h⟩ := xn h
      refine lv_lrem hx hb dX12_part_35 b20z ?_
      refine lv_lconst (v := (0 : Int64)) hx hb dX12_part_36 (by decide) ?_
      refine W.lcmp hx hb dX12_part_37 ?_
      refine lv_if_ne (tgt := 53) hx hb dX12_part_38 (by decide) (fun c21z => ?_) (fun c21z => ?_)
      · have c21z := fun z => c21z ((lg_cmp_eq _ _).mpr z)
        have h := xf h c21z
        refine lv_lload hx hb dX12_part_53 (lv_at hl 3 rfl) ?_
        refine lv_lconst (v := (1 : Int64)) hx hb dX12_part_55 (by decide) ?_
        refine lv_ladd hx hb dX12_part_56 ?_
        refine lv_topl (fun y22z ey22z => ?_)
        have h := xl_at h ey22z
        refine lv_lstore (lv' := [(5, .long y22z), (1, .long v1), (3, .int v3), (4, .int v4)]) hx hb dX12_part_57 hl (by decide) rfl (fun ls hl => ?_)
        refine lv_goto (tgt := 22) hx hb dX12_part_59 (by decide) ?_
        exact ih v4 y22z h _ _ hP hD hS _ (lv_sub hl [1, 2, 3, 0] rfl)
      · have c21z := (lg_cmp_eq _ _).mp c21z
        have h := xt h c21z
        refine lv_iload hx hb dX12_part_41 (lv_at hl 2 rfl) ?_
        refine lv_iload_n hx hb dX12_part_43 rfl (lv_at hl 1 rfl) ?_
        refine lv_icmp_ne (tgt := 50) hx hb dX12_part_44 (by decide) (fun c23z => ?_) (fun c23z => ?_)
        · have h := xf h c23z
          obtain ⟨y24z, ey24z⟩ : ∃ z : Int32, z = v4 + (1 : Int32) := ⟨_, rfl⟩
          have h := xl_at h ey24z
          refine lv_iinc (v := y24z) (lv' := [(4, .int y24z), (1, .long v1), (3, .int v3), (5, .long v5)]) hx hb dX12_part_50 hl (k := 2) rfl (by rw [ey24z]; rfl) (by decide) rfl (fun ls hl => ?_)
          refine lv_lload hx hb dX12_part_53 (lv_at hl 3 rfl) ?_
          refine lv_lconst (v := (1 : Int64)) hx hb dX12_part_55 (by decide) ?_
          refine lv_ladd hx hb dX12_part_56 ?_
          refine lv_topl (fun y25z ey25z => ?_)
          have h := xl_at h ey25z
          refine lv_lstore (lv' := [(5, .long y25z), (4, .int y24z), (1, .long v1), (3, .int v3)]) hx hb dX12_part_57 hl (by decide) rfl (fun ls hl => ?_)
          refine lv_goto (tgt := 22) hx hb dX12_part_59 (by decide) ?_
          exact ih y24z y25z h _ _ hP hD hS _ (lv_sub hl [2, 3, 1, 0] rfl)
        · have h := xt h c23z
          refine lv_lload hx hb dX12_part_47 (lv_at hl 3 rfl) ?_
          obtain rfl := Option.some.inj h
          exact W.lret (v := v5) hx hb hr (fun t ht hW => ⟨⟨_, (), rfl, rfl, by rw [ht]; exact hP, hD⟩, hS.F ht⟩) hS.2.2 dX12_part_49 hlocks
def f_X12_part (N : Nat) (v1 : Int64) (v3 : Int32) : Option (Int64) :=
  Option.bind (f_X12_isNumber N v1) fun r1z =>
  if r1z = 0 then
    some (-1 : Int64)
  else
    if (-1 : Int32) ≤ v3 then
      l_X12_part_22 N v1 v3 N ((0 : Int32), (1 : Int64))
    else
      some (-1 : Int64)
set_option maxRecDepth 100000 in
set_option maxHeartbeats 4000000 in
theorem k_X12_part_0 {p : Program} {l : Launch} {e : Env} {s : State} {m : MethodId} {args : Array Value} {below : List Frame} {meth : Method} {c : Code} {dC : Nat → ClassId} {dI : Nat → Nat → Nat} {cyI cyJ cyZ : ClassId} {A : Nat → Prop} (C0 : mC p s m meth c args cX12_part (some .long) 7 RX12 wsX12_part (gK dC dI cyI cyJ cyZ) A) (N : Nat) (res : Int64) (q_Md : Nat) (q_mtext : Nat) (q_mprimes : Nat) (q_mtold : Nat) (q_mtable : Nat) (q_mstretch : Nat) (q_mfewest : Nat) (q_misOdd : Nat) (q_misHigh : Nat) (q_misTop : Nat) (q_mbits : Nat) (q_mpile : Nat) (v1 : Int64) (v3 : Int32) (m_length : Int32) (m_primeMany : Int32) (m_toldMany : Int32) (m_fate : Int32) (m_tail : Int32) (m_round : Int32) (m_tableKind : Int32) (m_areLaid : Int32) (m_unlike : Int32) (m_isFree : Int32) (h : f_X12_part N v1 v3 = some res) : ∀ (H : Heap) (locs : List Loc), va_P (dC, dI) vwCl (wd56 cyI cyJ cyZ q_Md q_mtext q_mprimes q_mtold q_mtable q_mstretch q_mfewest q_misOdd q_misHigh q_misTop q_mbits q_mpile m_length m_primeMany m_toldMany m_fate m_tail m_round m_tableKind m_areLaid m_unlike m_isFree) H → va_D A (wd56 cyI cyJ cyZ q_Md q_mtext q_mprimes q_mtold q_mtable q_mstretch q_mfewest q_misOdd q_misHigh q_misTop q_mbits q_mpile m_length m_primeMany m_toldMany m_fate m_tail m_round m_tableKind m_areLaid m_unlike m_isFree) → va_S A s.heap H locs → ∀ (ls : Array Slot), lv_has ls 7 [(0, .ref q_Md), (1, .long v1), (3, .int v3)] → W p l e (headSpec wsX12_part rm_X12_part).room s m args below meth c H locs 0 0 (MQ below (va_Ql (fun (r : Int64) (_ : Unit) => r = res) (bW dC dI (fun (u : Unit) => (wd56 cyI cyJ cyZ q_Md q_mtext q_mprimes q_mtold q_mtable q_mstretch q_mfewest q_misOdd q_misHigh q_misTop q_mbits q_mpile m_length m_primeMany m_toldMany m_fate m_tail m_round m_tableKind m_areLaid m_unlike m_isFree)) A) A) args s 0 0 A) (F0 m 0 ls []) := by
  obtain ⟨hx, hb, hr, hml, hown, hts, hlocks, hG, hA⟩ := id C0
  have hK := hG.1
  intro H locs hP hD hS ls hl
  unfold f_X12_part at h
  refine lv_lload_n hx hb dX12_part_0 rfl (lv_at hl 1 rfl) ?_
  obtain ⟨r1z, hr1z, h⟩ := xb_at h
  have hPc := hP.sub (ws' := (wd37 cyI cyJ cyZ)) [] rfl
  have hDc := hD.sub (ws' := (wd37 cyI cyJ cyZ)) [] (by decide) rfl
  refine cal_i [] [0] (va_runS (As := [.long v1]) (rest := []) ⟨hx, hb, hml, hown, hts⟩ (c_X12_isNumber l dC dI cyI cyJ cyZ N r1z H.size  v1  hr1z) (va_cwS 1 hts gX12_part_X12_isNumber rfl rfl rfl hd_X12_isNumber ⟨Nat.le_of_ble_eq_true rfl, Nat.le_of_ble_eq_true rfl⟩) ⟨pC.blind, pC.pre hPc hG hDc⟩ rfl rfl hl.1 rfl (lv_room (Nat.le_of_ble_eq_true rfl)) dX12_part_1 ⟨Nat.zero_le _, Nat.zero_le _⟩) hP hD hS hA rfl rfl rfl (by decide) (fun x3z u2z H locs hw hP hD hS => ?_)
  obtain rfl := hw.symm
  have hP : va_P (dC, dI) vwCl (wd56 cyI cyJ cyZ q_Md q_mtext q_mprimes q_mtold q_mtable q_mstretch q_mfewest q_misOdd q_misHigh q_misTop q_mbits q_mpile m_length m_primeMany m_toldMany m_fate m_tail m_round m_tableKind m_areLaid m_unlike m_isFree) H := hP.sub [0] rfl
  have hD : va_D A (wd56 cyI cyJ cyZ q_Md q_mtext q_mprimes q_mtold q_mtable q_mstretch q_mfewest q_misOdd q_misHigh q_misTop q_mbits q_mpile m_length m_primeMany m_toldMany m_fate m_tail m_round m_tableKind m_areLaid m_unlike m_isFree) := hD.sub [0] (by decide) rfl
  refine lv_if_eq (tgt := 12) hx hb dX12_part_4 (by decide) (fun c4z => ?_) (fun c4z => ?_)
  · have h := xt h c4z
    refine lv_ldc2 (v := (-1 : Int64)) hx hb hown (hts (.constantLong RX12 79 (-1)) (List.mem_of_getElem? (i := 1) rfl)) dX12_part_12 ?_
    obtain rfl := Option.some.inj h
    exact W.lret (v := (-1 : Int64)) hx hb hr (fun t ht hW => ⟨⟨_, (), rfl, rfl, by rw [ht]; exact hP, hD⟩, hS.F ht⟩) hS.2.2 dX12_part_15 hlocks
  · have h := xf h c4z
    refine lv_iload_n hx hb dX12_part_7 rfl (lv_at hl 2 rfl) ?_
    refine lv_iconst (v := (-1 : Int32)) hx hb dX12_part_8 (by decide) ?_
    refine lv_icmp_ge (tgt := 16) hx hb dX12_part_9 (by decide) (fun c5z => ?_) (fun c5z => ?_)
    · have h := xt h c5z
      refine lv_iconst (v := (0 : Int32)) hx hb dX12_part_16 (by decide) ?_
      refine lv_istore (lv' := [(4, .int (0 : Int32)), (0, .ref q_Md), (1, .long v1), (3, .int v3)]) hx hb dX12_part_17 hl (by decide) rfl (fun ls hl => ?_)
      refine lv_lconst (v := (1 : Int64)) hx hb dX12_part_19 (by decide) ?_
      refine lv_lstore (lv' := [(5, .long (1 : Int64)), (4, .int (0 : Int32)), (0, .ref q_Md), (1, .long v1), (3, .int v3)]) hx hb dX12_part_20 hl (by decide) rfl (fun ls hl => ?_)
      exact k_X12_part_22 C0 N res q_Md q_mtext q_mprimes q_mtold q_mtable q_mstretch q_mfewest q_misOdd q_misHigh q_misTop q_mbits q_mpile v1 v3 m_length m_primeMany m_toldMany m_fate m_tail m_round m_tableKind m_areLaid m_unlike m_isFree N (0 : Int32) (1 : Int64) h _ _ hP hD hS _ (lv_sub hl [3, 4, 1, 0] rfl)
    · have h := xf h c5z
      refine lv_ldc2 (v := (-1 : Int64)) hx hb hown (hts (.constantLong RX12 79 (-1)) (List.mem_of_getElem? (i := 1) rfl)) dX12_part_12 ?_
      obtain rfl := Option.some.inj h
      exact W.lret (v := (-1 : Int64)) hx hb hr (fun t ht hW => ⟨⟨_, (), rfl, rfl, by rw [ht]; exact hP, hD⟩, hS.F ht⟩) hS.2.2 dX12_part_15 hlocks
set_option maxRecDepth 100000 in
set_option maxHeartbeats 4000000 in
theorem c_X12_part (l : Launch) (dC : Nat → ClassId) (dI : Nat → Nat → Nat) (cyI cyJ cyZ : ClassId) (N : Nat) (res : Int64) (sz : Nat) (q_Md : Nat) (q_mtext : Nat) (q_mprimes : Nat) (q_mtold : Nat) (q_mtable : Nat) (q_mstretch : Nat) (q_mfewest : Nat) (q_misOdd : Nat) (q_misHigh : Nat) (q_misTop : Nat) (q_mbits : Nat) (q_mpile : Nat) (v1 : Int64) (v3 : Int32) (m_length : Int32) (m_primeMany : Int32) (m_toldMany : Int32) (m_fate : Int32) (m_tail : Int32) (m_round : Int32) (m_tableKind : Int32) (m_areLaid : Int32) (m_unlike : Int32) (m_isFree : Int32) (h : f_X12_part N v1 v3  = some res) : Met l yX12_part wsX12_part rm_X12_part (pC dC dI cyI cyJ cyZ [.ref q_Md, .long v1, .int v3] sz (wd56 cyI cyJ cyZ q_Md q_mtext q_mprimes q_mtold q_mtable q_mstretch q_mfewest q_misOdd q_misHigh q_misTop q_mbits q_mpile m_length m_primeMany m_toldMany m_fate m_tail m_round m_tableKind m_areLaid m_unlike m_isFree)) (va_Ql (fun (r : Int64) (_ : Unit) => r = res) (bW dC dI (fun (u : Unit) => (wd56 cyI cyJ cyZ q_Md q_mtext q_mprimes q_mtold q_mtable q_mstretch q_mfewest q_misOdd q_misHigh q_misTop q_mbits q_mpile m_length m_primeMany m_toldMany m_fate m_tail m_round m_tableKind m_areLaid m_unlike m_isFree)) (va_A (wd56 cyI cyJ cyZ q_Md q_mtext q_mprimes q_mtold q_mtable q_mstretch q_mfewest q_misOdd q_misHigh q_misTop q_mbits q_mpile m_length m_primeMany m_toldMany m_fate m_tail m_round m_tableKind m_areLaid m_unlike m_isFree) sz)) (va_A (wd56 cyI cyJ cyZ q_Md q_mtext q_mprimes q_mtold q_mtable q_mstretch q_mfewest q_misOdd q_misHigh q_misTop q_mbits q_mpile m_length m_primeMany m_toldMany m_fate m_tail m_round m_tableKind m_areLaid m_unlike m_isFree) sz)) 0 0 (va_A (wd56 cyI cyJ cyZ q_Md q_mtext q_mprimes q_mtold q_mtable q_mstretch q_mfewest q_misOdd q_misHigh q_misTop q_mbits q_mpile m_length m_primeMany m_toldMany m_fate m_tail m_round m_tableKind m_areLaid m_unlike m_isFree) sz) := by
  refine Met.ofW (cc := cX12_part) (maxL := 7) (ret := (some .long)) (by decide) rfl ?_
  intro p e s m args below meth c s₁ B hml hv
  obtain ⟨rfl, hsz, hP, hG, hD0⟩ := hv
  have hx := B.exec
  have hb := B.bytes
  have hr := B.returns
  have hts := atoms_spec (ws := wsX12_part) B.pre
  have hown : s.vm.findClass RX12 = some m.cls := findClass_of_methodNamed B.named
  have hlocks := B.notSynchronized
  subst hsz
  have hD := hD0.self (sz := s.heap.size)
  generalize hAe : va_A (wd56 cyI cyJ cyZ q_Md q_mtext q_mprimes q_mtold q_mtable q_mstretch q_mfewest q_misOdd q_misHigh q_misTop q_mbits q_mpile m_length m_primeMany m_toldMany m_fate m_tail m_round m_tableKind m_areLaid m_unlike m_isFree) s.heap.size = A at hD ⊢
  have hA : ∀ q : Nat, s.heap.size ≤ q → A q := fun q h => by rw [← hAe]; exact Or.inr h
  have hS : va_S A s.heap s.heap [] := va_S.rf
  have hl := lv_entry ([.ref q_Md, .long v1, .int v3]) (n := 7) (Nat.le_of_ble_eq_true rfl)
  rw [lg_entry_eq]
  generalize (lg_sl ([.ref q_Md, .long v1, .int v3]) ++ List.replicate (7 - (lg_sl ([.ref q_Md, .long v1, .int v3])).length) Slot.unset).toArray = ls at hl ⊢
  have hl : lv_has ls 7 [(0, .ref q_Md), (1, .long v1), (3, .int v3)] := hl
  exact k_X12_part_0 ⟨hx, hb, hr, hml, hown, hts, hlocks, hG, hA⟩ N res q_Md q_mtext q_mprimes q_mtold q_mtable q_mstretch q_mfewest q_misOdd q_misHigh q_misTop q_mbits q_mpile v1 v3 m_length m_primeMany m_toldMany m_fate m_tail m_round m_tableKind m_areLaid m_unlike m_isFree  h _ _ hP hD hS _ hl
abbrev rm_X12_prime : Room := { frames := 2, cells := 0, slots := 0, locals := 46 }
theorem hd_X12_prime : yX12_prime.cls ≠ "java/lang/invoke/MethodHandle" ∧ yX12_prime.cls ≠ "java/lang/invoke/VarHandle" ∧ (parseMethodDescriptor yX12_prime.desc).map (fun d => d.parameters.length) = some 2 := by decide +kernel
theorem iw_X12_prime_X12 : ∀ w ∈ wsX120, w ∈ wsX12_prime := List.forall_mem_cons.mpr ⟨List.mem_of_getElem? (i := 18) rfl, List.forall_mem_cons.mpr ⟨List.mem_of_getElem? (i := 19) rfl, List.forall_mem_cons.mpr ⟨List.mem_of_getElem? (i := 20) rfl, List.forall_mem_cons.mpr ⟨List.mem_of_getElem? (i := 21) rfl, List.forall_mem_cons.mpr ⟨List.mem_of_getElem? (i := 22) rfl, List.forall_mem_cons.mpr ⟨List.mem_of_getElem? (i := 23) rfl, List.forall_mem_cons.mpr ⟨List.mem_of_getElem? (i := 24) rfl, List.forall_mem_cons.mpr ⟨List.mem_of_getElem? (i := 25) rfl, List.forall_mem_cons.mpr ⟨List.mem_of_getElem? (i := 26) rfl, List.forall_mem_cons.mpr ⟨List.mem_of_getElem? (i := 27) rfl, List.forall_mem_cons.mpr ⟨List.mem_of_getElem? (i := 28) rfl, List.forall_mem_cons.mpr ⟨List.mem_of_getElem? (i := 29) rfl, List.forall_mem_cons.mpr ⟨List.mem_of_getElem? (i := 30) rfl, List.forall_mem_cons.mpr ⟨List.mem_of_getElem? (i := 31) rfl, List.forall_mem_cons.mpr ⟨List.mem_of_getElem? (i := 32) rfl, List.forall_mem_cons.mpr ⟨List.mem_of_getElem? (i := 33) rfl, List.forall_mem_cons.mpr ⟨List.mem_of_getElem? (i := 34) rfl, List.forall_mem_cons.mpr ⟨List.mem_of_getElem? (i := 35) rfl, List.forall_mem_cons.mpr ⟨List.mem_of_getElem? (i := 36) rfl, List.forall_mem_cons.mpr ⟨List.mem_of_getElem? (i := 37) rfl, List.forall_mem_cons.mpr ⟨List.mem_of_getElem? (i := 38) rfl, fun _ h => absurd h List.not_mem_nil⟩⟩⟩⟩⟩⟩⟩⟩⟩⟩⟩⟩⟩⟩⟩⟩⟩⟩⟩⟩⟩
def f_X12_prime (N : Nat) (v1 : Int64) (v3 : Int32) (m_primeMany : Int32) (a_mprimes : Nat → Int64) : Option (Int64 × Int32 × (Nat → Int64)) :=
  Option.bind (f_X12_isNumber N v1) fun r1z =>
  if r1z = 0 then
    some ((-1 : Int64), m_primeMany, a_mprimes)
  else
    if (-1 : Int32) ≤ v3 then
      Option.bind (f_X12_layPrimes N v1 m_primeMany a_mprimes) fun r6z =>
      if 0 ≤ v3 then
        if r6z.1 ≤ v3 then
          some ((-4 : Int64), r6z.1, r6z.2)
        else
          if v3 < 0 ∨ 40 ≤ v3.toNatClampNeg then
            none
          else
            some (r6z.2 v3.toNatClampNeg, r6z.1, r6z.2)
      else
        some (r6z.1.toInt64, r6z.1, r6z.2)
    else
      some ((-1 : Int64), m_primeMany, a_mprimes)
set_option maxRecDepth 100000 in
set_option maxHeartbeats 4000000 in
theorem k_X12_prime_0 {p : Program} {l : Launch} {e : Env} {s : State} {m : MethodId} {args : Array Value} {below : List Frame} {meth : Method} {c : Code} {dC : Nat → ClassId} {dI : Nat → Nat → Nat} {cyI cyJ cyZ : ClassId} {A : Nat → Prop} (C0 : mC p s m meth c args cX12_prime (some .long) 4 RX12 wsX12_prime (gK dC dI cyI cyJ cyZ) A) (N : Nat) (res : Int64 × Int32 × (Nat → Int64)) (q_Md : Nat) (q_mprimes : Nat) (q_mtext : Nat) (q_mtold : Nat) (q_mtable : Nat) (q_mstretch : Nat) (q_mfewest : Nat) (q_misOdd : Nat) (q_misHigh : Nat) (q_misTop : Nat) (q_mbits : Nat) (q_mpile : Nat) (v1 : Int64) (v3 : Int32) (m_length : Int32) (m_primeMany : Int32) (m_toldMany : Int32) (m_fate : Int32) (m_tail : Int32) (m_round : Int32) (m_tableKind : Int32) (m_areLaid : Int32) (m_unlike : Int32) (m_isFree : Int32) (a_mprimes : Nat → Int64) (h : f_X12_prime N v1 v3 m_primeMany a_mprimes = some res) : ∀ (H : Heap) (locs : List Loc), va_P (dC, dI) vwCl (wd55 cyI cyJ cyZ q_Md q_mprimes q_mtext q_mtold q_mtable q_mstretch q_mfewest q_misOdd q_misHigh q_misTop q_mbits q_mpile m_length m_primeMany m_toldMany m_fate m_tail m_round m_tableKind m_areLaid m_unlike m_isFree a_mprimes) H → va_D A (wd55 cyI cyJ cyZ q_Md q_mprimes q_mtext q_mtold q_mtable q_mstretch q_mfewest q_misOdd q_misHigh q_misTop q_mbits q_mpile m_length m_primeMany m_toldMany m_fate m_tail m_round m_tableKind m_areLaid m_unlike m_isFree a_mprimes) → va_S A s.heap H locs → ∀ (ls : Array Slot), lv_has ls 4 [(0, .ref q_Md), (1, .long v1), (3, .int v3)] → W p l e (headSpec wsX12_prime rm_X12_prime).room s m args below meth c H locs 0 0 (MQ below (va_Ql (fun (r : Int64) (_ : Unit) => r = res.1) (bW dC dI (fun (u : Unit) => (wd55 cyI cyJ cyZ q_Md q_mprimes q_mtext q_mtold q_mtable q_mstretch q_mfewest q_misOdd q_misHigh q_misTop q_mbits q_mpile m_length res.2.1 m_toldMany m_fate m_tail m_round m_tableKind m_areLaid m_unlike m_isFree res.2.2)) A) A) args s 0 0 A) (F0 m 0 ls []) := by
  obtain ⟨hx, hb, hr, hml, hown, hts, hlocks, hG, hA⟩ := id C0
  have hK := hG.1
  intro H locs hP hD hS ls hl
  unfold f_X12_prime at h
  refine lv_lload_n hx hb dX12_prime_0 rfl (lv_at hl 1 rfl) ?_
  obtain ⟨r1z, hr1z, h⟩ := xb_at h
  have hPc := hP.sub (ws' := (wd37 cyI cyJ cyZ)) [] rfl
  have hDc := hD.sub (ws' := (wd37 cyI cyJ cyZ)) [] (by decide) rfl
  refine cal_i [] [0, 1] (va_runS (As := [.long v1]) (rest := []) ⟨hx, hb, hml, hown, hts⟩ (c_X12_isNumber l dC dI cyI cyJ cyZ N r1z H.size  v1  hr1z) (va_cwS 1 hts gX12_prime_X12_isNumber rfl rfl rfl hd_X12_isNumber ⟨Nat.le_of_ble_eq_true rfl, Nat.le_of_ble_eq_true rfl⟩) ⟨pC.blind, pC.pre hPc hG hDc⟩ rfl rfl hl.1 rfl (lv_room (Nat.le_of_ble_eq_true rfl)) dX12_prime_1 ⟨Nat.zero_le _, Nat.zero_le _⟩) hP hD hS hA rfl rfl rfl (by decide) (fun x3z u2z H locs hw hP hD hS => ?_)
  obtain rfl := hw.symm
  have hP : va_P (dC, dI) vwCl (wd55 cyI cyJ cyZ q_Md q_mprimes q_mtext q_mtold q_mtable q_mstretch q_mfewest q_misOdd q_misHigh q_misTop q_mbits q_mpile m_length m_primeMany m_toldMany m_fate m_tail m_round m_tableKind m_areLaid m_unlike m_isFree a_mprimes) H := hP.sub [0, 1] rfl
  have hD : va_D A (wd55 cyI cyJ cyZ q_Md q_mprimes q_mtext q_mtold q_mtable q_mstretch q_mfewest q_misOdd q_misHigh q_misTop q_mbits q_mpile m_length m_primeMany m_toldMany m_fate m_tail m_round m_tableKind m_areLaid m_unlike m_isFree a_mprimes) := hD.sub [0, 1] (by decide) rfl
  refine lv_if_eq (tgt := 12) hx hb dX12_prime_4 (by decide) (fun c4z => ?_) (fun c4z => ?_)
  · have h := xt h c4z
    refine lv_ldc2 (v := (-1 : Int64)) hx hb hown (hts (.constantLong RX12 79 (-1)) (List.mem_of_getElem? (i := 1) rfl)) dX12_prime_12 ?_
    obtain rfl := Option.some.inj h
    exact W.lret (v := (-1 : Int64)) hx hb hr (fun t ht hW => ⟨⟨_, (), rfl, rfl, by rw [ht]; exact hP, hD⟩, hS.F ht⟩) hS.2.2 dX12_prime_15 hlocks
  · have h := xf h c4z
    refine lv_iload_n hx hb dX12_prime_7 rfl (lv_at hl 2 rfl) ?_
    refine lv_iconst (v := (-1 : Int32)) hx hb dX12_prime_8 (by decide) ?_
    refine lv_icmp_ge (tgt := 16) hx hb dX12_prime_9 (by decide) (fun c5z => ?_) (fun c5z => ?_)
    · have h := xt h c5z
      refine lv_aload_n hx hb dX12_prime_16 rfl (lv_at hl 0 rfl) ?_
      refine lv_lload_n hx hb dX12_prime_17 rfl (lv_at hl 1 rfl) ?_
      obtain ⟨r6z, hr6z, h⟩ := xb_at h
      have hPc := hP.sub (ws' := (wd55 cyI cyJ cyZ q_Md q_mprimes q_mtext q_mtold q_mtable q_mstretch q_mfewest q_misOdd q_misHigh q_misTop q_mbits q_mpile m_length m_primeMany m_toldMany m_fate m_tail m_round m_tableKind m_areLaid m_unlike m_isFree a_mprimes)) [0, 1] rfl
      have hDc := hD.sub (ws' := (wd55 cyI cyJ cyZ q_Md q_mprimes q_mtext q_mtold q_mtable q_mstretch q_mfewest q_misOdd q_misHigh q_misTop q_mbits q_mpile m_length m_primeMany m_toldMany m_fate m_tail m_round m_tableKind m_areLaid m_unlike m_isFree a_mprimes)) [0, 1] (by decide) rfl
      refine cal_v [0, 1] [] (va_runV (As := [.long v1]) (rest := []) ⟨hx, hb, hml, hown, hts⟩ (c_X12_layPrimes l dC dI cyI cyJ cyZ N r6z H.size q_Md q_mprimes q_mtext q_mtold q_mtable q_mstretch q_mfewest q_misOdd q_misHigh q_misTop q_mbits q_mpile v1 m_length m_primeMany m_toldMany m_fate m_tail m_round m_tableKind m_areLaid m_unlike m_isFree a_mprimes hr6z) (cwV 1 hts gX12_prime_X12_layPrimes rfl rfl rfl ⟨rfl, hd_X12_layPrimes⟩ ⟨Nat.le_of_ble_eq_true rfl, Nat.le_of_ble_eq_true rfl⟩) ⟨pC.blind, va_recv hK hPc (ci := 12) (q0 := 0) rfl rfl, pC.pre hPc hG hDc⟩ rfl rfl hl.1 rfl (lv_room (Nat.le_of_ble_eq_true rfl)) dX12_prime_18 ⟨Nat.zero_le _, Nat.zero_le _⟩) hP hD hS hA rfl rfl rfl (by decide) (fun u7z H locs _ hP hD hS => ?_)
      have hP : va_P (dC, dI) vwCl (wd55 cyI cyJ cyZ q_Md q_mprimes q_mtext q_mtold q_mtable q_mstretch q_mfewest q_misOdd q_misHigh q_misTop q_mbits q_mpile m_length r6z.1 m_toldMany m_fate m_tail m_round m_tableKind m_areLaid m_unlike m_isFree r6z.2) H := hP.sub [0, 1] rfl
      have hD : va_D A (wd55 cyI cyJ cyZ q_Md q_mprimes q_mtext q_mtold q_mtable q_mstretch q_mfewest q_misOdd q_misHigh q_misTop q_mbits q_mpile m_length r6z.1 m_toldMany m_fate m_tail m_round m_tableKind m_areLaid m_unlike m_isFree r6z.2) := hD.sub [0, 1] (by decide) rfl
      refine lv_iload_n hx hb dX12_prime_21 rfl (lv_at hl 2 rfl) ?_
      refine lv_if_ge (tgt := 33) hx hb dX12_prime_22 (by decide) (fun c9z => ?_) (fun c9z => ?_)
      · have h := xt h c9z
        refine lv_iload_n hx hb dX12_prime_33 rfl (lv_at hl 2 rfl) ?_
        refine lv_aload_n hx hb dX12_prime_34 rfl (lv_at hl 0 rfl) ?_
        refine va_get (D := (dC, dI)) (ci := 12) (v := .int r6z.1) (C := RX12) (T := TX12) (N := 21) hx hb hts iw_X12_prime_X12 hown hK hP 0 rfl rfl 2 (by decide) (hts (.fieldLink RX12 50 "GoesIntoModel" "primeMany" "I") (List.mem_of_getElem? (i := 2) rfl)) (fun _ h9 => h9) rfl dX12_prime_35 ?_
        refine lv_icmp_ge (tgt := 50) hx hb dX12_prime_38 (by decide) (fun c10z => ?_) (fun c10z => ?_)
        · have h := xt h c10z
          refine lv_ldc2 (v := (-4 : Int64)) hx hb hown (hts (.constantLong RX12 85 (-4)) (List.mem_of_getElem? (i := 4) rfl)) dX12_prime_50 ?_
          obtain rfl := Option.some.inj h
          exact W.lret (v := (-4 : Int64)) hx hb hr (fun t ht hW => ⟨⟨_, (), rfl, rfl, by rw [ht]; exact hP, hD⟩, hS.F ht⟩) hS.2.2 dX12_prime_53 hlocks
        · have h := xf h c10z
          refine lv_aload_n hx hb dX12_prime_41 rfl (lv_at hl 0 rfl) ?_
          refine va_get (D := (dC, dI)) (ci := 12) (v := .ref q_mprimes) (C := RX12) (T := TX12) (N := 21) hx hb hts iw_X12_prime_X12 hown hK hP 0 rfl rfl 3 (by decide) (hts (.fieldLink RX12 13 "GoesIntoModel" "primes" "[J") (List.mem_of_getElem? (i := 3) rfl)) (fun _ h9 => h9) rfl dX12_prime_42 ?_
          refine lv_iload_n hx hb dX12_prime_45 rfl (lv_at hl 2 rfl) ?_
          obtain ⟨b11z, h⟩ := xn h
          refine va_lald hx hb hK hP 1 1 rfl rfl b11z dX12_prime_46 ?_
          refine lv_goto (tgt := 53) hx hb dX12_prime_47 (by decide) ?_
          obtain rfl := Option.some.inj h
          exact W.lret (v := r6z.2 v3.toNatClampNeg) hx hb hr (fun t ht hW => ⟨⟨_, (), rfl, rfl, by rw [ht]; exact hP, hD⟩, hS.F ht⟩) hS.2.2 dX12_prime_53 hlocks
      · have h := xf h c9z
        refine lv_aload_n hx hb dX12_prime_25 rfl (lv_at hl 0 rfl) ?_
        refine va_get (D := (dC, dI)) (ci := 12) (v := .int r6z.1) (C := RX12) (T := TX12) (N := 21) hx hb hts iw_X12_prime_X12 hown hK hP 0 rfl rfl 2 (by decide) (hts (.fieldLink RX12 50 "GoesIntoModel" "primeMany" "I") (List.mem_of_getElem? (i := 2) rfl)) (fun _ h9 => h9) rfl dX12_prime_26 ?_
        refine lv_i2l (v := r6z.1.toInt64) hx hb dX12_prime_29 rfl ?_
        refine lv_goto (tgt := 53) hx hb dX12_prime_30 (by decide) ?_
        obtain rfl := Option.some.inj h
        exact W.lret (v := r6z.1.toInt64) hx hb hr (fun t ht hW => ⟨⟨_, (), rfl, rfl, by rw [ht]; exact hP, hD⟩, hS.F ht⟩) hS.2.2 dX12_prime_53 hlocks
    · have h := xf h c5z
      refine lv_ldc2 (v := (-1 : Int64)) hx hb hown (hts (.constantLong RX12 79 (-1)) (List.mem_of_getElem? (i := 1) rfl)) dX12_prime_12 ?_
      obtain rfl := Option.some.inj h
      exact W.lret (v := (-1 : Int64)) hx hb hr (fun t ht hW => ⟨⟨_, (), rfl, rfl, by rw [ht]; exact hP, hD⟩, hS.F ht⟩) hS.2.2 dX12_prime_15 hlocks
set_option maxRecDepth 100000 in
set_option maxHeartbeats 4000000 in
theorem c_X12_prime (l : Launch) (dC : Nat → ClassId) (dI : Nat → Nat → Nat) (cyI cyJ cyZ : ClassId) (N : Nat) (res : Int64 × Int32 × (Nat → Int64)) (sz : Nat) (q_Md : Nat) (q_mprimes : Nat) (q_mtext : Nat) (q_mtold : Nat) (q_mtable : Nat) (q_mstretch : Nat) (q_mfewest : Nat) (q_misOdd : Nat) (q_misHigh : Nat) (q_misTop : Nat) (q_mbits : Nat) (q_mpile : Nat) (v1 : Int64) (v3 : Int32) (m_length : Int32) (m_primeMany : Int32) (m_toldMany : Int32) (m_fate : Int32) (m_tail : Int32) (m_round : Int32) (m_tableKind : Int32) (m_areLaid : Int32) (m_unlike : Int32) (m_isFree : Int32) (a_mprimes : Nat → Int64) (h : f_X12_prime N v1 v3 m_primeMany a_mprimes = some res) : Met l yX12_prime wsX12_prime rm_X12_prime (pC dC dI cyI cyJ cyZ [.ref q_Md, .long v1, .int v3] sz (wd55 cyI cyJ cyZ q_Md q_mprimes q_mtext q_mtold q_mtable q_mstretch q_mfewest q_misOdd q_misHigh q_misTop q_mbits q_mpile m_length m_primeMany m_toldMany m_fate m_tail m_round m_tableKind m_areLaid m_unlike m_isFree a_mprimes)) (va_Ql (fun (r : Int64) (_ : Unit) => r = res.1) (bW dC dI (fun (u : Unit) => (wd55 cyI cyJ cyZ q_Md q_mprimes q_mtext q_mtold q_mtable q_mstretch q_mfewest q_misOdd q_misHigh q_misTop q_mbits q_mpile m_length res.2.1 m_toldMany m_fate m_tail m_round m_tableKind m_areLaid m_unlike m_isFree res.2.2)) (va_A (wd55 cyI cyJ cyZ q_Md q_mprimes q_mtext q_mtold q_mtable q_mstretch q_mfewest q_misOdd q_misHigh q_misTop q_mbits q_mpile m_length m_primeMany m_toldMany m_fate m_tail m_round m_tableKind m_areLaid m_unlike m_isFree a_mprimes) sz)) (va_A (wd55 cyI cyJ cyZ q_Md q_mprimes q_mtext q_mtold q_mtable q_mstretch q_mfewest q_misOdd q_misHigh q_misTop q_mbits q_mpile m_length m_primeMany m_toldMany m_fate m_tail m_round m_tableKind m_areLaid m_unlike m_isFree a_mprimes) sz)) 0 0 (va_A (wd55 cyI cyJ cyZ q_Md q_mprimes q_mtext q_mtold q_mtable q_mstretch q_mfewest q_misOdd q_misHigh q_misTop q_mbits q_mpile m_length m_primeMany m_toldMany m_fate m_tail m_round m_tableKind m_areLaid m_unlike m_isFree a_mprimes) sz) := by
  refine Met.ofW (cc := cX12_prime) (maxL := 4) (ret := (some .long)) (by decide) rfl ?_
  intro p e s m args below meth c s₁ B hml hv
  obtain ⟨rfl, hsz, hP, hG, hD0⟩ := hv
  have hx := B.exec
  have hb := B.bytes
  have hr := B.returns
  have hts := atoms_spec (ws := wsX12_prime) B.pre
  have hown : s.vm.findClass RX12 = some m.cls := findClass_of_methodNamed B.named
  have hlocks := B.notSynchronized
  subst hsz
  have hD := hD0.self (sz := s.heap.size)
  generalize hAe : va_A (wd55 cyI cyJ cyZ q_Md q_mprimes q_mtext q_mtold q_mtable q_mstretch q_mfewest q_misOdd q_misHigh q_misTop q_mbits q_mpile m_length m_primeMany m_toldMany m_fate m_tail m_round m_tableKind m_areLaid m_unlike m_isFree a_mprimes) s.heap.size = A at hD ⊢
  have hA : ∀ q : Nat, s.heap.size ≤ q → A q := fun q h => by rw [← hAe]; exact Or.inr h
  have hS : va_S A s.heap s.heap [] := va_S.rf
  have hl := lv_entry ([.ref q_Md, .long v1, .int v3]) (n := 4) (Nat.le_of_ble_eq_true rfl)
  rw [lg_entry_eq]
  generalize (lg_sl ([.ref q_Md, .long v1, .int v3]) ++ List.replicate (4 - (lg_sl ([.ref q_Md, .long v1, .int v3])).length) Slot.unset).toArray = ls at hl ⊢
  have hl : lv_has ls 4 [(0, .ref q_Md), (1, .long v1), (3, .int v3)] := hl
  exact k_X12_prime_0 ⟨hx, hb, hr, hml, hown, hts, hlocks, hG, hA⟩ N res q_Md q_mprimes q_mtext q_mtold q_mtable q_mstretch q_mfewest q_misOdd q_misHigh q_misTop q_mbits q_mpile v1 v3 m_length m_primeMany m_toldMany m_fate m_tail m_round m_tableKind m_areLaid m_unlike m_isFree a_mprimes  h _ _ hP hD hS _ hl
/-- the cells Md, mprimes, mtold -/
abbrev wd57 (cyI cyJ cyZ : ClassId) (q_Md : Nat) (q_mprimes : Nat) (q_mtold : Nat) (q_mtext : Nat) (q_mtable : Nat) (q_mstretch : Nat) (q_mfewest : Nat) (q_misOdd : Nat) (q_misHigh : Nat) (q_misTop : Nat) (q_mbits : Nat) (q_mpile : Nat) (m_length : Int32) (m_primeMany : Int32) (m_toldMany : Int32) (m_fate : Int32) (m_tail : Int32) (m_round : Int32) (m_tableKind : Int32) (m_areLaid : Int32) (m_unlike : Int32) (m_isFree : Int32) (a_mprimes : Nat → Int64) (a_mtold : Nat → Int64) : va_W := [(q_Md, .inr (12, [.int m_length, .ref q_mtext, .int m_primeMany, .ref q_mprimes, .int m_toldMany, .ref q_mtold, .int m_fate, .int m_tail, .int m_round, .int m_tableKind, .ref q_mtable, .ref q_mstretch, .ref q_mfewest, .int m_areLaid, .ref q_misOdd, .ref q_misHigh, .ref q_misTop, .ref q_mbits, .int m_unlike, .int m_isFree, .ref q_mpile])), (q_mprimes, .inl (cyJ, 40, .inr (.inl a_mprimes))), (q_mtold, .inl (cyJ, 201, .inr (.inl a_mtold)))]
abbrev rm_X12_layChain : Room := { frames := 3, cells := 0, slots := 0, locals := 83 }
theorem hd_X12_layChain : yX12_layChain.cls ≠ "java/lang/invoke/MethodHandle" ∧ yX12_layChain.cls ≠ "java/lang/invoke/VarHandle" ∧ (parseMethodDescriptor yX12_layChain.desc).map (fun d => d.parameters.length) = some 2 := by decide +kernel
theorem iw_X12_layChain_X12 : ∀ w ∈ wsX120, w ∈ wsX12_layChain := List.forall_mem_cons.mpr ⟨List.mem_of_getElem? (i := 23) rfl, List.forall_mem_cons.mpr ⟨List.mem_of_getElem? (i := 24) rfl, List.forall_mem_cons.mpr ⟨List.mem_of_getElem? (i := 25) rfl, List.forall_mem_cons.mpr ⟨List.mem_of_getElem? (i := 26) rfl, List.forall_mem_cons.mpr ⟨List.mem_of_getElem? (i := 27) rfl, List.forall_mem_cons.mpr ⟨List.mem_of_getElem? (i := 28) rfl, List.forall_mem_cons.mpr ⟨List.mem_of_getElem? (i := 29) rfl, List.forall_mem_cons.mpr ⟨List.mem_of_getElem? (i := 30) rfl, List.forall_mem_cons.mpr ⟨List.mem_of_getElem? (i := 31) rfl, List.forall_mem_cons.mpr ⟨List.mem_of_getElem? (i := 32) rfl, List.forall_mem_cons.mpr ⟨List.mem_of_getElem? (i := 33) rfl, List.forall_mem_cons.mpr ⟨List.mem_of_getElem? (i := 34) rfl, List.forall_mem_cons.mpr ⟨List.mem_of_getElem? (i := 35) rfl, List.forall_mem_cons.mpr ⟨List.mem_of_getElem? (i := 36) rfl, List.forall_mem_cons.mpr ⟨List.mem_of_getElem? (i := 37) rfl, List.forall_mem_cons.mpr ⟨List.mem_of_getElem? (i := 38) rfl, List.forall_mem_cons.mpr ⟨List.mem_of_getElem? (i := 39) rfl, List.forall_mem_cons.mpr ⟨List.mem_of_getElem? (i := 40) rfl, List.forall_mem_cons.mpr ⟨List.mem_of_getElem? (i := 41) rfl, List.forall_mem_cons.mpr ⟨List.mem_of_getElem? (i := 42) rfl, List.forall_mem_cons.mpr ⟨List.mem_of_getElem? (i := 43) rfl, fun _ h => absurd h List.not_mem_nil⟩⟩⟩⟩⟩⟩⟩⟩⟩⟩⟩⟩⟩⟩⟩⟩⟩⟩⟩⟩⟩
def j_X12_layChain_149 (N : Nat) (k_23 : (Int32 × Int32 × Int32 × Int32 × Int32 × (Nat → Int64) × (Nat → Int64)) → Option (Int32 × Int32 × Int32 × Int32 × Int32 × (Nat → Int64) × (Nat → Int64))) (s0 : Int32) (m_primeMany : Int32) (m_toldMany : Int32) (m_round : Int32) (a_mprimes : Nat → Int64) (a_mtold : Nat → Int64) : Option (Int32 × Int32 × Int32 × Int32 × Int32 × (Nat → Int64) × (Nat → Int64)) :=
  k_23 (m_primeMany, m_toldMany, s0, m_toldMany, m_round, a_mprimes, a_mtold)
set_option maxRecDepth 100000 in
set_option maxHeartbeats 4000000 in
theorem k_X12_layChain_149 {p : Program} {l : Launch} {e : Env} {s : State} {m : MethodId} {args : Array Value} {below : List Frame} {meth : Method} {c : Code} {dC : Nat → ClassId} {dI : Nat → Nat → Nat} {cyI cyJ cyZ : ClassId} {A : Nat → Prop} (C0 : mC p s m meth c args cX12_layChain none 8 RX12 wsX12_layChain (gK dC dI cyI cyJ cyZ) A) (N : Nat) (res : Int32 × Int32 × Int32 × Int32 × Int32 × (Nat → Int64) × (Nat → Int64)) (q_Md : Nat) (q_mprimes : Nat) (q_mtold : Nat) (q_mtext : Nat) (q_mtable : Nat) (q_mstretch : Nat) (q_mfewest : Nat) (q_misOdd : Nat) (q_misHigh : Nat) (q_misTop : Nat) (q_mbits : Nat) (q_mpile : Nat) (v1 : Int32) (s0 : Int32) (m_length : Int32) (m_tableKind : Int32) (m_areLaid : Int32) (m_unlike : Int32) (m_isFree : Int32) (k_23 : (Int32 × Int32 × Int32 × Int32 × Int32 × (Nat → Int64) × (Nat → Int64)) → Option (Int32 × Int32 × Int32 × Int32 × Int32 × (Nat → Int64) × (Nat → Int64))) (hk_23 : ∀ (m_primeMany : Int32) (m_toldMany : Int32) (m_fate : Int32) (m_tail : Int32) (m_round : Int32) (a_mprimes : Nat → Int64) (a_mtold : Nat → Int64), k_23 (m_primeMany, m_toldMany, m_fate, m_tail, m_round, a_mprimes, a_mtold) = some res → ∀ (H : Heap) (locs : List Loc), va_P (dC, dI) vwCl (wd57 cyI cyJ cyZ q_Md q_mprimes q_mtold q_mtext q_mtable q_mstretch q_mfewest q_misOdd q_misHigh q_misTop q_mbits q_mpile m_length m_primeMany m_toldMany m_fate m_tail m_round m_tableKind m_areLaid m_unlike m_isFree a_mprimes a_mtold) H → va_D A (wd57 cyI cyJ cyZ q_Md q_mprimes q_mtold q_mtext q_mtable q_mstretch q_mfewest q_misOdd q_misHigh q_misTop q_mbits q_mpile m_length m_primeMany m_toldMany m_fate m_tail m_round m_tableKind m_areLaid m_unlike m_isFree a_mprimes a_mtold) → va_S A s.heap H locs → ∀ (ls : Array Slot), lv_has ls 8 [(0, .ref q_Md), (1, .int v1)] → W p l e (headSpec wsX12_layChain rm_X12_layChain).room s m args below meth c H locs 0 0 (MQ below (va_Qv (fun (_ : Unit) => True) (bW dC dI (fun (u : Unit) => (wd57 cyI cyJ cyZ q_Md q_mprimes q_mtold q_mtext q_mtable q_mstretch q_mfewest q_misOdd q_misHigh q_misTop q_mbits q_mpile m_length res.1 res.2.1 res.2.2.1 res.2.2.2.1 res.2.2.2.2.1 m_tableKind m_areLaid m_unlike m_isFree res.2.2.2.2.2.1 res.2.2.2.2.2.2)) A) A) args s 0 0 A) (F0 m 23 ls [])) (m_primeMany : Int32) (m_toldMany : Int32) (m_fate : Int32) (m_tail : Int32) (m_round : Int32) (a_mprimes : Nat → Int64) (a_mtold : Nat → Int64) (h : j_X12_layChain_149 N k_23 s0 m_primeMany m_toldMany m_round a_mprimes a_mtold = some res) : ∀ (H : Heap) (locs : List Loc), va_P (dC, dI) vwCl (wd57 cyI cyJ cyZ q_Md q_mprimes q_mtold q_mtext q_mtable q_mstretch q_mfewest q_misOdd q_misHigh q_misTop q_mbits q_mpile m_length m_primeMany m_toldMany m_fate m_tail m_round m_tableKind m_areLaid m_unlike m_isFree a_mprimes a_mtold) H → va_D A (wd57 cyI cyJ cyZ q_Md q_mprimes q_mtold q_mtext q_mtable q_mstretch q_mfewest q_misOdd q_misHigh q_misTop q_mbits q_mpile m_length m_primeMany m_toldMany m_fate m_tail m_round m_tableKind m_areLaid m_unlike m_isFree a_mprimes a_mtold) → va_S A s.heap H locs → ∀ (ls : Array Slot), lv_has ls 8 [(0, .ref q_Md), (1, .int v1)] → W p l e (headSpec wsX12_layChain rm_X12_layChain).room s m args below meth c H locs 0 0 (MQ below (va_Qv (fun (_ : Unit) => True) (bW dC dI (fun (u : Unit) => (wd57 cyI cyJ cyZ q_Md q_mprimes q_mtold q_mtext q_mtable q_mstretch q_mfewest q_misOdd q_misHigh q_misTop q_mbits q_mpile m_length res.1 res.2.1 res.2.2.1 res.2.2.2.1 res.2.2.2.2.1 m_tableKind m_areLaid m_unlike m_isFree res.2.2.2.2.2.1 res.2.2.2.2.2.2)) A) A) args s 0 0 A) (F0 m 149 ls [.int s0, .ref q_Md]) := by
  obtain ⟨hx, hb, hr, hml, hown, hts, hlocks, hG, hA⟩ := id C0
  have hK := hG.1
  intro H locs hP hD hS ls hl
  unfold j_X12_layChain_149 at h
  refine va_put (D := (dC, dI)) (ci := 12) (v := .int s0) (ty := .int) (C := RX12) (T := TX12) (N := 21) hx hb hts iw_X12_layChain_X12 tyX12 tyX12_ok nmX12 hown hK hP hD hS 0 rfl rfl 6 (by decide) (hts (.fieldLink RX12 92 "GoesIntoModel" "fate" "I") (List.mem_of_getElem? (i := 3) rfl)) (fun _ h9 => h9) rfl (tyX12_ok 6 (by decide)) rfl rfl (Nat.le_of_ble_eq_true rfl) dX12_layChain_149 (fun H locs hP hD hS => ?_)
  have hP : va_P (dC, dI) vwCl (wd57 cyI cyJ cyZ q_Md q_mprimes q_mtold q_mtext q_mtable q_mstretch q_mfewest q_misOdd q_misHigh q_misTop q_mbits q_mpile m_length m_primeMany m_toldMany s0 m_tail m_round m_tableKind m_areLaid m_unlike m_isFree a_mprimes a_mtold) H := hP
  have hD : va_D A (wd57 cyI cyJ cyZ q_Md q_mprimes q_mtold q_mtext q_mtable q_mstretch q_mfewest q_misOdd q_misHigh q_misTop q_mbits q_mpile m_length m_primeMany m_toldMany s0 m_tail m_round m_tableKind m_areLaid m_unlike m_isFree a_mprimes a_mtold) := hD
  refine lv_aload_n hx hb dX12_layChain_152 rfl (lv_at hl 0 rfl) ?_
  refine lv_aload_n hx hb dX12_layChain_153 rfl (lv_at hl 0 rfl) ?_
  refine va_get (D := (dC, dI)) (ci := 12) (v := .int m_toldMany) (C := RX12) (T := TX12) (N := 21) hx hb hts iw_X12_layChain_X12 hown hK hP 0 rfl rfl 4 (by decide) (hts (.fieldLink RX12 89 "GoesIntoModel" "toldMany" "I") (List.mem_of_getElem? (i := 2) rfl)) (fun _ h9 => h9) rfl dX12_layChain_154 ?_
  refine va_put (D := (dC, dI)) (ci := 12) (v := .int m_toldMany) (ty := .int) (C := RX12) (T := TX12) (N := 21) hx hb hts iw_X12_layChain_X12 tyX12 tyX12_ok nmX12 hown hK hP hD hS 0 rfl rfl 7 (by decide) (hts (.fieldLink RX12 98 "GoesIntoModel" "tail" "I") (List.mem_of_getElem? (i := 5) rfl)) (fun _ h9 => h9) rfl (tyX12_ok 7 (by decide)) rfl rfl (Nat.le_of_ble_eq_true rfl) dX12_layChain_157 (fun H locs hP hD hS => ?_)
  have hP : va_P (dC, dI) vwCl (wd57 cyI cyJ cyZ q_Md q_mprimes q_mtold q_mtext q_mtable q_mstretch q_mfewest q_misOdd q_misHigh q_misTop q_mbits q_mpile m_length m_primeMany m_toldMany s0 m_toldMany m_round m_tableKind m_areLaid m_unlike m_isFree a_mprimes a_mtold) H := hP
  have hD : va_D A (wd57 cyI cyJ cyZ q_Md q_mprimes q_mtold q_mtext q_mtable q_mstretch q_mfewest q_misOdd q_misHigh q_misTop q_mbits q_mpile m_length m_primeMany m_toldMany s0 m_toldMany m_round m_tableKind m_areLaid m_unlike m_isFree a_mprimes a_mtold) := hD
  refine lv_goto (tgt := 216) hx hb dX12_layChain_160 (by decide) ?_
  refine lv_goto (tgt := 23) hx hb dX12_layChain_216 (by decide) ?_
  exact hk_23 m_primeMany m_toldMany s0 m_toldMany m_round a_mprimes a_mtold h _ _ hP hD hS _ (lv_sub hl [0, 1] rfl)
def j_X12_layChain_136 (N : Nat) (k_23 : (Int32 × Int32 × Int32 × Int32 × Int32 × (Nat → Int64) × (Nat → Int64)) → Option (Int32 × Int32 × Int32 × Int32 × Int32 × (Nat → Int64) × (Nat → Int64))) (v4 : Int64) (m_primeMany : Int32) (m_toldMany : Int32) (m_round : Int32) (a_mprimes : Nat → Int64) (a_mtold : Nat → Int64) : Option (Int32 × Int32 × Int32 × Int32 × Int32 × (Nat → Int64) × (Nat → Int64)) :=
  if v4 = (0 : Int64) then
    j_X12_layChain_149 N k_23 (0 : Int32) m_primeMany m_toldMany m_round a_mprimes a_mtold
  else
    j_X12_layChain_149 N k_23 (2 : Int32) m_primeMany m_toldMany m_round a_mprimes a_mtold
set_option maxRecDepth 100000 in
set_option maxHeartbeats 4000000 in
theorem k_X12_layChain_136 {p : Program} {l : Launch} {e : Env} {s : State} {m : MethodId} {args : Array Value} {below : List Frame} {meth : Method} {c : Code} {dC : Nat → ClassId} {dI : Nat → Nat → Nat} {cyI cyJ cyZ : ClassId} {A : Nat → Prop} (C0 : mC p s m meth c args cX12_layChain none 8 RX12 wsX12_layChain (gK dC dI cyI cyJ cyZ) A) (N : Nat) (res : Int32 × Int32 × Int32 × Int32 × Int32 × (Nat → Int64) × (Nat → Int64)) (q_Md : Nat) (q_mprimes : Nat) (q_mtold : Nat) (q_mtext : Nat) (q_mtable : Nat) (q_mstretch : Nat) (q_mfewest : Nat) (q_misOdd : Nat) (q_misHigh : Nat) (q_misTop : Nat) (q_mbits : Nat) (q_mpile : Nat) (v1 : Int32) (v4 : Int64) (m_length : Int32) (m_tableKind : Int32) (m_areLaid : Int32) (m_unlike : Int32) (m_isFree : Int32) (k_23 : (Int32 × Int32 × Int32 × Int32 × Int32 × (Nat → Int64) × (Nat → Int64)) → Option (Int32 × Int32 × Int32 × Int32 × Int32 × (Nat → Int64) × (Nat → Int64))) (hk_23 : ∀ (m_primeMany : Int32) (m_toldMany : Int32) (m_fate : Int32) (m_tail : Int32) (m_round : Int32) (a_mprimes : Nat → Int64) (a_mtold : Nat → Int64), k_23 (m_primeMany, m_toldMany, m_fate, m_tail, m_round, a_mprimes, a_mtold) = some res → ∀ (H : Heap) (locs : List Loc), va_P (dC, dI) vwCl (wd57 cyI cyJ cyZ q_Md q_mprimes q_mtold q_mtext q_mtable q_mstretch q_mfewest q_misOdd q_misHigh q_misTop q_mbits q_mpile m_length m_primeMany m_toldMany m_fate m_tail m_round m_tableKind m_areLaid m_unlike m_isFree a_mprimes a_mtold) H → va_D A (wd57 cyI cyJ cyZ q_Md q_mprimes q_mtold q_mtext q_mtable q_mstretch q_mfewest q_misOdd q_misHigh q_misTop q_mbits q_mpile m_length m_primeMany m_toldMany m_fate m_tail m_round m_tableKind m_areLaid m_unlike m_isFree a_mprimes a_mtold) → va_S A s.heap H locs → ∀ (ls : Array Slot), lv_has ls 8 [(0, .ref q_Md), (1, .int v1)] → W p l e (headSpec wsX12_layChain rm_X12_layChain).room s m args below meth c H locs 0 0 (MQ below (va_Qv (fun (_ : Unit) => True) (bW dC dI (fun (u : Unit) => (wd57 cyI cyJ cyZ q_Md q_mprimes q_mtold q_mtext q_mtable q_mstretch q_mfewest q_misOdd q_misHigh q_misTop q_mbits q_mpile m_length res.1 res.2.1 res.2.2.1 res.2.2.2.1 res.2.2.2.2.1 m_tableKind m_areLaid m_unlike m_isFree res.2.2.2.2.2.1 res.2.2.2.2.2.2)) A) A) args s 0 0 A) (F0 m 23 ls [])) (m_primeMany : Int32) (m_toldMany : Int32) (m_fate : Int32) (m_tail : Int32) (m_round : Int32) (a_mprimes : Nat → Int64) (a_mtold : Nat → Int64) (h : j_X12_layChain_136 N k_23 v4 m_primeMany m_toldMany m_round a_mprimes a_mtold = some res) : ∀ (H : Heap) (locs : List Loc), va_P (dC, dI) vwCl (wd57 cyI cyJ cyZ q_Md q_mprimes q_mtold q_mtext q_mtable q_mstretch q_mfewest q_misOdd q_misHigh q_misTop q_mbits q_mpile m_length m_primeMany m_toldMany m_fate m_tail m_round m_tableKind m_areLaid m_unlike m_isFree a_mprimes a_mtold) H → va_D A (wd57 cyI cyJ cyZ q_Md q_mprimes q_mtold q_mtext q_mtable q_mstretch q_mfewest q_misOdd q_misHigh q_misTop q_mbits q_mpile m_length m_primeMany m_toldMany m_fate m_tail m_round m_tableKind m_areLaid m_unlike m_isFree a_mprimes a_mtold) → va_S A s.heap H locs → ∀ (ls : Array Slot), lv_has ls 8 [(0, .ref q_Md), (1, .int v1), (4, .long v4)] → W p l e (headSpec wsX12_layChain rm_X12_layChain).room s m args below meth c H locs 0 0 (MQ below (va_Qv (fun (_ : Unit) => True) (bW dC dI (fun (u : Unit) => (wd57 cyI cyJ cyZ q_Md q_mprimes q_mtold q_mtext q_mtable q_mstretch q_mfewest q_misOdd q_misHigh q_misTop q_mbits q_mpile m_length res.1 res.2.1 res.2.2.1 res.2.2.2.1 res.2.2.2.2.1 m_tableKind m_areLaid m_unlike m_isFree res.2.2.2.2.2.1 res.2.2.2.2.2.2)) A) A) args s 0 0 A) (F0 m 136 ls []) := by
  obtain ⟨hx, hb, hr, hml, hown, hts, hlocks, hG, hA⟩ := id C0
  have hK := hG.1
  intro H locs hP hD hS ls hl
  unfold j_X12_layChain_136 at h
  refine lv_aload_n hx hb dX12_layChain_136 rfl (lv_at hl 0 rfl) ?_
  refine lv_lload hx hb dX12_layChain_137 (lv_at hl 2 rfl) ?_
  refine lv_lconst (v := (0 : Int64)) hx hb dX12_layChain_139 (by decide) ?_
  refine W.lcmp hx hb dX12_layChain_140 ?_
  refine lv_if_ne (tgt := 148) hx hb dX12_layChain_141 (by decide) (fun c11z => ?_) (fun c11z => ?_)
  · have c11z := fun z => c11z ((lg_cmp_eq _ _).mpr z)
    have h := xf h c11z
    refine lv_iconst (v := (2 : Int32)) hx hb dX12_layChain_148 (by decide) ?_
    exact k_X12_layChain_149 C0 N res q_Md q_mprimes q_mtold q_mtext q_mtable q_mstretch q_mfewest q_misOdd q_misHigh q_misTop q_mbits q_mpile v1 (2 : Int32) m_length m_tableKind m_areLaid m_unlike m_isFree k_23 hk_23 m_primeMany m_toldMany m_fate m_tail m_round a_mprimes a_mtold  h _ _ hP hD hS _ (lv_sub hl [0, 1] rfl)
  · have c11z := (lg_cmp_eq _ _).mp c11z
    have h := xt h c11z
    refine lv_iconst (v := (0 : Int32)) hx hb dX12_layChain_144 (by decide) ?_
    refine lv_goto (tgt := 149) hx hb dX12_layChain_145 (by decide) ?_
    exact k_X12_layChain_149 C0 N res q_Md q_mprimes q_mtold q_mtext q_mtable q_mstretch q_mfewest q_misOdd q_misHigh q_misTop q_mbits q_mpile v1 (0 : Int32) m_length m_tableKind m_areLaid m_unlike m_isFree k_23 hk_23 m_primeMany m_toldMany m_fate m_tail m_round a_mprimes a_mtold  h _ _ hP hD hS _ (lv_sub hl [0, 1] rfl)
def j_X12_layChain_120 (N : Nat) (k_23 : (Int32 × Int32 × Int32 × Int32 × Int32 × (Nat → Int64) × (Nat → Int64)) → Option (Int32 × Int32 × Int32 × Int32 × Int32 × (Nat → Int64) × (Nat → Int64))) (v4 : Int64) (v6 : Int32) (m_primeMany : Int32) (m_toldMany : Int32) (m_fate : Int32) (m_tail : Int32) (m_round : Int32) (a_mprimes : Nat → Int64) (a_mtold : Nat → Int64) : Option (Int32 × Int32 × Int32 × Int32 × Int32 × (Nat → Int64) × (Nat → Int64)) :=
  if v4 = (0 : Int64) then
    j_X12_layChain_136 N k_23 v4 m_primeMany m_toldMany m_round a_mprimes a_mtold
  else
    if v4 ≤ (10000000000 : Int64) then
      if v6 = (-4 : Int32) then
        if m_toldMany < 0 ∨ 201 ≤ m_toldMany.toNatClampNeg then
          none
        else
          xl (m_toldMany + (1 : Int32)) fun y15z =>
          k_23 (m_primeMany, y15z, m_fate, m_tail, m_round, a_mprimes, vp_updL a_mtold m_toldMany.toNatClampNeg v4)
      else
        xl (m_toldMany - v6) fun y16z =>
        k_23 (m_primeMany, m_toldMany, (1 : Int32), v6, y16z, a_mprimes, a_mtold)
    else
      j_X12_layChain_136 N k_23 v4 m_primeMany m_toldMany m_round a_mprimes a_mtold
set_option maxRecDepth 100000 in
set_option maxHeartbeats 4000000 in
theorem k_X12_layChain_120 {p : Program} {l : Launch} {e : Env} {s : State} {m : MethodId} {args : Array Value} {below : List Frame} {meth : Method} {c : Code} {dC : Nat → ClassId} {dI : Nat → Nat → Nat} {cyI cyJ cyZ : ClassId} {A : Nat → Prop} (C0 : mC p s m meth c args cX12_layChain none 8 RX12 wsX12_layChain (gK dC dI cyI cyJ cyZ) A) (N : Nat) (res : Int32 × Int32 × Int32 × Int32 × Int32 × (Nat → Int64) × (Nat → Int64)) (q_Md : Nat) (q_mprimes : Nat) (q_mtold : Nat) (q_mtext : Nat) (q_mtable : Nat) (q_mstretch : Nat) (q_mfewest : Nat) (q_misOdd : Nat) (q_misHigh : Nat) (q_misTop : Nat) (q_mbits : Nat) (q_mpile : Nat) (v1 : Int32) (v4 : Int64) (v6 : Int32) (m_length : Int32) (m_tableKind : Int32) (m_areLaid : Int32) (m_unlike : Int32) (m_isFree : Int32) (k_23 : (Int32 × Int32 × Int32 × Int32 × Int32 × (Nat → Int64) × (Nat → Int64)) → Option (Int32 × Int32 × Int32 × Int32 × Int32 × (Nat → Int64) × (Nat → Int64))) (hk_23 : ∀ (m_primeMany : Int32) (m_toldMany : Int32) (m_fate : Int32) (m_tail : Int32) (m_round : Int32) (a_mprimes : Nat → Int64) (a_mtold : Nat → Int64), k_23 (m_primeMany, m_toldMany, m_fate, m_tail, m_round, a_mprimes, a_mtold) = some res → ∀ (H : Heap) (locs : List Loc), va_P (dC, dI) vwCl (wd57 cyI cyJ cyZ q_Md q_mprimes q_mtold q_mtext q_mtable q_mstretch q_mfewest q_misOdd q_misHigh q_misTop q_mbits q_mpile m_length m_primeMany m_toldMany m_fate m_tail m_round m_tableKind m_areLaid m_unlike m_isFree a_mprimes a_mtold) H → va_D A (wd57 cyI cyJ cyZ q_Md q_mprimes q_mtold q_mtext q_mtable q_mstretch q_mfewest q_misOdd q_misHigh q_misTop q_mbits q_mpile m_length m_primeMany m_toldMany m_fate m_tail m_round m_tableKind m_areLaid m_unlike m_isFree a_mprimes a_mtold) → va_S A s.heap H locs → ∀ (ls : Array Slot), lv_has ls 8 [(0, .ref q_Md), (1, .int v1)] → W p l e (headSpec wsX12_layChain rm_X12_layChain).room s m args below meth c H locs 0 0 (MQ below (va_Qv (fun (_ : Unit) => True) (bW dC dI (fun (u : Unit) => (wd57 cyI cyJ cyZ q_Md q_mprimes q_mtold q_mtext q_mtable q_mstretch q_mfewest q_misOdd q_misHigh q_misTop q_mbits q_mpile m_length res.1 res.2.1 res.2.2.1 res.2.2.2.1 res.2.2.2.2.1 m_tableKind m_areLaid m_unlike m_isFree res.2.2.2.2.2.1 res.2.2.2.2.2.2)) A) A) args s 0 0 A) (F0 m 23 ls [])) (m_primeMany : Int32) (m_toldMany : Int32) (m_fate : Int32) (m_tail : Int32) (m_round : Int32) (a_mprimes : Nat → Int64) (a_mtold : Nat → Int64) (h : j_X12_layChain_120 N k_23 v4 v6 m_primeMany m_toldMany m_fate m_tail m_round a_mprimes a_mtold = some res) : ∀ (H : Heap) (locs : List Loc), va_P (dC, dI) vwCl (wd57 cyI cyJ cyZ q_Md q_mprimes q_mtold q_mtext q_mtable q_mstretch q_mfewest q_misOdd q_misHigh q_misTop q_mbits q_mpile m_length m_primeMany m_toldMany m_fate m_tail m_round m_tableKind m_areLaid m_unlike m_isFree a_mprimes a_mtold) H → va_D A (wd57 cyI cyJ cyZ q_Md q_mprimes q_mtold q_mtext q_mtable q_mstretch q_mfewest q_misOdd q_misHigh q_misTop q_mbits q_mpile m_length m_primeMany m_toldMany m_fate m_tail m_round m_tableKind m_areLaid m_unlike m_isFree a_mprimes a_mtold) → va_S A s.heap H locs → ∀ (ls : Array Slot), lv_has ls 8 [(0, .ref q_Md), (1, .int v1), (4, .long v4), (6, .int v6)] → W p l e (headSpec wsX12_layChain rm_X12_layChain).room s m args below meth c H locs 0 0 (MQ below (va_Qv (fun (_ : Unit) => True) (bW dC dI (fun (u : Unit) => (wd57 cyI cyJ cyZ q_Md q_mprimes q_mtold q_mtext q_mtable q_mstretch q_mfewest q_misOdd q_misHigh q_misTop q_mbits q_mpile m_length res.1 res.2.1 res.2.2.1 res.2.2.2.1 res.2.2.2.2.1 m_tableKind m_areLaid m_unlike m_isFree res.2.2.2.2.2.1 res.2.2.2.2.2.2)) A) A) args s 0 0 A) (F0 m 120 ls []) := by
  obtain ⟨hx, hb, hr, hml, hown, hts, hlocks, hG, hA⟩ := id C0
  have hK := hG.1
  intro H locs hP hD hS ls hl
  unfold j_X12_layChain_120 at h
  refine lv_lload hx hb dX12_layChain_120 (lv_at hl 2 rfl) ?_
  refine lv_lconst (v := (0 : Int64)) hx hb dX12_layChain_122 (by decide) ?_
  refine W.lcmp hx hb dX12_layChain_123 ?_
  refine lv_if_eq (tgt := 136) hx hb dX12_layChain_124 (by decide) (fun c10z => ?_) (fun c10z => ?_)
  · have c10z := (lg_cmp_eq _ _).mp c10z
    have h := xt h c10z
    exact k_X12_layChain_136 C0 N res q_Md q_mprimes q_mtold q_mtext q_mtable q_mstretch q_mfewest q_misOdd q_misHigh q_misTop q_mbits q_mpile v1 v4 m_length m_tableKind m_areLaid m_unlike m_isFree k_23 hk_23 m_primeMany m_toldMany m_fate m_tail m_round a_mprimes a_mtold  h _ _ hP hD hS _ (lv_sub hl [0, 1, 2] rfl)
  · have c10z := fun z => c10z ((lg_cmp_eq _ _).mpr z)
    have h := xf h c10z
    refine lv_lload hx hb dX12_layChain_127 (lv_at hl 2 rfl) ?_
    refine lv_ldc2 (v := (10000000000 : Int64)) hx hb hown (hts (.constantLong RX12 63 (10000000000)) (List.mem_of_getElem? (i := 6) rfl)) dX12_layChain_129 ?_
    refine W.lcmp hx hb dX12_layChain_132 ?_
    refine lv_if_le (tgt := 163) hx hb dX12_layChain_133 (by decide) (fun c12z => ?_) (fun c12z => ?_)
    · have c12z := (lg_cmp_le _ _).mp c12z
      have h := xt h c12z
      refine lv_iload hx hb dX12_layChain_163 (lv_at hl 3 rfl) ?_
      refine lv_bipush (v := (-4 : Int32)) hx hb dX12_layChain_165 (by decide) ?_
      refine lv_icmp_eq (tgt := 195) hx hb dX12_layChain_167 (by decide) (fun c13z => ?_) (fun c13z => ?_)
      · have h := xt h c13z
        refine lv_aload_n hx hb dX12_layChain_195 rfl (lv_at hl 0 rfl) ?_
        refine va_get (D := (dC, dI)) (ci := 12) (v := .ref q_mtold) (C := RX12) (T := TX12) (N := 21) hx hb hts iw_X12_layChain_X12 hown hK hP 0 rfl rfl 5 (by decide) (hts (.fieldLink RX12 17 "GoesIntoModel" "told" "[J") (List.mem_of_getElem? (i := 1) rfl)) (fun _ h9 => h9) rfl dX12_layChain_196 ?_
        refine lv_aload_n hx hb dX12_layChain_199 rfl (lv_at hl 0 rfl) ?_
        refine va_get (D := (dC, dI)) (ci := 12) (v := .int m_toldMany) (C := RX12) (T := TX12) (N := 21) hx hb hts iw_X12_layChain_X12 hown hK hP 0 rfl rfl 4 (by decide) (hts (.fieldLink RX12 89 "GoesIntoModel" "toldMany" "I") (List.mem_of_getElem? (i := 2) rfl)) (fun _ h9 => h9) rfl dX12_layChain_200 ?_
        refine lv_lload hx hb dX12_layChain_203 (lv_at hl 2 rfl) ?_
        obtain ⟨b14z, h⟩ := xn h
        refine va_last hx hb hK hP hD hS 2 1 rfl rfl b14z dX12_layChain_205 (fun H locs hP hD hS => ?_)
        have hP : va_P (dC, dI) vwCl (wd57 cyI cyJ cyZ q_Md q_mprimes q_mtold q_mtext q_mtable q_mstretch q_mfewest q_misOdd q_misHigh q_misTop q_mbits q_mpile m_length m_primeMany m_toldMany m_fate m_tail m_round m_tableKind m_areLaid m_unlike m_isFree a_mprimes (vp_updL a_mtold m_toldMany.toNatClampNeg v4)) H := hP
        have hD : va_D A (wd57 cyI cyJ cyZ q_Md q_mprimes q_mtold q_mtext q_mtable q_mstretch q_mfewest q_misOdd q_misHigh q_misTop q_mbits q_mpile m_length m_primeMany m_toldMany m_fate m_tail m_round m_tableKind m_areLaid m_unlike m_isFree a_mprimes (vp_updL a_mtold m_toldMany.toNatClampNeg v4)) := hD
        refine lv_aload_n hx hb dX12_layChain_206 rfl (lv_at hl 0 rfl) ?_
        refine lv_dup hx hb dX12_layChain_207 rfl ?_
        refine va_get (D := (dC, dI)) (ci := 12) (v := .int m_toldMany) (C := RX12) (T := TX12) (N := 21) hx hb hts iw_X12_layChain_X12 hown hK hP 0 rfl rfl 4 (by decide) (hts (.fieldLink RX12 89 "GoesIntoModel" "toldMany" "I") (List.mem_of_getElem? (i := 2) rfl)) (fun _ h9 => h9) rfl dX12_layChain_208 ?_
        refine lv_iconst (v := (1 : Int32)) hx hb dX12_layChain_211 (by decide) ?_
        refine lv_iadd hx hb dX12_layChain_212 ?_
        refine lv_topi (fun y15z ey15z => ?_)
        have h := xl_at h ey15z
        refine va_put (D := (dC, dI)) (ci := 12) (v := .int y15z) (ty := .int) (C := RX12) (T := TX12) (N := 21) hx hb hts iw_X12_layChain_X12 tyX12 tyX12_ok nmX12 hown hK hP hD hS 0 rfl rfl 4 (by decide) (hts (.fieldLink RX12 89 "GoesIntoModel" "toldMany" "I") (List.mem_of_getElem? (i := 2) rfl)) (fun _ h9 => h9) rfl (tyX12_ok 4 (by decide)) rfl rfl (Nat.le_of_ble_eq_true rfl) dX12_layChain_213 (fun H locs hP hD hS => ?_)
        have hP : va_P (dC, dI) vwCl (wd57 cyI cyJ cyZ q_Md q_mprimes q_mtold q_mtext q_mtable q_mstretch q_mfewest q_misOdd q_misHigh q_misTop q_mbits q_mpile m_length m_primeMany y15z m_fate m_tail m_round m_tableKind m_areLaid m_unlike m_isFree a_mprimes (vp_updL a_mtold m_toldMany.toNatClampNeg v4)) H := hP
        have hD : va_D A (wd57 cyI cyJ cyZ q_Md q_mprimes q_mtold q_mtext q_mtable q_mstretch q_mfewest q_misOdd q_misHigh q_misTop q_mbits q_mpile m_length m_primeMany y15z m_fate m_tail m_round m_tableKind m_areLaid m_unlike m_isFree a_mprimes (vp_updL a_mtold m_toldMany.toNatClampNeg v4)) := hD
        refine lv_goto (tgt := 23) hx hb dX12_layChain_216 (by decide) ?_
        exact hk_23 m_primeMany y15z m_fate m_tail m_round a_mprimes (vp_updL a_mtold m_toldMany.toNatClampNeg v4) h _ _ hP hD hS _ (lv_sub hl [0, 1] rfl)
      · have h := xf h c13z
        refine lv_aload_n hx hb dX12_layChain_170 rfl (lv_at hl 0 rfl) ?_
        refine lv_iconst (v := (1 : Int32)) hx hb dX12_layChain_171 (by decide) ?_
        refine va_put (D := (dC, dI)) (ci := 12) (v := .int (1 : Int32)) (ty := .int) (C := RX12) (T := TX12) (N := 21) hx hb hts iw_X12_layChain_X12 tyX12 tyX12_ok nmX12 hown hK hP hD hS 0 rfl rfl 6 (by decide) (hts (.fieldLink RX12 92 "GoesIntoModel" "fate" "I") (List.mem_of_getElem? (i := 3) rfl)) (fun _ h9 => h9) rfl (tyX12_ok 6 (by decide)) rfl rfl (Nat.le_of_ble_eq_true rfl) dX12_layChain_172 (fun H locs hP hD hS => ?_)
        have hP : va_P (dC, dI) vwCl (wd57 cyI cyJ cyZ q_Md q_mprimes q_mtold q_mtext q_mtable q_mstretch q_mfewest q_misOdd q_misHigh q_misTop q_mbits q_mpile m_length m_primeMany m_toldMany (1 : Int32) m_tail m_round m_tableKind m_areLaid m_unlike m_isFree a_mprimes a_mtold) H := hP
        have hD : va_D A (wd57 cyI cyJ cyZ q_Md q_mprimes q_mtold q_mtext q_mtable q_mstretch q_mfewest q_misOdd q_misHigh q_misTop q_mbits q_mpile m_length m_primeMany m_toldMany (1 : Int32) m_tail m_round m_tableKind m_areLaid m_unlike m_isFree a_mprimes a_mtold) := hD
        refine lv_aload_n hx hb dX12_layChain_175 rfl (lv_at hl 0 rfl) ?_
        refine lv_iload hx hb dX12_layChain_176 (lv_at hl 3 rfl) ?_
        refine va_put (D := (dC, dI)) (ci := 12) (v := .int v6) (ty := .int) (C := RX12) (T := TX12) (N := 21) hx hb hts iw_X12_layChain_X12 tyX12 tyX12_ok nmX12 hown hK hP hD hS 0 rfl rfl 7 (by decide) (hts (.fieldLink RX12 98 "GoesIntoModel" "tail" "I") (List.mem_of_getElem? (i := 5) rfl)) (fun _ h9 => h9) rfl (tyX12_ok 7 (by decide)) rfl rfl (Nat.le_of_ble_eq_true rfl) dX12_layChain_178 (fun H locs hP hD hS => ?_)
        have hP : va_P (dC, dI) vwCl (wd57 cyI cyJ cyZ q_Md q_mprimes q_mtold q_mtext q_mtable q_mstretch q_mfewest q_misOdd q_misHigh q_misTop q_mbits q_mpile m_length m_primeMany m_toldMany (1 : Int32) v6 m_round m_tableKind m_areLaid m_unlike m_isFree a_mprimes a_mtold) H := hP
        have hD : va_D A (wd57 cyI cyJ cyZ q_Md q_mprimes q_mtold q_mtext q_mtable q_mstretch q_mfewest q_misOdd q_misHigh q_misTop q_mbits q_mpile m_length m_primeMany m_toldMany (1 : Int32) v6 m_round m_tableKind m_areLaid m_unlike m_isFree a_mprimes a_mtold) := hD
        refine lv_aload_n hx hb dX12_layChain_181 rfl (lv_at hl 0 rfl) ?_
        refine lv_aload_n hx hb dX12_layChain_182 rfl (lv_at hl 0 rfl) ?_
        refine va_get (D := (dC, dI)) (ci := 12) (v := .int m_toldMany) (C := RX12) (T := TX12) (N := 21) hx hb hts iw_X12_layChain_X12 hown hK hP 0 rfl rfl 4 (by decide) (hts (.fieldLink RX12 89 "GoesIntoModel" "toldMany" "I") (List.mem_of_getElem? (i := 2) rfl)) (fun _ h9 => h9) rfl dX12_layChain_183 ?_
        refine lv_iload hx hb dX12_layChain_186 (lv_at hl 3 rfl) ?_
        refine lv_isub hx hb dX12_layChain_188 ?_
        refine lv_topi (fun y16z ey16z => ?_)
        have h := xl_at h ey16z
        refine va_put (D := (dC, dI)) (ci := 12) (v := .int y16z) (ty := .int) (C := RX12) (T := TX12) (N := 21) hx hb hts iw_X12_layChain_X12 tyX12 tyX12_ok nmX12 hown hK hP hD hS 0 rfl rfl 8 (by decide) (hts (.fieldLink RX12 95 "GoesIntoModel" "round" "I") (List.mem_of_getElem? (i := 4) rfl)) (fun _ h9 => h9) rfl (tyX12_ok 8 (by decide)) rfl rfl (Nat.le_of_ble_eq_true rfl) dX12_layChain_189 (fun H locs hP hD hS => ?_)
        have hP : va_P (dC, dI) vwCl (wd57 cyI cyJ cyZ q_Md q_mprimes q_mtold q_mtext q_mtable q_mstretch q_mfewest q_misOdd q_misHigh q_misTop q_mbits q_mpile m_length m_primeMany m_toldMany (1 : Int32) v6 y16z m_tableKind m_areLaid m_unlike m_isFree a_mprimes a_mtold) H := hP
        have hD : va_D A (wd57 cyI cyJ cyZ q_Md q_mprimes q_mtold q_mtext q_mtable q_mstretch q_mfewest q_misOdd q_misHigh q_misTop q_mbits q_mpile m_length m_primeMany m_toldMany (1 : Int32) v6 y16z m_tableKind m_areLaid m_unlike m_isFree a_mprimes a_mtold) := hD
        refine lv_goto (tgt := 216) hx hb dX12_layChain_192 (by decide) ?_
        refine lv_goto (tgt := 23) hx hb dX12_layChain_216 (by decide) ?_
        exact hk_23 m_primeMany m_toldMany (1 : Int32) v6 y16z a_mprimes a_mtold h _ _ hP hD hS _ (lv_sub hl [0, 1] rfl)
    · have c12z := fun z => c12z ((lg_cmp_le _ _).mpr z)
      have h := xf h c12z
      exact k_X12_layChain_136 C0 N res q_Md q_mprimes q_mtold q_mtext q_mtable q_mstretch q_mfewest q_misOdd q_misHigh q_misTop q_mbits q_mpile v1 v4 m_length m_tableKind m_areLaid m_unlike m_isFree k_23 hk_23 m_primeMany m_toldMany m_fate m_tail m_round a_mprimes a_mtold  h _ _ hP hD hS _ (lv_sub hl [0, 1, 2] rfl)
def s_X12_layChain_83 (N : Nat) (k_23 : (Int32 × Int32 × Int32 × Int32 × Int32 × (Nat → Int64) × (Nat → Int64)) → Option (Int32 × Int32 × Int32 × Int32 × Int32 × (Nat → Int64) × (Nat → Int64))) (v4 : Int64) (m_primeMany : Int32) (m_toldMany : Int32) (m_fate : Int32) (m_tail : Int32) (m_round : Int32) (a_mprimes : Nat → Int64) (a_mtold : Nat → Int64) (k_83 : (Int32 × Int32) → Option (Int32 × Int32 × Int32 × Int32 × Int32 × (Nat → Int64) × (Nat → Int64))) (v6 : Int32) (v7 : Int32) : Option (Int32 × Int32 × Int32 × Int32 × Int32 × (Nat → Int64) × (Nat → Int64)) :=
  if m_toldMany ≤ v7 then
    j_X12_layChain_120 N k_23 v4 v6 m_primeMany m_toldMany m_fate m_tail m_round a_mprimes a_mtold
  else
    if v7 < 0 ∨ 201 ≤ v7.toNatClampNeg then
      none
    else
      if (a_mtold v7.toNatClampNeg) = v4 then
        xl (v7 + (1 : Int32)) fun y20z =>
        k_83 (v7, y20z)
      else
        xl (v7 + (1 : Int32)) fun y19z =>
        k_83 (v6, y19z)
def l_X12_layChain_83 (N : Nat) (k_23 : (Int32 × Int32 × Int32 × Int32 × Int32 × (Nat → Int64) × (Nat → Int64)) → Option (Int32 × Int32 × Int32 × Int32 × Int32 × (Nat → Int64) × (Nat → Int64))) (v4 : Int64) (m_primeMany : Int32) (m_toldMany : Int32) (m_fate : Int32) (m_tail : Int32) (m_round : Int32) (a_mprimes : Nat → Int64) (a_mtold : Nat → Int64) (n : Nat) (z : Int32 × Int32) : Option (Int32 × Int32 × Int32 × Int32 × Int32 × (Nat → Int64) × (Nat → Int64)) := lp (fun k z => s_X12_layChain_83 N k_23 v4 m_primeMany m_toldMany m_fate m_tail m_round a_mprimes a_mtold k z.1 z.2) n z
set_option maxRecDepth 100000 in
set_option maxHeartbeats 4000000 in
theorem k_X12_layChain_83 {p : Program} {l : Launch} {e : Env} {s : State} {m : MethodId} {args : Array Value} {below : List Frame} {meth : Method} {c : Code} {dC : Nat → ClassId} {dI : Nat → Nat → Nat} {cyI cyJ cyZ : ClassId} {A : Nat → Prop} (C0 : mC p s m meth c args cX12_layChain none 8 RX12 wsX12_layChain (gK dC dI cyI cyJ cyZ) A) (N : Nat) (res : Int32 × Int32 × Int32 × Int32 × Int32 × (Nat → Int64) × (Nat → Int64)) (q_Md : Nat) (q_mprimes : Nat) (q_mtold : Nat) (q_mtext : Nat) (q_mtable : Nat) (q_mstretch : Nat) (q_mfewest : Nat) (q_misOdd : Nat) (q_misHigh : Nat) (q_misTop : Nat) (q_mbits : Nat) (q_mpile : Nat) (v1 : Int32) (v4 : Int64) (m_length : Int32) (m_tableKind : Int32) (m_areLaid : Int32) (m_unlike : Int32) (m_isFree : Int32) (k_23 : (Int32 × Int32 × Int32 × Int32 × Int32 × (Nat → Int64) × (Nat → Int64)) → Option (Int32 × Int32 × Int32 × Int32 × Int32 × (Nat → Int64) × (Nat → Int64))) (hk_23 : ∀ (m_primeMany : Int32) (m_toldMany : Int32) (m_fate : Int32) (m_tail : Int32) (m_round : Int32) (a_mprimes : Nat → Int64) (a_mtold : Nat → Int64), k_23 (m_primeMany, m_toldMany, m_fate, m_tail, m_round, a_mprimes, a_mtold) = some res → ∀ (H : Heap) (locs : List Loc), va_P (dC, dI) vwCl (wd57 cyI cyJ cyZ q_Md q_mprimes q_mtold q_mtext q_mtable q_mstretch q_mfewest q_misOdd q_misHigh q_misTop q_mbits q_mpile m_length m_primeMany m_toldMany m_fate m_tail m_round m_tableKind m_areLaid m_unlike m_isFree a_mprimes a_mtold) H → va_D A (wd57 cyI cyJ cyZ q_Md q_mprimes q_mtold q_mtext q_mtable q_mstretch q_mfewest q_misOdd q_misHigh q_misTop q_mbits q_mpile m_length m_primeMany m_toldMany m_fate m_tail m_round m_tableKind m_areLaid m_unlike m_isFree a_mprimes a_mtold) → va_S A s.heap H locs → ∀ (ls : Array Slot), lv_has ls 8 [(0, .ref q_Md), (1, .int v1)] → W p l e (headSpec wsX12_layChain rm_X12_layChain).room s m args below meth c H locs 0 0 (MQ below (va_Qv (fun (_ : Unit) => True) (bW dC dI (fun (u : Unit) => (wd57 cyI cyJ cyZ q_Md q_mprimes q_mtold q_mtext q_mtable q_mstretch q_mfewest q_misOdd q_misHigh q_misTop q_mbits q_mpile m_length res.1 res.2.1 res.2.2.1 res.2.2.2.1 res.2.2.2.2.1 m_tableKind m_areLaid m_unlike m_isFree res.2.2.2.2.2.1 res.2.2.2.2.2.2)) A) A) args s 0 0 A) (F0 m 23 ls [])) (m_primeMany : Int32) (m_toldMany : Int32) (m_fate : Int32) (m_tail : Int32) (m_round : Int32) (a_mprimes : Nat → Int64) (a_mtold : Nat → Int64) : ∀ (n : Nat) (v6 : Int32) (v7 : Int32), l_X12_layChain_83 N k_23 v4 m_primeMany m_toldMany m_fate m_tail m_round a_mprimes a_mtold n (v6, v7) = some res → ∀ (H : Heap) (locs : List Loc), va_P (dC, dI) vwCl (wd57 cyI cyJ cyZ q_Md q_mprimes q_mtold q_mtext q_mtable q_mstretch q_mfewest q_misOdd q_misHigh q_misTop q_mbits q_mpile m_length m_primeMany m_toldMany m_fate m_tail m_round m_tableKind m_areLaid m_unlike m_isFree a_mprimes a_mtold) H → va_D A (wd57 cyI cyJ cyZ q_Md q_mprimes q_mtold q_mtext q_mtable q_mstretch q_mfewest q_misOdd q_misHigh q_misTop q_mbits q_mpile m_length m_primeMany m_toldMany m_fate m_tail m_round m_tableKind m_areLaid m_unlike m_isFree a_mprimes a_mtold) → va_S A s.heap H locs → ∀ (ls : Array Slot), lv_has ls 8 [(0, .ref q_Md), (1, .int v1), (4, .long v4), (6, .int v6), (7, .int v7)] → W p l e (headSpec wsX12_layChain rm_X12_layChain).room s m args below meth c H locs 0 0 (MQ below (va_Qv (fun (_ : Unit) => True) (bW dC dI (fun (u : Unit) => (wd57 cyI cyJ cyZ q_Md q_mprimes q_mtold q_mtext q_mtable q_mstretch q_mfewest q_misOdd q_misHigh q_misTop q_mbits q_mpile m_length res.1 res.2.1 res.2.2.1 res.2.2.2.1 res.2.2.2.2.1 m_tableKind m_areLaid m_unlike m_isFree res.2.2.2.2.2.1 res.2.2.2.2.2.2)) A) A) args s 0 0 A) (F0 m 83 ls []) := by
  obtain ⟨hx, hb, hr, hml, hown, hts, hlocks, hG, hA⟩ := id C0
  have hK := hG.1
  intro n
  induction n with
  | zero =>
    intro v6 v7 h
    cases h
  | succ n ih =>
    intro v6 v7 h H locs hP hD hS ls hl
    have h : s_X12_layChain_83 N k_23 v4 m_primeMany m_toldMany m_fate m_tail m_round a_mprimes a_mtold (l_X12_layChain_83 N k_23 v4 m_primeMany m_toldMany m_fate m_tail m_round a_mprimes a_mtold n) v6 v7 = some res := h
    unfold s_X12_layChain_83 at h
    refine lv_iload hx hb dX12_layChain_83 (lv_at hl 4 rfl) ?_
    refine lv_aload_n hx hb dX12_layChain_85 rfl (lv_at hl 0 rfl) ?_
    refine va_get (D := (dC, dI)) (ci := 12) (v := .int m_toldMany) (C := RX12) (T := TX12) (N := 21) hx hb hts iw_X12_layChain_X12 hown hK hP 0 rfl rfl 4 (by decide) (hts (.fieldLink RX12 89 "GoesIntoModel" "toldMany" "I") (List.mem_of_getElem? (i := 2) rfl)) (fun _ h9 => h9) rfl dX12_layChain_86 ?_
    refine lv_icmp_ge (tgt := 120) hx hb dX12_layChain_89 (by decide) (fun c9z => ?_) (fun c9z => ?_)
    · have h := xt h c9z
      exact k_X12_layChain_120 C0 N res q_Md q_mprimes q_mtold q_mtext q_mtable q_mstretch q_mfewest q_misOdd q_misHigh q_misTop q_mbits q_mpile v1 v4 v6 m_length m_tableKind m_areLaid m_unlike m_isFree k_23 hk_23 m_primeMany m_toldMany m_fate m_tail m_round a_mprimes a_mtold  h _ _ hP hD hS _ (lv_sub hl [0, 1, 2, 3] rfl)
    · have h := xf h c9z
      refine lv_aload_n hx hb dX12_layChain_92 rfl (lv_at hl 0 rfl) ?_
      refine va_get (D := (dC, dI)) (ci := 12) (v := .ref q_mtold) (C := RX12) (T := TX12) (N := 21) hx hb hts iw_X12_layChain_X12 hown hK hP 0 rfl rfl 5 (by decide) (hts (.fieldLink RX12 17 "GoesIntoModel" "told" "[J") (List.mem_of_getElem? (i := 1) rfl)) (fun _ h9 => h9) rfl dX12_layChain_93 ?_
      refine lv_iload hx hb dX12_layChain_96 (lv_at hl 4 rfl) ?_
      obtain ⟨b17z, h⟩ := xn h
      refine va_lald hx hb hK hP 2 1 rfl rfl b17z dX12_layChain_98 ?_
      refine lv_lload hx hb dX12_layChain_99 (lv_at hl 2 rfl) ?_
      refine W.lcmp hx hb dX12_layChain_101 ?_
      refine lv_if_ne (tgt := 110) hx hb dX12_layChain_102 (by decide) (fun c18z => ?_) (fun c18z => ?_)
      · have c18z := fun z => c18z ((lg_cmp_eq _ _).mpr z)
        have h := xf h c18z
        refine lv_iload hx hb dX12_layChain_110 (lv_at hl 3 rfl) ?_
        refine lv_istore (lv' := [(6, .int v6), (0, .ref q_Md), (1, .int v1), (4, .long v4), (7, .int v7)]) hx hb dX12_layChain_112 hl (by decide) rfl (fun ls hl => ?_)
        obtain ⟨y19z, ey19z⟩ : ∃ z : Int32, z = v7 + (1 : Int32) := ⟨_, rfl⟩
        have h := xl_at h ey19z
        refine lv_iinc (v := y19z) (lv' := [(7, .int y19z), (6, .int v6), (0, .ref q_Md), (1, .int v1), (4, .long v4)]) hx hb dX12_layChain_114 hl (k := 4) rfl (by rw [ey19z]; rfl) (by decide) rfl (fun ls hl => ?_)
        refine lv_goto (tgt := 83) hx hb dX12_layChain_117 (by decide) ?_
        exact ih v6 y19z h _ _ hP hD hS _ (lv_sub hl [2, 3, 4, 1, 0] rfl)
      · have c18z := (lg_cmp_eq _ _).mp c18z
        have h := xt h c18z
        refine lv_iload hx hb dX12_layChain_105 (lv_at hl 4 rfl) ?_
        refine lv_goto (tgt := 112) hx hb dX12_layChain_107 (by decide) ?_
        refine lv_istore (lv' := [(6, .int v7), (0, .ref q_Md), (1, .int v1), (4, .long v4), (7, .int v7)]) hx hb dX12_layChain_112 hl (by decide) rfl (fun ls hl => ?_)
        obtain ⟨y20z, ey20z⟩ : ∃ z : Int32, z = v7 + (1 : Int32) := ⟨_, rfl⟩
        have h := xl_at h ey20z
        refine lv_iinc (v := y20z) (lv' := [(7, .int y20z), (6, .int v7), (0, .ref q_Md), (1, .int v1), (4, .long v4)]) hx hb dX12_layChain_114 hl (k := 4) rfl (by rw [ey20z]; rfl) (by decide) rfl (fun ls hl => ?_)
        refine lv_goto (tgt := 83) hx hb dX12_layChain_117 (by decide) ?_
        exact ih v7 y20z h _ _ hP hD hS _ (lv_sub hl [2, 3, 4, 1, 0] rfl)
def s_X12_layChain_23 (N : Nat) (v1 : Int32) (k_23 : (Int32 × Int32 × Int32 × Int32 × Int32 × (Nat → Int64) × (Nat → Int64)) → Option (Int32 × Int32 × Int32 × Int32 × Int32 × (Nat → Int64) × (Nat → Int64))) (m_primeMany : Int32) (m_toldMany : Int32) (m_fate : Int32) (m_tail : Int32) (m_round : Int32) (a_mprimes : Nat → Int64) (a_mtold : Nat → Int64) : Option (Int32 × Int32 × Int32 × Int32 × Int32 × (Nat → Int64) × (Nat → Int64)) :=
  if m_fate = (-4 : Int32) then
    if m_toldMany = (201 : Int32) then
      k_23 (m_primeMany, m_toldMany, (2 : Int32), m_toldMany, m_round, a_mprimes, a_mtold)
    else
      xl (m_toldMany - (1 : Int32)) fun y4z =>
      if y4z < 0 ∨ 201 ≤ y4z.toNatClampNeg then
        none
      else
        Option.bind (f_X12_sumOf N v1 (a_mtold y4z.toNatClampNeg) m_primeMany a_mprimes) fun r6z =>
        l_X12_layChain_83 N k_23 r6z.1 r6z.2.1 m_toldMany m_fate m_tail m_round r6z.2.2 a_mtold N ((-4 : Int32), (0 : Int32))
  else
    some (m_primeMany, m_toldMany, m_fate, m_tail, m_round, a_mprimes, a_mtold)
def l_X12_layChain_23 (N : Nat) (v1 : Int32) (n : Nat) (z : Int32 × Int32 × Int32 × Int32 × Int32 × (Nat → Int64) × (Nat → Int64)) : Option (Int32 × Int32 × Int32 × Int32 × Int32 × (Nat → Int64) × (Nat → Int64)) := lp (fun k z => s_X12_layChain_23 N v1 k z.1 z.2.1 z.2.2.1 z.2.2.2.1 z.2.2.2.2.1 z.2.2.2.2.2.1 z.2.2.2.2.2.2) n z
set_option maxRecDepth 100000 in
set_option maxHeartbeats 4000000 in
theorem k_X12_layChain_23 {p : Program} {l : Launch} {e : Env} {s : State} {m : MethodId} {args : Array Value} {below : List Frame} {meth : Method} {c : Code} {dC : Nat → ClassId} {dI : Nat → Nat → Nat} {cyI cyJ cyZ : ClassId} {A : Nat → Prop} (C0 : mC p s m meth c args cX12_layChain none 8 RX12 wsX12_layChain (gK dC dI cyI cyJ cyZ) A) (N : Nat) (res : Int32 × Int32 × Int32 × Int32 × Int32 × (Nat → Int64) × (Nat → Int64)) (q_Md : Nat) (q_mprimes : Nat) (q_mtold : Nat) (q_mtext : Nat) (q_mtable : Nat) (q_mstretch : Nat) (q_mfewest : Nat) (q_misOdd : Nat) (q_misHigh : Nat) (q_misTop : Nat) (q_mbits : Nat) (q_mpile : Nat) (v1 : Int32) (m_length : Int32) (m_tableKind : Int32) (m_areLaid : Int32) (m_unlike : Int32) (m_isFree : Int32) : ∀ (n : Nat) (m_primeMany : Int32) (m_toldMany : Int32) (m_fate : Int32) (m_tail : Int32) (m_round : Int32) (a_mprimes : Nat → Int64) (a_mtold : Nat → Int64), l_X12_layChain_23 N v1 n (m_primeMany, m_toldMany, m_fate, m_tail, m_round, a_mprimes, a_mtold) = some res → ∀ (H : Heap) (locs : List Loc), va_P (dC, dI) vwCl (wd57 cyI cyJ cyZ q_Md q_mprimes q_mtold q_mtext q_mtable q_mstretch q_mfewest q_misOdd q_misHigh q_misTop q_mbits q_mpile m_length m_primeMany m_toldMany m_fate m_tail m_round m_tableKind m_areLaid m_unlike m_isFree a_mprimes a_mtold) H → va_D A (wd57 cyI cyJ cyZ q_Md q_mprimes q_mtold q_mtext q_mtable q_mstretch q_mfewest q_misOdd q_misHigh q_misTop q_mbits q_mpile m_length m_primeMany m_toldMany m_fate m_tail m_round m_tableKind m_areLaid m_unlike m_isFree a_mprimes a_mtold) → va_S A s.heap H locs → ∀ (ls : Array Slot), lv_has ls 8 [(0, .ref q_Md), (1, .int v1)] → W p l e (headSpec wsX12_layChain rm_X12_layChain).room s m args below meth c H locs 0 0 (MQ below (va_Qv (fun (_ : Unit) => True) (bW dC dI (fun (u : Unit) => (wd57 cyI cyJ cyZ q_Md q_mprimes q_mtold q_mtext q_mtable q_mstretch q_mfewest q_misOdd q_misHigh q_misTop q_mbits q_mpile m_length res.1 res.2.1 res.2.2.1 res.2.2.2.1 res.2.2.2.2.1 m_tableKind m_areLaid m_unlike m_isFree res.2.2.2.2.2.1 res.2.2.2.2.2.2)) A) A) args s 0 0 A) (F0 m 23 ls []) := by
  obtain ⟨hx, hb, hr, hml, hown, hts, hlocks, hG, hA⟩ := id C0
  have hK := hG.1
  intro n
  induction n with
  | zero =>
    intro m_primeMany m_toldMany m_fate m_tail m_round a_mprimes a_mtold h
    cases h
  | succ n ih =>
    intro m_primeMany m_toldMany m_fate m_tail m_round a_mprimes a_mtold h H locs hP hD hS ls hl
    have h : s_X12_layChain_23 N v1 (l_X12_layChain_23 N v1 n) m_primeMany m_toldMany m_fate m_tail m_round a_mprimes a_mtold = some res := h
    unfold s_X12_layChain_23 at h
    refine lv_aload_n hx hb dX12_layChain_23 rfl (lv_at hl 0 rfl) ?_
    refine va_get (D := (dC, dI)) (ci := 12) (v := .int m_fate) (C := RX12) (T := TX12) (N := 21) hx hb hts iw_X12_layChain_X12 hown hK hP 0 rfl rfl 6 (by decide) (hts (.fieldLink RX12 92 "GoesIntoModel" "fate" "I") (List.mem_of_getElem? (i := 3) rfl)) (fun _ h9 => h9) rfl dX12_layChain_24 ?_
    refine lv_bipush (v := (-4 : Int32)) hx hb dX12_layChain_27 (by decide) ?_
    refine lv_icmp_ne (tgt := 219) hx hb dX12_layChain_29 (by decide) (fun c2z => ?_) (fun c2z => ?_)
    · have h := xf h c2z
      obtain rfl := Option.some.inj h
      exact W.vret hx hb hr (fun t ht hW => ⟨⟨(), rfl, trivial, by rw [ht]; exact hP, hD⟩, hS.F ht⟩) hS.2.2 dX12_layChain_219 hlocks
    · have h := xt h c2z
      refine lv_aload_n hx hb dX12_layChain_32 rfl (lv_at hl 0 rfl) ?_
      refine va_get (D := (dC, dI)) (ci := 12) (v := .int m_toldMany) (C := RX12) (T := TX12) (N := 21) hx hb hts iw_X12_layChain_X12 hown hK hP 0 rfl rfl 4 (by decide) (hts (.fieldLink RX12 89 "GoesIntoModel" "toldMany" "I") (List.mem_of_getElem? (i := 2) rfl)) (fun _ h9 => h9) rfl dX12_layChain_33 ?_
      refine lv_sipush (v := (201 : Int32)) hx hb dX12_layChain_36 (by decide) ?_
      refine lv_icmp_ne (tgt := 58) hx hb dX12_layChain_39 (by decide) (fun c3z => ?_) (fun c3z => ?_)
      · have h := xf h c3z
        refine lv_aload_n hx hb dX12_layChain_58 rfl (lv_at hl 0 rfl) ?_
        refine lv_iload_n hx hb dX12_layChain_59 rfl (lv_at hl 1 rfl) ?_
        refine lv_aload_n hx hb dX12_layChain_60 rfl (lv_at hl 0 rfl) ?_
        refine va_get (D := (dC, dI)) (ci := 12) (v := .ref q_mtold) (C := RX12) (T := TX12) (N := 21) hx hb hts iw_X12_layChain_X12 hown hK hP 0 rfl rfl 5 (by decide) (hts (.fieldLink RX12 17 "GoesIntoModel" "told" "[J") (List.mem_of_getElem? (i := 1) rfl)) (fun _ h9 => h9) rfl dX12_layChain_61 ?_
        refine lv_aload_n hx hb dX12_layChain_64 rfl (lv_at hl 0 rfl) ?_
        refine va_get (D := (dC, dI)) (ci := 12) (v := .int m_toldMany) (C := RX12) (T := TX12) (N := 21) hx hb hts iw_X12_layChain_X12 hown hK hP 0 rfl rfl 4 (by decide) (hts (.fieldLink RX12 89 "GoesIntoModel" "toldMany" "I") (List.mem_of_getElem? (i := 2) rfl)) (fun _ h9 => h9) rfl dX12_layChain_65 ?_
        refine lv_iconst (v := (1 : Int32)) hx hb dX12_layChain_68 (by decide) ?_
        refine lv_isub hx hb dX12_layChain_69 ?_
        refine lv_topi (fun y4z ey4z => ?_)
        have h := xl_at h ey4z
        obtain ⟨b5z, h⟩ := xn h
        refine va_lald hx hb hK hP 2 1 rfl rfl b5z dX12_layChain_70 ?_
        obtain ⟨r6z, hr6z, h⟩ := xb_at h
        have hPc := hP.sub (ws' := (wd55 cyI cyJ cyZ q_Md q_mprimes q_mtext q_mtold q_mtable q_mstretch q_mfewest q_misOdd q_misHigh q_misTop q_mbits q_mpile m_length m_primeMany m_toldMany m_fate m_tail m_round m_tableKind m_areLaid m_unlike m_isFree a_mprimes)) [0, 1] rfl
        have hDc := hD.sub (ws' := (wd55 cyI cyJ cyZ q_Md q_mprimes q_mtext q_mtold q_mtable q_mstretch q_mfewest q_misOdd q_misHigh q_misTop q_mbits q_mpile m_length m_primeMany m_toldMany m_fate m_tail m_round m_tableKind m_areLaid m_unlike m_isFree a_mprimes)) [0, 1] (by decide) rfl
        refine cal_l [0, 1] [2] (va_runV (As := [.int v1, .long (a_mtold y4z.toNatClampNeg)]) (rest := []) ⟨hx, hb, hml, hown, hts⟩ (c_X12_sumOf l dC dI cyI cyJ cyZ N r6z H.size q_Md q_mprimes q_mtext q_mtold q_mtable q_mstretch q_mfewest q_misOdd q_misHigh q_misTop q_mbits q_mpile v1 (a_mtold y4z.toNatClampNeg) m_length m_primeMany m_toldMany m_fate m_tail m_round m_tableKind m_areLaid m_unlike m_isFree a_mprimes hr6z) (cwV 2 hts gX12_layChain_X12_sumOf rfl rfl rfl ⟨rfl, hd_X12_sumOf⟩ ⟨Nat.le_of_ble_eq_true rfl, Nat.le_of_ble_eq_true rfl⟩) ⟨pC.blind, va_recv hK hPc (ci := 12) (q0 := 0) rfl rfl, pC.pre hPc hG hDc⟩ rfl rfl hl.1 rfl (lv_room (Nat.le_of_ble_eq_true rfl)) dX12_layChain_71 ⟨Nat.zero_le _, Nat.zero_le _⟩) hP hD hS hA rfl rfl rfl (by decide) (fun x8z u7z H locs hw hP hD hS => ?_)
        obtain rfl := hw.symm
        have hP : va_P (dC, dI) vwCl (wd57 cyI cyJ cyZ q_Md q_mprimes q_mtold q_mtext q_mtable q_mstretch q_mfewest q_misOdd q_misHigh q_misTop q_mbits q_mpile m_length r6z.2.1 m_toldMany m_fate m_tail m_round m_tableKind m_areLaid m_unlike m_isFree r6z.2.2 a_mtold) H := hP.sub [1, 2, 0] rfl
        have hD : va_D A (wd57 cyI cyJ cyZ q_Md q_mprimes q_mtold q_mtext q_mtable q_mstretch q_mfewest q_misOdd q_misHigh q_misTop q_mbits q_mpile m_length r6z.2.1 m_toldMany m_fate m_tail m_round m_tableKind m_areLaid m_unlike m_isFree r6z.2.2 a_mtold) := hD.sub [1, 2, 0] (by decide) rfl
        refine lv_lstore (lv' := [(4, .long r6z.1), (0, .ref q_Md), (1, .int v1)]) hx hb dX12_layChain_74 hl (by decide) rfl (fun ls hl => ?_)
        refine lv_bipush (v := (-4 : Int32)) hx hb dX12_layChain_76 (by decide) ?_
        refine lv_istore (lv' := [(6, .int (-4 : Int32)), (4, .long r6z.1), (0, .ref q_Md), (1, .int v1)]) hx hb dX12_layChain_78 hl (by decide) rfl (fun ls hl => ?_)
        refine lv_iconst (v := (0 : Int32)) hx hb dX12_layChain_80 (by decide) ?_
        refine lv_istore (lv' := [(7, .int (0 : Int32)), (6, .int (-4 : Int32)), (4, .long r6z.1), (0, .ref q_Md), (1, .int v1)]) hx hb dX12_layChain_81 hl (by decide) rfl (fun ls hl => ?_)
        exact k_X12_layChain_83 C0 N res q_Md q_mprimes q_mtold q_mtext q_mtable q_mstretch q_mfewest q_misOdd q_misHigh q_misTop q_mbits q_mpile v1 r6z.1 m_length m_tableKind m_areLaid m_unlike m_isFree _ ih r6z.2.1 m_toldMany m_fate m_tail m_round r6z.2.2 a_mtold N (-4 : Int32) (0 : Int32) h _ _ hP hD hS _ (lv_sub hl [3, 4, 2, 1, 0] rfl)
      · have h := xt h c3z
        refine lv_aload_n hx hb dX12_layChain_42 rfl (lv_at hl 0 rfl) ?_
        refine lv_iconst (v := (2 : Int32)) hx hb dX12_layChain_43 (by decide) ?_
        refine va_put (D := (dC, dI)) (ci := 12) (v := .int (2 : Int32)) (ty := .int) (C := RX12) (T := TX12) (N := 21) hx hb hts iw_X12_layChain_X12 tyX12 tyX12_ok nmX12 hown hK hP hD hS 0 rfl rfl 6 (by decide) (hts (.fieldLink RX12 92 "GoesIntoModel" "fate" "I") (List.mem_of_getElem? (i := 3) rfl)) (fun _ h9 => h9) rfl (tyX12_ok 6 (by decide)) rfl rfl (Nat.le_of_ble_eq_true rfl) dX12_layChain_44 (fun H locs hP hD hS => ?_)
        have hP : va_P (dC, dI) vwCl (wd57 cyI cyJ cyZ q_Md q_mprimes q_mtold q_mtext q_mtable q_mstretch q_mfewest q_misOdd q_misHigh q_misTop q_mbits q_mpile m_length m_primeMany m_toldMany (2 : Int32) m_tail m_round m_tableKind m_areLaid m_unlike m_isFree a_mprimes a_mtold) H := hP
        have hD : va_D A (wd57 cyI cyJ cyZ q_Md q_mprimes q_mtold q_mtext q_mtable q_mstretch q_mfewest q_misOdd q_misHigh q_misTop q_mbits q_mpile m_length m_primeMany m_toldMany (2 : Int32) m_tail m_round m_tableKind m_areLaid m_unlike m_isFree a_mprimes a_mtold) := hD
        refine lv_aload_n hx hb dX12_layChain_47 rfl (lv_at hl 0 rfl) ?_
        refine lv_aload_n hx hb dX12_layChain_48 rfl (lv_at hl 0 rfl) ?_
        refine va_get (D := (dC, dI)) (ci := 12) (v := .int m_toldMany) (C := RX12) (T := TX12) (N := 21) hx hb hts iw_X12_layChain_X12 hown hK hP 0 rfl rfl 4 (by decide) (hts (.fieldLink RX12 89 "GoesIntoModel" "toldMany" "I") (List.mem_of_getElem? (i := 2) rfl)) (fun _ h9 => h9) rfl dX12_layChain_49 ?_
        refine va_put (D := (dC, dI)) (ci := 12) (v := .int m_toldMany) (ty := .int) (C := RX12) (T := TX12) (N := 21) hx hb hts iw_X12_layChain_X12 tyX12 tyX12_ok nmX12 hown hK hP hD hS 0 rfl rfl 7 (by decide) (hts (.fieldLink RX12 98 "GoesIntoModel" "tail" "I") (List.mem_of_getElem? (i := 5) rfl)) (fun _ h9 => h9) rfl (tyX12_ok 7 (by decide)) rfl rfl (Nat.le_of_ble_eq_true rfl) dX12_layChain_52 (fun H locs hP hD hS => ?_)
        have hP : va_P (dC, dI) vwCl (wd57 cyI cyJ cyZ q_Md q_mprimes q_mtold q_mtext q_mtable q_mstretch q_mfewest q_misOdd q_misHigh q_misTop q_mbits q_mpile m_length m_primeMany m_toldMany (2 : Int32) m_toldMany m_round m_tableKind m_areLaid m_unlike m_isFree a_mprimes a_mtold) H := hP
        have hD : va_D A (wd57 cyI cyJ cyZ q_Md q_mprimes q_mtold q_mtext q_mtable q_mstretch q_mfewest q_misOdd q_misHigh q_misTop q_mbits q_mpile m_length m_primeMany m_toldMany (2 : Int32) m_toldMany m_round m_tableKind m_areLaid m_unlike m_isFree a_mprimes a_mtold) := hD
        refine lv_goto (tgt := 23) hx hb dX12_layChain_55 (by decide) ?_
        exact ih m_primeMany m_toldMany (2 : Int32) m_toldMany m_round a_mprimes a_mtold h _ _ hP hD hS _ (lv_sub hl [0, 1] rfl)
def f_X12_layChain (N : Nat) (v1 : Int32) (v2 : Int64) (m_primeMany : Int32) (m_toldMany : Int32) (m_fate : Int32) (m_tail : Int32) (m_round : Int32) (a_mprimes : Nat → Int64) (a_mtold : Nat → Int64) : Option (Int32 × Int32 × Int32 × Int32 × Int32 × (Nat → Int64) × (Nat → Int64)) :=
  if (0 : Int32) < 0 ∨ 201 ≤ (0 : Int32).toNatClampNeg then
    none
  else
    l_X12_layChain_23 N v1 N (m_primeMany, (1 : Int32), (-4 : Int32), m_tail, (0 : Int32), a_mprimes, vp_updL a_mtold (0 : Int32).toNatClampNeg v2)
set_option maxRecDepth 100000 in
set_option maxHeartbeats 4000000 in
theorem k_X12_layChain_0 {p : Program} {l : Launch} {e : Env} {s : State} {m : MethodId} {args : Array Value} {below : List Frame} {meth : Method} {c : Code} {dC : Nat → ClassId} {dI : Nat → Nat → Nat} {cyI cyJ cyZ : ClassId} {A : Nat → Prop} (C0 : mC p s m meth c args cX12_layChain none 8 RX12 wsX12_layChain (gK dC dI cyI cyJ cyZ) A) (N : Nat) (res : Int32 × Int32 × Int32 × Int32 × Int32 × (Nat → Int64) × (Nat → Int64)) (q_Md : Nat) (q_mprimes : Nat) (q_mtold : Nat) (q_mtext : Nat) (q_mtable : Nat) (q_mstretch : Nat) (q_mfewest : Nat) (q_misOdd : Nat) (q_misHigh : Nat) (q_misTop : Nat) (q_mbits : Nat) (q_mpile : Nat) (v1 : Int32) (v2 : Int64) (m_length : Int32) (m_primeMany : Int32) (m_toldMany : Int32) (m_fate : Int32) (m_tail : Int32) (m_round : Int32) (m_tableKind : Int32) (m_areLaid : Int32) (m_unlike : Int32) (m_isFree : Int32) (a_mprimes : Nat → Int64) (a_mtold : Nat → Int64) (h : f_X12_layChain N v1 v2 m_primeMany m_toldMany m_fate m_tail m_round a_mprimes a_mtold = some res) : ∀ (H : Heap) (locs : List Loc), va_P (dC, dI) vwCl (wd57 cyI cyJ cyZ q_Md q_mprimes q_mtold q_mtext q_mtable q_mstretch q_mfewest q_misOdd q_misHigh q_misTop q_mbits q_mpile m_length m_primeMany m_toldMany m_fate m_tail m_round m_tableKind m_areLaid m_unlike m_isFree a_mprimes a_mtold) H → va_D A (wd57 cyI cyJ cyZ q_Md q_mprimes q_mtold q_mtext q_mtable q_mstretch q_mfewest q_misOdd q_misHigh q_misTop q_mbits q_mpile m_length m_primeMany m_toldMany m_fate m_tail m_round m_tableKind m_areLaid m_unlike m_isFree a_mprimes a_mtold) → va_S A s.heap H locs → ∀ (ls : Array Slot), lv_has ls 8 [(0, .ref q_Md), (1, .int v1), (2, .long v2)] → W p l e (headSpec wsX12_layChain rm_X12_layChain).room s m args below meth c H locs 0 0 (MQ below (va_Qv (fun (_ : Unit) => True) (bW dC dI (fun (u : Unit) => (wd57 cyI cyJ cyZ q_Md q_mprimes q_mtold q_mtext q_mtable q_mstretch q_mfewest q_misOdd q_misHigh q_misTop q_mbits q_mpile m_length res.1 res.2.1 res.2.2.1 res.2.2.2.1 res.2.2.2.2.1 m_tableKind m_areLaid m_unlike m_isFree res.2.2.2.2.2.1 res.2.2.2.2.2.2)) A) A) args s 0 0 A) (F0 m 0 ls []) := by
  obtain ⟨hx, hb, hr, hml, hown, hts, hlocks, hG, hA⟩ := id C0
  have hK := hG.1
  intro H locs hP hD hS ls hl
  unfold f_X12_layChain at h
  refine lv_aload_n hx hb dX12_layChain_0 rfl (lv_at hl 0 rfl) ?_
  refine va_get (D := (dC, dI)) (ci := 12) (v := .ref q_mtold) (C := RX12) (T := TX12) (N := 21) hx hb hts iw_X12_layChain_X12 hown hK hP 0 rfl rfl 5 (by decide) (hts (.fieldLink RX12 17 "GoesIntoModel" "told" "[J") (List.mem_of_getElem? (i := 1) rfl)) (fun _ h9 => h9) rfl dX12_layChain_1 ?_
  refine lv_iconst (v := (0 : Int32)) hx hb dX12_layChain_4 (by decide) ?_
  refine lv_lload_n hx hb dX12_layChain_5 rfl (lv_at hl 2 rfl) ?_
  obtain ⟨b1z, h⟩ := xn h
  refine va_last hx hb hK hP hD hS 2 1 rfl rfl b1z dX12_layChain_6 (fun H locs hP hD hS => ?_)
  have hP : va_P (dC, dI) vwCl (wd57 cyI cyJ cyZ q_Md q_mprimes q_mtold q_mtext q_mtable q_mstretch q_mfewest q_misOdd q_misHigh q_misTop q_mbits q_mpile m_length m_primeMany m_toldMany m_fate m_tail m_round m_tableKind m_areLaid m_unlike m_isFree a_mprimes (vp_updL a_mtold (0 : Int32).toNatClampNeg v2)) H := hP
  have hD : va_D A (wd57 cyI cyJ cyZ q_Md q_mprimes q_mtold q_mtext q_mtable q_mstretch q_mfewest q_misOdd q_misHigh q_misTop q_mbits q_mpile m_length m_primeMany m_toldMany m_fate m_tail m_round m_tableKind m_areLaid m_unlike m_isFree a_mprimes (vp_updL a_mtold (0 : Int32).toNatClampNeg v2)) := hD
  refine lv_aload_n hx hb dX12_layChain_7 rfl (lv_at hl 0 rfl) ?_
  refine lv_iconst (v := (1 : Int32)) hx hb dX12_layChain_8 (by decide) ?_
  refine va_put (D := (dC, dI)) (ci := 12) (v := .int (1 : Int32)) (ty := .int) (C := RX12) (T := TX12) (N := 21) hx hb hts iw_X12_layChain_X12 tyX12 tyX12_ok nmX12 hown hK hP hD hS 0 rfl rfl 4 (by decide) (hts (.fieldLink RX12 89 "GoesIntoModel" "toldMany" "I") (List.mem_of_getElem? (i := 2) rfl)) (fun _ h9 => h9) rfl (tyX12_ok 4 (by decide)) rfl rfl (Nat.le_of_ble_eq_true rfl) dX12_layChain_9 (fun H locs hP hD hS => ?_)
  have hP : va_P (dC, dI) vwCl (wd57 cyI cyJ cyZ q_Md q_mprimes q_mtold q_mtext q_mtable q_mstretch q_mfewest q_misOdd q_misHigh q_misTop q_mbits q_mpile m_length m_primeMany (1 : Int32) m_fate m_tail m_round m_tableKind m_areLaid m_unlike m_isFree a_mprimes (vp_updL a_mtold (0 : Int32).toNatClampNeg v2)) H := hP
  have hD : va_D A (wd57 cyI cyJ cyZ q_Md q_mprimes q_mtold q_mtext q_mtable q_mstretch q_mfewest q_misOdd q_misHigh q_misTop q_mbits q_mpile m_length m_primeMany (1 : Int32) m_fate m_tail m_round m_tableKind m_areLaid m_unlike m_isFree a_mprimes (vp_updL a_mtold (0 : Int32).toNatClampNeg v2)) := hD
  refine lv_aload_n hx hb dX12_layChain_12 rfl (lv_at hl 0 rfl) ?_
  refine lv_bipush (v := (-4 : Int32)) hx hb dX12_layChain_13 (by decide) ?_
  refine va_put (D := (dC, dI)) (ci := 12) (v := .int (-4 : Int32)) (ty := .int) (C := RX12) (T := TX12) (N := 21) hx hb hts iw_X12_layChain_X12 tyX12 tyX12_ok nmX12 hown hK hP hD hS 0 rfl rfl 6 (by decide) (hts (.fieldLink RX12 92 "GoesIntoModel" "fate" "I") (List.mem_of_getElem? (i := 3) rfl)) (fun _ h9 => h9) rfl (tyX12_ok 6 (by decide)) rfl rfl (Nat.le_of_ble_eq_true rfl) dX12_layChain_15 (fun H locs hP hD hS => ?_)
  have hP : va_P (dC, dI) vwCl (wd57 cyI cyJ cyZ q_Md q_mprimes q_mtold q_mtext q_mtable q_mstretch q_mfewest q_misOdd q_misHigh q_misTop q_mbits q_mpile m_length m_primeMany (1 : Int32) (-4 : Int32) m_tail m_round m_tableKind m_areLaid m_unlike m_isFree a_mprimes (vp_updL a_mtold (0 : Int32).toNatClampNeg v2)) H := hP
  have hD : va_D A (wd57 cyI cyJ cyZ q_Md q_mprimes q_mtold q_mtext q_mtable q_mstretch q_mfewest q_misOdd q_misHigh q_misTop q_mbits q_mpile m_length m_primeMany (1 : Int32) (-4 : Int32) m_tail m_round m_tableKind m_areLaid m_unlike m_isFree a_mprimes (vp_updL a_mtold (0 : Int32).toNatClampNeg v2)) := hD
  refine lv_aload_n hx hb dX12_layChain_18 rfl (lv_at hl 0 rfl) ?_
  refine lv_iconst (v := (0 : Int32)) hx hb dX12_layChain_19 (by decide) ?_
  refine va_put (D := (dC, dI)) (ci := 12) (v := .int (0 : Int32)) (ty := .int) (C := RX12) (T := TX12) (N := 21) hx hb hts iw_X12_layChain_X12 tyX12 tyX12_ok nmX12 hown hK hP hD hS 0 rfl rfl 8 (by decide) (hts (.fieldLink RX12 95 "GoesIntoModel" "round" "I") (List.mem_of_getElem? (i := 4) rfl)) (fun _ h9 => h9) rfl (tyX12_ok 8 (by decide)) rfl rfl (Nat.le_of_ble_eq_true rfl) dX12_layChain_20 (fun H locs hP hD hS => ?_)
  have hP : va_P (dC, dI) vwCl (wd57 cyI cyJ cyZ q_Md q_mprimes q_mtold q_mtext q_mtable q_mstretch q_mfewest q_misOdd q_misHigh q_misTop q_mbits q_mpile m_length m_primeMany (1 : Int32) (-4 : Int32) m_tail (0 : Int32) m_tableKind m_areLaid m_unlike m_isFree a_mprimes (vp_updL a_mtold (0 : Int32).toNatClampNeg v2)) H := hP
  have hD : va_D A (wd57 cyI cyJ cyZ q_Md q_mprimes q_mtold q_mtext q_mtable q_mstretch q_mfewest q_misOdd q_misHigh q_misTop q_mbits q_mpile m_length m_primeMany (1 : Int32) (-4 : Int32) m_tail (0 : Int32) m_tableKind m_areLaid m_unlike m_isFree a_mprimes (vp_updL a_mtold (0 : Int32).toNatClampNeg v2)) := hD
  exact k_X12_layChain_23 C0 N res q_Md q_mprimes q_mtold q_mtext q_mtable q_mstretch q_mfewest q_misOdd q_misHigh q_misTop q_mbits q_mpile v1 m_length m_tableKind m_areLaid m_unlike m_isFree N m_primeMany (1 : Int32) (-4 : Int32) m_tail (0 : Int32) a_mprimes (vp_updL a_mtold (0 : Int32).toNatClampNeg v2) h _ _ hP hD hS _ (lv_sub hl [0, 1] rfl)
set_option maxRecDepth 100000 in
set_option maxHeartbeats 4000000 in
theorem c_X12_layChain (l : Launch) (dC : Nat → ClassId) (dI : Nat → Nat → Nat) (cyI cyJ cyZ : ClassId) (N : Nat) (res : Int32 × Int32 × Int32 × Int32 × Int32 × (Nat → Int64) × (Nat → Int64)) (sz : Nat) (q_Md : Nat) (q_mprimes : Nat) (q_mtold : Nat) (q_mtext : Nat) (q_mtable : Nat) (q_mstretch : Nat) (q_mfewest : Nat) (q_misOdd : Nat) (q_misHigh : Nat) (q_misTop : Nat) (q_mbits : Nat) (q_mpile : Nat) (v1 : Int32) (v2 : Int64) (m_length : Int32) (m_primeMany : Int32) (m_toldMany : Int32) (m_fate : Int32) (m_tail : Int32) (m_round : Int32) (m_tableKind : Int32) (m_areLaid : Int32) (m_unlike : Int32) (m_isFree : Int32) (a_mprimes : Nat → Int64) (a_mtold : Nat → Int64) (h : f_X12_layChain N v1 v2 m_primeMany m_toldMany m_fate m_tail m_round a_mprimes a_mtold = some res) : Met l yX12_layChain wsX12_layChain rm_X12_layChain (pC dC dI cyI cyJ cyZ [.ref q_Md, .int v1, .long v2] sz (wd57 cyI cyJ cyZ q_Md q_mprimes q_mtold q_mtext q_mtable q_mstretch q_mfewest q_misOdd q_misHigh q_misTop q_mbits q_mpile m_length m_primeMany m_toldMany m_fate m_tail m_round m_tableKind m_areLaid m_unlike m_isFree a_mprimes a_mtold)) (va_Qv (fun (_ : Unit) => True) (bW dC dI (fun (u : Unit) => (wd57 cyI cyJ cyZ q_Md q_mprimes q_mtold q_mtext q_mtable q_mstretch q_mfewest q_misOdd q_misHigh q_misTop q_mbits q_mpile m_length res.1 res.2.1 res.2.2.1 res.2.2.2.1 res.2.2.2.2.1 m_tableKind m_areLaid m_unlike m_isFree res.2.2.2.2.2.1 res.2.2.2.2.2.2)) (va_A (wd57 cyI cyJ cyZ q_Md q_mprimes q_mtold q_mtext q_mtable q_mstretch q_mfewest q_misOdd q_misHigh q_misTop q_mbits q_mpile m_length m_primeMany m_toldMany m_fate m_tail m_round m_tableKind m_areLaid m_unlike m_isFree a_mprimes a_mtold) sz)) (va_A (wd57 cyI cyJ cyZ q_Md q_mprimes q_mtold q_mtext q_mtable q_mstretch q_mfewest q_misOdd q_misHigh q_misTop q_mbits q_mpile m_length m_primeMany m_toldMany m_fate m_tail m_round m_tableKind m_areLaid m_unlike m_isFree a_mprimes a_mtold) sz)) 0 0 (va_A (wd57 cyI cyJ cyZ q_Md q_mprimes q_mtold q_mtext q_mtable q_mstretch q_mfewest q_misOdd q_misHigh q_misTop q_mbits q_mpile m_length m_primeMany m_toldMany m_fate m_tail m_round m_tableKind m_areLaid m_unlike m_isFree a_mprimes a_mtold) sz) := by
  refine Met.ofW (cc := cX12_layChain) (maxL := 8) (ret := none) (by decide) rfl ?_
  intro p e s m args below meth c s₁ B hml hv
  obtain ⟨rfl, hsz, hP, hG, hD0⟩ := hv
  have hx := B.exec
  have hb := B.bytes
  have hr := B.returns
  have hts := atoms_spec (ws := wsX12_layChain) B.pre
  have hown : s.vm.findClass RX12 = some m.cls := findClass_of_methodNamed B.named
  have hlocks := B.notSynchronized
  subst hsz
  have hD := hD0.self (sz := s.heap.size)
  generalize hAe : va_A (wd57 cyI cyJ cyZ q_Md q_mprimes q_mtold q_mtext q_mtable q_mstretch q_mfewest q_misOdd q_misHigh q_misTop q_mbits q_mpile m_length m_primeMany m_toldMany m_fate m_tail m_round m_tableKind m_areLaid m_unlike m_isFree a_mprimes a_mtold) s.heap.size = A at hD ⊢
  have hA : ∀ q : Nat, s.heap.size ≤ q → A q := fun q h => by rw [← hAe]; exact Or.inr h
  have hS : va_S A s.heap s.heap [] := va_S.rf
  have hl := lv_entry ([.ref q_Md, .int v1, .long v2]) (n := 8) (Nat.le_of_ble_eq_true rfl)
  rw [lg_entry_eq]
  generalize (lg_sl ([.ref q_Md, .int v1, .long v2]) ++ List.replicate (8 - (lg_sl ([.ref q_Md, .int v1, .long v2])).length) Slot.unset).toArray = ls at hl ⊢
  have hl : lv_has ls 8 [(0, .ref q_Md), (1, .int v1), (2, .long v2)] := hl
  exact k_X12_layChain_0 ⟨hx, hb, hr, hml, hown, hts, hlocks, hG, hA⟩ N res q_Md q_mprimes q_mtold q_mtext q_mtable q_mstretch q_mfewest q_misOdd q_misHigh q_misTop q_mbits q_mpile v1 v2 m_length m_primeMany m_toldMany m_fate m_tail m_round m_tableKind m_areLaid m_unlike m_isFree a_mprimes a_mtold  h _ _ hP hD hS _ hl
abbrev rm_X12_chain : Room := { frames := 4, cells := 0, slots := 0, locals := 110 }
theorem hd_X12_chain : yX12_chain.cls ≠ "java/lang/invoke/MethodHandle" ∧ yX12_chain.cls ≠ "java/lang/invoke/VarHandle" ∧ (parseMethodDescriptor yX12_chain.desc).map (fun d => d.parameters.length) = some 3 := by decide +kernel
theorem iw_X12_chain_X12 : ∀ w ∈ wsX120, w ∈ wsX12_chain := List.forall_mem_cons.mpr ⟨List.mem_of_getElem? (i := 35) rfl, List.forall_mem_cons.mpr ⟨List.mem_of_getElem? (i := 36) rfl, List.forall_mem_cons.mpr ⟨List.mem_of_getElem? (i := 37) rfl, List.forall_mem_cons.mpr ⟨List.mem_of_getElem? (i := 38) rfl, List.forall_mem_cons.mpr ⟨List.mem_of_getElem? (i := 39) rfl, List.forall_mem_cons.mpr ⟨List.mem_of_getElem? (i := 40) rfl, List.forall_mem_cons.mpr ⟨List.mem_of_getElem? (i := 41) rfl, List.forall_mem_cons.mpr ⟨List.mem_of_getElem? (i := 42) rfl, List.forall_mem_cons.mpr ⟨List.mem_of_getElem? (i := 43) rfl, List.forall_mem_cons.mpr ⟨List.mem_of_getElem? (i := 44) rfl, List.forall_mem_cons.mpr ⟨List.mem_of_getElem? (i := 45) rfl, List.forall_mem_cons.mpr ⟨List.mem_of_getElem? (i := 46) rfl, List.forall_mem_cons.mpr ⟨List.mem_of_getElem? (i := 47) rfl, List.forall_mem_cons.mpr ⟨List.mem_of_getElem? (i := 48) rfl, List.forall_mem_cons.mpr ⟨List.mem_of_getElem? (i := 49) rfl, List.forall_mem_cons.mpr ⟨List.mem_of_getElem? (i := 50) rfl, List.forall_mem_cons.mpr ⟨List.mem_of_getElem? (i := 51) rfl, List.forall_mem_cons.mpr ⟨List.mem_of_getElem? (i := 52) rfl, List.forall_mem_cons.mpr ⟨List.mem_of_getElem? (i := 53) rfl, List.forall_mem_cons.mpr ⟨List.mem_of_getElem? (i := 54) rfl, List.forall_mem_cons.mpr ⟨List.mem_of_getElem? (i := 55) rfl, fun _ h => absurd h List.not_mem_nil⟩⟩⟩⟩⟩⟩⟩⟩⟩⟩⟩⟩⟩⟩⟩⟩⟩⟩⟩⟩⟩
def s_X12_chain_87 (N : Nat) (m_primeMany : Int32) (m_toldMany : Int32) (m_fate : Int32) (m_tail : Int32) (m_round : Int32) (a_mprimes : Nat → Int64) (a_mtold : Nat → Int64) (k_87 : (Int64 × Int32) → Option (Int64 × Int32 × Int32 × Int32 × Int32 × Int32 × (Nat → Int64) × (Nat → Int64))) (v5 : Int64) (v7 : Int32) : Option (Int64 × Int32 × Int32 × Int32 × Int32 × Int32 × (Nat → Int64) × (Nat → Int64)) :=
  if m_toldMany ≤ v7 then
    some (v5, m_primeMany, m_toldMany, m_fate, m_tail, m_round, a_mprimes, a_mtold)
  else
    if v7 < 0 ∨ 201 ≤ v7.toNatClampNeg then
      none
    else
      if (a_mtold v7.toNatClampNeg) ≤ v5 then
        xl (v7 + (1 : Int32)) fun y20z =>
        k_87 (v5, y20z)
      else
        xl (a_mtold v7.toNatClampNeg) fun y21z =>
        xl (v7 + (1 : Int32)) fun y22z =>
        k_87 (y21z, y22z)
def l_X12_chain_87 (N : Nat) (m_primeMany : Int32) (m_toldMany : Int32) (m_fate : Int32) (m_tail : Int32) (m_round : Int32) (a_mprimes : Nat → Int64) (a_mtold : Nat → Int64) (n : Nat) (z : Int64 × Int32) : Option (Int64 × Int32 × Int32 × Int32 × Int32 × Int32 × (Nat → Int64) × (Nat → Int64)) := lp (fun k z => s_X12_chain_87 N m_primeMany m_toldMany m_fate m_tail m_round a_mprimes a_mtold k z.1 z.2) n z
set_option maxRecDepth 100000 in
set_option maxHeartbeats 4000000 in
theorem k_X12_chain_87 {p : Program} {l : Launch} {e : Env} {s : State} {m : MethodId} {args : Array Value} {below : List Frame} {meth : Method} {c : Code} {dC : Nat → ClassId} {dI : Nat → Nat → Nat} {cyI cyJ cyZ : ClassId} {A : Nat → Prop} (C0 : mC p s m meth c args cX12_chain (some .long) 8 RX12 wsX12_chain (gK dC dI cyI cyJ cyZ) A) (N : Nat) (res : Int64 × Int32 × Int32 × Int32 × Int32 × Int32 × (Nat → Int64) × (Nat → Int64)) (q_Md : Nat) (q_mprimes : Nat) (q_mtold : Nat) (q_mtext : Nat) (q_mtable : Nat) (q_mstretch : Nat) (q_mfewest : Nat) (q_misOdd : Nat) (q_misHigh : Nat) (q_misTop : Nat) (q_mbits : Nat) (q_mpile : Nat) (m_length : Int32) (m_primeMany : Int32) (m_toldMany : Int32) (m_fate : Int32) (m_tail : Int32) (m_round : Int32) (m_tableKind : Int32) (m_areLaid : Int32) (m_unlike : Int32) (m_isFree : Int32) (a_mprimes : Nat → Int64) (a_mtold : Nat → Int64) : ∀ (n : Nat) (v5 : Int64) (v7 : Int32), l_X12_chain_87 N m_primeMany m_toldMany m_fate m_tail m_round a_mprimes a_mtold n (v5, v7) = some res → ∀ (H : Heap) (locs : List Loc), va_P (dC, dI) vwCl (wd57 cyI cyJ cyZ q_Md q_mprimes q_mtold q_mtext q_mtable q_mstretch q_mfewest q_misOdd q_misHigh q_misTop q_mbits q_mpile m_length m_primeMany m_toldMany m_fate m_tail m_round m_tableKind m_areLaid m_unlike m_isFree a_mprimes a_mtold) H → va_D A (wd57 cyI cyJ cyZ q_Md q_mprimes q_mtold q_mtext q_mtable q_mstretch q_mfewest q_misOdd q_misHigh q_misTop q_mbits q_mpile m_length m_primeMany m_toldMany m_fate m_tail m_round m_tableKind m_areLaid m_unlike m_isFree a_mprimes a_mtold) → va_S A s.heap H locs → ∀ (ls : Array Slot), lv_has ls 8 [(0, .ref q_Md), (5, .long v5), (7, .int v7)] → W p l e (headSpec wsX12_chain rm_X12_chain).room s m args below meth c H locs 0 0 (MQ below (va_Ql (fun (r : Int64) (_ : Unit) => r = res.1) (bW dC dI (fun (u : Unit) => (wd57 cyI cyJ cyZ q_Md q_mprimes q_mtold q_mtext q_mtable q_mstretch q_mfewest q_misOdd q_misHigh q_misTop q_mbits q_mpile m_length res.2.1 res.2.2.1 res.2.2.2.1 res.2.2.2.2.1 res.2.2.2.2.2.1 m_tableKind m_areLaid m_unlike m_isFree res.2.2.2.2.2.2.1 res.2.2.2.2.2.2.2)) A) A) args s 0 0 A) (F0 m 87 ls []) := by
  obtain ⟨hx, hb, hr, hml, hown, hts, hlocks, hG, hA⟩ := id C0
  have hK := hG.1
  intro n
  induction n with
  | zero =>
    intro v5 v7 h
    cases h
  | succ n ih =>
    intro v5 v7 h H locs hP hD hS ls hl
    have h : s_X12_chain_87 N m_primeMany m_toldMany m_fate m_tail m_round a_mprimes a_mtold (l_X12_chain_87 N m_primeMany m_toldMany m_fate m_tail m_round a_mprimes a_mtold n) v5 v7 = some res := h
    unfold s_X12_chain_87 at h
    refine lv_iload hx hb dX12_chain_87 (lv_at hl 2 rfl) ?_
    refine lv_aload_n hx hb dX12_chain_89 rfl (lv_at hl 0 rfl) ?_
    refine va_get (D := (dC, dI)) (ci := 12) (v := .int m_toldMany) (C := RX12) (T := TX12) (N := 21) hx hb hts iw_X12_chain_X12 hown hK hP 0 rfl rfl 4 (by decide) (hts (.fieldLink RX12 89 "GoesIntoModel" "toldMany" "I") (List.mem_of_getElem? (i := 6) rfl)) (fun _ h9 => h9) rfl dX12_chain_90 ?_
    refine lv_icmp_ge (tgt := 129) hx hb dX12_chain_93 (by decide) (fun c17z => ?_) (fun c17z => ?_)
    · have h := xt h c17z
      refine lv_lload hx hb dX12_chain_129 (lv_at hl 1 rfl) ?_
      obtain rfl := Option.some.inj h
      exact W.lret (v := v5) hx hb hr (fun t ht hW => ⟨⟨_, (), rfl, rfl, by rw [ht]; exact hP, hD⟩, hS.F ht⟩) hS.2.2 dX12_chain_131 hlocks
    · have h := xf h c17z
      refine lv_aload_n hx hb dX12_chain_96 rfl (lv_at hl 0 rfl) ?_
      refine va_get (D := (dC, dI)) (ci := 12) (v := .ref q_mtold) (C := RX12) (T := TX12) (N := 21) hx hb hts iw_X12_chain_X12 hown hK hP 0 rfl rfl 5 (by decide) (hts (.fieldLink RX12 17 "GoesIntoModel" "told" "[J") (List.mem_of_getElem? (i := 7) rfl)) (fun _ h9 => h9) rfl dX12_chain_97 ?_
      refine lv_iload hx hb dX12_chain_100 (lv_at hl 2 rfl) ?_
      obtain ⟨b18z, h⟩ := xn h
      refine va_lald hx hb hK hP 2 1 rfl rfl b18z dX12_chain_102 ?_
      refine lv_lload hx hb dX12_chain_103 (lv_at hl 1 rfl) ?_
      refine W.lcmp hx hb dX12_chain_105 ?_
      refine lv_if_le (tgt := 119) hx hb dX12_chain_106 (by decide) (fun c19z => ?_) (fun c19z => ?_)
      · have c19z := (lg_cmp_le _ _).mp c19z
        have h := xt h c19z
        refine lv_lload hx hb dX12_chain_119 (lv_at hl 1 rfl) ?_
        refine lv_lstore (lv' := [(5, .long v5), (0, .ref q_Md), (7, .int v7)]) hx hb dX12_chain_121 hl (by decide) rfl (fun ls hl => ?_)
        obtain ⟨y20z, ey20z⟩ : ∃ z : Int32, z = v7 + (1 : Int32) := ⟨_, rfl⟩
        have h := xl_at h ey20z
        refine lv_iinc (v := y20z) (lv' := [(7, .int y20z), (5, .long v5), (0, .ref q_Md)]) hx hb dX12_chain_123 hl (k := 2) rfl (by rw [ey20z]; rfl) (by decide) rfl (fun ls hl => ?_)
        refine lv_goto (tgt := 87) hx hb dX12_chain_126 (by decide) ?_
        exact ih v5 y20z h _ _ hP hD hS _ (lv_sub hl [2, 1, 0] rfl)
      · have c19z := fun z => c19z ((lg_cmp_le _ _).mpr z)
        have h := xf h c19z
        refine lv_aload_n hx hb dX12_chain_109 rfl (lv_at hl 0 rfl) ?_
        refine va_get (D := (dC, dI)) (ci := 12) (v := .ref q_mtold) (C := RX12) (T := TX12) (N := 21) hx hb hts iw_X12_chain_X12 hown hK hP 0 rfl rfl 5 (by decide) (hts (.fieldLink RX12 17 "GoesIntoModel" "told" "[J") (List.mem_of_getElem? (i := 7) rfl)) (fun _ h9 => h9) rfl dX12_chain_110 ?_
        refine lv_iload hx hb dX12_chain_113 (lv_at hl 2 rfl) ?_
        refine va_lald hx hb hK hP 2 1 rfl rfl b18z dX12_chain_115 ?_
        refine lv_goto (tgt := 121) hx hb dX12_chain_116 (by decide) ?_
        refine lv_topl (fun y21z ey21z => ?_)
        have h := xl_at h ey21z
        refine lv_lstore (lv' := [(5, .long y21z), (0, .ref q_Md), (7, .int v7)]) hx hb dX12_chain_121 hl (by decide) rfl (fun ls hl => ?_)
        obtain ⟨y22z, ey22z⟩ : ∃ z : Int32, z = v7 + (1 : Int32) := ⟨_, rfl⟩
        have h := xl_at h ey22z
        refine lv_iinc (v := y22z) (lv' := [(7, .int y22z), (5, .long y21z), (0, .ref q_Md)]) hx hb dX12_chain_123 hl (k := 2) rfl (by rw [ey22z]; rfl) (by decide) rfl (fun ls hl => ?_)
        refine lv_goto (tgt := 87) hx hb dX12_chain_126 (by decide) ?_
        exact ih y21z y22z h _ _ hP hD hS _ (lv_sub hl [2, 1, 0] rfl)
def f_X12_chain (N : Nat) (v1 : Int32) (v2 : Int64) (v4 : Int32) (m_primeMany : Int32) (m_toldMany : Int32) (m_fate : Int32) (m_tail : Int32) (m_round : Int32) (a_mprimes : Nat → Int64) (a_mtold : Nat → Int64) : Option (Int64 × Int32 × Int32 × Int32 × Int32 × Int32 × (Nat → Int64) × (Nat → Int64)) :=
  Option.bind (f_X12_in N v1.toInt64 (1 : Int64) (3 : Int64)) fun r1z =>
  if r1z = 0 then
    some ((-1 : Int64), m_primeMany, m_toldMany, m_fate, m_tail, m_round, a_mprimes, a_mtold)
  else
    Option.bind (f_X12_isNumber N v2) fun r5z =>
    if r5z = 0 then
      some ((-1 : Int64), m_primeMany, m_toldMany, m_fate, m_tail, m_round, a_mprimes, a_mtold)
    else
      Option.bind (f_X12_in N v4.toInt64 (0 : Int64) (3 : Int64)) fun r9z =>
      if r9z = 0 then
        some ((-1 : Int64), m_primeMany, m_toldMany, m_fate, m_tail, m_round, a_mprimes, a_mtold)
      else
        Option.bind (f_X12_layChain N v1 v2 m_primeMany m_toldMany m_fate m_tail m_round a_mprimes a_mtold) fun r13z =>
        if (3 : Int32) ≤ v4 then
          l_X12_chain_87 N r13z.1 r13z.2.1 r13z.2.2.1 r13z.2.2.2.1 r13z.2.2.2.2.1 r13z.2.2.2.2.2.1 r13z.2.2.2.2.2.2 N ((0 : Int64), (0 : Int32))
        else
          if v4 = 0 then
            some (r13z.2.2.1.toInt64, r13z.1, r13z.2.1, r13z.2.2.1, r13z.2.2.2.1, r13z.2.2.2.2.1, r13z.2.2.2.2.2.1, r13z.2.2.2.2.2.2)
          else
            if v4 = (1 : Int32) then
              some (r13z.2.2.2.1.toInt64, r13z.1, r13z.2.1, r13z.2.2.1, r13z.2.2.2.1, r13z.2.2.2.2.1, r13z.2.2.2.2.2.1, r13z.2.2.2.2.2.2)
            else
              some (r13z.2.2.2.2.1.toInt64, r13z.1, r13z.2.1, r13z.2.2.1, r13z.2.2.2.1, r13z.2.2.2.2.1, r13z.2.2.2.2.2.1, r13z.2.2.2.2.2.2)
set_option maxRecDepth 100000 in
set_option maxHeartbeats 4000000 in
theorem k_X12_chain_0 {p : Program} {l : Launch} {e : Env} {s : State} {m : MethodId} {args : Array Value} {below : List Frame} {meth : Method} {c : Code} {dC : Nat → ClassId} {dI : Nat → Nat → Nat} {cyI cyJ cyZ : ClassId} {A : Nat → Prop} (C0 : mC p s m meth c args cX12_chain (some .long) 8 RX12 wsX12_chain (gK dC dI cyI cyJ cyZ) A) (N : Nat) (res : Int64 × Int32 × Int32 × Int32 × Int32 × Int32 × (Nat → Int64) × (Nat → Int64)) (q_Md : Nat) (q_mprimes : Nat) (q_mtold : Nat) (q_mtext : Nat) (q_mtable : Nat) (q_mstretch : Nat) (q_mfewest : Nat) (q_misOdd : Nat) (q_misHigh : Nat) (q_misTop : Nat) (q_mbits : Nat) (q_mpile : Nat) (v1 : Int32) (v2 : Int64) (v4 : Int32) (m_length : Int32) (m_primeMany : Int32) (m_toldMany : Int32) (m_fate : Int32) (m_tail : Int32) (m_round : Int32) (m_tableKind : Int32) (m_areLaid : Int32) (m_unlike : Int32) (m_isFree : Int32) (a_mprimes : Nat → Int64) (a_mtold : Nat → Int64) (h : f_X12_chain N v1 v2 v4 m_primeMany m_toldMany m_fate m_tail m_round a_mprimes a_mtold = some res) : ∀ (H : Heap) (locs : List Loc), va_P (dC, dI) vwCl (wd57 cyI cyJ cyZ q_Md q_mprimes q_mtold q_mtext q_mtable q_mstretch q_mfewest q_misOdd q_misHigh q_misTop q_mbits q_mpile m_length m_primeMany m_toldMany m_fate m_tail m_round m_tableKind m_areLaid m_unlike m_isFree a_mprimes a_mtold) H → va_D A (wd57 cyI cyJ cyZ q_Md q_mprimes q_mtold q_mtext q_mtable q_mstretch q_mfewest q_misOdd q_misHigh q_misTop q_mbits q_mpile m_length m_primeMany m_toldMany m_fate m_tail m_round m_tableKind m_areLaid m_unlike m_isFree a_mprimes a_mtold) → va_S A s.heap H locs → ∀ (ls : Array Slot), lv_has ls 8 [(0, .ref q_Md), (1, .int v1), (2, .long v2), (4, .int v4)] → W p l e (headSpec wsX12_chain rm_X12_chain).room s m args below meth c H locs 0 0 (MQ below (va_Ql (fun (r : Int64) (_ : Unit) => r = res.1) (bW dC dI (fun (u : Unit) => (wd57 cyI cyJ cyZ q_Md q_mprimes q_mtold q_mtext q_mtable q_mstretch q_mfewest q_misOdd q_misHigh q_misTop q_mbits q_mpile m_length res.2.1 res.2.2.1 res.2.2.2.1 res.2.2.2.2.1 res.2.2.2.2.2.1 m_tableKind m_areLaid m_unlike m_isFree res.2.2.2.2.2.2.1 res.2.2.2.2.2.2.2)) A) A) args s 0 0 A) (F0 m 0 ls []) := by
  obtain ⟨hx, hb, hr, hml, hown, hts, hlocks, hG, hA⟩ := id C0
  have hK := hG.1
  intro H locs hP hD hS ls hl
  unfold f_X12_chain at h
  refine lv_iload_n hx hb dX12_chain_0 rfl (lv_at hl 1 rfl) ?_
  refine lv_i2l (v := v1.toInt64) hx hb dX12_chain_1 rfl ?_
  refine lv_lconst (v := (1 : Int64)) hx hb dX12_chain_2 (by decide) ?_
  refine lv_ldc2 (v := (3 : Int64)) hx hb hown (hts (.constantLong RX12 69 (3)) (List.mem_of_getElem? (i := 1) rfl)) dX12_chain_3 ?_
  obtain ⟨r1z, hr1z, h⟩ := xb_at h
  have hPc := hP.sub (ws' := (wd37 cyI cyJ cyZ)) [] rfl
  have hDc := hD.sub (ws' := (wd37 cyI cyJ cyZ)) [] (by decide) rfl
  refine cal_i [] [0, 1, 2] (va_runS (As := [.long v1.toInt64, .long (1 : Int64), .long (3 : Int64)]) (rest := []) ⟨hx, hb, hml, hown, hts⟩ (c_X12_in l dC dI cyI cyJ cyZ N r1z H.size  v1.toInt64 (1 : Int64) (3 : Int64)  hr1z) (va_cwS 3 hts gX12_chain_X12_in rfl rfl rfl hd_X12_in ⟨Nat.le_of_ble_eq_true rfl, Nat.le_of_ble_eq_true rfl⟩) ⟨pC.blind, pC.pre hPc hG hDc⟩ rfl rfl hl.1 rfl (lv_room (Nat.le_of_ble_eq_true rfl)) dX12_chain_6 ⟨Nat.zero_le _, Nat.zero_le _⟩) hP hD hS hA rfl rfl rfl (by decide) (fun x3z u2z H locs hw hP hD hS => ?_)
  obtain rfl := hw.symm
  have hP : va_P (dC, dI) vwCl (wd57 cyI cyJ cyZ q_Md q_mprimes q_mtold q_mtext q_mtable q_mstretch q_mfewest q_misOdd q_misHigh q_misTop q_mbits q_mpile m_length m_primeMany m_toldMany m_fate m_tail m_round m_tableKind m_areLaid m_unlike m_isFree a_mprimes a_mtold) H := hP.sub [0, 1, 2] rfl
  have hD : va_D A (wd57 cyI cyJ cyZ q_Md q_mprimes q_mtold q_mtext q_mtable q_mstretch q_mfewest q_misOdd q_misHigh q_misTop q_mbits q_mpile m_length m_primeMany m_toldMany m_fate m_tail m_round m_tableKind m_areLaid m_unlike m_isFree a_mprimes a_mtold) := hD.sub [0, 1, 2] (by decide) rfl
  refine lv_if_eq (tgt := 32) hx hb dX12_chain_9 (by decide) (fun c4z => ?_) (fun c4z => ?_)
  · have h := xt h c4z
    refine lv_ldc2 (v := (-1 : Int64)) hx hb hown (hts (.constantLong RX12 79 (-1)) (List.mem_of_getElem? (i := 2) rfl)) dX12_chain_32 ?_
    obtain rfl := Option.some.inj h
    exact W.lret (v := (-1 : Int64)) hx hb hr (fun t ht hW => ⟨⟨_, (), rfl, rfl, by rw [ht]; exact hP, hD⟩, hS.F ht⟩) hS.2.2 dX12_chain_35 hlocks
  · have h := xf h c4z
    refine lv_lload_n hx hb dX12_chain_12 rfl (lv_at hl 2 rfl) ?_
    obtain ⟨r5z, hr5z, h⟩ := xb_at h
    have hPc := hP.sub (ws' := (wd37 cyI cyJ cyZ)) [] rfl
    have hDc := hD.sub (ws' := (wd37 cyI cyJ cyZ)) [] (by decide) rfl
    refine cal_i [] [0, 1, 2] (va_runS (As := [.long v2]) (rest := []) ⟨hx, hb, hml, hown, hts⟩ (c_X12_isNumber l dC dI cyI cyJ cyZ N r5z H.size  v2  hr5z) (va_cwS 1 hts gX12_chain_X12_isNumber rfl rfl rfl hd_X12_isNumber ⟨Nat.le_of_ble_eq_true rfl, Nat.le_of_ble_eq_true rfl⟩) ⟨pC.blind, pC.pre hPc hG hDc⟩ rfl rfl hl.1 rfl (lv_room (Nat.le_of_ble_eq_true rfl)) dX12_chain_13 ⟨Nat.zero_le _, Nat.zero_le _⟩) hP hD hS hA rfl rfl rfl (by decide) (fun x7z u6z H locs hw hP hD hS => ?_)
    obtain rfl := hw.symm
    have hP : va_P (dC, dI) vwCl (wd57 cyI cyJ cyZ q_Md q_mprimes q_mtold q_mtext q_mtable q_mstretch q_mfewest q_misOdd q_misHigh q_misTop q_mbits q_mpile m_length m_primeMany m_toldMany m_fate m_tail m_round m_tableKind m_areLaid m_unlike m_isFree a_mprimes a_mtold) H := hP.sub [0, 1, 2] rfl
    have hD : va_D A (wd57 cyI cyJ cyZ q_Md q_mprimes q_mtold q_mtext q_mtable q_mstretch q_mfewest q_misOdd q_misHigh q_misTop q_mbits q_mpile m_length m_primeMany m_toldMany m_fate m_tail m_round m_tableKind m_areLaid m_unlike m_isFree a_mprimes a_mtold) := hD.sub [0, 1, 2] (by decide) rfl
    refine lv_if_eq (tgt := 32) hx hb dX12_chain_16 (by decide) (fun c8z => ?_) (fun c8z => ?_)
    · have h := xt h c8z
      refine lv_ldc2 (v := (-1 : Int64)) hx hb hown (hts (.constantLong RX12 79 (-1)) (List.mem_of_getElem? (i := 2) rfl)) dX12_chain_32 ?_
      obtain rfl := Option.some.inj h
      exact W.lret (v := (-1 : Int64)) hx hb hr (fun t ht hW => ⟨⟨_, (), rfl, rfl, by rw [ht]; exact hP, hD⟩, hS.F ht⟩) hS.2.2 dX12_chain_35 hlocks
    · have h := xf h c8z
      refine lv_iload hx hb dX12_chain_19 (lv_at hl 3 rfl) ?_
      refine lv_i2l (v := v4.toInt64) hx hb dX12_chain_21 rfl ?_
      refine lv_lconst (v := (0 : Int64)) hx hb dX12_chain_22 (by decide) ?_
      refine lv_ldc2 (v := (3 : Int64)) hx hb hown (hts (.constantLong RX12 69 (3)) (List.mem_of_getElem? (i := 1) rfl)) dX12_chain_23 ?_
      obtain ⟨r9z, hr9z, h⟩ := xb_at h
      have hPc := hP.sub (ws' := (wd37 cyI cyJ cyZ)) [] rfl
      have hDc := hD.sub (ws' := (wd37 cyI cyJ cyZ)) [] (by decide) rfl
      refine cal_i [] [0, 1, 2] (va_runS (As := [.long v4.toInt64, .long (0 : Int64), .long (3 : Int64)]) (rest := []) ⟨hx, hb, hml, hown, hts⟩ (c_X12_in l dC dI cyI cyJ cyZ N r9z H.size  v4.toInt64 (0 : Int64) (3 : Int64)  hr9z) (va_cwS 3 hts gX12_chain_X12_in rfl rfl rfl hd_X12_in ⟨Nat.le_of_ble_eq_true rfl, Nat.le_of_ble_eq_true rfl⟩) ⟨pC.blind, pC.pre hPc hG hDc⟩ rfl rfl hl.1 rfl (lv_room (Nat.le_of_ble_eq_true rfl)) dX12_chain_26 ⟨Nat.zero_le _, Nat.zero_le _⟩) hP hD hS hA rfl rfl rfl (by decide) (fun x11z u10z H locs hw hP hD hS => ?_)
      obtain rfl := hw.symm
      have hP : va_P (dC, dI) vwCl (wd57 cyI cyJ cyZ q_Md q_mprimes q_mtold q_mtext q_mtable q_mstretch q_mfewest q_misOdd q_misHigh q_misTop q_mbits q_mpile m_length m_primeMany m_toldMany m_fate m_tail m_round m_tableKind m_areLaid m_unlike m_isFree a_mprimes a_mtold) H := hP.sub [0, 1, 2] rfl
      have hD : va_D A (wd57 cyI cyJ cyZ q_Md q_mprimes q_mtold q_mtext q_mtable q_mstretch q_mfewest q_misOdd q_misHigh q_misTop q_mbits q_mpile m_length m_primeMany m_toldMany m_fate m_tail m_round m_tableKind m_areLaid m_unlike m_isFree a_mprimes a_mtold) := hD.sub [0, 1, 2] (by decide) rfl
      refine lv_if_ne (tgt := 36) hx hb dX12_chain_29 (by decide) (fun c12z => ?_) (fun c12z => ?_)
      · have h := xf h c12z
        refine lv_aload_n hx hb dX12_chain_36 rfl (lv_at hl 0 rfl) ?_
        refine lv_iload_n hx hb dX12_chain_37 rfl (lv_at hl 1 rfl) ?_
        refine lv_lload_n hx hb dX12_chain_38 rfl (lv_at hl 2 rfl) ?_
        obtain ⟨r13z, hr13z, h⟩ := xb_at h
        have hPc := hP.sub (ws' := (wd57 cyI cyJ cyZ q_Md q_mprimes q_mtold q_mtext q_mtable q_mstretch q_mfewest q_misOdd q_misHigh q_misTop q_mbits q_mpile m_length m_primeMany m_toldMany m_fate m_tail m_round m_tableKind m_areLaid m_unlike m_isFree a_mprimes a_mtold)) [0, 1, 2] rfl
        have hDc := hD.sub (ws' := (wd57 cyI cyJ cyZ q_Md q_mprimes q_mtold q_mtext q_mtable q_mstretch q_mfewest q_misOdd q_misHigh q_misTop q_mbits q_mpile m_length m_primeMany m_toldMany m_fate m_tail m_round m_tableKind m_areLaid m_unlike m_isFree a_mprimes a_mtold)) [0, 1, 2] (by decide) rfl
        refine cal_v [0, 1, 2] [] (va_runV (As := [.int v1, .long v2]) (rest := []) ⟨hx, hb, hml, hown, hts⟩ (c_X12_layChain l dC dI cyI cyJ cyZ N r13z H.size q_Md q_mprimes q_mtold q_mtext q_mtable q_mstretch q_mfewest q_misOdd q_misHigh q_misTop q_mbits q_mpile v1 v2 m_length m_primeMany m_toldMany m_fate m_tail m_round m_tableKind m_areLaid m_unlike m_isFree a_mprimes a_mtold hr13z) (cwV 2 hts gX12_chain_X12_layChain rfl rfl rfl ⟨rfl, hd_X12_layChain⟩ ⟨Nat.le_of_ble_eq_true rfl, Nat.le_of_ble_eq_true rfl⟩) ⟨pC.blind, va_recv hK hPc (ci := 12) (q0 := 0) rfl rfl, pC.pre hPc hG hDc⟩ rfl rfl hl.1 rfl (lv_room (Nat.le_of_ble_eq_true rfl)) dX12_chain_39 ⟨Nat.zero_le _, Nat.zero_le _⟩) hP hD hS hA rfl rfl rfl (by decide) (fun u14z H locs _ hP hD hS => ?_)
        have hP : va_P (dC, dI) vwCl (wd57 cyI cyJ cyZ q_Md q_mprimes q_mtold q_mtext q_mtable q_mstretch q_mfewest q_misOdd q_misHigh q_misTop q_mbits q_mpile m_length r13z.1 r13z.2.1 r13z.2.2.1 r13z.2.2.2.1 r13z.2.2.2.2.1 m_tableKind m_areLaid m_unlike m_isFree r13z.2.2.2.2.2.1 r13z.2.2.2.2.2.2) H := hP.sub [0, 1, 2] rfl
        have hD : va_D A (wd57 cyI cyJ cyZ q_Md q_mprimes q_mtold q_mtext q_mtable q_mstretch q_mfewest q_misOdd q_misHigh q_misTop q_mbits q_mpile m_length r13z.1 r13z.2.1 r13z.2.2.1 r13z.2.2.2.1 r13z.2.2.2.2.1 m_tableKind m_areLaid m_unlike m_isFree r13z.2.2.2.2.2.1 r13z.2.2.2.2.2.2) := hD.sub [0, 1, 2] (by decide) rfl
        refine lv_iload hx hb dX12_chain_42 (lv_at hl 3 rfl) ?_
        refine lv_iconst (v := (3 : Int32)) hx hb dX12_chain_44 (by decide) ?_
        refine lv_icmp_ge (tgt := 81) hx hb dX12_chain_45 (by decide) (fun c16z => ?_) (fun c16z => ?_)
        · have h := xt h c16z
          refine lv_lconst (v := (0 : Int64)) hx hb dX12_chain_81 (by decide) ?_
          refine lv_lstore (lv' := [(5, .long (0 : Int64)), (0, .ref q_Md), (1, .int v1), (2, .long v2), (4, .int v4)]) hx hb dX12_chain_82 hl (by decide) rfl (fun ls hl => ?_)
          refine lv_iconst (v := (0 : Int32)) hx hb dX12_chain_84 (by decide) ?_
          refine lv_istore (lv' := [(7, .int (0 : Int32)), (5, .long (0 : Int64)), (0, .ref q_Md), (1, .int v1), (2, .long v2), (4, .int v4)]) hx hb dX12_chain_85 hl (by decide) rfl (fun ls hl => ?_)
          exact k_X12_chain_87 C0 N res q_Md q_mprimes q_mtold q_mtext q_mtable q_mstretch q_mfewest q_misOdd q_misHigh q_misTop q_mbits q_mpile m_length r13z.1 r13z.2.1 r13z.2.2.1 r13z.2.2.2.1 r13z.2.2.2.2.1 m_tableKind m_areLaid m_unlike m_isFree r13z.2.2.2.2.2.1 r13z.2.2.2.2.2.2 N (0 : Int64) (0 : Int32) h _ _ hP hD hS _ (lv_sub hl [2, 1, 0] rfl)
        · have h := xf h c16z
          refine lv_iload hx hb dX12_chain_48 (lv_at hl 3 rfl) ?_
          refine lv_if_ne (tgt := 61) hx hb dX12_chain_50 (by decide) (fun c23z => ?_) (fun c23z => ?_)
          · have h := xf h c23z
            refine lv_iload hx hb dX12_chain_61 (lv_at hl 3 rfl) ?_
            refine lv_iconst (v := (1 : Int32)) hx hb dX12_chain_63 (by decide) ?_
            refine lv_icmp_ne (tgt := 75) hx hb dX12_chain_64 (by decide) (fun c24z => ?_) (fun c24z => ?_)
            · have h := xf h c24z
              refine lv_aload_n hx hb dX12_chain_75 rfl (lv_at hl 0 rfl) ?_
              refine va_get (D := (dC, dI)) (ci := 12) (v := .int r13z.2.2.2.2.1) (C := RX12) (T := TX12) (N := 21) hx hb hts iw_X12_chain_X12 hown hK hP 0 rfl rfl 8 (by decide) (hts (.fieldLink RX12 95 "GoesIntoModel" "round" "I") (List.mem_of_getElem? (i := 5) rfl)) (fun _ h9 => h9) rfl dX12_chain_76 ?_
              refine lv_i2l (v := r13z.2.2.2.2.1.toInt64) hx hb dX12_chain_79 rfl ?_
              obtain rfl := Option.some.inj h
              exact W.lret (v := r13z.2.2.2.2.1.toInt64) hx hb hr (fun t ht hW => ⟨⟨_, (), rfl, rfl, by rw [ht]; exact hP, hD⟩, hS.F ht⟩) hS.2.2 dX12_chain_80 hlocks
            · have h := xt h c24z
              refine lv_aload_n hx hb dX12_chain_67 rfl (lv_at hl 0 rfl) ?_
              refine va_get (D := (dC, dI)) (ci := 12) (v := .int r13z.2.2.2.1) (C := RX12) (T := TX12) (N := 21) hx hb hts iw_X12_chain_X12 hown hK hP 0 rfl rfl 7 (by decide) (hts (.fieldLink RX12 98 "GoesIntoModel" "tail" "I") (List.mem_of_getElem? (i := 4) rfl)) (fun _ h9 => h9) rfl dX12_chain_68 ?_
              refine lv_i2l (v := r13z.2.2.2.1.toInt64) hx hb dX12_chain_71 rfl ?_
              refine lv_goto (tgt := 80) hx hb dX12_chain_72 (by decide) ?_
              obtain rfl := Option.some.inj h
              exact W.lret (v := r13z.2.2.2.1.toInt64) hx hb hr (fun t ht hW => ⟨⟨_, (), rfl, rfl, by rw [ht]; exact hP, hD⟩, hS.F ht⟩) hS.2.2 dX12_chain_80 hlocks
          · have h := xt h c23z
            refine lv_aload_n hx hb dX12_chain_53 rfl (lv_at hl 0 rfl) ?_
            refine va_get (D := (dC, dI)) (ci := 12) (v := .int r13z.2.2.1) (C := RX12) (T := TX12) (N := 21) hx hb hts iw_X12_chain_X12 hown hK hP 0 rfl rfl 6 (by decide) (hts (.fieldLink RX12 92 "GoesIntoModel" "fate" "I") (List.mem_of_getElem? (i := 3) rfl)) (fun _ h9 => h9) rfl dX12_chain_54 ?_
            refine lv_i2l (v := r13z.2.2.1.toInt64) hx hb dX12_chain_57 rfl ?_
            refine lv_goto (tgt := 80) hx hb dX12_chain_58 (by decide) ?_
            obtain rfl := Option.some.inj h
            exact W.lret (v := r13z.2.2.1.toInt64) hx hb hr (fun t ht hW => ⟨⟨_, (), rfl, rfl, by rw [ht]; exact hP, hD⟩, hS.F ht⟩) hS.2.2 dX12_chain_80 hlocks
      · have h := xt h c12z
        refine lv_ldc2 (v := (-1 : Int64)) hx hb hown (hts (.constantLong RX12 79 (-1)) (List.mem_of_getElem? (i := 2) rfl)) dX12_chain_32 ?_
        obtain rfl := Option.some.inj h
        exact W.lret (v := (-1 : Int64)) hx hb hr (fun t ht hW => ⟨⟨_, (), rfl, rfl, by rw [ht]; exact hP, hD⟩, hS.F ht⟩) hS.2.2 dX12_chain_35 hlocks
set_option maxRecDepth 100000 in
set_option maxHeartbeats 4000000 in
theorem c_X12_chain (l : Launch) (dC : Nat → ClassId) (dI : Nat → Nat → Nat) (cyI cyJ cyZ : ClassId) (N : Nat) (res : Int64 × Int32 × Int32 × Int32 × Int32 × Int32 × (Nat → Int64) × (Nat → Int64)) (sz : Nat) (q_Md : Nat) (q_mprimes : Nat) (q_mtold : Nat) (q_mtext : Nat) (q_mtable : Nat) (q_mstretch : Nat) (q_mfewest : Nat) (q_misOdd : Nat) (q_misHigh : Nat) (q_misTop : Nat) (q_mbits : Nat) (q_mpile : Nat) (v1 : Int32) (v2 : Int64) (v4 : Int32) (m_length : Int32) (m_primeMany : Int32) (m_toldMany : Int32) (m_fate : Int32) (m_tail : Int32) (m_round : Int32) (m_tableKind : Int32) (m_areLaid : Int32) (m_unlike : Int32) (m_isFree : Int32) (a_mprimes : Nat → Int64) (a_mtold : Nat → Int64) (h : f_X12_chain N v1 v2 v4 m_primeMany m_toldMany m_fate m_tail m_round a_mprimes a_mtold = some res) : Met l yX12_chain wsX12_chain rm_X12_chain (pC dC dI cyI cyJ cyZ [.ref q_Md, .int v1, .long v2, .int v4] sz (wd57 cyI cyJ cyZ q_Md q_mprimes q_mtold q_mtext q_mtable q_mstretch q_mfewest q_misOdd q_misHigh q_misTop q_mbits q_mpile m_length m_primeMany m_toldMany m_fate m_tail m_round m_tableKind m_areLaid m_unlike m_isFree a_mprimes a_mtold)) (va_Ql (fun (r : Int64) (_ : Unit) => r = res.1) (bW dC dI (fun (u : Unit) => (wd57 cyI cyJ cyZ q_Md q_mprimes q_mtold q_mtext q_mtable q_mstretch q_mfewest q_misOdd q_misHigh q_misTop q_mbits q_mpile m_length res.2.1 res.2.2.1 res.2.2.2.1 res.2.2.2.2.1 res.2.2.2.2.2.1 m_tableKind m_areLaid m_unlike m_isFree res.2.2.2.2.2.2.1 res.2.2.2.2.2.2.2)) (va_A (wd57 cyI cyJ cyZ q_Md q_mprimes q_mtold q_mtext q_mtable q_mstretch q_mfewest q_misOdd q_misHigh q_misTop q_mbits q_mpile m_length m_primeMany m_toldMany m_fate m_tail m_round m_tableKind m_areLaid m_unlike m_isFree a_mprimes a_mtold) sz)) (va_A (wd57 cyI cyJ cyZ q_Md q_mprimes q_mtold q_mtext q_mtable q_mstretch q_mfewest q_misOdd q_misHigh q_misTop q_mbits q_mpile m_length m_primeMany m_toldMany m_fate m_tail m_round m_tableKind m_areLaid m_unlike m_isFree a_mprimes a_mtold) sz)) 0 0 (va_A (wd57 cyI cyJ cyZ q_Md q_mprimes q_mtold q_mtext q_mtable q_mstretch q_mfewest q_misOdd q_misHigh q_misTop q_mbits q_mpile m_length m_primeMany m_toldMany m_fate m_tail m_round m_tableKind m_areLaid m_unlike m_isFree a_mprimes a_mtold) sz) := by
  refine Met.ofW (cc := cX12_chain) (maxL := 8) (ret := (some .long)) (by decide) rfl ?_
  intro p e s m args below meth c s₁ B hml hv
  obtain ⟨rfl, hsz, hP, hG, hD0⟩ := hv
  have hx := B.exec
  have hb := B.bytes
  have hr := B.returns
  have hts := atoms_spec (ws := wsX12_chain) B.pre
  have hown : s.vm.findClass RX12 = some m.cls := findClass_of_methodNamed B.named
  have hlocks := B.notSynchronized
  subst hsz
  have hD := hD0.self (sz := s.heap.size)
  generalize hAe : va_A (wd57 cyI cyJ cyZ q_Md q_mprimes q_mtold q_mtext q_mtable q_mstretch q_mfewest q_misOdd q_misHigh q_misTop q_mbits q_mpile m_length m_primeMany m_toldMany m_fate m_tail m_round m_tableKind m_areLaid m_unlike m_isFree a_mprimes a_mtold) s.heap.size = A at hD ⊢
  have hA : ∀ q : Nat, s.heap.size ≤ q → A q := fun q h => by rw [← hAe]; exact Or.inr h
  have hS : va_S A s.heap s.heap [] := va_S.rf
  have hl := lv_entry ([.ref q_Md, .int v1, .long v2, .int v4]) (n := 8) (Nat.le_of_ble_eq_true rfl)
  rw [lg_entry_eq]
  generalize (lg_sl ([.ref q_Md, .int v1, .long v2, .int v4]) ++ List.replicate (8 - (lg_sl ([.ref q_Md, .int v1, .long v2, .int v4])).length) Slot.unset).toArray = ls at hl ⊢
  have hl : lv_has ls 8 [(0, .ref q_Md), (1, .int v1), (2, .long v2), (4, .int v4)] := hl
  exact k_X12_chain_0 ⟨hx, hb, hr, hml, hown, hts, hlocks, hG, hA⟩ N res q_Md q_mprimes q_mtold q_mtext q_mtable q_mstretch q_mfewest q_misOdd q_misHigh q_misTop q_mbits q_mpile v1 v2 v4 m_length m_primeMany m_toldMany m_fate m_tail m_round m_tableKind m_areLaid m_unlike m_isFree a_mprimes a_mtold  h _ _ hP hD hS _ hl
abbrev rm_X12_step : Room := { frames := 4, cells := 0, slots := 0, locals := 110 }
theorem hd_X12_step : yX12_step.cls ≠ "java/lang/invoke/MethodHandle" ∧ yX12_step.cls ≠ "java/lang/invoke/VarHandle" ∧ (parseMethodDescriptor yX12_step.desc).map (fun d => d.parameters.length) = some 3 := by decide +kernel
theorem iw_X12_step_X12 : ∀ w ∈ wsX120, w ∈ wsX12_step := List.forall_mem_cons.mpr ⟨List.mem_of_getElem? (i := 36) rfl, List.forall_mem_cons.mpr ⟨List.mem_of_getElem? (i := 37) rfl, List.forall_mem_cons.mpr ⟨List.mem_of_getElem? (i := 38) rfl, List.forall_mem_cons.mpr ⟨List.mem_of_getElem? (i := 39) rfl, List.forall_mem_cons.mpr ⟨List.mem_of_getElem? (i := 40) rfl, List.forall_mem_cons.mpr ⟨List.mem_of_getElem? (i := 41) rfl, List.forall_mem_cons.mpr ⟨List.mem_of_getElem? (i := 42) rfl, List.forall_mem_cons.mpr ⟨List.mem_of_getElem? (i := 43) rfl, List.forall_mem_cons.mpr ⟨List.mem_of_getElem? (i := 44) rfl, List.forall_mem_cons.mpr ⟨List.mem_of_getElem? (i := 45) rfl, List.forall_mem_cons.mpr ⟨List.mem_of_getElem? (i := 46) rfl, List.forall_mem_cons.mpr ⟨List.mem_of_getElem? (i := 47) rfl, List.forall_mem_cons.mpr ⟨List.mem_of_getElem? (i := 48) rfl, List.forall_mem_cons.mpr ⟨List.mem_of_getElem? (i := 49) rfl, List.forall_mem_cons.mpr ⟨List.mem_of_getElem? (i := 50) rfl, List.forall_mem_cons.mpr ⟨List.mem_of_getElem? (i := 51) rfl, List.forall_mem_cons.mpr ⟨List.mem_of_getElem? (i := 52) rfl, List.forall_mem_cons.mpr ⟨List.mem_of_getElem? (i := 53) rfl, List.forall_mem_cons.mpr ⟨List.mem_of_getElem? (i := 54) rfl, List.forall_mem_cons.mpr ⟨List.mem_of_getElem? (i := 55) rfl, List.forall_mem_cons.mpr ⟨List.mem_of_getElem? (i := 56) rfl, fun _ h => absurd h List.not_mem_nil⟩⟩⟩⟩⟩⟩⟩⟩⟩⟩⟩⟩⟩⟩⟩⟩⟩⟩⟩⟩⟩
def f_X12_step (N : Nat) (v1 : Int32) (v2 : Int64) (v4 : Int32) (m_primeMany : Int32) (m_toldMany : Int32) (m_fate : Int32) (m_tail : Int32) (m_round : Int32) (a_mprimes : Nat → Int64) (a_mtold : Nat → Int64) : Option (Int64 × Int32 × Int32 × Int32 × Int32 × Int32 × (Nat → Int64) × (Nat → Int64)) :=
  Option.bind (f_X12_in N v1.toInt64 (1 : Int64) (3 : Int64)) fun r1z =>
  if r1z = 0 then
    some ((-1 : Int64), m_primeMany, m_toldMany, m_fate, m_tail, m_round, a_mprimes, a_mtold)
  else
    Option.bind (f_X12_isNumber N v2) fun r5z =>
    if r5z = 0 then
      some ((-1 : Int64), m_primeMany, m_toldMany, m_fate, m_tail, m_round, a_mprimes, a_mtold)
    else
      if 0 ≤ v4 then
        Option.bind (f_X12_layChain N v1 v2 m_primeMany m_toldMany m_fate m_tail m_round a_mprimes a_mtold) fun r10z =>
        if r10z.2.1 ≤ v4 then
          if r10z.2.2.1 = (1 : Int32) then
            if r10z.2.2.2.2.1 = 0 then
              none
            else
              xl (r10z.2.2.2.1 + ((v4 - r10z.2.2.2.1) - (v4 - r10z.2.2.2.1) / r10z.2.2.2.2.1 * r10z.2.2.2.2.1)) fun y18z =>
              if y18z < 0 ∨ 201 ≤ y18z.toNatClampNeg then
                none
              else
                some (r10z.2.2.2.2.2.2 y18z.toNatClampNeg, r10z.1, r10z.2.1, r10z.2.2.1, r10z.2.2.2.1, r10z.2.2.2.2.1, r10z.2.2.2.2.2.1, r10z.2.2.2.2.2.2)
          else
            if r10z.2.2.1 = 0 then
              if v4 = r10z.2.1 then
                some ((0 : Int64), r10z.1, r10z.2.1, r10z.2.2.1, r10z.2.2.2.1, r10z.2.2.2.2.1, r10z.2.2.2.2.2.1, r10z.2.2.2.2.2.2)
              else
                some ((-4 : Int64), r10z.1, r10z.2.1, r10z.2.2.1, r10z.2.2.2.1, r10z.2.2.2.2.1, r10z.2.2.2.2.2.1, r10z.2.2.2.2.2.2)
            else
              some ((-4 : Int64), r10z.1, r10z.2.1, r10z.2.2.1, r10z.2.2.2.1, r10z.2.2.2.2.1, r10z.2.2.2.2.2.1, r10z.2.2.2.2.2.2)
        else
          if v4 < 0 ∨ 201 ≤ v4.toNatClampNeg then
            none
          else
            some (r10z.2.2.2.2.2.2 v4.toNatClampNeg, r10z.1, r10z.2.1, r10z.2.2.1, r10z.2.2.2.1, r10z.2.2.2.2.1, r10z.2.2.2.2.2.1, r10z.2.2.2.2.2.2)
      else
        some ((-1 : Int64), m_primeMany, m_toldMany, m_fate, m_tail, m_round, a_mprimes, a_mtold)
set_option maxRecDepth 100000 in
set_option maxHeartbeats 4000000 in
theorem k_X12_step_0 {p : Program} {l : Launch} {e : Env} {s : State} {m : MethodId} {args : Array Value} {below : List Frame} {meth : Method} {c : Code} {dC : Nat → ClassId} {dI : Nat → Nat → Nat} {cyI cyJ cyZ : ClassId} {A : Nat → Prop} (C0 : mC p s m meth c args cX12_step (some .long) 5 RX12 wsX12_step (gK dC dI cyI cyJ cyZ) A) (N : Nat) (res : Int64 × Int32 × Int32 × Int32 × Int32 × Int32 × (Nat → Int64) × (Nat → Int64)) (q_Md : Nat) (q_mprimes : Nat) (q_mtold : Nat) (q_mtext : Nat) (q_mtable : Nat) (q_mstretch : Nat) (q_mfewest : Nat) (q_misOdd : Nat) (q_misHigh : Nat) (q_misTop : Nat) (q_mbits : Nat) (q_mpile : Nat) (v1 : Int32) (v2 : Int64) (v4 : Int32) (m_length : Int32) (m_primeMany : Int32) (m_toldMany : Int32) (m_fate : Int32) (m_tail : Int32) (m_round : Int32) (m_tableKind : Int32) (m_areLaid : Int32) (m_unlike : Int32) (m_isFree : Int32) (a_mprimes : Nat → Int64) (a_mtold : Nat → Int64) (h : f_X12_step N v1 v2 v4 m_primeMany m_toldMany m_fate m_tail m_round a_mprimes a_mtold = some res) : ∀ (H : Heap) (locs : List Loc), va_P (dC, dI) vwCl (wd57 cyI cyJ cyZ q_Md q_mprimes q_mtold q_mtext q_mtable q_mstretch q_mfewest q_misOdd q_misHigh q_misTop q_mbits q_mpile m_length m_primeMany m_toldMany m_fate m_tail m_round m_tableKind m_areLaid m_unlike m_isFree a_mprimes a_mtold) H → va_D A (wd57 cyI cyJ cyZ q_Md q_mprimes q_mtold q_mtext q_mtable q_mstretch q_mfewest q_misOdd q_misHigh q_misTop q_mbits q_mpile m_length m_primeMany m_toldMany m_fate m_tail m_round m_tableKind m_areLaid m_unlike m_isFree a_mprimes a_mtold) → va_S A s.heap H locs → ∀ (ls : Array Slot), lv_has ls 5 [(0, .ref q_Md), (1, .int v1), (2, .long v2), (4, .int v4)] → W p l e (headSpec wsX12_step rm_X12_step).room s m args below meth c H locs 0 0 (MQ below (va_Ql (fun (r : Int64) (_ : Unit) => r = res.1) (bW dC dI (fun (u : Unit) => (wd57 cyI cyJ cyZ q_Md q_mprimes q_mtold q_mtext q_mtable q_mstretch q_mfewest q_misOdd q_misHigh q_misTop q_mbits q_mpile m_length res.2.1 res.2.2.1 res.2.2.2.1 res.2.2.2.2.1 res.2.2.2.2.2.1 m_tableKind m_areLaid m_unlike m_isFree res.2.2.2.2.2.2.1 res.2.2.2.2.2.2.2)) A) A) args s 0 0 A) (F0 m 0 ls []) := by
  obtain ⟨hx, hb, hr, hml, hown, hts, hlocks, hG, hA⟩ := id C0
  have hK := hG.1
  intro H locs hP hD hS ls hl
  unfold f_X12_step at h
  refine lv_iload_n hx hb dX12_step_0 rfl (lv_at hl 1 rfl) ?_
  refine lv_i2l (v := v1.toInt64) hx hb dX12_step_1 rfl ?_
  refine lv_lconst (v := (1 : Int64)) hx hb dX12_step_2 (by decide) ?_
  refine lv_ldc2 (v := (3 : Int64)) hx hb hown (hts (.constantLong RX12 69 (3)) (List.mem_of_getElem? (i := 1) rfl)) dX12_step_3 ?_
  obtain ⟨r1z, hr1z, h⟩ := xb_at h
  have hPc := hP.sub (ws' := (wd37 cyI cyJ cyZ)) [] rfl
  have hDc := hD.sub (ws' := (wd37 cyI cyJ cyZ)) [] (by decide) rfl
  refine cal_i [] [0, 1, 2] (va_runS (As := [.long v1.toInt64, .long (1 : Int64), .long (3 : Int64)]) (rest := []) ⟨hx, hb, hml, hown, hts⟩ (c_X12_in l dC dI cyI cyJ cyZ N r1z H.size  v1.toInt64 (1 : Int64) (3 : Int64)  hr1z) (va_cwS 3 hts gX12_step_X12_in rfl rfl rfl hd_X12_in ⟨Nat.le_of_ble_eq_true rfl, Nat.le_of_ble_eq_true rfl⟩) ⟨pC.blind, pC.pre hPc hG hDc⟩ rfl rfl hl.1 rfl (lv_room (Nat.le_of_ble_eq_true rfl)) dX12_step_6 ⟨Nat.zero_le _, Nat.zero_le _⟩) hP hD hS hA rfl rfl rfl (by decide) (fun x3z u2z H locs hw hP hD hS => ?_)
  obtain rfl := hw.symm
  have hP : va_P (dC, dI) vwCl (wd57 cyI cyJ cyZ q_Md q_mprimes q_mtold q_mtext q_mtable q_mstretch q_mfewest q_misOdd q_misHigh q_misTop q_mbits q_mpile m_length m_primeMany m_toldMany m_fate m_tail m_round m_tableKind m_areLaid m_unlike m_isFree a_mprimes a_mtold) H := hP.sub [0, 1, 2] rfl
  have hD : va_D A (wd57 cyI cyJ cyZ q_Md q_mprimes q_mtold q_mtext q_mtable q_mstretch q_mfewest q_misOdd q_misHigh q_misTop q_mbits q_mpile m_length m_primeMany m_toldMany m_fate m_tail m_round m_tableKind m_areLaid m_unlike m_isFree a_mprimes a_mtold) := hD.sub [0, 1, 2] (by decide) rfl
  refine lv_if_eq (tgt := 24) hx hb dX12_step_9 (by decide) (fun c4z => ?_) (fun c4z => ?_)
  · have h := xt h c4z
    refine lv_ldc2 (v := (-1 : Int64)) hx hb hown (hts (.constantLong RX12 79 (-1)) (List.mem_of_getElem? (i := 2) rfl)) dX12_step_24 ?_
    obtain rfl := Option.some.inj h
    exact W.lret (v := (-1 : Int64)) hx hb hr (fun t ht hW => ⟨⟨_, (), rfl, rfl, by rw [ht]; exact hP, hD⟩, hS.F ht⟩) hS.2.2 dX12_step_27 hlocks
  · have h := xf h c4z
    refine lv_lload_n hx hb dX12_step_12 rfl (lv_at hl 2 rfl) ?_
    obtain ⟨r5z, hr5z, h⟩ := xb_at h
    have hPc := hP.sub (ws' := (wd37 cyI cyJ cyZ)) [] rfl
    have hDc := hD.sub (ws' := (wd37 cyI cyJ cyZ)) [] (by decide) rfl
    refine cal_i [] [0, 1, 2] (va_runS (As := [.long v2]) (rest := []) ⟨hx, hb, hml, hown, hts⟩ (c_X12_isNumber l dC dI cyI cyJ cyZ N r5z H.size  v2  hr5z) (va_cwS 1 hts gX12_step_X12_isNumber rfl rfl rfl hd_X12_isNumber ⟨Nat.le_of_ble_eq_true rfl, Nat.le_of_ble_eq_true rfl⟩) ⟨pC.blind, pC.pre hPc hG hDc⟩ rfl rfl hl.1 rfl (lv_room (Nat.le_of_ble_eq_true rfl)) dX12_step_13 ⟨Nat.zero_le _, Nat.zero_le _⟩) hP hD hS hA rfl rfl rfl (by decide) (fun x7z u6z H locs hw hP hD hS => ?_)
    obtain rfl := hw.symm
    have hP : va_P (dC, dI) vwCl (wd57 cyI cyJ cyZ q_Md q_mprimes q_mtold q_mtext q_mtable q_mstretch q_mfewest q_misOdd q_misHigh q_misTop q_mbits q_mpile m_length m_primeMany m_toldMany m_fate m_tail m_round m_tableKind m_areLaid m_unlike m_isFree a_mprimes a_mtold) H := hP.sub [0, 1, 2] rfl
    have hD : va_D A (wd57 cyI cyJ cyZ q_Md q_mprimes q_mtold q_mtext q_mtable q_mstretch q_mfewest q_misOdd q_misHigh q_misTop q_mbits q_mpile m_length m_primeMany m_toldMany m_fate m_tail m_round m_tableKind m_areLaid m_unlike m_isFree a_mprimes a_mtold) := hD.sub [0, 1, 2] (by decide) rfl
    refine lv_if_eq (tgt := 24) hx hb dX12_step_16 (by decide) (fun c8z => ?_) (fun c8z => ?_)
    · have h := xt h c8z
      refine lv_ldc2 (v := (-1 : Int64)) hx hb hown (hts (.constantLong RX12 79 (-1)) (List.mem_of_getElem? (i := 2) rfl)) dX12_step_24 ?_
      obtain rfl := Option.some.inj h
      exact W.lret (v := (-1 : Int64)) hx hb hr (fun t ht hW => ⟨⟨_, (), rfl, rfl, by rw [ht]; exact hP, hD⟩, hS.F ht⟩) hS.2.2 dX12_step_27 hlocks
    · have h := xf h c8z
      refine lv_iload hx hb dX12_step_19 (lv_at hl 3 rfl) ?_
      refine lv_if_ge (tgt := 28) hx hb dX12_step_21 (by decide) (fun c9z => ?_) (fun c9z => ?_)
      · have h := xt h c9z
        refine lv_aload_n hx hb dX12_step_28 rfl (lv_at hl 0 rfl) ?_
        refine lv_iload_n hx hb dX12_step_29 rfl (lv_at hl 1 rfl) ?_
        refine lv_lload_n hx hb dX12_step_30 rfl (lv_at hl 2 rfl) ?_
        obtain ⟨r10z, hr10z, h⟩ := xb_at h
        have hPc := hP.sub (ws' := (wd57 cyI cyJ cyZ q_Md q_mprimes q_mtold q_mtext q_mtable q_mstretch q_mfewest q_misOdd q_misHigh q_misTop q_mbits q_mpile m_length m_primeMany m_toldMany m_fate m_tail m_round m_tableKind m_areLaid m_unlike m_isFree a_mprimes a_mtold)) [0, 1, 2] rfl
        have hDc := hD.sub (ws' := (wd57 cyI cyJ cyZ q_Md q_mprimes q_mtold q_mtext q_mtable q_mstretch q_mfewest q_misOdd q_misHigh q_misTop q_mbits q_mpile m_length m_primeMany m_toldMany m_fate m_tail m_round m_tableKind m_areLaid m_unlike m_isFree a_mprimes a_mtold)) [0, 1, 2] (by decide) rfl
        refine cal_v [0, 1, 2] [] (va_runV (As := [.int v1, .long v2]) (rest := []) ⟨hx, hb, hml, hown, hts⟩ (c_X12_layChain l dC dI cyI cyJ cyZ N r10z H.size q_Md q_mprimes q_mtold q_mtext q_mtable q_mstretch q_mfewest q_misOdd q_misHigh q_misTop q_mbits q_mpile v1 v2 m_length m_primeMany m_toldMany m_fate m_tail m_round m_tableKind m_areLaid m_unlike m_isFree a_mprimes a_mtold hr10z) (cwV 2 hts gX12_step_X12_layChain rfl rfl rfl ⟨rfl, hd_X12_layChain⟩ ⟨Nat.le_of_ble_eq_true rfl, Nat.le_of_ble_eq_true rfl⟩) ⟨pC.blind, va_recv hK hPc (ci := 12) (q0 := 0) rfl rfl, pC.pre hPc hG hDc⟩ rfl rfl hl.1 rfl (lv_room (Nat.le_of_ble_eq_true rfl)) dX12_step_31 ⟨Nat.zero_le _, Nat.zero_le _⟩) hP hD hS hA rfl rfl rfl (by decide) (fun u11z H locs _ hP hD hS => ?_)
        have hP : va_P (dC, dI) vwCl (wd57 cyI cyJ cyZ q_Md q_mprimes q_mtold q_mtext q_mtable q_mstretch q_mfewest q_misOdd q_misHigh q_misTop q_mbits q_mpile m_length r10z.1 r10z.2.1 r10z.2.2.1 r10z.2.2.2.1 r10z.2.2.2.2.1 m_tableKind m_areLaid m_unlike m_isFree r10z.2.2.2.2.2.1 r10z.2.2.2.2.2.2) H := hP.sub [0, 1, 2] rfl
        have hD : va_D A (wd57 cyI cyJ cyZ q_Md q_mprimes q_mtold q_mtext q_mtable q_mstretch q_mfewest q_misOdd q_misHigh q_misTop q_mbits q_mpile m_length r10z.1 r10z.2.1 r10z.2.2.1 r10z.2.2.2.1 r10z.2.2.2.2.1 m_tableKind m_areLaid m_unlike m_isFree r10z.2.2.2.2.2.1 r10z.2.2.2.2.2.2) := hD.sub [0, 1, 2] (by decide) rfl
        refine lv_iload hx hb dX12_step_34 (lv_at hl 3 rfl) ?_
        refine lv_aload_n hx hb dX12_step_36 rfl (lv_at hl 0 rfl) ?_
        refine va_get (D := (dC, dI)) (ci := 12) (v := .int r10z.2.1) (C := RX12) (T := TX12) (N := 21) hx hb hts iw_X12_step_X12 hown hK hP 0 rfl rfl 4 (by decide) (hts (.fieldLink RX12 89 "GoesIntoModel" "toldMany" "I") (List.mem_of_getElem? (i := 3) rfl)) (fun _ h9 => h9) rfl dX12_step_37 ?_
        refine lv_icmp_ge (tgt := 51) hx hb dX12_step_40 (by decide) (fun c13z => ?_) (fun c13z => ?_)
        · have h := xt h c13z
          refine lv_aload_n hx hb dX12_step_51 rfl (lv_at hl 0 rfl) ?_
          refine va_get (D := (dC, dI)) (ci := 12) (v := .int r10z.2.2.1) (C := RX12) (T := TX12) (N := 21) hx hb hts iw_X12_step_X12 hown hK hP 0 rfl rfl 6 (by decide) (hts (.fieldLink RX12 92 "GoesIntoModel" "fate" "I") (List.mem_of_getElem? (i := 5) rfl)) (fun _ h9 => h9) rfl dX12_step_52 ?_
          refine lv_iconst (v := (1 : Int32)) hx hb dX12_step_55 (by decide) ?_
          refine lv_icmp_ne (tgt := 82) hx hb dX12_step_56 (by decide) (fun c14z => ?_) (fun c14z => ?_)
          · have h := xf h c14z
            refine lv_aload_n hx hb dX12_step_82 rfl (lv_at hl 0 rfl) ?_
            refine va_get (D := (dC, dI)) (ci := 12) (v := .int r10z.2.2.1) (C := RX12) (T := TX12) (N := 21) hx hb hts iw_X12_step_X12 hown hK hP 0 rfl rfl 6 (by decide) (hts (.fieldLink RX12 92 "GoesIntoModel" "fate" "I") (List.mem_of_getElem? (i := 5) rfl)) (fun _ h9 => h9) rfl dX12_step_83 ?_
            refine lv_if_ne (tgt := 102) hx hb dX12_step_86 (by decide) (fun c15z => ?_) (fun c15z => ?_)
            · have h := xf h c15z
              refine lv_ldc2 (v := (-4 : Int64)) hx hb hown (hts (.constantLong RX12 85 (-4)) (List.mem_of_getElem? (i := 8) rfl)) dX12_step_102 ?_
              obtain rfl := Option.some.inj h
              exact W.lret (v := (-4 : Int64)) hx hb hr (fun t ht hW => ⟨⟨_, (), rfl, rfl, by rw [ht]; exact hP, hD⟩, hS.F ht⟩) hS.2.2 dX12_step_105 hlocks
            · have h := xt h c15z
              refine lv_iload hx hb dX12_step_89 (lv_at hl 3 rfl) ?_
              refine lv_aload_n hx hb dX12_step_91 rfl (lv_at hl 0 rfl) ?_
              refine va_get (D := (dC, dI)) (ci := 12) (v := .int r10z.2.1) (C := RX12) (T := TX12) (N := 21) hx hb hts iw_X12_step_X12 hown hK hP 0 rfl rfl 4 (by decide) (hts (.fieldLink RX12 89 "GoesIntoModel" "toldMany" "I") (List.mem_of_getElem? (i := 3) rfl)) (fun _ h9 => h9) rfl dX12_step_92 ?_
              refine lv_icmp_ne (tgt := 102) hx hb dX12_step_95 (by decide) (fun c16z => ?_) (fun c16z => ?_)
              · have h := xf h c16z
                refine lv_ldc2 (v := (-4 : Int64)) hx hb hown (hts (.constantLong RX12 85 (-4)) (List.mem_of_getElem? (i := 8) rfl)) dX12_step_102 ?_
                obtain rfl := Option.some.inj h
                exact W.lret (v := (-4 : Int64)) hx hb hr (fun t ht hW => ⟨⟨_, (), rfl, rfl, by rw [ht]; exact hP, hD⟩, hS.F ht⟩) hS.2.2 dX12_step_105 hlocks
              · have h := xt h c16z
                refine lv_lconst (v := (0 : Int64)) hx hb dX12_step_98 (by decide) ?_
                refine lv_goto (tgt := 105) hx hb dX12_step_99 (by decide) ?_
                obtain rfl := Option.some.inj h
                exact W.lret (v := (0 : Int64)) hx hb hr (fun t ht hW => ⟨⟨_, (), rfl, rfl, by rw [ht]; exact hP, hD⟩, hS.F ht⟩) hS.2.2 dX12_step_105 hlocks
          · have h := xt h c14z
            refine lv_aload_n hx hb dX12_step_59 rfl (lv_at hl 0 rfl) ?_
            refine va_get (D := (dC, dI)) (ci := 12) (v := .ref q_mtold) (C := RX12) (T := TX12) (N := 21) hx hb hts iw_X12_step_X12 hown hK hP 0 rfl rfl 5 (by decide) (hts (.fieldLink RX12 17 "GoesIntoModel" "told" "[J") (List.mem_of_getElem? (i := 4) rfl)) (fun _ h9 => h9) rfl dX12_step_60 ?_
            refine lv_aload_n hx hb dX12_step_63 rfl (lv_at hl 0 rfl) ?_
            refine va_get (D := (dC, dI)) (ci := 12) (v := .int r10z.2.2.2.1) (C := RX12) (T := TX12) (N := 21) hx hb hts iw_X12_step_X12 hown hK hP 0 rfl rfl 7 (by decide) (hts (.fieldLink RX12 98 "GoesIntoModel" "tail" "I") (List.mem_of_getElem? (i := 6) rfl)) (fun _ h9 => h9) rfl dX12_step_64 ?_
            refine lv_iload hx hb dX12_step_67 (lv_at hl 3 rfl) ?_
            refine lv_aload_n hx hb dX12_step_69 rfl (lv_at hl 0 rfl) ?_
            refine va_get (D := (dC, dI)) (ci := 12) (v := .int r10z.2.2.2.1) (C := RX12) (T := TX12) (N := 21) hx hb hts iw_X12_step_X12 hown hK hP 0 rfl rfl 7 (by decide) (hts (.fieldLink RX12 98 "GoesIntoModel" "tail" "I") (List.mem_of_getElem? (i := 6) rfl)) (fun _ h9 => h9) rfl dX12_step_70 ?_
            refine lv_isub hx hb dX12_step_73 ?_
            refine lv_aload_n hx hb dX12_step_74 rfl (lv_at hl 0 rfl) ?_
            refine va_get (D := (dC, dI)) (ci := 12) (v := .int r10z.2.2.2.2.1) (C := RX12) (T := TX12) (N := 21) hx hb hts iw_X12_step_X12 hown hK hP 0 rfl rfl 8 (by decide) (hts (.fieldLink RX12 95 "GoesIntoModel" "round" "I") (List.mem_of_getElem? (i := 7) rfl)) (fun _ h9 => h9) rfl dX12_step_75 ?_
            obtain ⟨b17z, h⟩ := xn h
            refine lv_irem hx hb dX12_step_78 b17z ?_
            refine lv_iadd hx hb dX12_step_79 ?_
            refine lv_topi (fun y18z ey18z => ?_)
            have h := xl_at h ey18z
            obtain ⟨b19z, h⟩ := xn h
            refine va_lald hx hb hK hP 2 1 rfl rfl b19z dX12_step_80 ?_
            obtain rfl := Option.some.inj h
            exact W.lret (v := r10z.2.2.2.2.2.2 y18z.toNatClampNeg) hx hb hr (fun t ht hW => ⟨⟨_, (), rfl, rfl, by rw [ht]; exact hP, hD⟩, hS.F ht⟩) hS.2.2 dX12_step_81 hlocks
        · have h := xf h c13z
          refine lv_aload_n hx hb dX12_step_43 rfl (lv_at hl 0 rfl) ?_
          refine va_get (D := (dC, dI)) (ci := 12) (v := .ref q_mtold) (C := RX12) (T := TX12) (N := 21) hx hb hts iw_X12_step_X12 hown hK hP 0 rfl rfl 5 (by decide) (hts (.fieldLink RX12 17 "GoesIntoModel" "told" "[J") (List.mem_of_getElem? (i := 4) rfl)) (fun _ h9 => h9) rfl dX12_step_44 ?_
          refine lv_iload hx hb dX12_step_47 (lv_at hl 3 rfl) ?_
          obtain ⟨b20z, h⟩ := xn h
          refine va_lald hx hb hK hP 2 1 rfl rfl b20z dX12_step_49 ?_
          obtain rfl := Option.some.inj h
          exact W.lret (v := r10z.2.2.2.2.2.2 v4.toNatClampNeg) hx hb hr (fun t ht hW => ⟨⟨_, (), rfl, rfl, by rw [ht]; exact hP, hD⟩, hS.F ht⟩) hS.2.2 dX12_step_50 hlocks
      · have h := xf h c9z
        refine lv_ldc2 (v := (-1 : Int64)) hx hb hown (hts (.constantLong RX12 79 (-1)) (List.mem_of_getElem? (i := 2) rfl)) dX12_step_24 ?_
        obtain rfl := Option.some.inj h
        exact W.lret (v := (-1 : Int64)) hx hb hr (fun t ht hW => ⟨⟨_, (), rfl, rfl, by rw [ht]; exact hP, hD⟩, hS.F ht⟩) hS.2.2 dX12_step_27 hlocks
set_option maxRecDepth 100000 in
set_option maxHeartbeats 4000000 in
theorem c_X12_step (l : Launch) (dC : Nat → ClassId) (dI : Nat → Nat → Nat) (cyI cyJ cyZ : ClassId) (N : Nat) (res : Int64 × Int32 × Int32 × Int32 × Int32 × Int32 × (Nat → Int64) × (Nat → Int64)) (sz : Nat) (q_Md : Nat) (q_mprimes : Nat) (q_mtold : Nat) (q_mtext : Nat) (q_mtable : Nat) (q_mstretch : Nat) (q_mfewest : Nat) (q_misOdd : Nat) (q_misHigh : Nat) (q_misTop : Nat) (q_mbits : Nat) (q_mpile : Nat) (v1 : Int32) (v2 : Int64) (v4 : Int32) (m_length : Int32) (m_primeMany : Int32) (m_toldMany : Int32) (m_fate : Int32) (m_tail : Int32) (m_round : Int32) (m_tableKind : Int32) (m_areLaid : Int32) (m_unlike : Int32) (m_isFree : Int32) (a_mprimes : Nat → Int64) (a_mtold : Nat → Int64) (h : f_X12_step N v1 v2 v4 m_primeMany m_toldMany m_fate m_tail m_round a_mprimes a_mtold = some res) : Met l yX12_step wsX12_step rm_X12_step (pC dC dI cyI cyJ cyZ [.ref q_Md, .int v1, .long v2, .int v4] sz (wd57 cyI cyJ cyZ q_Md q_mprimes q_mtold q_mtext q_mtable q_mstretch q_mfewest q_misOdd q_misHigh q_misTop q_mbits q_mpile m_length m_primeMany m_toldMany m_fate m_tail m_round m_tableKind m_areLaid m_unlike m_isFree a_mprimes a_mtold)) (va_Ql (fun (r : Int64) (_ : Unit) => r = res.1) (bW dC dI (fun (u : Unit) => (wd57 cyI cyJ cyZ q_Md q_mprimes q_mtold q_mtext q_mtable q_mstretch q_mfewest q_misOdd q_misHigh q_misTop q_mbits q_mpile m_length res.2.1 res.2.2.1 res.2.2.2.1 res.2.2.2.2.1 res.2.2.2.2.2.1 m_tableKind m_areLaid m_unlike m_isFree res.2.2.2.2.2.2.1 res.2.2.2.2.2.2.2)) (va_A (wd57 cyI cyJ cyZ q_Md q_mprimes q_mtold q_mtext q_mtable q_mstretch q_mfewest q_misOdd q_misHigh q_misTop q_mbits q_mpile m_length m_primeMany m_toldMany m_fate m_tail m_round m_tableKind m_areLaid m_unlike m_isFree a_mprimes a_mtold) sz)) (va_A (wd57 cyI cyJ cyZ q_Md q_mprimes q_mtold q_mtext q_mtable q_mstretch q_mfewest q_misOdd q_misHigh q_misTop q_mbits q_mpile m_length m_primeMany m_toldMany m_fate m_tail m_round m_tableKind m_areLaid m_unlike m_isFree a_mprimes a_mtold) sz)) 0 0 (va_A (wd57 cyI cyJ cyZ q_Md q_mprimes q_mtold q_mtext q_mtable q_mstretch q_mfewest q_misOdd q_misHigh q_misTop q_mbits q_mpile m_length m_primeMany m_toldMany m_fate m_tail m_round m_tableKind m_areLaid m_unlike m_isFree a_mprimes a_mtold) sz) := by
  refine Met.ofW (cc := cX12_step) (maxL := 5) (ret := (some .long)) (by decide) rfl ?_
  intro p e s m args below meth c s₁ B hml hv
  obtain ⟨rfl, hsz, hP, hG, hD0⟩ := hv
  have hx := B.exec
  have hb := B.bytes
  have hr := B.returns
  have hts := atoms_spec (ws := wsX12_step) B.pre
  have hown : s.vm.findClass RX12 = some m.cls := findClass_of_methodNamed B.named
  have hlocks := B.notSynchronized
  subst hsz
  have hD := hD0.self (sz := s.heap.size)
  generalize hAe : va_A (wd57 cyI cyJ cyZ q_Md q_mprimes q_mtold q_mtext q_mtable q_mstretch q_mfewest q_misOdd q_misHigh q_misTop q_mbits q_mpile m_length m_primeMany m_toldMany m_fate m_tail m_round m_tableKind m_areLaid m_unlike m_isFree a_mprimes a_mtold) s.heap.size = A at hD ⊢
  have hA : ∀ q : Nat, s.heap.size ≤ q → A q := fun q h => by rw [← hAe]; exact Or.inr h
  have hS : va_S A s.heap s.heap [] := va_S.rf
  have hl := lv_entry ([.ref q_Md, .int v1, .long v2, .int v4]) (n := 5) (Nat.le_of_ble_eq_true rfl)
  rw [lg_entry_eq]
  generalize (lg_sl ([.ref q_Md, .int v1, .long v2, .int v4]) ++ List.replicate (5 - (lg_sl ([.ref q_Md, .int v1, .long v2, .int v4])).length) Slot.unset).toArray = ls at hl ⊢
  have hl : lv_has ls 5 [(0, .ref q_Md), (1, .int v1), (2, .long v2), (4, .int v4)] := hl
  exact k_X12_step_0 ⟨hx, hb, hr, hml, hown, hts, hlocks, hG, hA⟩ N res q_Md q_mprimes q_mtold q_mtext q_mtable q_mstretch q_mfewest q_misOdd q_misHigh q_misTop q_mbits q_mpile v1 v2 v4 m_length m_primeMany m_toldMany m_fate m_tail m_round m_tableKind m_areLaid m_unlike m_isFree a_mprimes a_mtold  h _ _ hP hD hS _ hl
/-- the cells Md, mprimes, mtable -/
abbrev wd58 (cyI cyJ cyZ : ClassId) (q_Md : Nat) (q_mprimes : Nat) (q_mtable : Nat) (q_mtext : Nat) (q_mtold : Nat) (q_mstretch : Nat) (q_mfewest : Nat) (q_misOdd : Nat) (q_misHigh : Nat) (q_misTop : Nat) (q_mbits : Nat) (q_mpile : Nat) (m_length : Int32) (m_primeMany : Int32) (m_toldMany : Int32) (m_fate : Int32) (m_tail : Int32) (m_round : Int32) (m_tableKind : Int32) (m_areLaid : Int32) (m_unlike : Int32) (m_isFree : Int32) (a_mprimes : Nat → Int64) (a_mtable : Nat → Int32) : va_W := [(q_Md, .inr (12, [.int m_length, .ref q_mtext, .int m_primeMany, .ref q_mprimes, .int m_toldMany, .ref q_mtold, .int m_fate, .int m_tail, .int m_round, .int m_tableKind, .ref q_mtable, .ref q_mstretch, .ref q_mfewest, .int m_areLaid, .ref q_misOdd, .ref q_misHigh, .ref q_misTop, .ref q_mbits, .int m_unlike, .int m_isFree, .ref q_mpile])), (q_mprimes, .inl (cyJ, 40, .inr (.inl a_mprimes))), (q_mtable, .inl (cyI, 50001, .inl a_mtable))]
abbrev rm_X12_layTable : Room := { frames := 3, cells := 0, slots := 0, locals := 83 }
theorem hd_X12_layTable : yX12_layTable.cls ≠ "java/lang/invoke/MethodHandle" ∧ yX12_layTable.cls ≠ "java/lang/invoke/VarHandle" ∧ (parseMethodDescriptor yX12_layTable.desc).map (fun d => d.parameters.length) = some 1 := by decide +kernel
theorem iw_X12_layTable_X12 : ∀ w ∈ wsX120, w ∈ wsX12_layTable := List.forall_mem_cons.mpr ⟨List.mem_of_getElem? (i := 20) rfl, List.forall_mem_cons.mpr ⟨List.mem_of_getElem? (i := 21) rfl, List.forall_mem_cons.mpr ⟨List.mem_of_getElem? (i := 22) rfl, List.forall_mem_cons.mpr ⟨List.mem_of_getElem? (i := 23) rfl, List.forall_mem_cons.mpr ⟨List.mem_of_getElem? (i := 24) rfl, List.forall_mem_cons.mpr ⟨List.mem_of_getElem? (i := 25) rfl, List.forall_mem_cons.mpr ⟨List.mem_of_getElem? (i := 26) rfl, List.forall_mem_cons.mpr ⟨List.mem_of_getElem? (i := 27) rfl, List.forall_mem_cons.mpr ⟨List.mem_of_getElem? (i := 28) rfl, List.forall_mem_cons.mpr ⟨List.mem_of_getElem? (i := 29) rfl, List.forall_mem_cons.mpr ⟨List.mem_of_getElem? (i := 30) rfl, List.forall_mem_cons.mpr ⟨List.mem_of_getElem? (i := 31) rfl, List.forall_mem_cons.mpr ⟨List.mem_of_getElem? (i := 32) rfl, List.forall_mem_cons.mpr ⟨List.mem_of_getElem? (i := 33) rfl, List.forall_mem_cons.mpr ⟨List.mem_of_getElem? (i := 34) rfl, List.forall_mem_cons.mpr ⟨List.mem_of_getElem? (i := 35) rfl, List.forall_mem_cons.mpr ⟨List.mem_of_getElem? (i := 36) rfl, List.forall_mem_cons.mpr ⟨List.mem_of_getElem? (i := 37) rfl, List.forall_mem_cons.mpr ⟨List.mem_of_getElem? (i := 38) rfl, List.forall_mem_cons.mpr ⟨List.mem_of_getElem? (i := 39) rfl, List.forall_mem_cons.mpr ⟨List.mem_of_getElem? (i := 40) rfl, fun _ h => absurd h List.not_mem_nil⟩⟩⟩⟩⟩⟩⟩⟩⟩⟩⟩⟩⟩⟩⟩⟩⟩⟩⟩⟩⟩
def j_X12_layTable_123 (N : Nat) (k_74 : (Int32 × (Nat → Int32)) → Option (Int32 × Int32 × (Nat → Int64) × (Nat → Int32))) (v2 : Int32) (v3 : Int32) (s0 : Int32) (s1 : Int32) (s2 : Int32) (a_mtable : Nat → Int32) : Option (Int32 × Int32 × (Nat → Int64) × (Nat → Int32)) :=
  xl (s1 + s0) fun y11z =>
  if s2 < 0 ∨ 50001 ≤ s2.toNatClampNeg then
    none
  else
    xl (v3 + v2) fun y13z =>
    k_74 (y13z, upd a_mtable s2.toNatClampNeg y11z)
set_option maxRecDepth 100000 in
set_option maxHeartbeats 4000000 in
theorem k_X12_layTable_123 {p : Program} {l : Launch} {e : Env} {s : State} {m : MethodId} {args : Array Value} {below : List Frame} {meth : Method} {c : Code} {dC : Nat → ClassId} {dI : Nat → Nat → Nat} {cyI cyJ cyZ : ClassId} {A : Nat → Prop} (C0 : mC p s m meth c args cX12_layTable none 5 RX12 wsX12_layTable (gK dC dI cyI cyJ cyZ) A) (N : Nat) (res : Int32 × Int32 × (Nat → Int64) × (Nat → Int32)) (q_Md : Nat) (q_mprimes : Nat) (q_mtable : Nat) (q_mtext : Nat) (q_mtold : Nat) (q_mstretch : Nat) (q_mfewest : Nat) (q_misOdd : Nat) (q_misHigh : Nat) (q_misTop : Nat) (q_mbits : Nat) (q_mpile : Nat) (v1 : Int32) (s0 : Int32) (s1 : Int32) (s2 : Int32) (m_length : Int32) (m_primeMany : Int32) (m_toldMany : Int32) (m_fate : Int32) (m_tail : Int32) (m_round : Int32) (m_tableKind : Int32) (m_areLaid : Int32) (m_unlike : Int32) (m_isFree : Int32) (a_mprimes : Nat → Int64) (v2 : Int32) (k_74 : (Int32 × (Nat → Int32)) → Option (Int32 × Int32 × (Nat → Int64) × (Nat → Int32))) (hk_74 : ∀ (v3 : Int32) (a_mtable : Nat → Int32), k_74 (v3, a_mtable) = some res → ∀ (H : Heap) (locs : List Loc), va_P (dC, dI) vwCl (wd58 cyI cyJ cyZ q_Md q_mprimes q_mtable q_mtext q_mtold q_mstretch q_mfewest q_misOdd q_misHigh q_misTop q_mbits q_mpile m_length m_primeMany m_toldMany m_fate m_tail m_round m_tableKind m_areLaid m_unlike m_isFree a_mprimes a_mtable) H → va_D A (wd58 cyI cyJ cyZ q_Md q_mprimes q_mtable q_mtext q_mtold q_mstretch q_mfewest q_misOdd q_misHigh q_misTop q_mbits q_mpile m_length m_primeMany m_toldMany m_fate m_tail m_round m_tableKind m_areLaid m_unlike m_isFree a_mprimes a_mtable) → va_S A s.heap H locs → ∀ (ls : Array Slot), lv_has ls 5 [(0, .ref q_Md), (1, .int v1), (2, .int v2), (3, .int v3)] → W p l e (headSpec wsX12_layTable rm_X12_layTable).room s m args below meth c H locs 0 0 (MQ below (va_Qv (fun (_ : Unit) => True) (bW dC dI (fun (u : Unit) => (wd58 cyI cyJ cyZ q_Md q_mprimes q_mtable q_mtext q_mtold q_mstretch q_mfewest q_misOdd q_misHigh q_misTop q_mbits q_mpile m_length res.1 m_toldMany m_fate m_tail m_round res.2.1 m_areLaid m_unlike m_isFree res.2.2.1 res.2.2.2)) A) A) args s 0 0 A) (F0 m 74 ls [])) (v3 : Int32) (a_mtable : Nat → Int32) (h : j_X12_layTable_123 N k_74 v2 v3 s0 s1 s2 a_mtable = some res) : ∀ (H : Heap) (locs : List Loc), va_P (dC, dI) vwCl (wd58 cyI cyJ cyZ q_Md q_mprimes q_mtable q_mtext q_mtold q_mstretch q_mfewest q_misOdd q_misHigh q_misTop q_mbits q_mpile m_length m_primeMany m_toldMany m_fate m_tail m_round m_tableKind m_areLaid m_unlike m_isFree a_mprimes a_mtable) H → va_D A (wd58 cyI cyJ cyZ q_Md q_mprimes q_mtable q_mtext q_mtold q_mstretch q_mfewest q_misOdd q_misHigh q_misTop q_mbits q_mpile m_length m_primeMany m_toldMany m_fate m_tail m_round m_tableKind m_areLaid m_unlike m_isFree a_mprimes a_mtable) → va_S A s.heap H locs → ∀ (ls : Array Slot), lv_has ls 5 [(0, .ref q_Md), (1, .int v1), (2, .int v2), (3, .int v3)] → W p l e (headSpec wsX12_layTable rm_X12_layTable).room s m args below meth c H locs 0 0 (MQ below (va_Qv (fun (_ : Unit) => True) (bW dC dI (fun (u : Unit) => (wd58 cyI cyJ cyZ q_Md q_mprimes q_mtable q_mtext q_mtold q_mstretch q_mfewest q_misOdd q_misHigh q_misTop q_mbits q_mpile m_length res.1 m_toldMany m_fate m_tail m_round res.2.1 m_areLaid m_unlike m_isFree res.2.2.1 res.2.2.2)) A) A) args s 0 0 A) (F0 m 123 ls [.int s0, .int s1, .int s2, .ref q_mtable]) := by
  obtain ⟨hx, hb, hr, hml, hown, hts, hlocks, hG, hA⟩ := id C0
  have hK := hG.1
  intro H locs hP hD hS ls hl
  unfold j_X12_layTable_123 at h
  refine lv_iadd hx hb dX12_layTable_123 ?_
  refine lv_topi (fun y11z ey11z => ?_)
  have h := xl_at h ey11z
  obtain ⟨b12z, h⟩ := xn h
  refine va_iast hx hb hK hP hD hS 2 0 rfl rfl b12z dX12_layTable_124 (fun H locs hP hD hS => ?_)
  have hP : va_P (dC, dI) vwCl (wd58 cyI cyJ cyZ q_Md q_mprimes q_mtable q_mtext q_mtold q_mstretch q_mfewest q_misOdd q_misHigh q_misTop q_mbits q_mpile m_length m_primeMany m_toldMany m_fate m_tail m_round m_tableKind m_areLaid m_unlike m_isFree a_mprimes (upd a_mtable s2.toNatClampNeg y11z)) H := hP
  have hD : va_D A (wd58 cyI cyJ cyZ q_Md q_mprimes q_mtable q_mtext q_mtold q_mstretch q_mfewest q_misOdd q_misHigh q_misTop q_mbits q_mpile m_length m_primeMany m_toldMany m_fate m_tail m_round m_tableKind m_areLaid m_unlike m_isFree a_mprimes (upd a_mtable s2.toNatClampNeg y11z)) := hD
  refine lv_iload_n hx hb dX12_layTable_125 rfl (lv_at hl 3 rfl) ?_
  refine lv_iload_n hx hb dX12_layTable_126 rfl (lv_at hl 2 rfl) ?_
  refine lv_iadd hx hb dX12_layTable_127 ?_
  refine lv_topi (fun y13z ey13z => ?_)
  have h := xl_at h ey13z
  refine lv_istore_n (lv' := [(3, .int y13z), (0, .ref q_Md), (1, .int v1), (2, .int v2)]) hx hb dX12_layTable_128 rfl hl (by decide) rfl (fun ls hl => ?_)
  refine lv_goto (tgt := 74) hx hb dX12_layTable_129 (by decide) ?_
  exact hk_74 y13z (upd a_mtable s2.toNatClampNeg y11z) h _ _ hP hD hS _ (lv_sub hl [1, 2, 3, 0] rfl)
def j_X12_layTable_104 (N : Nat) (k_74 : (Int32 × (Nat → Int32)) → Option (Int32 × Int32 × (Nat → Int64) × (Nat → Int32))) (v2 : Int32) (v3 : Int32) (s0 : Int32) (a_mtable : Nat → Int32) : Option (Int32 × Int32 × (Nat → Int64) × (Nat → Int32)) :=
  if v3 < 0 ∨ 50001 ≤ v3.toNatClampNeg then
    none
  else
    if s0 = 0 then
      j_X12_layTable_123 N k_74 v2 v3 (0 : Int32) (a_mtable v3.toNatClampNeg) v3 a_mtable
    else
      j_X12_layTable_123 N k_74 v2 v3 v2 (a_mtable v3.toNatClampNeg) v3 a_mtable
set_option maxRecDepth 100000 in
set_option maxHeartbeats 4000000 in
theorem k_X12_layTable_104 {p : Program} {l : Launch} {e : Env} {s : State} {m : MethodId} {args : Array Value} {below : List Frame} {meth : Method} {c : Code} {dC : Nat → ClassId} {dI : Nat → Nat → Nat} {cyI cyJ cyZ : ClassId} {A : Nat → Prop} (C0 : mC p s m meth c args cX12_layTable none 5 RX12 wsX12_layTable (gK dC dI cyI cyJ cyZ) A) (N : Nat) (res : Int32 × Int32 × (Nat → Int64) × (Nat → Int32)) (q_Md : Nat) (q_mprimes : Nat) (q_mtable : Nat) (q_mtext : Nat) (q_mtold : Nat) (q_mstretch : Nat) (q_mfewest : Nat) (q_misOdd : Nat) (q_misHigh : Nat) (q_misTop : Nat) (q_mbits : Nat) (q_mpile : Nat) (v1 : Int32) (s0 : Int32) (m_length : Int32) (m_primeMany : Int32) (m_toldMany : Int32) (m_fate : Int32) (m_tail : Int32) (m_round : Int32) (m_tableKind : Int32) (m_areLaid : Int32) (m_unlike : Int32) (m_isFree : Int32) (a_mprimes : Nat → Int64) (v2 : Int32) (k_74 : (Int32 × (Nat → Int32)) → Option (Int32 × Int32 × (Nat → Int64) × (Nat → Int32))) (hk_74 : ∀ (v3 : Int32) (a_mtable : Nat → Int32), k_74 (v3, a_mtable) = some res → ∀ (H : Heap) (locs : List Loc), va_P (dC, dI) vwCl (wd58 cyI cyJ cyZ q_Md q_mprimes q_mtable q_mtext q_mtold q_mstretch q_mfewest q_misOdd q_misHigh q_misTop q_mbits q_mpile m_length m_primeMany m_toldMany m_fate m_tail m_round m_tableKind m_areLaid m_unlike m_isFree a_mprimes a_mtable) H → va_D A (wd58 cyI cyJ cyZ q_Md q_mprimes q_mtable q_mtext q_mtold q_mstretch q_mfewest q_misOdd q_misHigh q_misTop q_mbits q_mpile m_length m_primeMany m_toldMany m_fate m_tail m_round m_tableKind m_areLaid m_unlike m_isFree a_mprimes a_mtable) → va_S A s.heap H locs → ∀ (ls : Array Slot), lv_has ls 5 [(0, .ref q_Md), (1, .int v1), (2, .int v2), (3, .int v3)] → W p l e (headSpec wsX12_layTable rm_X12_layTable).room s m args below meth c H locs 0 0 (MQ below (va_Qv (fun (_ : Unit) => True) (bW dC dI (fun (u : Unit) => (wd58 cyI cyJ cyZ q_Md q_mprimes q_mtable q_mtext q_mtold q_mstretch q_mfewest q_misOdd q_misHigh q_misTop q_mbits q_mpile m_length res.1 m_toldMany m_fate m_tail m_round res.2.1 m_areLaid m_unlike m_isFree res.2.2.1 res.2.2.2)) A) A) args s 0 0 A) (F0 m 74 ls [])) (v3 : Int32) (a_mtable : Nat → Int32) (h : j_X12_layTable_104 N k_74 v2 v3 s0 a_mtable = some res) : ∀ (H : Heap) (locs : List Loc), va_P (dC, dI) vwCl (wd58 cyI cyJ cyZ q_Md q_mprimes q_mtable q_mtext q_mtold q_mstretch q_mfewest q_misOdd q_misHigh q_misTop q_mbits q_mpile m_length m_primeMany m_toldMany m_fate m_tail m_round m_tableKind m_areLaid m_unlike m_isFree a_mprimes a_mtable) H → va_D A (wd58 cyI cyJ cyZ q_Md q_mprimes q_mtable q_mtext q_mtold q_mstretch q_mfewest q_misOdd q_misHigh q_misTop q_mbits q_mpile m_length m_primeMany m_toldMany m_fate m_tail m_round m_tableKind m_areLaid m_unlike m_isFree a_mprimes a_mtable) → va_S A s.heap H locs → ∀ (ls : Array Slot), lv_has ls 5 [(0, .ref q_Md), (1, .int v1), (2, .int v2), (3, .int v3)] → W p l e (headSpec wsX12_layTable rm_X12_layTable).room s m args below meth c H locs 0 0 (MQ below (va_Qv (fun (_ : Unit) => True) (bW dC dI (fun (u : Unit) => (wd58 cyI cyJ cyZ q_Md q_mprimes q_mtable q_mtext q_mtold q_mstretch q_mfewest q_misOdd q_misHigh q_misTop q_mbits q_mpile m_length res.1 m_toldMany m_fate m_tail m_round res.2.1 m_areLaid m_unlike m_isFree res.2.2.1 res.2.2.2)) A) A) args s 0 0 A) (F0 m 104 ls [.int s0]) := by
  obtain ⟨hx, hb, hr, hml, hown, hts, hlocks, hG, hA⟩ := id C0
  have hK := hG.1
  intro H locs hP hD hS ls hl
  unfold j_X12_layTable_104 at h
  refine lv_istore (lv' := [(4, .int s0), (0, .ref q_Md), (1, .int v1), (2, .int v2), (3, .int v3)]) hx hb dX12_layTable_104 hl (by decide) rfl (fun ls hl => ?_)
  refine lv_aload_n hx hb dX12_layTable_106 rfl (lv_at hl 1 rfl) ?_
  refine va_get (D := (dC, dI)) (ci := 12) (v := .ref q_mtable) (C := RX12) (T := TX12) (N := 21) hx hb hts iw_X12_layTable_X12 hown hK hP 0 rfl rfl 10 (by decide) (hts (.fieldLink RX12 21 "GoesIntoModel" "table" "[I") (List.mem_of_getElem? (i := 2) rfl)) (fun _ h9 => h9) rfl dX12_layTable_107 ?_
  refine lv_iload_n hx hb dX12_layTable_110 rfl (lv_at hl 4 rfl) ?_
  refine lv_dup2_11 hx hb dX12_layTable_111 rfl rfl ?_
  obtain ⟨b9z, h⟩ := xn h
  refine va_iald hx hb hK hP 2 0 rfl rfl b9z dX12_layTable_112 ?_
  refine lv_iload hx hb dX12_layTable_113 (lv_at hl 0 rfl) ?_
  refine lv_if_eq (tgt := 122) hx hb dX12_layTable_115 (by decide) (fun c10z => ?_) (fun c10z => ?_)
  · have h := xt h c10z
    refine lv_iconst (v := (0 : Int32)) hx hb dX12_layTable_122 (by decide) ?_
    exact k_X12_layTable_123 C0 N res q_Md q_mprimes q_mtable q_mtext q_mtold q_mstretch q_mfewest q_misOdd q_misHigh q_misTop q_mbits q_mpile v1 (0 : Int32) (a_mtable v3.toNatClampNeg) v3 m_length m_primeMany m_toldMany m_fate m_tail m_round m_tableKind m_areLaid m_unlike m_isFree a_mprimes v2 k_74 hk_74 v3 a_mtable  h _ _ hP hD hS _ (lv_sub hl [1, 2, 3, 4] rfl)
  · have h := xf h c10z
    refine lv_iload_n hx hb dX12_layTable_118 rfl (lv_at hl 3 rfl) ?_
    refine lv_goto (tgt := 123) hx hb dX12_layTable_119 (by decide) ?_
    exact k_X12_layTable_123 C0 N res q_Md q_mprimes q_mtable q_mtext q_mtold q_mstretch q_mfewest q_misOdd q_misHigh q_misTop q_mbits q_mpile v1 v2 (a_mtable v3.toNatClampNeg) v3 m_length m_primeMany m_toldMany m_fate m_tail m_round m_tableKind m_areLaid m_unlike m_isFree a_mprimes v2 k_74 hk_74 v3 a_mtable  h _ _ hP hD hS _ (lv_sub hl [1, 2, 3, 4] rfl)
def j_X12_layTable_99 (N : Nat) (k_74 : (Int32 × (Nat → Int32)) → Option (Int32 × Int32 × (Nat → Int64) × (Nat → Int32))) (v2 : Int32) (v3 : Int32) (a_mtable : Nat → Int32) : Option (Int32 × Int32 × (Nat → Int64) × (Nat → Int32)) :=
  j_X12_layTable_104 N k_74 v2 v3 (1 : Int32) a_mtable
set_option maxRecDepth 100000 in
set_option maxHeartbeats 4000000 in
theorem k_X12_layTable_99 {p : Program} {l : Launch} {e : Env} {s : State} {m : MethodId} {args : Array Value} {below : List Frame} {meth : Method} {c : Code} {dC : Nat → ClassId} {dI : Nat → Nat → Nat} {cyI cyJ cyZ : ClassId} {A : Nat → Prop} (C0 : mC p s m meth c args cX12_layTable none 5 RX12 wsX12_layTable (gK dC dI cyI cyJ cyZ) A) (N : Nat) (res : Int32 × Int32 × (Nat → Int64) × (Nat → Int32)) (q_Md : Nat) (q_mprimes : Nat) (q_mtable : Nat) (q_mtext : Nat) (q_mtold : Nat) (q_mstretch : Nat) (q_mfewest : Nat) (q_misOdd : Nat) (q_misHigh : Nat) (q_misTop : Nat) (q_mbits : Nat) (q_mpile : Nat) (v1 : Int32) (m_length : Int32) (m_primeMany : Int32) (m_toldMany : Int32) (m_fate : Int32) (m_tail : Int32) (m_round : Int32) (m_tableKind : Int32) (m_areLaid : Int32) (m_unlike : Int32) (m_isFree : Int32) (a_mprimes : Nat → Int64) (v2 : Int32) (k_74 : (Int32 × (Nat → Int32)) → Option (Int32 × Int32 × (Nat → Int64) × (Nat → Int32))) (hk_74 : ∀ (v3 : Int32) (a_mtable : Nat → Int32), k_74 (v3, a_mtable) = some res → ∀ (H : Heap) (locs : List Loc), va_P (dC, dI) vwCl (wd58 cyI cyJ cyZ q_Md q_mprimes q_mtable q_mtext q_mtold q_mstretch q_mfewest q_misOdd q_misHigh q_misTop q_mbits q_mpile m_length m_primeMany m_toldMany m_fate m_tail m_round m_tableKind m_areLaid m_unlike m_isFree a_mprimes a_mtable) H → va_D A (wd58 cyI cyJ cyZ q_Md q_mprimes q_mtable q_mtext q_mtold q_mstretch q_mfewest q_misOdd q_misHigh q_misTop q_mbits q_mpile m_length m_primeMany m_toldMany m_fate m_tail m_round m_tableKind m_areLaid m_unlike m_isFree a_mprimes a_mtable) → va_S A s.heap H locs → ∀ (ls : Array Slot), lv_has ls 5 [(0, .ref q_Md), (1, .int v1), (2, .int v2), (3, .int v3)] → W p l e (headSpec wsX12_layTable rm_X12_layTable).room s m args below meth c H locs 0 0 (MQ below (va_Qv (fun (_ : Unit) => True) (bW dC dI (fun (u : Unit) => (wd58 cyI cyJ cyZ q_Md q_mprimes q_mtable q_mtext q_mtold q_mstretch q_mfewest q_misOdd q_misHigh q_misTop q_mbits q_mpile m_length res.1 m_toldMany m_fate m_tail m_round res.2.1 m_areLaid m_unlike m_isFree res.2.2.1 res.2.2.2)) A) A) args s 0 0 A) (F0 m 74 ls [])) (v3 : Int32) (a_mtable : Nat → Int32) (h : j_X12_layTable_99 N k_74 v2 v3 a_mtable = some res) : ∀ (H : Heap) (locs : List Loc), va_P (dC, dI) vwCl (wd58 cyI cyJ cyZ q_Md q_mprimes q_mtable q_mtext q_mtold q_mstretch q_mfewest q_misOdd q_misHigh q_misTop q_mbits q_mpile m_length m_primeMany m_toldMany m_fate m_tail m_round m_tableKind m_areLaid m_unlike m_isFree a_mprimes a_mtable) H → va_D A (wd58 cyI cyJ cyZ q_Md q_mprimes q_mtable q_mtext q_mtold q_mstretch q_mfewest q_misOdd q_misHigh q_misTop q_mbits q_mpile m_length m_primeMany m_toldMany m_fate m_tail m_round m_tableKind m_areLaid m_unlike m_isFree a_mprimes a_mtable) → va_S A s.heap H locs → ∀ (ls : Array Slot), lv_has ls 5 [(0, .ref q_Md), (1, .int v1), (2, .int v2), (3, .int v3)] → W p l e (headSpec wsX12_layTable rm_X12_layTable).room s m args below meth c H locs 0 0 (MQ below (va_Qv (fun (_ : Unit) => True) (bW dC dI (fun (u : Unit) => (wd58 cyI cyJ cyZ q_Md q_mprimes q_mtable q_mtext q_mtold q_mstretch q_mfewest q_misOdd q_misHigh q_misTop q_mbits q_mpile m_length res.1 m_toldMany m_fate m_tail m_round res.2.1 m_areLaid m_unlike m_isFree res.2.2.1 res.2.2.2)) A) A) args s 0 0 A) (F0 m 99 ls []) := by
  obtain ⟨hx, hb, hr, hml, hown, hts, hlocks, hG, hA⟩ := id C0
  have hK := hG.1
  intro H locs hP hD hS ls hl
  unfold j_X12_layTable_99 at h
  refine lv_iconst (v := (1 : Int32)) hx hb dX12_layTable_99 (by decide) ?_
  refine lv_goto (tgt := 104) hx hb dX12_layTable_100 (by decide) ?_
  exact k_X12_layTable_104 C0 N res q_Md q_mprimes q_mtable q_mtext q_mtold q_mstretch q_mfewest q_misOdd q_misHigh q_misTop q_mbits q_mpile v1 (1 : Int32) m_length m_primeMany m_toldMany m_fate m_tail m_round m_tableKind m_areLaid m_unlike m_isFree a_mprimes v2 k_74 hk_74 v3 a_mtable  h _ _ hP hD hS _ (lv_sub hl [0, 1, 2, 3] rfl)
def j_X12_layTable_103 (N : Nat) (k_74 : (Int32 × (Nat → Int32)) → Option (Int32 × Int32 × (Nat → Int64) × (Nat → Int32))) (v2 : Int32) (v3 : Int32) (a_mtable : Nat → Int32) : Option (Int32 × Int32 × (Nat → Int64) × (Nat → Int32)) :=
  j_X12_layTable_104 N k_74 v2 v3 (0 : Int32) a_mtable
set_option maxRecDepth 100000 in
set_option maxHeartbeats 4000000 in
theorem k_X12_layTable_103 {p : Program} {l : Launch} {e : Env} {s : State} {m : MethodId} {args : Array Value} {below : List Frame} {meth : Method} {c : Code} {dC : Nat → ClassId} {dI : Nat → Nat → Nat} {cyI cyJ cyZ : ClassId} {A : Nat → Prop} (C0 : mC p s m meth c args cX12_layTable none 5 RX12 wsX12_layTable (gK dC dI cyI cyJ cyZ) A) (N : Nat) (res : Int32 × Int32 × (Nat → Int64) × (Nat → Int32)) (q_Md : Nat) (q_mprimes : Nat) (q_mtable : Nat) (q_mtext : Nat) (q_mtold : Nat) (q_mstretch : Nat) (q_mfewest : Nat) (q_misOdd : Nat) (q_misHigh : Nat) (q_misTop : Nat) (q_mbits : Nat) (q_mpile : Nat) (v1 : Int32) (m_length : Int32) (m_primeMany : Int32) (m_toldMany : Int32) (m_fate : Int32) (m_tail : Int32) (m_round : Int32) (m_tableKind : Int32) (m_areLaid : Int32) (m_unlike : Int32) (m_isFree : Int32) (a_mprimes : Nat → Int64) (v2 : Int32) (k_74 : (Int32 × (Nat → Int32)) → Option (Int32 × Int32 × (Nat → Int64) × (Nat → Int32))) (hk_74 : ∀ (v3 : Int32) (a_mtable : Nat → Int32), k_74 (v3, a_mtable) = some res → ∀ (H : Heap) (locs : List Loc), va_P (dC, dI) vwCl (wd58 cyI cyJ cyZ q_Md q_mprimes q_mtable q_mtext q_mtold q_mstretch q_mfewest q_misOdd q_misHigh q_misTop q_mbits q_mpile m_length m_primeMany m_toldMany m_fate m_tail m_round m_tableKind m_areLaid m_unlike m_isFree a_mprimes a_mtable) H → va_D A (wd58 cyI cyJ cyZ q_Md q_mprimes q_mtable q_mtext q_mtold q_mstretch q_mfewest q_misOdd q_misHigh q_misTop q_mbits q_mpile m_length m_primeMany m_toldMany m_fate m_tail m_round m_tableKind m_areLaid m_unlike m_isFree a_mprimes a_mtable) → va_S A s.heap H locs → ∀ (ls : Array Slot), lv_has ls 5 [(0, .ref q_Md), (1, .int v1), (2, .int v2), (3, .int v3)] → W p l e (headSpec wsX12_layTable rm_X12_layTable).room s m args below meth c H locs 0 0 (MQ below (va_Qv (fun (_ : Unit) => True) (bW dC dI (fun (u : Unit) => (wd58 cyI cyJ cyZ q_Md q_mprimes q_mtable q_mtext q_mtold q_mstretch q_mfewest q_misOdd q_misHigh q_misTop q_mbits q_mpile m_length res.1 m_toldMany m_fate m_tail m_round res.2.1 m_areLaid m_unlike m_isFree res.2.2.1 res.2.2.2)) A) A) args s 0 0 A) (F0 m 74 ls [])) (v3 : Int32) (a_mtable : Nat → Int32) (h : j_X12_layTable_103 N k_74 v2 v3 a_mtable = some res) : ∀ (H : Heap) (locs : List Loc), va_P (dC, dI) vwCl (wd58 cyI cyJ cyZ q_Md q_mprimes q_mtable q_mtext q_mtold q_mstretch q_mfewest q_misOdd q_misHigh q_misTop q_mbits q_mpile m_length m_primeMany m_toldMany m_fate m_tail m_round m_tableKind m_areLaid m_unlike m_isFree a_mprimes a_mtable) H → va_D A (wd58 cyI cyJ cyZ q_Md q_mprimes q_mtable q_mtext q_mtold q_mstretch q_mfewest q_misOdd q_misHigh q_misTop q_mbits q_mpile m_length m_primeMany m_toldMany m_fate m_tail m_round m_tableKind m_areLaid m_unlike m_isFree a_mprimes a_mtable) → va_S A s.heap H locs → ∀ (ls : Array Slot), lv_has ls 5 [(0, .ref q_Md), (1, .int v1), (2, .int v2), (3, .int v3)] → W p l e (headSpec wsX12_layTable rm_X12_layTable).room s m args below meth c H locs 0 0 (MQ below (va_Qv (fun (_ : Unit) => True) (bW dC dI (fun (u : Unit) => (wd58 cyI cyJ cyZ q_Md q_mprimes q_mtable q_mtext q_mtold q_mstretch q_mfewest q_misOdd q_misHigh q_misTop q_mbits q_mpile m_length res.1 m_toldMany m_fate m_tail m_round res.2.1 m_areLaid m_unlike m_isFree res.2.2.1 res.2.2.2)) A) A) args s 0 0 A) (F0 m 103 ls []) := by
  obtain ⟨hx, hb, hr, hml, hown, hts, hlocks, hG, hA⟩ := id C0
  have hK := hG.1
  intro H locs hP hD hS ls hl
  unfold j_X12_layTable_103 at h
  refine lv_iconst (v := (0 : Int32)) hx hb dX12_layTable_103 (by decide) ?_
  exact k_X12_layTable_104 C0 N res q_Md q_mprimes q_mtable q_mtext q_mtold q_mstretch q_mfewest q_misOdd q_misHigh q_misTop q_mbits q_mpile v1 (0 : Int32) m_length m_primeMany m_toldMany m_fate m_tail m_round m_tableKind m_areLaid m_unlike m_isFree a_mprimes v2 k_74 hk_74 v3 a_mtable  h _ _ hP hD hS _ (lv_sub hl [0, 1, 2, 3] rfl)
def s_X12_layTable_74 (N : Nat) (k_66 : (Int32 × (Nat → Int32)) → Option (Int32 × Int32 × (Nat → Int64) × (Nat → Int32))) (v1 : Int32) (v2 : Int32) (k_74 : (Int32 × (Nat → Int32)) → Option (Int32 × Int32 × (Nat → Int64) × (Nat → Int32))) (v3 : Int32) (a_mtable : Nat → Int32) : Option (Int32 × Int32 × (Nat → Int64) × (Nat → Int32)) :=
  if (50000 : Int32) < v3 then
    xl (v2 + (1 : Int32)) fun y7z =>
    k_66 (y7z, a_mtable)
  else
    if v1 = 0 then
      j_X12_layTable_99 N k_74 v2 v3 a_mtable
    else
      if v3 = v2 then
        j_X12_layTable_103 N k_74 v2 v3 a_mtable
      else
        if v1 = (1 : Int32) then
          j_X12_layTable_99 N k_74 v2 v3 a_mtable
        else
          if v2 ≤ (1 : Int32) then
            j_X12_layTable_103 N k_74 v2 v3 a_mtable
          else
            j_X12_layTable_99 N k_74 v2 v3 a_mtable
def l_X12_layTable_74 (N : Nat) (k_66 : (Int32 × (Nat → Int32)) → Option (Int32 × Int32 × (Nat → Int64) × (Nat → Int32))) (v1 : Int32) (v2 : Int32) (n : Nat) (z : Int32 × (Nat → Int32)) : Option (Int32 × Int32 × (Nat → Int64) × (Nat → Int32)) := lp (fun k z => s_X12_layTable_74 N k_66 v1 v2 k z.1 z.2) n z
set_option maxRecDepth 100000 in
set_option maxHeartbeats 4000000 in
theorem k_X12_layTable_74 {p : Program} {l : Launch} {e : Env} {s : State} {m : MethodId} {args : Array Value} {below : List Frame} {meth : Method} {c : Code} {dC : Nat → ClassId} {dI : Nat → Nat → Nat} {cyI cyJ cyZ : ClassId} {A : Nat → Prop} (C0 : mC p s m meth c args cX12_layTable none 5 RX12 wsX12_layTable (gK dC dI cyI cyJ cyZ) A) (N : Nat) (res : Int32 × Int32 × (Nat → Int64) × (Nat → Int32)) (q_Md : Nat) (q_mprimes : Nat) (q_mtable : Nat) (q_mtext : Nat) (q_mtold : Nat) (q_mstretch : Nat) (q_mfewest : Nat) (q_misOdd : Nat) (q_misHigh : Nat) (q_misTop : Nat) (q_mbits : Nat) (q_mpile : Nat) (v1 : Int32) (m_length : Int32) (m_primeMany : Int32) (m_toldMany : Int32) (m_fate : Int32) (m_tail : Int32) (m_round : Int32) (m_tableKind : Int32) (m_areLaid : Int32) (m_unlike : Int32) (m_isFree : Int32) (a_mprimes : Nat → Int64) (k_66 : (Int32 × (Nat → Int32)) → Option (Int32 × Int32 × (Nat → Int64) × (Nat → Int32))) (hk_66 : ∀ (v2 : Int32) (a_mtable : Nat → Int32), k_66 (v2, a_mtable) = some res → ∀ (H : Heap) (locs : List Loc), va_P (dC, dI) vwCl (wd58 cyI cyJ cyZ q_Md q_mprimes q_mtable q_mtext q_mtold q_mstretch q_mfewest q_misOdd q_misHigh q_misTop q_mbits q_mpile m_length m_primeMany m_toldMany m_fate m_tail m_round m_tableKind m_areLaid m_unlike m_isFree a_mprimes a_mtable) H → va_D A (wd58 cyI cyJ cyZ q_Md q_mprimes q_mtable q_mtext q_mtold q_mstretch q_mfewest q_misOdd q_misHigh q_misTop q_mbits q_mpile m_length m_primeMany m_toldMany m_fate m_tail m_round m_tableKind m_areLaid m_unlike m_isFree a_mprimes a_mtable) → va_S A s.heap H locs → ∀ (ls : Array Slot), lv_has ls 5 [(0, .ref q_Md), (1, .int v1), (2, .int v2)] → W p l e (headSpec wsX12_layTable rm_X12_layTable).room s m args below meth c H locs 0 0 (MQ below (va_Qv (fun (_ : Unit) => True) (bW dC dI (fun (u : Unit) => (wd58 cyI cyJ cyZ q_Md q_mprimes q_mtable q_mtext q_mtold q_mstretch q_mfewest q_misOdd q_misHigh q_misTop q_mbits q_mpile m_length res.1 m_toldMany m_fate m_tail m_round res.2.1 m_areLaid m_unlike m_isFree res.2.2.1 res.2.2.2)) A) A) args s 0 0 A) (F0 m 66 ls [])) (v2 : Int32) : ∀ (n : Nat) (v3 : Int32) (a_mtable : Nat → Int32), l_X12_layTable_74 N k_66 v1 v2 n (v3, a_mtable) = some res → ∀ (H : Heap) (locs : List Loc), va_P (dC, dI) vwCl (wd58 cyI cyJ cyZ q_Md q_mprimes q_mtable q_mtext q_mtold q_mstretch q_mfewest q_misOdd q_misHigh q_misTop q_mbits q_mpile m_length m_primeMany m_toldMany m_fate m_tail m_round m_tableKind m_areLaid m_unlike m_isFree a_mprimes a_mtable) H → va_D A (wd58 cyI cyJ cyZ q_Md q_mprimes q_mtable q_mtext q_mtold q_mstretch q_mfewest q_misOdd q_misHigh q_misTop q_mbits q_mpile m_length m_primeMany m_toldMany m_fate m_tail m_round m_tableKind m_areLaid m_unlike m_isFree a_mprimes a_mtable) → va_S A s.heap H locs → ∀ (ls : Array Slot), lv_has ls 5 [(0, .ref q_Md), (1, .int v1), (2, .int v2), (3, .int v3)] → W p l e (headSpec wsX12_layTable rm_X12_layTable).room s m args below meth c H locs 0 0 (MQ below (va_Qv (fun (_ : Unit) => True) (bW dC dI (fun (u : Unit) => (wd58 cyI cyJ cyZ q_Md q_mprimes q_mtable q_mtext q_mtold q_mstretch q_mfewest q_misOdd q_misHigh q_misTop q_mbits q_mpile m_length res.1 m_toldMany m_fate m_tail m_round res.2.1 m_areLaid m_unlike m_isFree res.2.2.1 res.2.2.2)) A) A) args s 0 0 A) (F0 m 74 ls []) := by
  obtain ⟨hx, hb, hr, hml, hown, hts, hlocks, hG, hA⟩ := id C0
  have hK := hG.1
  intro n
  induction n with
  | zero =>
    intro v3 a_mtable h
    cases h
  | succ n ih =>
    intro v3 a_mtable h H locs hP hD hS ls hl
    have h : s_X12_layTable_74 N k_66 v1 v2 (l_X12_layTable_74 N k_66 v1 v2 n) v3 a_mtable = some res := h
    unfold s_X12_layTable_74 at h
    refine lv_iload_n hx hb dX12_layTable_74 rfl (lv_at hl 3 rfl) ?_
    refine lv_ldc (v := (50000 : Int32)) hx hb hown (hts (.constant RX12 105 (50000)) (List.mem_of_getElem? (i := 3) rfl)) dX12_layTable_75 ?_
    refine lv_icmp_gt (tgt := 132) hx hb dX12_layTable_77 (by decide) (fun c6z => ?_) (fun c6z => ?_)
    · have h := xt h c6z
      obtain ⟨y7z, ey7z⟩ : ∃ z : Int32, z = v2 + (1 : Int32) := ⟨_, rfl⟩
      have h := xl_at h ey7z
      refine lv_iinc (v := y7z) (lv' := [(2, .int y7z), (0, .ref q_Md), (1, .int v1), (3, .int v3)]) hx hb dX12_layTable_132 hl (k := 2) rfl (by rw [ey7z]; rfl) (by decide) rfl (fun ls hl => ?_)
      refine lv_goto (tgt := 66) hx hb dX12_layTable_135 (by decide) ?_
      exact hk_66 y7z a_mtable h _ _ hP hD hS _ (lv_sub hl [1, 2, 0] rfl)
    · have h := xf h c6z
      refine lv_iload_n hx hb dX12_layTable_80 rfl (lv_at hl 1 rfl) ?_
      refine lv_if_eq (tgt := 99) hx hb dX12_layTable_81 (by decide) (fun c8z => ?_) (fun c8z => ?_)
      · have h := xt h c8z
        exact k_X12_layTable_99 C0 N res q_Md q_mprimes q_mtable q_mtext q_mtold q_mstretch q_mfewest q_misOdd q_misHigh q_misTop q_mbits q_mpile v1 m_length m_primeMany m_toldMany m_fate m_tail m_round m_tableKind m_areLaid m_unlike m_isFree a_mprimes v2 _ ih v3 a_mtable  h _ _ hP hD hS _ (lv_sub hl [0, 1, 2, 3] rfl)
      · have h := xf h c8z
        refine lv_iload_n hx hb dX12_layTable_84 rfl (lv_at hl 3 rfl) ?_
        refine lv_iload_n hx hb dX12_layTable_85 rfl (lv_at hl 2 rfl) ?_
        refine lv_icmp_eq (tgt := 103) hx hb dX12_layTable_86 (by decide) (fun c14z => ?_) (fun c14z => ?_)
        · have h := xt h c14z
          exact k_X12_layTable_103 C0 N res q_Md q_mprimes q_mtable q_mtext q_mtold q_mstretch q_mfewest q_misOdd q_misHigh q_misTop q_mbits q_mpile v1 m_length m_primeMany m_toldMany m_fate m_tail m_round m_tableKind m_areLaid m_unlike m_isFree a_mprimes v2 _ ih v3 a_mtable  h _ _ hP hD hS _ (lv_sub hl [0, 1, 2, 3] rfl)
        · have h := xf h c14z
          refine lv_iload_n hx hb dX12_layTable_89 rfl (lv_at hl 1 rfl) ?_
          refine lv_iconst (v := (1 : Int32)) hx hb dX12_layTable_90 (by decide) ?_
          refine lv_icmp_eq (tgt := 99) hx hb dX12_layTable_91 (by decide) (fun c15z => ?_) (fun c15z => ?_)
          · have h := xt h c15z
            exact k_X12_layTable_99 C0 N res q_Md q_mprimes q_mtable q_mtext q_mtold q_mstretch q_mfewest q_misOdd q_misHigh q_misTop q_mbits q_mpile v1 m_length m_primeMany m_toldMany m_fate m_tail m_round m_tableKind m_areLaid m_unlike m_isFree a_mprimes v2 _ ih v3 a_mtable  h _ _ hP hD hS _ (lv_sub hl [0, 1, 2, 3] rfl)
          · have h := xf h c15z
            refine lv_iload_n hx hb dX12_layTable_94 rfl (lv_at hl 2 rfl) ?_
            refine lv_iconst (v := (1 : Int32)) hx hb dX12_layTable_95 (by decide) ?_
            refine lv_icmp_le (tgt := 103) hx hb dX12_layTable_96 (by decide) (fun c16z => ?_) (fun c16z => ?_)
            · have h := xt h c16z
              exact k_X12_layTable_103 C0 N res q_Md q_mprimes q_mtable q_mtext q_mtold q_mstretch q_mfewest q_misOdd q_misHigh q_misTop q_mbits q_mpile v1 m_length m_primeMany m_toldMany m_fate m_tail m_round m_tableKind m_areLaid m_unlike m_isFree a_mprimes v2 _ ih v3 a_mtable  h _ _ hP hD hS _ (lv_sub hl [0, 1, 2, 3] rfl)
            · have h := xf h c16z
              exact k_X12_layTable_99 C0 N res q_Md q_mprimes q_mtable q_mtext q_mtold q_mstretch q_mfewest q_misOdd q_misHigh q_misTop q_mbits q_mpile v1 m_length m_primeMany m_toldMany m_fate m_tail m_round m_tableKind m_areLaid m_unlike m_isFree a_mprimes v2 _ ih v3 a_mtable  h _ _ hP hD hS _ (lv_sub hl [0, 1, 2, 3] rfl)
def s_X12_layTable_66 (N : Nat) (v1 : Int32) (m_primeMany : Int32) (m_tableKind : Int32) (a_mprimes : Nat → Int64) (k_66 : (Int32 × (Nat → Int32)) → Option (Int32 × Int32 × (Nat → Int64) × (Nat → Int32))) (v2 : Int32) (a_mtable : Nat → Int32) : Option (Int32 × Int32 × (Nat → Int64) × (Nat → Int32)) :=
  if (50000 : Int32) < v2 then
    some (m_primeMany, m_tableKind, a_mprimes, a_mtable)
  else
    l_X12_layTable_74 N k_66 v1 v2 N (v2, a_mtable)
def l_X12_layTable_66 (N : Nat) (v1 : Int32) (m_primeMany : Int32) (m_tableKind : Int32) (a_mprimes : Nat → Int64) (n : Nat) (z : Int32 × (Nat → Int32)) : Option (Int32 × Int32 × (Nat → Int64) × (Nat → Int32)) := lp (fun k z => s_X12_layTable_66 N v1 m_primeMany m_tableKind a_mprimes k z.1 z.2) n z
set_option maxRecDepth 100000 in
set_option maxHeartbeats 4000000 in
theorem k_X12_layTable_66 {p : Program} {l : Launch} {e : Env} {s : State} {m : MethodId} {args : Array Value} {below : List Frame} {meth : Method} {c : Code} {dC : Nat → ClassId} {dI : Nat → Nat → Nat} {cyI cyJ cyZ : ClassId} {A : Nat → Prop} (C0 : mC p s m meth c args cX12_layTable none 5 RX12 wsX12_layTable (gK dC dI cyI cyJ cyZ) A) (N : Nat) (res : Int32 × Int32 × (Nat → Int64) × (Nat → Int32)) (q_Md : Nat) (q_mprimes : Nat) (q_mtable : Nat) (q_mtext : Nat) (q_mtold : Nat) (q_mstretch : Nat) (q_mfewest : Nat) (q_misOdd : Nat) (q_misHigh : Nat) (q_misTop : Nat) (q_mbits : Nat) (q_mpile : Nat) (v1 : Int32) (m_length : Int32) (m_primeMany : Int32) (m_toldMany : Int32) (m_fate : Int32) (m_tail : Int32) (m_round : Int32) (m_tableKind : Int32) (m_areLaid : Int32) (m_unlike : Int32) (m_isFree : Int32) (a_mprimes : Nat → Int64) : ∀ (n : Nat) (v2 : Int32) (a_mtable : Nat → Int32), l_X12_layTable_66 N v1 m_primeMany m_tableKind a_mprimes n (v2, a_mtable) = some res → ∀ (H : Heap) (locs : List Loc), va_P (dC, dI) vwCl (wd58 cyI cyJ cyZ q_Md q_mprimes q_mtable q_mtext q_mtold q_mstretch q_mfewest q_misOdd q_misHigh q_misTop q_mbits q_mpile m_length m_primeMany m_toldMany m_fate m_tail m_round m_tableKind m_areLaid m_unlike m_isFree a_mprimes a_mtable) H → va_D A (wd58 cyI cyJ cyZ q_Md q_mprimes q_mtable q_mtext q_mtold q_mstretch q_mfewest q_misOdd q_misHigh q_misTop q_mbits q_mpile m_length m_primeMany m_toldMany m_fate m_tail m_round m_tableKind m_areLaid m_unlike m_isFree a_mprimes a_mtable) → va_S A s.heap H locs → ∀ (ls : Array Slot), lv_has ls 5 [(0, .ref q_Md), (1, .int v1), (2, .int v2)] → W p l e (headSpec wsX12_layTable rm_X12_layTable).room s m args below meth c H locs 0 0 (MQ below (va_Qv (fun (_ : Unit) => True) (bW dC dI (fun (u : Unit) => (wd58 cyI cyJ cyZ q_Md q_mprimes q_mtable q_mtext q_mtold q_mstretch q_mfewest q_misOdd q_misHigh q_misTop q_mbits q_mpile m_length res.1 m_toldMany m_fate m_tail m_round res.2.1 m_areLaid m_unlike m_isFree res.2.2.1 res.2.2.2)) A) A) args s 0 0 A) (F0 m 66 ls []) := by
  obtain ⟨hx, hb, hr, hml, hown, hts, hlocks, hG, hA⟩ := id C0
  have hK := hG.1
  intro n
  induction n with
  | zero =>
    intro v2 a_mtable h
    cases h
  | succ n ih =>
    intro v2 a_mtable h H locs hP hD hS ls hl
    have h : s_X12_layTable_66 N v1 m_primeMany m_tableKind a_mprimes (l_X12_layTable_66 N v1 m_primeMany m_tableKind a_mprimes n) v2 a_mtable = some res := h
    unfold s_X12_layTable_66 at h
    refine lv_iload_n hx hb dX12_layTable_66 rfl (lv_at hl 2 rfl) ?_
    refine lv_ldc (v := (50000 : Int32)) hx hb hown (hts (.constant RX12 105 (50000)) (List.mem_of_getElem? (i := 3) rfl)) dX12_layTable_67 ?_
    refine lv_icmp_gt (tgt := 138) hx hb dX12_layTable_69 (by decide) (fun c5z => ?_) (fun c5z => ?_)
    · have h := xt h c5z
      obtain rfl := Option.some.inj h
      exact W.vret hx hb hr (fun t ht hW => ⟨⟨(), rfl, trivial, by rw [ht]; exact hP, hD⟩, hS.F ht⟩) hS.2.2 dX12_layTable_138 hlocks
    · have h := xf h c5z
      refine lv_iload_n hx hb dX12_layTable_72 rfl (lv_at hl 2 rfl) ?_
      refine lv_istore_n (lv' := [(3, .int v2), (0, .ref q_Md), (1, .int v1), (2, .int v2)]) hx hb dX12_layTable_73 rfl hl (by decide) rfl (fun ls hl => ?_)
      exact k_X12_layTable_74 C0 N res q_Md q_mprimes q_mtable q_mtext q_mtold q_mstretch q_mfewest q_misOdd q_misHigh q_misTop q_mbits q_mpile v1 m_length m_primeMany m_toldMany m_fate m_tail m_round m_tableKind m_areLaid m_unlike m_isFree a_mprimes _ ih v2 N v2 a_mtable h _ _ hP hD hS _ (lv_sub hl [1, 2, 3, 0] rfl)
def j_X12_layTable_58 (N : Nat) (v1 : Int32) (m_primeMany : Int32) (m_tableKind : Int32) (a_mprimes : Nat → Int64) (a_mtable : Nat → Int32) : Option (Int32 × Int32 × (Nat → Int64) × (Nat → Int32)) :=
  if v1 = (2 : Int32) then
    some (m_primeMany, m_tableKind, a_mprimes, a_mtable)
  else
    l_X12_layTable_66 N v1 m_primeMany m_tableKind a_mprimes N ((1 : Int32), a_mtable)
set_option maxRecDepth 100000 in
set_option maxHeartbeats 4000000 in
theorem k_X12_layTable_58 {p : Program} {l : Launch} {e : Env} {s : State} {m : MethodId} {args : Array Value} {below : List Frame} {meth : Method} {c : Code} {dC : Nat → ClassId} {dI : Nat → Nat → Nat} {cyI cyJ cyZ : ClassId} {A : Nat → Prop} (C0 : mC p s m meth c args cX12_layTable none 5 RX12 wsX12_layTable (gK dC dI cyI cyJ cyZ) A) (N : Nat) (res : Int32 × Int32 × (Nat → Int64) × (Nat → Int32)) (q_Md : Nat) (q_mprimes : Nat) (q_mtable : Nat) (q_mtext : Nat) (q_mtold : Nat) (q_mstretch : Nat) (q_mfewest : Nat) (q_misOdd : Nat) (q_misHigh : Nat) (q_misTop : Nat) (q_mbits : Nat) (q_mpile : Nat) (v1 : Int32) (m_length : Int32) (m_primeMany : Int32) (m_toldMany : Int32) (m_fate : Int32) (m_tail : Int32) (m_round : Int32) (m_tableKind : Int32) (m_areLaid : Int32) (m_unlike : Int32) (m_isFree : Int32) (a_mprimes : Nat → Int64) (a_mtable : Nat → Int32) (h : j_X12_layTable_58 N v1 m_primeMany m_tableKind a_mprimes a_mtable = some res) : ∀ (H : Heap) (locs : List Loc), va_P (dC, dI) vwCl (wd58 cyI cyJ cyZ q_Md q_mprimes q_mtable q_mtext q_mtold q_mstretch q_mfewest q_misOdd q_misHigh q_misTop q_mbits q_mpile m_length m_primeMany m_toldMany m_fate m_tail m_round m_tableKind m_areLaid m_unlike m_isFree a_mprimes a_mtable) H → va_D A (wd58 cyI cyJ cyZ q_Md q_mprimes q_mtable q_mtext q_mtold q_mstretch q_mfewest q_misOdd q_misHigh q_misTop q_mbits q_mpile m_length m_primeMany m_toldMany m_fate m_tail m_round m_tableKind m_areLaid m_unlike m_isFree a_mprimes a_mtable) → va_S A s.heap H locs → ∀ (ls : Array Slot), lv_has ls 5 [(0, .ref q_Md), (1, .int v1)] → W p l e (headSpec wsX12_layTable rm_X12_layTable).room s m args below meth c H locs 0 0 (MQ below (va_Qv (fun (_ : Unit) => True) (bW dC dI (fun (u : Unit) => (wd58 cyI cyJ cyZ q_Md q_mprimes q_mtable q_mtext q_mtold q_mstretch q_mfewest q_misOdd q_misHigh q_misTop q_mbits q_mpile m_length res.1 m_toldMany m_fate m_tail m_round res.2.1 m_areLaid m_unlike m_isFree res.2.2.1 res.2.2.2)) A) A) args s 0 0 A) (F0 m 58 ls []) := by
  obtain ⟨hx, hb, hr, hml, hown, hts, hlocks, hG, hA⟩ := id C0
  have hK := hG.1
  intro H locs hP hD hS ls hl
  unfold j_X12_layTable_58 at h
  refine lv_iload_n hx hb dX12_layTable_58 rfl (lv_at hl 1 rfl) ?_
  refine lv_iconst (v := (2 : Int32)) hx hb dX12_layTable_59 (by decide) ?_
  refine lv_icmp_ne (tgt := 64) hx hb dX12_layTable_60 (by decide) (fun c4z => ?_) (fun c4z => ?_)
  · have h := xf h c4z
    refine lv_iconst (v := (1 : Int32)) hx hb dX12_layTable_64 (by decide) ?_
    refine lv_istore_n (lv' := [(2, .int (1 : Int32)), (0, .ref q_Md), (1, .int v1)]) hx hb dX12_layTable_65 rfl hl (by decide) rfl (fun ls hl => ?_)
    exact k_X12_layTable_66 C0 N res q_Md q_mprimes q_mtable q_mtext q_mtold q_mstretch q_mfewest q_misOdd q_misHigh q_misTop q_mbits q_mpile v1 m_length m_primeMany m_toldMany m_fate m_tail m_round m_tableKind m_areLaid m_unlike m_isFree a_mprimes N (1 : Int32) a_mtable h _ _ hP hD hS _ (lv_sub hl [1, 2, 0] rfl)
  · have h := xt h c4z
    obtain rfl := Option.some.inj h
    exact W.vret hx hb hr (fun t ht hW => ⟨⟨(), rfl, trivial, by rw [ht]; exact hP, hD⟩, hS.F ht⟩) hS.2.2 dX12_layTable_63 hlocks
def j_X12_layTable_51 (N : Nat) (k_23 : (Int32 × Int32 × (Nat → Int64) × (Nat → Int32)) → Option (Int32 × Int32 × (Nat → Int64) × (Nat → Int32))) (v2 : Int32) (s0 : Int32) (s1 : Int32) (m_primeMany : Int32) (a_mprimes : Nat → Int64) (a_mtable : Nat → Int32) : Option (Int32 × Int32 × (Nat → Int64) × (Nat → Int32)) :=
  if s1 < 0 ∨ 50001 ≤ s1.toNatClampNeg then
    none
  else
    xl (v2 + (1 : Int32)) fun y19z =>
    k_23 (y19z, m_primeMany, a_mprimes, upd a_mtable s1.toNatClampNeg s0)
set_option maxRecDepth 100000 in
set_option maxHeartbeats 4000000 in
theorem k_X12_layTable_51 {p : Program} {l : Launch} {e : Env} {s : State} {m : MethodId} {args : Array Value} {below : List Frame} {meth : Method} {c : Code} {dC : Nat → ClassId} {dI : Nat → Nat → Nat} {cyI cyJ cyZ : ClassId} {A : Nat → Prop} (C0 : mC p s m meth c args cX12_layTable none 5 RX12 wsX12_layTable (gK dC dI cyI cyJ cyZ) A) (N : Nat) (res : Int32 × Int32 × (Nat → Int64) × (Nat → Int32)) (q_Md : Nat) (q_mprimes : Nat) (q_mtable : Nat) (q_mtext : Nat) (q_mtold : Nat) (q_mstretch : Nat) (q_mfewest : Nat) (q_misOdd : Nat) (q_misHigh : Nat) (q_misTop : Nat) (q_mbits : Nat) (q_mpile : Nat) (v1 : Int32) (s0 : Int32) (s1 : Int32) (m_length : Int32) (m_toldMany : Int32) (m_fate : Int32) (m_tail : Int32) (m_round : Int32) (m_tableKind : Int32) (m_areLaid : Int32) (m_unlike : Int32) (m_isFree : Int32) (k_23 : (Int32 × Int32 × (Nat → Int64) × (Nat → Int32)) → Option (Int32 × Int32 × (Nat → Int64) × (Nat → Int32))) (hk_23 : ∀ (v2 : Int32) (m_primeMany : Int32) (a_mprimes : Nat → Int64) (a_mtable : Nat → Int32), k_23 (v2, m_primeMany, a_mprimes, a_mtable) = some res → ∀ (H : Heap) (locs : List Loc), va_P (dC, dI) vwCl (wd58 cyI cyJ cyZ q_Md q_mprimes q_mtable q_mtext q_mtold q_mstretch q_mfewest q_misOdd q_misHigh q_misTop q_mbits q_mpile m_length m_primeMany m_toldMany m_fate m_tail m_round m_tableKind m_areLaid m_unlike m_isFree a_mprimes a_mtable) H → va_D A (wd58 cyI cyJ cyZ q_Md q_mprimes q_mtable q_mtext q_mtold q_mstretch q_mfewest q_misOdd q_misHigh q_misTop q_mbits q_mpile m_length m_primeMany m_toldMany m_fate m_tail m_round m_tableKind m_areLaid m_unlike m_isFree a_mprimes a_mtable) → va_S A s.heap H locs → ∀ (ls : Array Slot), lv_has ls 5 [(0, .ref q_Md), (1, .int v1), (2, .int v2)] → W p l e (headSpec wsX12_layTable rm_X12_layTable).room s m args below meth c H locs 0 0 (MQ below (va_Qv (fun (_ : Unit) => True) (bW dC dI (fun (u : Unit) => (wd58 cyI cyJ cyZ q_Md q_mprimes q_mtable q_mtext q_mtold q_mstretch q_mfewest q_misOdd q_misHigh q_misTop q_mbits q_mpile m_length res.1 m_toldMany m_fate m_tail m_round res.2.1 m_areLaid m_unlike m_isFree res.2.2.1 res.2.2.2)) A) A) args s 0 0 A) (F0 m 23 ls [])) (v2 : Int32) (m_primeMany : Int32) (a_mprimes : Nat → Int64) (a_mtable : Nat → Int32) (h : j_X12_layTable_51 N k_23 v2 s0 s1 m_primeMany a_mprimes a_mtable = some res) : ∀ (H : Heap) (locs : List Loc), va_P (dC, dI) vwCl (wd58 cyI cyJ cyZ q_Md q_mprimes q_mtable q_mtext q_mtold q_mstretch q_mfewest q_misOdd q_misHigh q_misTop q_mbits q_mpile m_length m_primeMany m_toldMany m_fate m_tail m_round m_tableKind m_areLaid m_unlike m_isFree a_mprimes a_mtable) H → va_D A (wd58 cyI cyJ cyZ q_Md q_mprimes q_mtable q_mtext q_mtold q_mstretch q_mfewest q_misOdd q_misHigh q_misTop q_mbits q_mpile m_length m_primeMany m_toldMany m_fate m_tail m_round m_tableKind m_areLaid m_unlike m_isFree a_mprimes a_mtable) → va_S A s.heap H locs → ∀ (ls : Array Slot), lv_has ls 5 [(0, .ref q_Md), (1, .int v1), (2, .int v2)] → W p l e (headSpec wsX12_layTable rm_X12_layTable).room s m args below meth c H locs 0 0 (MQ below (va_Qv (fun (_ : Unit) => True) (bW dC dI (fun (u : Unit) => (wd58 cyI cyJ cyZ q_Md q_mprimes q_mtable q_mtext q_mtold q_mstretch q_mfewest q_misOdd q_misHigh q_misTop q_mbits q_mpile m_length res.1 m_toldMany m_fate m_tail m_round res.2.1 m_areLaid m_unlike m_isFree res.2.2.1 res.2.2.2)) A) A) args s 0 0 A) (F0 m 51 ls [.int s0, .int s1, .ref q_mtable]) := by
  obtain ⟨hx, hb, hr, hml, hown, hts, hlocks, hG, hA⟩ := id C0
  have hK := hG.1
  intro H locs hP hD hS ls hl
  unfold j_X12_layTable_51 at h
  obtain ⟨b18z, h⟩ := xn h
  refine va_iast hx hb hK hP hD hS 2 0 rfl rfl b18z dX12_layTable_51 (fun H locs hP hD hS => ?_)
  have hP : va_P (dC, dI) vwCl (wd58 cyI cyJ cyZ q_Md q_mprimes q_mtable q_mtext q_mtold q_mstretch q_mfewest q_misOdd q_misHigh q_misTop q_mbits q_mpile m_length m_primeMany m_toldMany m_fate m_tail m_round m_tableKind m_areLaid m_unlike m_isFree a_mprimes (upd a_mtable s1.toNatClampNeg s0)) H := hP
  have hD : va_D A (wd58 cyI cyJ cyZ q_Md q_mprimes q_mtable q_mtext q_mtold q_mstretch q_mfewest q_misOdd q_misHigh q_misTop q_mbits q_mpile m_length m_primeMany m_toldMany m_fate m_tail m_round m_tableKind m_areLaid m_unlike m_isFree a_mprimes (upd a_mtable s1.toNatClampNeg s0)) := hD
  obtain ⟨y19z, ey19z⟩ : ∃ z : Int32, z = v2 + (1 : Int32) := ⟨_, rfl⟩
  have h := xl_at h ey19z
  refine lv_iinc (v := y19z) (lv' := [(2, .int y19z), (0, .ref q_Md), (1, .int v1)]) hx hb dX12_layTable_52 hl (k := 2) rfl (by rw [ey19z]; rfl) (by decide) rfl (fun ls hl => ?_)
  refine lv_goto (tgt := 23) hx hb dX12_layTable_55 (by decide) ?_
  exact hk_23 y19z m_primeMany a_mprimes (upd a_mtable s1.toNatClampNeg s0) h _ _ hP hD hS _ (lv_sub hl [1, 2, 0] rfl)
def s_X12_layTable_23 (N : Nat) (v1 : Int32) (m_tableKind : Int32) (k_23 : (Int32 × Int32 × (Nat → Int64) × (Nat → Int32)) → Option (Int32 × Int32 × (Nat → Int64) × (Nat → Int32))) (v2 : Int32) (m_primeMany : Int32) (a_mprimes : Nat → Int64) (a_mtable : Nat → Int32) : Option (Int32 × Int32 × (Nat → Int64) × (Nat → Int32)) :=
  if (50000 : Int32) < v2 then
    j_X12_layTable_58 N v1 m_primeMany m_tableKind a_mprimes a_mtable
  else
    if v1 = (2 : Int32) then
      Option.bind (f_X12_sumOf N (2 : Int32) v2.toInt64 m_primeMany a_mprimes) fun r20z =>
      j_X12_layTable_51 N k_23 v2 r20z.1.toInt32 v2 r20z.2.1 r20z.2.2 a_mtable
    else
      j_X12_layTable_51 N k_23 v2 (0 : Int32) v2 m_primeMany a_mprimes a_mtable
def l_X12_layTable_23 (N : Nat) (v1 : Int32) (m_tableKind : Int32) (n : Nat) (z : Int32 × Int32 × (Nat → Int64) × (Nat → Int32)) : Option (Int32 × Int32 × (Nat → Int64) × (Nat → Int32)) := lp (fun k z => s_X12_layTable_23 N v1 m_tableKind k z.1 z.2.1 z.2.2.1 z.2.2.2) n z
set_option maxRecDepth 100000 in
set_option maxHeartbeats 4000000 in
theorem k_X12_layTable_23 {p : Program} {l : Launch} {e : Env} {s : State} {m : MethodId} {args : Array Value} {below : List Frame} {meth : Method} {c : Code} {dC : Nat → ClassId} {dI : Nat → Nat → Nat} {cyI cyJ cyZ : ClassId} {A : Nat → Prop} (C0 : mC p s m meth c args cX12_layTable none 5 RX12 wsX12_layTable (gK dC dI cyI cyJ cyZ) A) (N : Nat) (res : Int32 × Int32 × (Nat → Int64) × (Nat → Int32)) (q_Md : Nat) (q_mprimes : Nat) (q_mtable : Nat) (q_mtext : Nat) (q_mtold : Nat) (q_mstretch : Nat) (q_mfewest : Nat) (q_misOdd : Nat) (q_misHigh : Nat) (q_misTop : Nat) (q_mbits : Nat) (q_mpile : Nat) (v1 : Int32) (m_length : Int32) (m_toldMany : Int32) (m_fate : Int32) (m_tail : Int32) (m_round : Int32) (m_tableKind : Int32) (m_areLaid : Int32) (m_unlike : Int32) (m_isFree : Int32) : ∀ (n : Nat) (v2 : Int32) (m_primeMany : Int32) (a_mprimes : Nat → Int64) (a_mtable : Nat → Int32), l_X12_layTable_23 N v1 m_tableKind n (v2, m_primeMany, a_mprimes, a_mtable) = some res → ∀ (H : Heap) (locs : List Loc), va_P (dC, dI) vwCl (wd58 cyI cyJ cyZ q_Md q_mprimes q_mtable q_mtext q_mtold q_mstretch q_mfewest q_misOdd q_misHigh q_misTop q_mbits q_mpile m_length m_primeMany m_toldMany m_fate m_tail m_round m_tableKind m_areLaid m_unlike m_isFree a_mprimes a_mtable) H → va_D A (wd58 cyI cyJ cyZ q_Md q_mprimes q_mtable q_mtext q_mtold q_mstretch q_mfewest q_misOdd q_misHigh q_misTop q_mbits q_mpile m_length m_primeMany m_toldMany m_fate m_tail m_round m_tableKind m_areLaid m_unlike m_isFree a_mprimes a_mtable) → va_S A s.heap H locs → ∀ (ls : Array Slot), lv_has ls 5 [(0, .ref q_Md), (1, .int v1), (2, .int v2)] → W p l e (headSpec wsX12_layTable rm_X12_layTable).room s m args below meth c H locs 0 0 (MQ below (va_Qv (fun (_ : Unit) => True) (bW dC dI (fun (u : Unit) => (wd58 cyI cyJ cyZ q_Md q_mprimes q_mtable q_mtext q_mtold q_mstretch q_mfewest q_misOdd q_misHigh q_misTop q_mbits q_mpile m_length res.1 m_toldMany m_fate m_tail m_round res.2.1 m_areLaid m_unlike m_isFree res.2.2.1 res.2.2.2)) A) A) args s 0 0 A) (F0 m 23 ls []) := by
  obtain ⟨hx, hb, hr, hml, hown, hts, hlocks, hG, hA⟩ := id C0
  have hK := hG.1
  intro n
  induction n with
  | zero =>
    intro v2 m_primeMany a_mprimes a_mtable h
    cases h
  | succ n ih =>
    intro v2 m_primeMany a_mprimes a_mtable h H locs hP hD hS ls hl
    have h : s_X12_layTable_23 N v1 m_tableKind (l_X12_layTable_23 N v1 m_tableKind n) v2 m_primeMany a_mprimes a_mtable = some res := h
    unfold s_X12_layTable_23 at h
    refine lv_iload_n hx hb dX12_layTable_23 rfl (lv_at hl 2 rfl) ?_
    refine lv_ldc (v := (50000 : Int32)) hx hb hown (hts (.constant RX12 105 (50000)) (List.mem_of_getElem? (i := 3) rfl)) dX12_layTable_24 ?_
    refine lv_icmp_gt (tgt := 58) hx hb dX12_layTable_26 (by decide) (fun c3z => ?_) (fun c3z => ?_)
    · have h := xt h c3z
      exact k_X12_layTable_58 C0 N res q_Md q_mprimes q_mtable q_mtext q_mtold q_mstretch q_mfewest q_misOdd q_misHigh q_misTop q_mbits q_mpile v1 m_length m_primeMany m_toldMany m_fate m_tail m_round m_tableKind m_areLaid m_unlike m_isFree a_mprimes a_mtable  h _ _ hP hD hS _ (lv_sub hl [0, 1] rfl)
    · have h := xf h c3z
      refine lv_aload_n hx hb dX12_layTable_29 rfl (lv_at hl 0 rfl) ?_
      refine va_get (D := (dC, dI)) (ci := 12) (v := .ref q_mtable) (C := RX12) (T := TX12) (N := 21) hx hb hts iw_X12_layTable_X12 hown hK hP 0 rfl rfl 10 (by decide) (hts (.fieldLink RX12 21 "GoesIntoModel" "table" "[I") (List.mem_of_getElem? (i := 2) rfl)) (fun _ h9 => h9) rfl dX12_layTable_30 ?_
      refine lv_iload_n hx hb dX12_layTable_33 rfl (lv_at hl 2 rfl) ?_
      refine lv_iload_n hx hb dX12_layTable_34 rfl (lv_at hl 1 rfl) ?_
      refine lv_iconst (v := (2 : Int32)) hx hb dX12_layTable_35 (by decide) ?_
      refine lv_icmp_ne (tgt := 50) hx hb dX12_layTable_36 (by decide) (fun c17z => ?_) (fun c17z => ?_)
      · have h := xf h c17z
        refine lv_iconst (v := (0 : Int32)) hx hb dX12_layTable_50 (by decide) ?_
        exact k_X12_layTable_51 C0 N res q_Md q_mprimes q_mtable q_mtext q_mtold q_mstretch q_mfewest q_misOdd q_misHigh q_misTop q_mbits q_mpile v1 (0 : Int32) v2 m_length m_toldMany m_fate m_tail m_round m_tableKind m_areLaid m_unlike m_isFree _ ih v2 m_primeMany a_mprimes a_mtable  h _ _ hP hD hS _ (lv_sub hl [0, 1, 2] rfl)
      · have h := xt h c17z
        refine lv_aload_n hx hb dX12_layTable_39 rfl (lv_at hl 0 rfl) ?_
        refine lv_iconst (v := (2 : Int32)) hx hb dX12_layTable_40 (by decide) ?_
        refine lv_iload_n hx hb dX12_layTable_41 rfl (lv_at hl 2 rfl) ?_
        refine lv_i2l (v := v2.toInt64) hx hb dX12_layTable_42 rfl ?_
        obtain ⟨r20z, hr20z, h⟩ := xb_at h
        have hPc := hP.sub (ws' := (wd55 cyI cyJ cyZ q_Md q_mprimes q_mtext q_mtold q_mtable q_mstretch q_mfewest q_misOdd q_misHigh q_misTop q_mbits q_mpile m_length m_primeMany m_toldMany m_fate m_tail m_round m_tableKind m_areLaid m_unlike m_isFree a_mprimes)) [0, 1] rfl
        have hDc := hD.sub (ws' := (wd55 cyI cyJ cyZ q_Md q_mprimes q_mtext q_mtold q_mtable q_mstretch q_mfewest q_misOdd q_misHigh q_misTop q_mbits q_mpile m_length m_primeMany m_toldMany m_fate m_tail m_round m_tableKind m_areLaid m_unlike m_isFree a_mprimes)) [0, 1] (by decide) rfl
        refine cal_l [0, 1] [2] (va_runV (As := [.int (2 : Int32), .long v2.toInt64]) (rest := [.int v2, .ref q_mtable]) ⟨hx, hb, hml, hown, hts⟩ (c_X12_sumOf l dC dI cyI cyJ cyZ N r20z H.size q_Md q_mprimes q_mtext q_mtold q_mtable q_mstretch q_mfewest q_misOdd q_misHigh q_misTop q_mbits q_mpile (2 : Int32) v2.toInt64 m_length m_primeMany m_toldMany m_fate m_tail m_round m_tableKind m_areLaid m_unlike m_isFree a_mprimes hr20z) (cwV 2 hts gX12_layTable_X12_sumOf rfl rfl rfl ⟨rfl, hd_X12_sumOf⟩ ⟨Nat.le_of_ble_eq_true rfl, Nat.le_of_ble_eq_true rfl⟩) ⟨pC.blind, va_recv hK hPc (ci := 12) (q0 := 0) rfl rfl, pC.pre hPc hG hDc⟩ rfl rfl hl.1 rfl (lv_room (Nat.le_of_ble_eq_true rfl)) dX12_layTable_43 ⟨Nat.zero_le _, Nat.zero_le _⟩) hP hD hS hA rfl rfl rfl (by decide) (fun x22z u21z H locs hw hP hD hS => ?_)
        obtain rfl := hw.symm
        have hP : va_P (dC, dI) vwCl (wd58 cyI cyJ cyZ q_Md q_mprimes q_mtable q_mtext q_mtold q_mstretch q_mfewest q_misOdd q_misHigh q_misTop q_mbits q_mpile m_length r20z.2.1 m_toldMany m_fate m_tail m_round m_tableKind m_areLaid m_unlike m_isFree r20z.2.2 a_mtable) H := hP.sub [1, 2, 0] rfl
        have hD : va_D A (wd58 cyI cyJ cyZ q_Md q_mprimes q_mtable q_mtext q_mtold q_mstretch q_mfewest q_misOdd q_misHigh q_misTop q_mbits q_mpile m_length r20z.2.1 m_toldMany m_fate m_tail m_round m_tableKind m_areLaid m_unlike m_isFree r20z.2.2 a_mtable) := hD.sub [1, 2, 0] (by decide) rfl
        refine lv_l2i (v := r20z.1.toInt32) hx hb dX12_layTable_46 rfl ?_
        refine lv_goto (tgt := 51) hx hb dX12_layTable_47 (by decide) ?_
        exact k_X12_layTable_51 C0 N res q_Md q_mprimes q_mtable q_mtext q_mtold q_mstretch q_mfewest q_misOdd q_misHigh q_misTop q_mbits q_mpile v1 r20z.1.toInt32 v2 m_length m_toldMany m_fate m_tail m_round m_tableKind m_areLaid m_unlike m_isFree _ ih v2 r20z.2.1 r20z.2.2 a_mtable  h _ _ hP hD hS _ (lv_sub hl [0, 1, 2] rfl)
def f_X12_layTable (N : Nat) (v1 : Int32) (m_primeMany : Int32) (m_tableKind : Int32) (a_mprimes : Nat → Int64) (a_mtable : Nat → Int32) : Option (Int32 × Int32 × (Nat → Int64) × (Nat → Int32)) :=
  if m_tableKind = v1 then
    some (m_primeMany, m_tableKind, a_mprimes, a_mtable)
  else
    if (0 : Int32) < 0 ∨ 50001 ≤ (0 : Int32).toNatClampNeg then
      none
    else
      l_X12_layTable_23 N v1 v1 N ((1 : Int32), m_primeMany, a_mprimes, upd a_mtable (0 : Int32).toNatClampNeg (0 : Int32))
set_option maxRecDepth 100000 in
set_option maxHeartbeats 4000000 in
theorem k_X12_layTable_0 {p : Program} {l : Launch} {e : Env} {s : State} {m : MethodId} {args : Array Value} {below : List Frame} {meth : Method} {c : Code} {dC : Nat → ClassId} {dI : Nat → Nat → Nat} {cyI cyJ cyZ : ClassId} {A : Nat → Prop} (C0 : mC p s m meth c args cX12_layTable none 5 RX12 wsX12_layTable (gK dC dI cyI cyJ cyZ) A) (N : Nat) (res : Int32 × Int32 × (Nat → Int64) × (Nat → Int32)) (q_Md : Nat) (q_mprimes : Nat) (q_mtable : Nat) (q_mtext : Nat) (q_mtold : Nat) (q_mstretch : Nat) (q_mfewest : Nat) (q_misOdd : Nat) (q_misHigh : Nat) (q_misTop : Nat) (q_mbits : Nat) (q_mpile : Nat) (v1 : Int32) (m_length : Int32) (m_primeMany : Int32) (m_toldMany : Int32) (m_fate : Int32) (m_tail : Int32) (m_round : Int32) (m_tableKind : Int32) (m_areLaid : Int32) (m_unlike : Int32) (m_isFree : Int32) (a_mprimes : Nat → Int64) (a_mtable : Nat → Int32) (h : f_X12_layTable N v1 m_primeMany m_tableKind a_mprimes a_mtable = some res) : ∀ (H : Heap) (locs : List Loc), va_P (dC, dI) vwCl (wd58 cyI cyJ cyZ q_Md q_mprimes q_mtable q_mtext q_mtold q_mstretch q_mfewest q_misOdd q_misHigh q_misTop q_mbits q_mpile m_length m_primeMany m_toldMany m_fate m_tail m_round m_tableKind m_areLaid m_unlike m_isFree a_mprimes a_mtable) H → va_D A (wd58 cyI cyJ cyZ q_Md q_mprimes q_mtable q_mtext q_mtold q_mstretch q_mfewest q_misOdd q_misHigh q_misTop q_mbits q_mpile m_length m_primeMany m_toldMany m_fate m_tail m_round m_tableKind m_areLaid m_unlike m_isFree a_mprimes a_mtable) → va_S A s.heap H locs → ∀ (ls : Array Slot), lv_has ls 5 [(0, .ref q_Md), (1, .int v1)] → W p l e (headSpec wsX12_layTable rm_X12_layTable).room s m args below meth c H locs 0 0 (MQ below (va_Qv (fun (_ : Unit) => True) (bW dC dI (fun (u : Unit) => (wd58 cyI cyJ cyZ q_Md q_mprimes q_mtable q_mtext q_mtold q_mstretch q_mfewest q_misOdd q_misHigh q_misTop q_mbits q_mpile m_length res.1 m_toldMany m_fate m_tail m_round res.2.1 m_areLaid m_unlike m_isFree res.2.2.1 res.2.2.2)) A) A) args s 0 0 A) (F0 m 0 ls []) := by
  obtain ⟨hx, hb, hr, hml, hown, hts, hlocks, hG, hA⟩ := id C0
  have hK := hG.1
  intro H locs hP hD hS ls hl
  unfold f_X12_layTable at h
  refine lv_aload_n hx hb dX12_layTable_0 rfl (lv_at hl 0 rfl) ?_
  refine va_get (D := (dC, dI)) (ci := 12) (v := .int m_tableKind) (C := RX12) (T := TX12) (N := 21) hx hb hts iw_X12_layTable_X12 hown hK hP 0 rfl rfl 9 (by decide) (hts (.fieldLink RX12 46 "GoesIntoModel" "tableKind" "I") (List.mem_of_getElem? (i := 1) rfl)) (fun _ h9 => h9) rfl dX12_layTable_1 ?_
  refine lv_iload_n hx hb dX12_layTable_4 rfl (lv_at hl 1 rfl) ?_
  refine lv_icmp_ne (tgt := 9) hx hb dX12_layTable_5 (by decide) (fun c1z => ?_) (fun c1z => ?_)
  · have h := xf h c1z
    refine lv_aload_n hx hb dX12_layTable_9 rfl (lv_at hl 0 rfl) ?_
    refine lv_iload_n hx hb dX12_layTable_10 rfl (lv_at hl 1 rfl) ?_
    refine va_put (D := (dC, dI)) (ci := 12) (v := .int v1) (ty := .int) (C := RX12) (T := TX12) (N := 21) hx hb hts iw_X12_layTable_X12 tyX12 tyX12_ok nmX12 hown hK hP hD hS 0 rfl rfl 9 (by decide) (hts (.fieldLink RX12 46 "GoesIntoModel" "tableKind" "I") (List.mem_of_getElem? (i := 1) rfl)) (fun _ h9 => h9) rfl (tyX12_ok 9 (by decide)) rfl rfl (Nat.le_of_ble_eq_true rfl) dX12_layTable_11 (fun H locs hP hD hS => ?_)
    have hP : va_P (dC, dI) vwCl (wd58 cyI cyJ cyZ q_Md q_mprimes q_mtable q_mtext q_mtold q_mstretch q_mfewest q_misOdd q_misHigh q_misTop q_mbits q_mpile m_length m_primeMany m_toldMany m_fate m_tail m_round v1 m_areLaid m_unlike m_isFree a_mprimes a_mtable) H := hP
    have hD : va_D A (wd58 cyI cyJ cyZ q_Md q_mprimes q_mtable q_mtext q_mtold q_mstretch q_mfewest q_misOdd q_misHigh q_misTop q_mbits q_mpile m_length m_primeMany m_toldMany m_fate m_tail m_round v1 m_areLaid m_unlike m_isFree a_mprimes a_mtable) := hD
    refine lv_aload_n hx hb dX12_layTable_14 rfl (lv_at hl 0 rfl) ?_
    refine va_get (D := (dC, dI)) (ci := 12) (v := .ref q_mtable) (C := RX12) (T := TX12) (N := 21) hx hb hts iw_X12_layTable_X12 hown hK hP 0 rfl rfl 10 (by decide) (hts (.fieldLink RX12 21 "GoesIntoModel" "table" "[I") (List.mem_of_getElem? (i := 2) rfl)) (fun _ h9 => h9) rfl dX12_layTable_15 ?_
    refine lv_iconst (v := (0 : Int32)) hx hb dX12_layTable_18 (by decide) ?_
    refine lv_iconst (v := (0 : Int32)) hx hb dX12_layTable_19 (by decide) ?_
    obtain ⟨b2z, h⟩ := xn h
    refine va_iast hx hb hK hP hD hS 2 0 rfl rfl b2z dX12_layTable_20 (fun H locs hP hD hS => ?_)
    have hP : va_P (dC, dI) vwCl (wd58 cyI cyJ cyZ q_Md q_mprimes q_mtable q_mtext q_mtold q_mstretch q_mfewest q_misOdd q_misHigh q_misTop q_mbits q_mpile m_length m_primeMany m_toldMany m_fate m_tail m_round v1 m_areLaid m_unlike m_isFree a_mprimes (upd a_mtable (0 : Int32).toNatClampNeg (0 : Int32))) H := hP
    have hD : va_D A (wd58 cyI cyJ cyZ q_Md q_mprimes q_mtable q_mtext q_mtold q_mstretch q_mfewest q_misOdd q_misHigh q_misTop q_mbits q_mpile m_length m_primeMany m_toldMany m_fate m_tail m_round v1 m_areLaid m_unlike m_isFree a_mprimes (upd a_mtable (0 : Int32).toNatClampNeg (0 : Int32))) := hD
    refine lv_iconst (v := (1 : Int32)) hx hb dX12_layTable_21 (by decide) ?_
    refine lv_istore_n (lv' := [(2, .int (1 : Int32)), (0, .ref q_Md), (1, .int v1)]) hx hb dX12_layTable_22 rfl hl (by decide) rfl (fun ls hl => ?_)
    exact k_X12_layTable_23 C0 N res q_Md q_mprimes q_mtable q_mtext q_mtold q_mstretch q_mfewest q_misOdd q_misHigh q_misTop q_mbits q_mpile v1 m_length m_toldMany m_fate m_tail m_round v1 m_areLaid m_unlike m_isFree N (1 : Int32) m_primeMany a_mprimes (upd a_mtable (0 : Int32).toNatClampNeg (0 : Int32)) h _ _ hP hD hS _ (lv_sub hl [1, 2, 0] rfl)
  · have h := xt h c1z
    obtain rfl := Option.some.inj h
    exact W.vret hx hb hr (fun t ht hW => ⟨⟨(), rfl, trivial, by rw [ht]; exact hP, hD⟩, hS.F ht⟩) hS.2.2 dX12_layTable_8 hlocks
set_option maxRecDepth 100000 in
set_option maxHeartbeats 4000000 in
theorem c_X12_layTable (l : Launch) (dC : Nat → ClassId) (dI : Nat → Nat → Nat) (cyI cyJ cyZ : ClassId) (N : Nat) (res : Int32 × Int32 × (Nat → Int64) × (Nat → Int32)) (sz : Nat) (q_Md : Nat) (q_mprimes : Nat) (q_mtable : Nat) (q_mtext : Nat) (q_mtold : Nat) (q_mstretch : Nat) (q_mfewest : Nat) (q_misOdd : Nat) (q_misHigh : Nat) (q_misTop : Nat) (q_mbits : Nat) (q_mpile : Nat) (v1 : Int32) (m_length : Int32) (m_primeMany : Int32) (m_toldMany : Int32) (m_fate : Int32) (m_tail : Int32) (m_round : Int32) (m_tableKind : Int32) (m_areLaid : Int32) (m_unlike : Int32) (m_isFree : Int32) (a_mprimes : Nat → Int64) (a_mtable : Nat → Int32) (h : f_X12_layTable N v1 m_primeMany m_tableKind a_mprimes a_mtable = some res) : Met l yX12_layTable wsX12_layTable rm_X12_layTable (pC dC dI cyI cyJ cyZ [.ref q_Md, .int v1] sz (wd58 cyI cyJ cyZ q_Md q_mprimes q_mtable q_mtext q_mtold q_mstretch q_mfewest q_misOdd q_misHigh q_misTop q_mbits q_mpile m_length m_primeMany m_toldMany m_fate m_tail m_round m_tableKind m_areLaid m_unlike m_isFree a_mprimes a_mtable)) (va_Qv (fun (_ : Unit) => True) (bW dC dI (fun (u : Unit) => (wd58 cyI cyJ cyZ q_Md q_mprimes q_mtable q_mtext q_mtold q_mstretch q_mfewest q_misOdd q_misHigh q_misTop q_mbits q_mpile m_length res.1 m_toldMany m_fate m_tail m_round res.2.1 m_areLaid m_unlike m_isFree res.2.2.1 res.2.2.2)) (va_A (wd58 cyI cyJ cyZ q_Md q_mprimes q_mtable q_mtext q_mtold q_mstretch q_mfewest q_misOdd q_misHigh q_misTop q_mbits q_mpile m_length m_primeMany m_toldMany m_fate m_tail m_round m_tableKind m_areLaid m_unlike m_isFree a_mprimes a_mtable) sz)) (va_A (wd58 cyI cyJ cyZ q_Md q_mprimes q_mtable q_mtext q_mtold q_mstretch q_mfewest q_misOdd q_misHigh q_misTop q_mbits q_mpile m_length m_primeMany m_toldMany m_fate m_tail m_round m_tableKind m_areLaid m_unlike m_isFree a_mprimes a_mtable) sz)) 0 0 (va_A (wd58 cyI cyJ cyZ q_Md q_mprimes q_mtable q_mtext q_mtold q_mstretch q_mfewest q_misOdd q_misHigh q_misTop q_mbits q_mpile m_length m_primeMany m_toldMany m_fate m_tail m_round m_tableKind m_areLaid m_unlike m_isFree a_mprimes a_mtable) sz) := by
  refine Met.ofW (cc := cX12_layTable) (maxL := 5) (ret := none) (by decide) rfl ?_
  intro p e s m args below meth c s₁ B hml hv
  obtain ⟨rfl, hsz, hP, hG, hD0⟩ := hv
  have hx := B.exec
  have hb := B.bytes
  have hr := B.returns
  have hts := atoms_spec (ws := wsX12_layTable) B.pre
  have hown : s.vm.findClass RX12 = some m.cls := findClass_of_methodNamed B.named
  have hlocks := B.notSynchronized
  subst hsz
  have hD := hD0.self (sz := s.heap.size)
  generalize hAe : va_A (wd58 cyI cyJ cyZ q_Md q_mprimes q_mtable q_mtext q_mtold q_mstretch q_mfewest q_misOdd q_misHigh q_misTop q_mbits q_mpile m_length m_primeMany m_toldMany m_fate m_tail m_round m_tableKind m_areLaid m_unlike m_isFree a_mprimes a_mtable) s.heap.size = A at hD ⊢
  have hA : ∀ q : Nat, s.heap.size ≤ q → A q := fun q h => by rw [← hAe]; exact Or.inr h
  have hS : va_S A s.heap s.heap [] := va_S.rf
  have hl := lv_entry ([.ref q_Md, .int v1]) (n := 5) (Nat.le_of_ble_eq_true rfl)
  rw [lg_entry_eq]
  generalize (lg_sl ([.ref q_Md, .int v1]) ++ List.replicate (5 - (lg_sl ([.ref q_Md, .int v1])).length) Slot.unset).toArray = ls at hl ⊢
  have hl : lv_has ls 5 [(0, .ref q_Md), (1, .int v1)] := hl
  exact k_X12_layTable_0 ⟨hx, hb, hr, hml, hown, hts, hlocks, hG, hA⟩ N res q_Md q_mprimes q_mtable q_mtext q_mtold q_mstretch q_mfewest q_misOdd q_misHigh q_misTop q_mbits q_mpile v1 m_length m_primeMany m_toldMany m_fate m_tail m_round m_tableKind m_areLaid m_unlike m_isFree a_mprimes a_mtable  h _ _ hP hD hS _ hl
abbrev rm_X12_isBound : Room := { frames := 1, cells := 0, slots := 0, locals := 25 }
theorem hd_X12_isBound : yX12_isBound.cls ≠ "java/lang/invoke/MethodHandle" ∧ yX12_isBound.cls ≠ "java/lang/invoke/VarHandle" ∧ (parseMethodDescriptor yX12_isBound.desc).map (fun d => d.parameters.length) = some 1 := by decide +kernel
def f_X12_isBound (N : Nat) (v0 : Int32) : Option (Int32) :=
  Option.bind (f_X12_in N v0.toInt64 (1 : Int64) (50000 : Int64)) fun r1z =>
  if r1z = 0 ∨ r1z = 1 then
    some r1z
  else
    none
set_option maxRecDepth 100000 in
set_option maxHeartbeats 4000000 in
theorem k_X12_isBound_0 {p : Program} {l : Launch} {e : Env} {s : State} {m : MethodId} {args : Array Value} {below : List Frame} {meth : Method} {c : Code} {dC : Nat → ClassId} {dI : Nat → Nat → Nat} {cyI cyJ cyZ : ClassId} {A : Nat → Prop} (C0 : mC p s m meth c args cX12_isBound (some .boolean) 1 RX12 wsX12_isBound (gK dC dI cyI cyJ cyZ) A) (N : Nat) (res : Int32) (v0 : Int32) (h : f_X12_isBound N v0 = some res) : ∀ (H : Heap) (locs : List Loc), va_P (dC, dI) vwCl (wd37 cyI cyJ cyZ) H → va_D A (wd37 cyI cyJ cyZ) → va_S A s.heap H locs → ∀ (ls : Array Slot), lv_has ls 1 [(0, .int v0)] → W p l e (headSpec wsX12_isBound rm_X12_isBound).room s m args below meth c H locs 0 0 (MQ below (va_Qi (fun (r : Int32) (_ : Unit) => r = res) (bW dC dI (fun (u : Unit) => (wd37 cyI cyJ cyZ)) A) A) args s 0 0 A) (F0 m 0 ls []) := by
  obtain ⟨hx, hb, hr, hml, hown, hts, hlocks, hG, hA⟩ := id C0
  have hK := hG.1
  intro H locs hP hD hS ls hl
  unfold f_X12_isBound at h
  refine lv_iload_n hx hb dX12_isBound_0 rfl (lv_at hl 0 rfl) ?_
  refine lv_i2l (v := v0.toInt64) hx hb dX12_isBound_1 rfl ?_
  refine lv_lconst (v := (1 : Int64)) hx hb dX12_isBound_2 (by decide) ?_
  refine lv_ldc2 (v := (50000 : Int64)) hx hb hown (hts (.constantLong RX12 106 (50000)) (List.mem_of_getElem? (i := 1) rfl)) dX12_isBound_3 ?_
  obtain ⟨r1z, hr1z, h⟩ := xb_at h
  have hPc := hP.sub (ws' := (wd37 cyI cyJ cyZ)) [] rfl
  have hDc := hD.sub (ws' := (wd37 cyI cyJ cyZ)) [] (by decide) rfl
  refine cal_i [] [] (va_runS (As := [.long v0.toInt64, .long (1 : Int64), .long (50000 : Int64)]) (rest := []) ⟨hx, hb, hml, hown, hts⟩ (c_X12_in l dC dI cyI cyJ cyZ N r1z H.size  v0.toInt64 (1 : Int64) (50000 : Int64)  hr1z) (va_cwS 3 hts gX12_isBound_X12_in rfl rfl rfl hd_X12_in ⟨Nat.le_of_ble_eq_true rfl, Nat.le_of_ble_eq_true rfl⟩) ⟨pC.blind, pC.pre hPc hG hDc⟩ rfl rfl hl.1 rfl (lv_room (Nat.le_of_ble_eq_true rfl)) dX12_isBound_6 ⟨Nat.zero_le _, Nat.zero_le _⟩) hP hD hS hA rfl rfl rfl (by decide) (fun x3z u2z H locs hw hP hD hS => ?_)
  obtain rfl := hw.symm
  have hP : va_P (dC, dI) vwCl (wd37 cyI cyJ cyZ) H := hP.sub [] rfl
  have hD : va_D A (wd37 cyI cyJ cyZ) := hD.sub [] (by decide) rfl
  obtain ⟨b4z, h⟩ := xa h
  obtain rfl := Option.some.inj h
  exact W.zret (v := r1z) hx hb hr (xz01 b4z) (fun t ht hW => ⟨⟨_, (), rfl, rfl, by rw [ht]; exact hP, hD⟩, hS.F ht⟩) hS.2.2 dX12_isBound_9 hlocks
set_option maxRecDepth 100000 in
set_option maxHeartbeats 4000000 in
theorem c_X12_isBound (l : Launch) (dC : Nat → ClassId) (dI : Nat → Nat → Nat) (cyI cyJ cyZ : ClassId) (N : Nat) (res : Int32) (sz : Nat) (v0 : Int32) (h : f_X12_isBound N v0  = some res) : Met l yX12_isBound wsX12_isBound rm_X12_isBound (pC dC dI cyI cyJ cyZ [.int v0] sz (wd37 cyI cyJ cyZ)) (va_Qi (fun (r : Int32) (_ : Unit) => r = res) (bW dC dI (fun (u : Unit) => (wd37 cyI cyJ cyZ)) (va_A (wd37 cyI cyJ cyZ) sz)) (va_A (wd37 cyI cyJ cyZ) sz)) 0 0 (va_A (wd37 cyI cyJ cyZ) sz) := by
  refine Met.ofW (cc := cX12_isBound) (maxL := 1) (ret := (some .boolean)) (by decide) rfl ?_
  intro p e s m args below meth c s₁ B hml hv
  obtain ⟨rfl, hsz, hP, hG, hD0⟩ := hv
  have hx := B.exec
  have hb := B.bytes
  have hr := B.returns
  have hts := atoms_spec (ws := wsX12_isBound) B.pre
  have hown : s.vm.findClass RX12 = some m.cls := findClass_of_methodNamed B.named
  have hlocks := B.notSynchronized
  subst hsz
  have hD := hD0.self (sz := s.heap.size)
  generalize hAe : va_A (wd37 cyI cyJ cyZ) s.heap.size = A at hD ⊢
  have hA : ∀ q : Nat, s.heap.size ≤ q → A q := fun q h => by rw [← hAe]; exact Or.inr h
  have hS : va_S A s.heap s.heap [] := va_S.rf
  have hl := lv_entry ([.int v0]) (n := 1) (Nat.le_of_ble_eq_true rfl)
  rw [lg_entry_eq]
  generalize (lg_sl ([.int v0]) ++ List.replicate (1 - (lg_sl ([.int v0])).length) Slot.unset).toArray = ls at hl ⊢
  have hl : lv_has ls 1 [(0, .int v0)] := hl
  exact k_X12_isBound_0 ⟨hx, hb, hr, hml, hown, hts, hlocks, hG, hA⟩ N res  v0  h _ _ hP hD hS _ hl
/-- the cells Md, mtable -/
abbrev wd59 (cyI cyJ cyZ : ClassId) (q_Md : Nat) (q_mtable : Nat) (q_mtext : Nat) (q_mprimes : Nat) (q_mtold : Nat) (q_mstretch : Nat) (q_mfewest : Nat) (q_misOdd : Nat) (q_misHigh : Nat) (q_misTop : Nat) (q_mbits : Nat) (q_mpile : Nat) (m_length : Int32) (m_primeMany : Int32) (m_toldMany : Int32) (m_fate : Int32) (m_tail : Int32) (m_round : Int32) (m_tableKind : Int32) (m_areLaid : Int32) (m_unlike : Int32) (m_isFree : Int32) (a_mtable : Nat → Int32) : va_W := [(q_Md, .inr (12, [.int m_length, .ref q_mtext, .int m_primeMany, .ref q_mprimes, .int m_toldMany, .ref q_mtold, .int m_fate, .int m_tail, .int m_round, .int m_tableKind, .ref q_mtable, .ref q_mstretch, .ref q_mfewest, .int m_areLaid, .ref q_misOdd, .ref q_misHigh, .ref q_misTop, .ref q_mbits, .int m_unlike, .int m_isFree, .ref q_mpile])), (q_mtable, .inl (cyI, 50001, .inl a_mtable))]
abbrev rm_X12_begins : Room := { frames := 0, cells := 0, slots := 0, locals := 0 }
theorem hd_X12_begins : yX12_begins.cls ≠ "java/lang/invoke/MethodHandle" ∧ yX12_begins.cls ≠ "java/lang/invoke/VarHandle" ∧ (parseMethodDescriptor yX12_begins.desc).map (fun d => d.parameters.length) = some 3 := by decide +kernel
theorem iw_X12_begins_X12 : ∀ w ∈ wsX120, w ∈ wsX12_begins := List.forall_mem_cons.mpr ⟨List.mem_of_getElem? (i := 2) rfl, List.forall_mem_cons.mpr ⟨List.mem_of_getElem? (i := 3) rfl, List.forall_mem_cons.mpr ⟨List.mem_of_getElem? (i := 4) rfl, List.forall_mem_cons.mpr ⟨List.mem_of_getElem? (i := 5) rfl, List.forall_mem_cons.mpr ⟨List.mem_of_getElem? (i := 6) rfl, List.forall_mem_cons.mpr ⟨List.mem_of_getElem? (i := 7) rfl, List.forall_mem_cons.mpr ⟨List.mem_of_getElem? (i := 8) rfl, List.forall_mem_cons.mpr ⟨List.mem_of_getElem? (i := 9) rfl, List.forall_mem_cons.mpr ⟨List.mem_of_getElem? (i := 10) rfl, List.forall_mem_cons.mpr ⟨List.mem_of_getElem? (i := 11) rfl, List.forall_mem_cons.mpr ⟨List.mem_of_getElem? (i := 12) rfl, List.forall_mem_cons.mpr ⟨List.mem_of_getElem? (i := 13) rfl, List.forall_mem_cons.mpr ⟨List.mem_of_getElem? (i := 14) rfl, List.forall_mem_cons.mpr ⟨List.mem_of_getElem? (i := 15) rfl, List.forall_mem_cons.mpr ⟨List.mem_of_getElem? (i := 16) rfl, List.forall_mem_cons.mpr ⟨List.mem_of_getElem? (i := 17) rfl, List.forall_mem_cons.mpr ⟨List.mem_of_getElem? (i := 18) rfl, List.forall_mem_cons.mpr ⟨List.mem_of_getElem? (i := 19) rfl, List.forall_mem_cons.mpr ⟨List.mem_of_getElem? (i := 20) rfl, List.forall_mem_cons.mpr ⟨List.mem_of_getElem? (i := 21) rfl, List.forall_mem_cons.mpr ⟨List.mem_of_getElem? (i := 22) rfl, fun _ h => absurd h List.not_mem_nil⟩⟩⟩⟩⟩⟩⟩⟩⟩⟩⟩⟩⟩⟩⟩⟩⟩⟩⟩⟩⟩
def j_X12_begins_53 (N : Nat) (v1 : Int32) (v4 : Int32) : Option (Int32) :=
  if v4 = v1 then
    some (1 : Int32)
  else
    some (0 : Int32)
set_option maxRecDepth 100000 in
set_option maxHeartbeats 4000000 in
theorem k_X12_begins_53 {p : Program} {l : Launch} {e : Env} {s : State} {m : MethodId} {args : Array Value} {below : List Frame} {meth : Method} {c : Code} {dC : Nat → ClassId} {dI : Nat → Nat → Nat} {cyI cyJ cyZ : ClassId} {A : Nat → Prop} (C0 : mC p s m meth c args cX12_begins (some .boolean) 6 RX12 wsX12_begins (gK dC dI cyI cyJ cyZ) A) (N : Nat) (res : Int32) (q_Md : Nat) (q_mtable : Nat) (q_mtext : Nat) (q_mprimes : Nat) (q_mtold : Nat) (q_mstretch : Nat) (q_mfewest : Nat) (q_misOdd : Nat) (q_misHigh : Nat) (q_misTop : Nat) (q_mbits : Nat) (q_mpile : Nat) (v1 : Int32) (v4 : Int32) (m_length : Int32) (m_primeMany : Int32) (m_toldMany : Int32) (m_fate : Int32) (m_tail : Int32) (m_round : Int32) (m_tableKind : Int32) (m_areLaid : Int32) (m_unlike : Int32) (m_isFree : Int32) (a_mtable : Nat → Int32) (h : j_X12_begins_53 N v1 v4 = some res) : ∀ (H : Heap) (locs : List Loc), va_P (dC, dI) vwCl (wd59 cyI cyJ cyZ q_Md q_mtable q_mtext q_mprimes q_mtold q_mstretch q_mfewest q_misOdd q_misHigh q_misTop q_mbits q_mpile m_length m_primeMany m_toldMany m_fate m_tail m_round m_tableKind m_areLaid m_unlike m_isFree a_mtable) H → va_D A (wd59 cyI cyJ cyZ q_Md q_mtable q_mtext q_mprimes q_mtold q_mstretch q_mfewest q_misOdd q_misHigh q_misTop q_mbits q_mpile m_length m_primeMany m_toldMany m_fate m_tail m_round m_tableKind m_areLaid m_unlike m_isFree a_mtable) → va_S A s.heap H locs → ∀ (ls : Array Slot), lv_has ls 6 [(1, .int v1), (4, .int v4)] → W p l e (headSpec wsX12_begins rm_X12_begins).room s m args below meth c H locs 0 0 (MQ below (va_Qi (fun (r : Int32) (_ : Unit) => r = res) (bW dC dI (fun (u : Unit) => (wd59 cyI cyJ cyZ q_Md q_mtable q_mtext q_mprimes q_mtold q_mstretch q_mfewest q_misOdd q_misHigh q_misTop q_mbits q_mpile m_length m_primeMany m_toldMany m_fate m_tail m_round m_tableKind m_areLaid m_unlike m_isFree a_mtable)) A) A) args s 0 0 A) (F0 m 53 ls []) := by
  obtain ⟨hx, hb, hr, hml, hown, hts, hlocks, hG, hA⟩ := id C0
  have hK := hG.1
  intro H locs hP hD hS ls hl
  unfold j_X12_begins_53 at h
  refine lv_iload hx hb dX12_begins_53 (lv_at hl 1 rfl) ?_
  refine lv_iload_n hx hb dX12_begins_55 rfl (lv_at hl 0 rfl) ?_
  refine lv_icmp_ne (tgt := 63) hx hb dX12_begins_56 (by decide) (fun c2z => ?_) (fun c2z => ?_)
  · have h := xf h c2z
    refine lv_iconst (v := (0 : Int32)) hx hb dX12_begins_63 (by decide) ?_
    obtain rfl := Option.some.inj h
    exact W.zret (v := (0 : Int32)) hx hb hr rfl (fun t ht hW => ⟨⟨_, (), rfl, rfl, by rw [ht]; exact hP, hD⟩, hS.F ht⟩) hS.2.2 dX12_begins_64 hlocks
  · have h := xt h c2z
    refine lv_iconst (v := (1 : Int32)) hx hb dX12_begins_59 (by decide) ?_
    refine lv_goto (tgt := 64) hx hb dX12_begins_60 (by decide) ?_
    obtain rfl := Option.some.inj h
    exact W.zret (v := (1 : Int32)) hx hb hr rfl (fun t ht hW => ⟨⟨_, (), rfl, rfl, by rw [ht]; exact hP, hD⟩, hS.F ht⟩) hS.2.2 dX12_begins_64 hlocks
def s_X12_begins_6 (N : Nat) (v1 : Int32) (v2 : Int32) (v3 : Int32) (a_mtable : Nat → Int32) (k_6 : (Int32 × Int32) → Option (Int32)) (v4 : Int32) (v5 : Int32) : Option (Int32) :=
  if v2 < v5 then
    j_X12_begins_53 N v1 v4
  else
    if v4 < 0 ∨ 50001 ≤ v4.toNatClampNeg then
      none
    else
      xl (a_mtable v4.toNatClampNeg) fun y4z =>
      if y4z < v1 then
        some (0 : Int32)
      else
        if v3 < y4z then
          some (0 : Int32)
        else
          if y4z = v1 then
            if v2 ≤ v5 then
              xl (v5 + (1 : Int32)) fun y10z =>
              k_6 (y4z, y10z)
            else
              some (0 : Int32)
          else
            xl (v5 + (1 : Int32)) fun y8z =>
            k_6 (y4z, y8z)
def l_X12_begins_6 (N : Nat) (v1 : Int32) (v2 : Int32) (v3 : Int32) (a_mtable : Nat → Int32) (n : Nat) (z : Int32 × Int32) : Option (Int32) := lp (fun k z => s_X12_begins_6 N v1 v2 v3 a_mtable k z.1 z.2) n z
set_option maxRecDepth 100000 in
set_option maxHeartbeats 4000000 in
theorem k_X12_begins_6 {p : Program} {l : Launch} {e : Env} {s : State} {m : MethodId} {args : Array Value} {below : List Frame} {meth : Method} {c : Code} {dC : Nat → ClassId} {dI : Nat → Nat → Nat} {cyI cyJ cyZ : ClassId} {A : Nat → Prop} (C0 : mC p s m meth c args cX12_begins (some .boolean) 6 RX12 wsX12_begins (gK dC dI cyI cyJ cyZ) A) (N : Nat) (res : Int32) (q_Md : Nat) (q_mtable : Nat) (q_mtext : Nat) (q_mprimes : Nat) (q_mtold : Nat) (q_mstretch : Nat) (q_mfewest : Nat) (q_misOdd : Nat) (q_misHigh : Nat) (q_misTop : Nat) (q_mbits : Nat) (q_mpile : Nat) (v1 : Int32) (v2 : Int32) (v3 : Int32) (m_length : Int32) (m_primeMany : Int32) (m_toldMany : Int32) (m_fate : Int32) (m_tail : Int32) (m_round : Int32) (m_tableKind : Int32) (m_areLaid : Int32) (m_unlike : Int32) (m_isFree : Int32) (a_mtable : Nat → Int32) : ∀ (n : Nat) (v4 : Int32) (v5 : Int32), l_X12_begins_6 N v1 v2 v3 a_mtable n (v4, v5) = some res → ∀ (H : Heap) (locs : List Loc), va_P (dC, dI) vwCl (wd59 cyI cyJ cyZ q_Md q_mtable q_mtext q_mprimes q_mtold q_mstretch q_mfewest q_misOdd q_misHigh q_misTop q_mbits q_mpile m_length m_primeMany m_toldMany m_fate m_tail m_round m_tableKind m_areLaid m_unlike m_isFree a_mtable) H → va_D A (wd59 cyI cyJ cyZ q_Md q_mtable q_mtext q_mprimes q_mtold q_mstretch q_mfewest q_misOdd q_misHigh q_misTop q_mbits q_mpile m_length m_primeMany m_toldMany m_fate m_tail m_round m_tableKind m_areLaid m_unlike m_isFree a_mtable) → va_S A s.heap H locs → ∀ (ls : Array Slot), lv_has ls 6 [(0, .ref q_Md), (1, .int v1), (2, .int v2), (3, .int v3), (4, .int v4), (5, .int v5)] → W p l e (headSpec wsX12_begins rm_X12_begins).room s m args below meth c H locs 0 0 (MQ below (va_Qi (fun (r : Int32) (_ : Unit) => r = res) (bW dC dI (fun (u : Unit) => (wd59 cyI cyJ cyZ q_Md q_mtable q_mtext q_mprimes q_mtold q_mstretch q_mfewest q_misOdd q_misHigh q_misTop q_mbits q_mpile m_length m_primeMany m_toldMany m_fate m_tail m_round m_tableKind m_areLaid m_unlike m_isFree a_mtable)) A) A) args s 0 0 A) (F0 m 6 ls []) := by
  obtain ⟨hx, hb, hr, hml, hown, hts, hlocks, hG, hA⟩ := id C0
  have hK := hG.1
  intro n
  induction n with
  | zero =>
    intro v4 v5 h
    cases h
  | succ n ih =>
    intro v4 v5 h H locs hP hD hS ls hl
    have h : s_X12_begins_6 N v1 v2 v3 a_mtable (l_X12_begins_6 N v1 v2 v3 a_mtable n) v4 v5 = some res := h
    unfold s_X12_begins_6 at h
    refine lv_iload hx hb dX12_begins_6 (lv_at hl 5 rfl) ?_
    refine lv_iload_n hx hb dX12_begins_8 rfl (lv_at hl 2 rfl) ?_
    refine lv_icmp_gt (tgt := 53) hx hb dX12_begins_9 (by decide) (fun c1z => ?_) (fun c1z => ?_)
    · have h := xt h c1z
      exact k_X12_begins_53 C0 N res q_Md q_mtable q_mtext q_mprimes q_mtold q_mstretch q_mfewest q_misOdd q_misHigh q_misTop q_mbits q_mpile v1 v4 m_length m_primeMany m_toldMany m_fate m_tail m_round m_tableKind m_areLaid m_unlike m_isFree a_mtable  h _ _ hP hD hS _ (lv_sub hl [1, 4] rfl)
    · have h := xf h c1z
      refine lv_aload_n hx hb dX12_begins_12 rfl (lv_at hl 0 rfl) ?_
      refine va_get (D := (dC, dI)) (ci := 12) (v := .ref q_mtable) (C := RX12) (T := TX12) (N := 21) hx hb hts iw_X12_begins_X12 hown hK hP 0 rfl rfl 10 (by decide) (hts (.fieldLink RX12 21 "GoesIntoModel" "table" "[I") (List.mem_of_getElem? (i := 1) rfl)) (fun _ h9 => h9) rfl dX12_begins_13 ?_
      refine lv_iload hx hb dX12_begins_16 (lv_at hl 4 rfl) ?_
      obtain ⟨b3z, h⟩ := xn h
      refine va_iald hx hb hK hP 1 0 rfl rfl b3z dX12_begins_18 ?_
      refine lv_topi (fun y4z ey4z => ?_)
      have h := xl_at h ey4z
      refine lv_istore (lv' := [(4, .int y4z), (0, .ref q_Md), (1, .int v1), (2, .int v2), (3, .int v3), (5, .int v5)]) hx hb dX12_begins_19 hl (by decide) rfl (fun ls hl => ?_)
      refine lv_iload hx hb dX12_begins_21 (lv_at hl 0 rfl) ?_
      refine lv_iload_n hx hb dX12_begins_23 rfl (lv_at hl 2 rfl) ?_
      refine lv_icmp_lt (tgt := 45) hx hb dX12_begins_24 (by decide) (fun c5z => ?_) (fun c5z => ?_)
      · have h := xt h c5z
        refine lv_iconst (v := (0 : Int32)) hx hb dX12_begins_45 (by decide) ?_
        obtain rfl := Option.some.inj h
        exact W.zret (v := (0 : Int32)) hx hb hr rfl (fun t ht hW => ⟨⟨_, (), rfl, rfl, by rw [ht]; exact hP, hD⟩, hS.F ht⟩) hS.2.2 dX12_begins_46 hlocks
      · have h := xf h c5z
        refine lv_iload hx hb dX12_begins_27 (lv_at hl 0 rfl) ?_
        refine lv_iload_n hx hb dX12_begins_29 rfl (lv_at hl 4 rfl) ?_
        refine lv_icmp_gt (tgt := 45) hx hb dX12_begins_30 (by decide) (fun c6z => ?_) (fun c6z => ?_)
        · have h := xt h c6z
          refine lv_iconst (v := (0 : Int32)) hx hb dX12_begins_45 (by decide) ?_
          obtain rfl := Option.some.inj h
          exact W.zret (v := (0 : Int32)) hx hb hr rfl (fun t ht hW => ⟨⟨_, (), rfl, rfl, by rw [ht]; exact hP, hD⟩, hS.F ht⟩) hS.2.2 dX12_begins_46 hlocks
        · have h := xf h c6z
          refine lv_iload hx hb dX12_begins_33 (lv_at hl 0 rfl) ?_
          refine lv_iload_n hx hb dX12_begins_35 rfl (lv_at hl 2 rfl) ?_
          refine lv_icmp_ne (tgt := 47) hx hb dX12_begins_36 (by decide) (fun c7z => ?_) (fun c7z => ?_)
          · have h := xf h c7z
            obtain ⟨y8z, ey8z⟩ : ∃ z : Int32, z = v5 + (1 : Int32) := ⟨_, rfl⟩
            have h := xl_at h ey8z
            refine lv_iinc (v := y8z) (lv' := [(5, .int y8z), (4, .int y4z), (0, .ref q_Md), (1, .int v1), (2, .int v2), (3, .int v3)]) hx hb dX12_begins_47 hl (k := 5) rfl (by rw [ey8z]; rfl) (by decide) rfl (fun ls hl => ?_)
            refine lv_goto (tgt := 6) hx hb dX12_begins_50 (by decide) ?_
            exact ih y4z y8z h _ _ hP hD hS _ (lv_sub hl [2, 3, 4, 5, 1, 0] rfl)
          · have h := xt h c7z
            refine lv_iload hx hb dX12_begins_39 (lv_at hl 5 rfl) ?_
            refine lv_iload_n hx hb dX12_begins_41 rfl (lv_at hl 3 rfl) ?_
            refine lv_icmp_ge (tgt := 47) hx hb dX12_begins_42 (by decide) (fun c9z => ?_) (fun c9z => ?_)
            · have h := xt h c9z
              obtain ⟨y10z, ey10z⟩ : ∃ z : Int32, z = v5 + (1 : Int32) := ⟨_, rfl⟩
              have h := xl_at h ey10z
              refine lv_iinc (v := y10z) (lv' := [(5, .int y10z), (4, .int y4z), (0, .ref q_Md), (1, .int v1), (2, .int v2), (3, .int v3)]) hx hb dX12_begins_47 hl (k := 5) rfl (by rw [ey10z]; rfl) (by decide) rfl (fun ls hl => ?_)
              refine lv_goto (tgt := 6) hx hb dX12_begins_50 (by decide) ?_
              exact ih y4z y10z h _ _ hP hD hS _ (lv_sub hl [2, 3, 4, 5, 1, 0] rfl)
            · have h := xf h c9z
              refine lv_iconst (v := (0 : Int32)) hx hb dX12_begins_45 (by decide) ?_
              obtain rfl := Option.some.inj h
              exact W.zret (v := (0 : Int32)) hx hb hr rfl (fun t ht hW => ⟨⟨_, (), rfl, rfl, by rw [ht]; exact hP, hD⟩, hS.F ht⟩) hS.2.2 dX12_begins_46 hlocks
def f_X12_begins (N : Nat) (v1 : Int32) (v2 : Int32) (v3 : Int32) (a_mtable : Nat → Int32) : Option (Int32) :=
  l_X12_begins_6 N v1 v2 v3 a_mtable N (v1, (1 : Int32))
set_option maxRecDepth 100000 in
set_option maxHeartbeats 4000000 in
theorem k_X12_begins_0 {p : Program} {l : Launch} {e : Env} {s : State} {m : MethodId} {args : Array Value} {below : List Frame} {meth : Method} {c : Code} {dC : Nat → ClassId} {dI : Nat → Nat → Nat} {cyI cyJ cyZ : ClassId} {A : Nat → Prop} (C0 : mC p s m meth c args cX12_begins (some .boolean) 6 RX12 wsX12_begins (gK dC dI cyI cyJ cyZ) A) (N : Nat) (res : Int32) (q_Md : Nat) (q_mtable : Nat) (q_mtext : Nat) (q_mprimes : Nat) (q_mtold : Nat) (q_mstretch : Nat) (q_mfewest : Nat) (q_misOdd : Nat) (q_misHigh : Nat) (q_misTop : Nat) (q_mbits : Nat) (q_mpile : Nat) (v1 : Int32) (v2 : Int32) (v3 : Int32) (m_length : Int32) (m_primeMany : Int32) (m_toldMany : Int32) (m_fate : Int32) (m_tail : Int32) (m_round : Int32) (m_tableKind : Int32) (m_areLaid : Int32) (m_unlike : Int32) (m_isFree : Int32) (a_mtable : Nat → Int32) (h : f_X12_begins N v1 v2 v3 a_mtable = some res) : ∀ (H : Heap) (locs : List Loc), va_P (dC, dI) vwCl (wd59 cyI cyJ cyZ q_Md q_mtable q_mtext q_mprimes q_mtold q_mstretch q_mfewest q_misOdd q_misHigh q_misTop q_mbits q_mpile m_length m_primeMany m_toldMany m_fate m_tail m_round m_tableKind m_areLaid m_unlike m_isFree a_mtable) H → va_D A (wd59 cyI cyJ cyZ q_Md q_mtable q_mtext q_mprimes q_mtold q_mstretch q_mfewest q_misOdd q_misHigh q_misTop q_mbits q_mpile m_length m_primeMany m_toldMany m_fate m_tail m_round m_tableKind m_areLaid m_unlike m_isFree a_mtable) → va_S A s.heap H locs → ∀ (ls : Array Slot), lv_has ls 6 [(0, .ref q_Md), (1, .int v1), (2, .int v2), (3, .int v3)] → W p l e (headSpec wsX12_begins rm_X12_begins).room s m args below meth c H locs 0 0 (MQ below (va_Qi (fun (r : Int32) (_ : Unit) => r = res) (bW dC dI (fun (u : Unit) => (wd59 cyI cyJ cyZ q_Md q_mtable q_mtext q_mprimes q_mtold q_mstretch q_mfewest q_misOdd q_misHigh q_misTop q_mbits q_mpile m_length m_primeMany m_toldMany m_fate m_tail m_round m_tableKind m_areLaid m_unlike m_isFree a_mtable)) A) A) args s 0 0 A) (F0 m 0 ls []) := by
  obtain ⟨hx, hb, hr, hml, hown, hts, hlocks, hG, hA⟩ := id C0
  have hK := hG.1
  intro H locs hP hD hS ls hl
  unfold f_X12_begins at h
  refine lv_iload_n hx hb dX12_begins_0 rfl (lv_at hl 1 rfl) ?_
  refine lv_istore (lv' := [(4, .int v1), (0, .ref q_Md), (1, .int v1), (2, .int v2), (3, .int v3)]) hx hb dX12_begins_1 hl (by decide) rfl (fun ls hl => ?_)
  refine lv_iconst (v := (1 : Int32)) hx hb dX12_begins_3 (by decide) ?_
  refine lv_istore (lv' := [(5, .int (1 : Int32)), (4, .int v1), (0, .ref q_Md), (1, .int v1), (2, .int v2), (3, .int v3)]) hx hb dX12_begins_4 hl (by decide) rfl (fun ls hl => ?_)
  exact k_X12_begins_6 C0 N res q_Md q_mtable q_mtext q_mprimes q_mtold q_mstretch q_mfewest q_misOdd q_misHigh q_misTop q_mbits q_mpile v1 v2 v3 m_length m_primeMany m_toldMany m_fate m_tail m_round m_tableKind m_areLaid m_unlike m_isFree a_mtable N v1 (1 : Int32) h _ _ hP hD hS _ (lv_sub hl [2, 3, 4, 5, 1, 0] rfl)
set_option maxRecDepth 100000 in
set_option maxHeartbeats 4000000 in
theorem c_X12_begins (l : Launch) (dC : Nat → ClassId) (dI : Nat → Nat → Nat) (cyI cyJ cyZ : ClassId) (N : Nat) (res : Int32) (sz : Nat) (q_Md : Nat) (q_mtable : Nat) (q_mtext : Nat) (q_mprimes : Nat) (q_mtold : Nat) (q_mstretch : Nat) (q_mfewest : Nat) (q_misOdd : Nat) (q_misHigh : Nat) (q_misTop : Nat) (q_mbits : Nat) (q_mpile : Nat) (v1 : Int32) (v2 : Int32) (v3 : Int32) (m_length : Int32) (m_primeMany : Int32) (m_toldMany : Int32) (m_fate : Int32) (m_tail : Int32) (m_round : Int32) (m_tableKind : Int32) (m_areLaid : Int32) (m_unlike : Int32) (m_isFree : Int32) (a_mtable : Nat → Int32) (h : f_X12_begins N v1 v2 v3 a_mtable = some res) : Met l yX12_begins wsX12_begins rm_X12_begins (pC dC dI cyI cyJ cyZ [.ref q_Md, .int v1, .int v2, .int v3] sz (wd59 cyI cyJ cyZ q_Md q_mtable q_mtext q_mprimes q_mtold q_mstretch q_mfewest q_misOdd q_misHigh q_misTop q_mbits q_mpile m_length m_primeMany m_toldMany m_fate m_tail m_round m_tableKind m_areLaid m_unlike m_isFree a_mtable)) (va_Qi (fun (r : Int32) (_ : Unit) => r = res) (bW dC dI (fun (u : Unit) => (wd59 cyI cyJ cyZ q_Md q_mtable q_mtext q_mprimes q_mtold q_mstretch q_mfewest q_misOdd q_misHigh q_misTop q_mbits q_mpile m_length m_primeMany m_toldMany m_fate m_tail m_round m_tableKind m_areLaid m_unlike m_isFree a_mtable)) (va_A (wd59 cyI cyJ cyZ q_Md q_mtable q_mtext q_mprimes q_mtold q_mstretch q_mfewest q_misOdd q_misHigh q_misTop q_mbits q_mpile m_length m_primeMany m_toldMany m_fate m_tail m_round m_tableKind m_areLaid m_unlike m_isFree a_mtable) sz)) (va_A (wd59 cyI cyJ cyZ q_Md q_mtable q_mtext q_mprimes q_mtold q_mstretch q_mfewest q_misOdd q_misHigh q_misTop q_mbits q_mpile m_length m_primeMany m_toldMany m_fate m_tail m_round m_tableKind m_areLaid m_unlike m_isFree a_mtable) sz)) 0 0 (va_A (wd59 cyI cyJ cyZ q_Md q_mtable q_mtext q_mprimes q_mtold q_mstretch q_mfewest q_misOdd q_misHigh q_misTop q_mbits q_mpile m_length m_primeMany m_toldMany m_fate m_tail m_round m_tableKind m_areLaid m_unlike m_isFree a_mtable) sz) := by
  refine Met.ofW (cc := cX12_begins) (maxL := 6) (ret := (some .boolean)) (by decide) rfl ?_
  intro p e s m args below meth c s₁ B hml hv
  obtain ⟨rfl, hsz, hP, hG, hD0⟩ := hv
  have hx := B.exec
  have hb := B.bytes
  have hr := B.returns
  have hts := atoms_spec (ws := wsX12_begins) B.pre
  have hown : s.vm.findClass RX12 = some m.cls := findClass_of_methodNamed B.named
  have hlocks := B.notSynchronized
  subst hsz
  have hD := hD0.self (sz := s.heap.size)
  generalize hAe : va_A (wd59 cyI cyJ cyZ q_Md q_mtable q_mtext q_mprimes q_mtold q_mstretch q_mfewest q_misOdd q_misHigh q_misTop q_mbits q_mpile m_length m_primeMany m_toldMany m_fate m_tail m_round m_tableKind m_areLaid m_unlike m_isFree a_mtable) s.heap.size = A at hD ⊢
  have hA : ∀ q : Nat, s.heap.size ≤ q → A q := fun q h => by rw [← hAe]; exact Or.inr h
  have hS : va_S A s.heap s.heap [] := va_S.rf
  have hl := lv_entry ([.ref q_Md, .int v1, .int v2, .int v3]) (n := 6) (Nat.le_of_ble_eq_true rfl)
  rw [lg_entry_eq]
  generalize (lg_sl ([.ref q_Md, .int v1, .int v2, .int v3]) ++ List.replicate (6 - (lg_sl ([.ref q_Md, .int v1, .int v2, .int v3])).length) Slot.unset).toArray = ls at hl ⊢
  have hl : lv_has ls 6 [(0, .ref q_Md), (1, .int v1), (2, .int v2), (3, .int v3)] := hl
  exact k_X12_begins_0 ⟨hx, hb, hr, hml, hown, hts, hlocks, hG, hA⟩ N res q_Md q_mtable q_mtext q_mprimes q_mtold q_mstretch q_mfewest q_misOdd q_misHigh q_misTop q_mbits q_mpile v1 v2 v3 m_length m_primeMany m_toldMany m_fate m_tail m_round m_tableKind m_areLaid m_unlike m_isFree a_mtable  h _ _ hP hD hS _ hl
abbrev rm_X12_rings : Room := { frames := 4, cells := 0, slots := 0, locals := 107 }
theorem hd_X12_rings : yX12_rings.cls ≠ "java/lang/invoke/MethodHandle" ∧ yX12_rings.cls ≠ "java/lang/invoke/VarHandle" ∧ (parseMethodDescriptor yX12_rings.desc).map (fun d => d.parameters.length) = some 4 := by decide +kernel
theorem iw_X12_rings_X12 : ∀ w ∈ wsX120, w ∈ wsX12_rings := List.forall_mem_cons.mpr ⟨List.mem_of_getElem? (i := 37) rfl, List.forall_mem_cons.mpr ⟨List.mem_of_getElem? (i := 38) rfl, List.forall_mem_cons.mpr ⟨List.mem_of_getElem? (i := 39) rfl, List.forall_mem_cons.mpr ⟨List.mem_of_getElem? (i := 40) rfl, List.forall_mem_cons.mpr ⟨List.mem_of_getElem? (i := 41) rfl, List.forall_mem_cons.mpr ⟨List.mem_of_getElem? (i := 42) rfl, List.forall_mem_cons.mpr ⟨List.mem_of_getElem? (i := 43) rfl, List.forall_mem_cons.mpr ⟨List.mem_of_getElem? (i := 44) rfl, List.forall_mem_cons.mpr ⟨List.mem_of_getElem? (i := 45) rfl, List.forall_mem_cons.mpr ⟨List.mem_of_getElem? (i := 46) rfl, List.forall_mem_cons.mpr ⟨List.mem_of_getElem? (i := 47) rfl, List.forall_mem_cons.mpr ⟨List.mem_of_getElem? (i := 48) rfl, List.forall_mem_cons.mpr ⟨List.mem_of_getElem? (i := 49) rfl, List.forall_mem_cons.mpr ⟨List.mem_of_getElem? (i := 50) rfl, List.forall_mem_cons.mpr ⟨List.mem_of_getElem? (i := 51) rfl, List.forall_mem_cons.mpr ⟨List.mem_of_getElem? (i := 52) rfl, List.forall_mem_cons.mpr ⟨List.mem_of_getElem? (i := 53) rfl, List.forall_mem_cons.mpr ⟨List.mem_of_getElem? (i := 54) rfl, List.forall_mem_cons.mpr ⟨List.mem_of_getElem? (i := 55) rfl, List.forall_mem_cons.mpr ⟨List.mem_of_getElem? (i := 56) rfl, List.forall_mem_cons.mpr ⟨List.mem_of_getElem? (i := 57) rfl, fun _ h => absurd h List.not_mem_nil⟩⟩⟩⟩⟩⟩⟩⟩⟩⟩⟩⟩⟩⟩⟩⟩⟩⟩⟩⟩⟩
def j_X12_rings_86 (N : Nat) (v4 : Int32) (v5 : Int32) (m_primeMany : Int32) (m_tableKind : Int32) (a_mprimes : Nat → Int64) (a_mtable : Nat → Int32) : Option (Int32 × Int32 × Int32 × (Nat → Int64) × (Nat → Int32)) :=
  if 0 ≤ v4 then
    some ((-4 : Int32), m_primeMany, m_tableKind, a_mprimes, a_mtable)
  else
    some (v5, m_primeMany, m_tableKind, a_mprimes, a_mtable)
set_option maxRecDepth 100000 in
set_option maxHeartbeats 4000000 in
theorem k_X12_rings_86 {p : Program} {l : Launch} {e : Env} {s : State} {m : MethodId} {args : Array Value} {below : List Frame} {meth : Method} {c : Code} {dC : Nat → ClassId} {dI : Nat → Nat → Nat} {cyI cyJ cyZ : ClassId} {A : Nat → Prop} (C0 : mC p s m meth c args cX12_rings (some .int) 7 RX12 wsX12_rings (gK dC dI cyI cyJ cyZ) A) (N : Nat) (res : Int32 × Int32 × Int32 × (Nat → Int64) × (Nat → Int32)) (q_Md : Nat) (q_mprimes : Nat) (q_mtable : Nat) (q_mtext : Nat) (q_mtold : Nat) (q_mstretch : Nat) (q_mfewest : Nat) (q_misOdd : Nat) (q_misHigh : Nat) (q_misTop : Nat) (q_mbits : Nat) (q_mpile : Nat) (v4 : Int32) (v5 : Int32) (m_length : Int32) (m_primeMany : Int32) (m_toldMany : Int32) (m_fate : Int32) (m_tail : Int32) (m_round : Int32) (m_tableKind : Int32) (m_areLaid : Int32) (m_unlike : Int32) (m_isFree : Int32) (a_mprimes : Nat → Int64) (a_mtable : Nat → Int32) (h : j_X12_rings_86 N v4 v5 m_primeMany m_tableKind a_mprimes a_mtable = some res) : ∀ (H : Heap) (locs : List Loc), va_P (dC, dI) vwCl (wd58 cyI cyJ cyZ q_Md q_mprimes q_mtable q_mtext q_mtold q_mstretch q_mfewest q_misOdd q_misHigh q_misTop q_mbits q_mpile m_length m_primeMany m_toldMany m_fate m_tail m_round m_tableKind m_areLaid m_unlike m_isFree a_mprimes a_mtable) H → va_D A (wd58 cyI cyJ cyZ q_Md q_mprimes q_mtable q_mtext q_mtold q_mstretch q_mfewest q_misOdd q_misHigh q_misTop q_mbits q_mpile m_length m_primeMany m_toldMany m_fate m_tail m_round m_tableKind m_areLaid m_unlike m_isFree a_mprimes a_mtable) → va_S A s.heap H locs → ∀ (ls : Array Slot), lv_has ls 7 [(4, .int v4), (5, .int v5)] → W p l e (headSpec wsX12_rings rm_X12_rings).room s m args below meth c H locs 0 0 (MQ below (va_Qi (fun (r : Int32) (_ : Unit) => r = res.1) (bW dC dI (fun (u : Unit) => (wd58 cyI cyJ cyZ q_Md q_mprimes q_mtable q_mtext q_mtold q_mstretch q_mfewest q_misOdd q_misHigh q_misTop q_mbits q_mpile m_length res.2.1 m_toldMany m_fate m_tail m_round res.2.2.1 m_areLaid m_unlike m_isFree res.2.2.2.1 res.2.2.2.2)) A) A) args s 0 0 A) (F0 m 86 ls []) := by
  obtain ⟨hx, hb, hr, hml, hown, hts, hlocks, hG, hA⟩ := id C0
  have hK := hG.1
  intro H locs hP hD hS ls hl
  unfold j_X12_rings_86 at h
  refine lv_iload hx hb dX12_rings_86 (lv_at hl 0 rfl) ?_
  refine lv_if_ge (tgt := 96) hx hb dX12_rings_88 (by decide) (fun c18z => ?_) (fun c18z => ?_)
  · have h := xt h c18z
    refine lv_bipush (v := (-4 : Int32)) hx hb dX12_rings_96 (by decide) ?_
    obtain rfl := Option.some.inj h
    exact W.iret (v := (-4 : Int32)) hx hb hr (fun t ht hW => ⟨⟨_, (), rfl, rfl, by rw [ht]; exact hP, hD⟩, hS.F ht⟩) hS.2.2 dX12_rings_98 hlocks
  · have h := xf h c18z
    refine lv_iload hx hb dX12_rings_91 (lv_at hl 1 rfl) ?_
    refine lv_goto (tgt := 98) hx hb dX12_rings_93 (by decide) ?_
    obtain rfl := Option.some.inj h
    exact W.iret (v := v5) hx hb hr (fun t ht hW => ⟨⟨_, (), rfl, rfl, by rw [ht]; exact hP, hD⟩, hS.F ht⟩) hS.2.2 dX12_rings_98 hlocks
def s_X12_rings_50 (N : Nat) (v2 : Int32) (v3 : Int32) (v4 : Int32) (m_primeMany : Int32) (m_tableKind : Int32) (a_mprimes : Nat → Int64) (a_mtable : Nat → Int32) (k_50 : (Int32 × Int32) → Option (Int32 × Int32 × Int32 × (Nat → Int64) × (Nat → Int32))) (v5 : Int32) (v6 : Int32) : Option (Int32 × Int32 × Int32 × (Nat → Int64) × (Nat → Int32)) :=
  if v3 < v6 then
    j_X12_rings_86 N v4 v5 m_primeMany m_tableKind a_mprimes a_mtable
  else
    Option.bind (f_X12_begins N v6 v2 v3 a_mtable) fun r19z =>
    if r19z = 0 then
      xl (v6 + (1 : Int32)) fun y23z =>
      k_50 (v5, y23z)
    else
      if v5 = v4 then
        some (v6, m_primeMany, m_tableKind, a_mprimes, a_mtable)
      else
        xl (v5 + (1 : Int32)) fun y25z =>
        xl (v6 + (1 : Int32)) fun y26z =>
        k_50 (y25z, y26z)
def l_X12_rings_50 (N : Nat) (v2 : Int32) (v3 : Int32) (v4 : Int32) (m_primeMany : Int32) (m_tableKind : Int32) (a_mprimes : Nat → Int64) (a_mtable : Nat → Int32) (n : Nat) (z : Int32 × Int32) : Option (Int32 × Int32 × Int32 × (Nat → Int64) × (Nat → Int32)) := lp (fun k z => s_X12_rings_50 N v2 v3 v4 m_primeMany m_tableKind a_mprimes a_mtable k z.1 z.2) n z
set_option maxRecDepth 100000 in
set_option maxHeartbeats 4000000 in
theorem k_X12_rings_50 {p : Program} {l : Launch} {e : Env} {s : State} {m : MethodId} {args : Array Value} {below : List Frame} {meth : Method} {c : Code} {dC : Nat → ClassId} {dI : Nat → Nat → Nat} {cyI cyJ cyZ : ClassId} {A : Nat → Prop} (C0 : mC p s m meth c args cX12_rings (some .int) 7 RX12 wsX12_rings (gK dC dI cyI cyJ cyZ) A) (N : Nat) (res : Int32 × Int32 × Int32 × (Nat → Int64) × (Nat → Int32)) (q_Md : Nat) (q_mprimes : Nat) (q_mtable : Nat) (q_mtext : Nat) (q_mtold : Nat) (q_mstretch : Nat) (q_mfewest : Nat) (q_misOdd : Nat) (q_misHigh : Nat) (q_misTop : Nat) (q_mbits : Nat) (q_mpile : Nat) (v2 : Int32) (v3 : Int32) (v4 : Int32) (m_length : Int32) (m_primeMany : Int32) (m_toldMany : Int32) (m_fate : Int32) (m_tail : Int32) (m_round : Int32) (m_tableKind : Int32) (m_areLaid : Int32) (m_unlike : Int32) (m_isFree : Int32) (a_mprimes : Nat → Int64) (a_mtable : Nat → Int32) : ∀ (n : Nat) (v5 : Int32) (v6 : Int32), l_X12_rings_50 N v2 v3 v4 m_primeMany m_tableKind a_mprimes a_mtable n (v5, v6) = some res → ∀ (H : Heap) (locs : List Loc), va_P (dC, dI) vwCl (wd58 cyI cyJ cyZ q_Md q_mprimes q_mtable q_mtext q_mtold q_mstretch q_mfewest q_misOdd q_misHigh q_misTop q_mbits q_mpile m_length m_primeMany m_toldMany m_fate m_tail m_round m_tableKind m_areLaid m_unlike m_isFree a_mprimes a_mtable) H → va_D A (wd58 cyI cyJ cyZ q_Md q_mprimes q_mtable q_mtext q_mtold q_mstretch q_mfewest q_misOdd q_misHigh q_misTop q_mbits q_mpile m_length m_primeMany m_toldMany m_fate m_tail m_round m_tableKind m_areLaid m_unlike m_isFree a_mprimes a_mtable) → va_S A s.heap H locs → ∀ (ls : Array Slot), lv_has ls 7 [(0, .ref q_Md), (2, .int v2), (3, .int v3), (4, .int v4), (5, .int v5), (6, .int v6)] → W p l e (headSpec wsX12_rings rm_X12_rings).room s m args below meth c H locs 0 0 (MQ below (va_Qi (fun (r : Int32) (_ : Unit) => r = res.1) (bW dC dI (fun (u : Unit) => (wd58 cyI cyJ cyZ q_Md q_mprimes q_mtable q_mtext q_mtold q_mstretch q_mfewest q_misOdd q_misHigh q_misTop q_mbits q_mpile m_length res.2.1 m_toldMany m_fate m_tail m_round res.2.2.1 m_areLaid m_unlike m_isFree res.2.2.2.1 res.2.2.2.2)) A) A) args s 0 0 A) (F0 m 50 ls []) := by
  obtain ⟨hx, hb, hr, hml, hown, hts, hlocks, hG, hA⟩ := id C0
  have hK := hG.1
  intro n
  induction n with
  | zero =>
    intro v5 v6 h
    cases h
  | succ n ih =>
    intro v5 v6 h H locs hP hD hS ls hl
    have h : s_X12_rings_50 N v2 v3 v4 m_primeMany m_tableKind a_mprimes a_mtable (l_X12_rings_50 N v2 v3 v4 m_primeMany m_tableKind a_mprimes a_mtable n) v5 v6 = some res := h
    unfold s_X12_rings_50 at h
    refine lv_iload hx hb dX12_rings_50 (lv_at hl 5 rfl) ?_
    refine lv_iload_n hx hb dX12_rings_52 rfl (lv_at hl 2 rfl) ?_
    refine lv_icmp_gt (tgt := 86) hx hb dX12_rings_53 (by decide) (fun c17z => ?_) (fun c17z => ?_)
    · have h := xt h c17z
      exact k_X12_rings_86 C0 N res q_Md q_mprimes q_mtable q_mtext q_mtold q_mstretch q_mfewest q_misOdd q_misHigh q_misTop q_mbits q_mpile v4 v5 m_length m_primeMany m_toldMany m_fate m_tail m_round m_tableKind m_areLaid m_unlike m_isFree a_mprimes a_mtable  h _ _ hP hD hS _ (lv_sub hl [3, 4] rfl)
    · have h := xf h c17z
      refine lv_aload_n hx hb dX12_rings_56 rfl (lv_at hl 0 rfl) ?_
      refine lv_iload hx hb dX12_rings_57 (lv_at hl 5 rfl) ?_
      refine lv_iload_n hx hb dX12_rings_59 rfl (lv_at hl 1 rfl) ?_
      refine lv_iload_n hx hb dX12_rings_60 rfl (lv_at hl 2 rfl) ?_
      obtain ⟨r19z, hr19z, h⟩ := xb_at h
      have hPc := hP.sub (ws' := (wd59 cyI cyJ cyZ q_Md q_mtable q_mtext q_mprimes q_mtold q_mstretch q_mfewest q_misOdd q_misHigh q_misTop q_mbits q_mpile m_length m_primeMany m_toldMany m_fate m_tail m_round m_tableKind m_areLaid m_unlike m_isFree a_mtable)) [0, 2] rfl
      have hDc := hD.sub (ws' := (wd59 cyI cyJ cyZ q_Md q_mtable q_mtext q_mprimes q_mtold q_mstretch q_mfewest q_misOdd q_misHigh q_misTop q_mbits q_mpile m_length m_primeMany m_toldMany m_fate m_tail m_round m_tableKind m_areLaid m_unlike m_isFree a_mtable)) [0, 2] (by decide) rfl
      refine cal_i [0, 2] [1] (va_runV (As := [.int v6, .int v2, .int v3]) (rest := []) ⟨hx, hb, hml, hown, hts⟩ (c_X12_begins l dC dI cyI cyJ cyZ N r19z H.size q_Md q_mtable q_mtext q_mprimes q_mtold q_mstretch q_mfewest q_misOdd q_misHigh q_misTop q_mbits q_mpile v6 v2 v3 m_length m_primeMany m_toldMany m_fate m_tail m_round m_tableKind m_areLaid m_unlike m_isFree a_mtable hr19z) (cwV 3 hts gX12_rings_X12_begins rfl rfl rfl ⟨rfl, hd_X12_begins⟩ ⟨Nat.le_of_ble_eq_true rfl, Nat.le_of_ble_eq_true rfl⟩) ⟨pC.blind, va_recv hK hPc (ci := 12) (q0 := 0) rfl rfl, pC.pre hPc hG hDc⟩ rfl rfl hl.1 rfl (lv_room (Nat.le_of_ble_eq_true rfl)) dX12_rings_61 ⟨Nat.zero_le _, Nat.zero_le _⟩) hP hD hS hA rfl rfl rfl (by decide) (fun x21z u20z H locs hw hP hD hS => ?_)
      obtain rfl := hw.symm
      have hP : va_P (dC, dI) vwCl (wd58 cyI cyJ cyZ q_Md q_mprimes q_mtable q_mtext q_mtold q_mstretch q_mfewest q_misOdd q_misHigh q_misTop q_mbits q_mpile m_length m_primeMany m_toldMany m_fate m_tail m_round m_tableKind m_areLaid m_unlike m_isFree a_mprimes a_mtable) H := hP.sub [1, 0, 2] rfl
      have hD : va_D A (wd58 cyI cyJ cyZ q_Md q_mprimes q_mtable q_mtext q_mtold q_mstretch q_mfewest q_misOdd q_misHigh q_misTop q_mbits q_mpile m_length m_primeMany m_toldMany m_fate m_tail m_round m_tableKind m_areLaid m_unlike m_isFree a_mprimes a_mtable) := hD.sub [1, 0, 2] (by decide) rfl
      refine lv_if_eq (tgt := 80) hx hb dX12_rings_64 (by decide) (fun c22z => ?_) (fun c22z => ?_)
      · have h := xt h c22z
        obtain ⟨y23z, ey23z⟩ : ∃ z : Int32, z = v6 + (1 : Int32) := ⟨_, rfl⟩
        have h := xl_at h ey23z
        refine lv_iinc (v := y23z) (lv' := [(6, .int y23z), (0, .ref q_Md), (2, .int v2), (3, .int v3), (4, .int v4), (5, .int v5)]) hx hb dX12_rings_80 hl (k := 5) rfl (by rw [ey23z]; rfl) (by decide) rfl (fun ls hl => ?_)
        refine lv_goto (tgt := 50) hx hb dX12_rings_83 (by decide) ?_
        exact ih v5 y23z h _ _ hP hD hS _ (lv_sub hl [1, 2, 3, 4, 5, 0] rfl)
      · have h := xf h c22z
        refine lv_iload hx hb dX12_rings_67 (lv_at hl 4 rfl) ?_
        refine lv_iload hx hb dX12_rings_69 (lv_at hl 3 rfl) ?_
        refine lv_icmp_ne (tgt := 77) hx hb dX12_rings_71 (by decide) (fun c24z => ?_) (fun c24z => ?_)
        · have h := xf h c24z
          obtain ⟨y25z, ey25z⟩ : ∃ z : Int32, z = v5 + (1 : Int32) := ⟨_, rfl⟩
          have h := xl_at h ey25z
          refine lv_iinc (v := y25z) (lv' := [(5, .int y25z), (0, .ref q_Md), (2, .int v2), (3, .int v3), (4, .int v4), (6, .int v6)]) hx hb dX12_rings_77 hl (k := 4) rfl (by rw [ey25z]; rfl) (by decide) rfl (fun ls hl => ?_)
          obtain ⟨y26z, ey26z⟩ : ∃ z : Int32, z = v6 + (1 : Int32) := ⟨_, rfl⟩
          have h := xl_at h ey26z
          refine lv_iinc (v := y26z) (lv' := [(6, .int y26z), (5, .int y25z), (0, .ref q_Md), (2, .int v2), (3, .int v3), (4, .int v4)]) hx hb dX12_rings_80 hl (k := 5) rfl (by rw [ey26z]; rfl) (by decide) rfl (fun ls hl => ?_)
          refine lv_goto (tgt := 50) hx hb dX12_rings_83 (by decide) ?_
          exact ih y25z y26z h _ _ hP hD hS _ (lv_sub hl [2, 3, 4, 5, 1, 0] rfl)
        · have h := xt h c24z
          refine lv_iload hx hb dX12_rings_74 (lv_at hl 5 rfl) ?_
          obtain rfl := Option.some.inj h
          exact W.iret (v := v6) hx hb hr (fun t ht hW => ⟨⟨_, (), rfl, rfl, by rw [ht]; exact hP, hD⟩, hS.F ht⟩) hS.2.2 dX12_rings_76 hlocks
def f_X12_rings (N : Nat) (v1 : Int32) (v2 : Int32) (v3 : Int32) (v4 : Int32) (m_primeMany : Int32) (m_tableKind : Int32) (a_mprimes : Nat → Int64) (a_mtable : Nat → Int32) : Option (Int32 × Int32 × Int32 × (Nat → Int64) × (Nat → Int32)) :=
  Option.bind (f_X12_in N v1.toInt64 (1 : Int64) (3 : Int64)) fun r1z =>
  if r1z = 0 then
    some ((-1 : Int32), m_primeMany, m_tableKind, a_mprimes, a_mtable)
  else
    Option.bind (f_X12_in N v2.toInt64 (1 : Int64) (9 : Int64)) fun r5z =>
    if r5z = 0 then
      some ((-1 : Int32), m_primeMany, m_tableKind, a_mprimes, a_mtable)
    else
      Option.bind (f_X12_isBound N v3) fun r9z =>
      if r9z = 0 then
        some ((-1 : Int32), m_primeMany, m_tableKind, a_mprimes, a_mtable)
      else
        if (-1 : Int32) ≤ v4 then
          Option.bind (f_X12_layTable N v1 m_primeMany m_tableKind a_mprimes a_mtable) fun r14z =>
          l_X12_rings_50 N v2 v3 v4 r14z.1 r14z.2.1 r14z.2.2.1 r14z.2.2.2 N ((0 : Int32), (1 : Int32))
        else
          some ((-1 : Int32), m_primeMany, m_tableKind, a_mprimes, a_mtable)
set_option maxRecDepth 100000 in
set_option maxHeartbeats 4000000 in
theorem k_X12_rings_0 {p : Program} {l : Launch} {e : Env} {s : State} {m : MethodId} {args : Array Value} {below : List Frame} {meth : Method} {c : Code} {dC : Nat → ClassId} {dI : Nat → Nat → Nat} {cyI cyJ cyZ : ClassId} {A : Nat → Prop} (C0 : mC p s m meth c args cX12_rings (some .int) 7 RX12 wsX12_rings (gK dC dI cyI cyJ cyZ) A) (N : Nat) (res : Int32 × Int32 × Int32 × (Nat → Int64) × (Nat → Int32)) (q_Md : Nat) (q_mprimes : Nat) (q_mtable : Nat) (q_mtext : Nat) (q_mtold : Nat) (q_mstretch : Nat) (q_mfewest : Nat) (q_misOdd : Nat) (q_misHigh : Nat) (q_misTop : Nat) (q_mbits : Nat) (q_mpile : Nat) (v1 : Int32) (v2 : Int32) (v3 : Int32) (v4 : Int32) (m_length : Int32) (m_primeMany : Int32) (m_toldMany : Int32) (m_fate : Int32) (m_tail : Int32) (m_round : Int32) (m_tableKind : Int32) (m_areLaid : Int32) (m_unlike : Int32) (m_isFree : Int32) (a_mprimes : Nat → Int64) (a_mtable : Nat → Int32) (h : f_X12_rings N v1 v2 v3 v4 m_primeMany m_tableKind a_mprimes a_mtable = some res) : ∀ (H : Heap) (locs : List Loc), va_P (dC, dI) vwCl (wd58 cyI cyJ cyZ q_Md q_mprimes q_mtable q_mtext q_mtold q_mstretch q_mfewest q_misOdd q_misHigh q_misTop q_mbits q_mpile m_length m_primeMany m_toldMany m_fate m_tail m_round m_tableKind m_areLaid m_unlike m_isFree a_mprimes a_mtable) H → va_D A (wd58 cyI cyJ cyZ q_Md q_mprimes q_mtable q_mtext q_mtold q_mstretch q_mfewest q_misOdd q_misHigh q_misTop q_mbits q_mpile m_length m_primeMany m_toldMany m_fate m_tail m_round m_tableKind m_areLaid m_unlike m_isFree a_mprimes a_mtable) → va_S A s.heap H locs → ∀ (ls : Array Slot), lv_has ls 7 [(0, .ref q_Md), (1, .int v1), (2, .int v2), (3, .int v3), (4, .int v4)] → W p l e (headSpec wsX12_rings rm_X12_rings).room s m args below meth c H locs 0 0 (MQ below (va_Qi (fun (r : Int32) (_ : Unit) => r = res.1) (bW dC dI (fun (u : Unit) => (wd58 cyI cyJ cyZ q_Md q_mprimes q_mtable q_mtext q_mtold q_mstretch q_mfewest q_misOdd q_misHigh q_misTop q_mbits q_mpile m_length res.2.1 m_toldMany m_fate m_tail m_round res.2.2.1 m_areLaid m_unlike m_isFree res.2.2.2.1 res.2.2.2.2)) A) A) args s 0 0 A) (F0 m 0 ls []) := by
  obtain ⟨hx, hb, hr, hml, hown, hts, hlocks, hG, hA⟩ := id C0
  have hK := hG.1
  intro H locs hP hD hS ls hl
  unfold f_X12_rings at h
  refine lv_iload_n hx hb dX12_rings_0 rfl (lv_at hl 1 rfl) ?_
  refine lv_i2l (v := v1.toInt64) hx hb dX12_rings_1 rfl ?_
  refine lv_lconst (v := (1 : Int64)) hx hb dX12_rings_2 (by decide) ?_
  refine lv_ldc2 (v := (3 : Int64)) hx hb hown (hts (.constantLong RX12 69 (3)) (List.mem_of_getElem? (i := 1) rfl)) dX12_rings_3 ?_
  obtain ⟨r1z, hr1z, h⟩ := xb_at h
  have hPc := hP.sub (ws' := (wd37 cyI cyJ cyZ)) [] rfl
  have hDc := hD.sub (ws' := (wd37 cyI cyJ cyZ)) [] (by decide) rfl
  refine cal_i [] [0, 1, 2] (va_runS (As := [.long v1.toInt64, .long (1 : Int64), .long (3 : Int64)]) (rest := []) ⟨hx, hb, hml, hown, hts⟩ (c_X12_in l dC dI cyI cyJ cyZ N r1z H.size  v1.toInt64 (1 : Int64) (3 : Int64)  hr1z) (va_cwS 3 hts gX12_rings_X12_in rfl rfl rfl hd_X12_in ⟨Nat.le_of_ble_eq_true rfl, Nat.le_of_ble_eq_true rfl⟩) ⟨pC.blind, pC.pre hPc hG hDc⟩ rfl rfl hl.1 rfl (lv_room (Nat.le_of_ble_eq_true rfl)) dX12_rings_6 ⟨Nat.zero_le _, Nat.zero_le _⟩) hP hD hS hA rfl rfl rfl (by decide) (fun x3z u2z H locs hw hP hD hS => ?_)
  obtain rfl := hw.symm
  have hP : va_P (dC, dI) vwCl (wd58 cyI cyJ cyZ q_Md q_mprimes q_mtable q_mtext q_mtold q_mstretch q_mfewest q_misOdd q_misHigh q_misTop q_mbits q_mpile m_length m_primeMany m_toldMany m_fate m_tail m_round m_tableKind m_areLaid m_unlike m_isFree a_mprimes a_mtable) H := hP.sub [0, 1, 2] rfl
  have hD : va_D A (wd58 cyI cyJ cyZ q_Md q_mprimes q_mtable q_mtext q_mtold q_mstretch q_mfewest q_misOdd q_misHigh q_misTop q_mbits q_mpile m_length m_primeMany m_toldMany m_fate m_tail m_round m_tableKind m_areLaid m_unlike m_isFree a_mprimes a_mtable) := hD.sub [0, 1, 2] (by decide) rfl
  refine lv_if_eq (tgt := 37) hx hb dX12_rings_9 (by decide) (fun c4z => ?_) (fun c4z => ?_)
  · have h := xt h c4z
    refine lv_iconst (v := (-1 : Int32)) hx hb dX12_rings_37 (by decide) ?_
    obtain rfl := Option.some.inj h
    exact W.iret (v := (-1 : Int32)) hx hb hr (fun t ht hW => ⟨⟨_, (), rfl, rfl, by rw [ht]; exact hP, hD⟩, hS.F ht⟩) hS.2.2 dX12_rings_38 hlocks
  · have h := xf h c4z
    refine lv_iload_n hx hb dX12_rings_12 rfl (lv_at hl 2 rfl) ?_
    refine lv_i2l (v := v2.toInt64) hx hb dX12_rings_13 rfl ?_
    refine lv_lconst (v := (1 : Int64)) hx hb dX12_rings_14 (by decide) ?_
    refine lv_ldc2 (v := (9 : Int64)) hx hb hown (hts (.constantLong RX12 108 (9)) (List.mem_of_getElem? (i := 2) rfl)) dX12_rings_15 ?_
    obtain ⟨r5z, hr5z, h⟩ := xb_at h
    have hPc := hP.sub (ws' := (wd37 cyI cyJ cyZ)) [] rfl
    have hDc := hD.sub (ws' := (wd37 cyI cyJ cyZ)) [] (by decide) rfl
    refine cal_i [] [0, 1, 2] (va_runS (As := [.long v2.toInt64, .long (1 : Int64), .long (9 : Int64)]) (rest := []) ⟨hx, hb, hml, hown, hts⟩ (c_X12_in l dC dI cyI cyJ cyZ N r5z H.size  v2.toInt64 (1 : Int64) (9 : Int64)  hr5z) (va_cwS 3 hts gX12_rings_X12_in rfl rfl rfl hd_X12_in ⟨Nat.le_of_ble_eq_true rfl, Nat.le_of_ble_eq_true rfl⟩) ⟨pC.blind, pC.pre hPc hG hDc⟩ rfl rfl hl.1 rfl (lv_room (Nat.le_of_ble_eq_true rfl)) dX12_rings_18 ⟨Nat.zero_le _, Nat.zero_le _⟩) hP hD hS hA rfl rfl rfl (by decide) (fun x7z u6z H locs hw hP hD hS => ?_)
    obtain rfl := hw.symm
    have hP : va_P (dC, dI) vwCl (wd58 cyI cyJ cyZ q_Md q_mprimes q_mtable q_mtext q_mtold q_mstretch q_mfewest q_misOdd q_misHigh q_misTop q_mbits q_mpile m_length m_primeMany m_toldMany m_fate m_tail m_round m_tableKind m_areLaid m_unlike m_isFree a_mprimes a_mtable) H := hP.sub [0, 1, 2] rfl
    have hD : va_D A (wd58 cyI cyJ cyZ q_Md q_mprimes q_mtable q_mtext q_mtold q_mstretch q_mfewest q_misOdd q_misHigh q_misTop q_mbits q_mpile m_length m_primeMany m_toldMany m_fate m_tail m_round m_tableKind m_areLaid m_unlike m_isFree a_mprimes a_mtable) := hD.sub [0, 1, 2] (by decide) rfl
    refine lv_if_eq (tgt := 37) hx hb dX12_rings_21 (by decide) (fun c8z => ?_) (fun c8z => ?_)
    · have h := xt h c8z
      refine lv_iconst (v := (-1 : Int32)) hx hb dX12_rings_37 (by decide) ?_
      obtain rfl := Option.some.inj h
      exact W.iret (v := (-1 : Int32)) hx hb hr (fun t ht hW => ⟨⟨_, (), rfl, rfl, by rw [ht]; exact hP, hD⟩, hS.F ht⟩) hS.2.2 dX12_rings_38 hlocks
    · have h := xf h c8z
      refine lv_iload_n hx hb dX12_rings_24 rfl (lv_at hl 3 rfl) ?_
      obtain ⟨r9z, hr9z, h⟩ := xb_at h
      have hPc := hP.sub (ws' := (wd37 cyI cyJ cyZ)) [] rfl
      have hDc := hD.sub (ws' := (wd37 cyI cyJ cyZ)) [] (by decide) rfl
      refine cal_i [] [0, 1, 2] (va_runS (As := [.int v3]) (rest := []) ⟨hx, hb, hml, hown, hts⟩ (c_X12_isBound l dC dI cyI cyJ cyZ N r9z H.size  v3  hr9z) (va_cwS 1 hts gX12_rings_X12_isBound rfl rfl rfl hd_X12_isBound ⟨Nat.le_of_ble_eq_true rfl, Nat.le_of_ble_eq_true rfl⟩) ⟨pC.blind, pC.pre hPc hG hDc⟩ rfl rfl hl.1 rfl (lv_room (Nat.le_of_ble_eq_true rfl)) dX12_rings_25 ⟨Nat.zero_le _, Nat.zero_le _⟩) hP hD hS hA rfl rfl rfl (by decide) (fun x11z u10z H locs hw hP hD hS => ?_)
      obtain rfl := hw.symm
      have hP : va_P (dC, dI) vwCl (wd58 cyI cyJ cyZ q_Md q_mprimes q_mtable q_mtext q_mtold q_mstretch q_mfewest q_misOdd q_misHigh q_misTop q_mbits q_mpile m_length m_primeMany m_toldMany m_fate m_tail m_round m_tableKind m_areLaid m_unlike m_isFree a_mprimes a_mtable) H := hP.sub [0, 1, 2] rfl
      have hD : va_D A (wd58 cyI cyJ cyZ q_Md q_mprimes q_mtable q_mtext q_mtold q_mstretch q_mfewest q_misOdd q_misHigh q_misTop q_mbits q_mpile m_length m_primeMany m_toldMany m_fate m_tail m_round m_tableKind m_areLaid m_unlike m_isFree a_mprimes a_mtable) := hD.sub [0, 1, 2] (by decide) rfl
      refine lv_if_eq (tgt := 37) hx hb dX12_rings_28 (by decide) (fun c12z => ?_) (fun c12z => ?_)
      · have h := xt h c12z
        refine lv_iconst (v := (-1 : Int32)) hx hb dX12_rings_37 (by decide) ?_
        obtain rfl := Option.some.inj h
        exact W.iret (v := (-1 : Int32)) hx hb hr (fun t ht hW => ⟨⟨_, (), rfl, rfl, by rw [ht]; exact hP, hD⟩, hS.F ht⟩) hS.2.2 dX12_rings_38 hlocks
      · have h := xf h c12z
        refine lv_iload hx hb dX12_rings_31 (lv_at hl 4 rfl) ?_
        refine lv_iconst (v := (-1 : Int32)) hx hb dX12_rings_33 (by decide) ?_
        refine lv_icmp_ge (tgt := 39) hx hb dX12_rings_34 (by decide) (fun c13z => ?_) (fun c13z => ?_)
        · have h := xt h c13z
          refine lv_aload_n hx hb dX12_rings_39 rfl (lv_at hl 0 rfl) ?_
          refine lv_iload_n hx hb dX12_rings_40 rfl (lv_at hl 1 rfl) ?_
          obtain ⟨r14z, hr14z, h⟩ := xb_at h
          have hPc := hP.sub (ws' := (wd58 cyI cyJ cyZ q_Md q_mprimes q_mtable q_mtext q_mtold q_mstretch q_mfewest q_misOdd q_misHigh q_misTop q_mbits q_mpile m_length m_primeMany m_toldMany m_fate m_tail m_round m_tableKind m_areLaid m_unlike m_isFree a_mprimes a_mtable)) [0, 1, 2] rfl
          have hDc := hD.sub (ws' := (wd58 cyI cyJ cyZ q_Md q_mprimes q_mtable q_mtext q_mtold q_mstretch q_mfewest q_misOdd q_misHigh q_misTop q_mbits q_mpile m_length m_primeMany m_toldMany m_fate m_tail m_round m_tableKind m_areLaid m_unlike m_isFree a_mprimes a_mtable)) [0, 1, 2] (by decide) rfl
          refine cal_v [0, 1, 2] [] (va_runV (As := [.int v1]) (rest := []) ⟨hx, hb, hml, hown, hts⟩ (c_X12_layTable l dC dI cyI cyJ cyZ N r14z H.size q_Md q_mprimes q_mtable q_mtext q_mtold q_mstretch q_mfewest q_misOdd q_misHigh q_misTop q_mbits q_mpile v1 m_length m_primeMany m_toldMany m_fate m_tail m_round m_tableKind m_areLaid m_unlike m_isFree a_mprimes a_mtable hr14z) (cwV 1 hts gX12_rings_X12_layTable rfl rfl rfl ⟨rfl, hd_X12_layTable⟩ ⟨Nat.le_of_ble_eq_true rfl, Nat.le_of_ble_eq_true rfl⟩) ⟨pC.blind, va_recv hK hPc (ci := 12) (q0 := 0) rfl rfl, pC.pre hPc hG hDc⟩ rfl rfl hl.1 rfl (lv_room (Nat.le_of_ble_eq_true rfl)) dX12_rings_41 ⟨Nat.zero_le _, Nat.zero_le _⟩) hP hD hS hA rfl rfl rfl (by decide) (fun u15z H locs _ hP hD hS => ?_)
          have hP : va_P (dC, dI) vwCl (wd58 cyI cyJ cyZ q_Md q_mprimes q_mtable q_mtext q_mtold q_mstretch q_mfewest q_misOdd q_misHigh q_misTop q_mbits q_mpile m_length r14z.1 m_toldMany m_fate m_tail m_round r14z.2.1 m_areLaid m_unlike m_isFree r14z.2.2.1 r14z.2.2.2) H := hP.sub [0, 1, 2] rfl
          have hD : va_D A (wd58 cyI cyJ cyZ q_Md q_mprimes q_mtable q_mtext q_mtold q_mstretch q_mfewest q_misOdd q_misHigh q_misTop q_mbits q_mpile m_length r14z.1 m_toldMany m_fate m_tail m_round r14z.2.1 m_areLaid m_unlike m_isFree r14z.2.2.1 r14z.2.2.2) := hD.sub [0, 1, 2] (by decide) rfl
          refine lv_iconst (v := (0 : Int32)) hx hb dX12_rings_44 (by decide) ?_
          refine lv_istore (lv' := [(5, .int (0 : Int32)), (0, .ref q_Md), (1, .int v1), (2, .int v2), (3, .int v3), (4, .int v4)]) hx hb dX12_rings_45 hl (by decide) rfl (fun ls hl => ?_)
          refine lv_iconst (v := (1 : Int32)) hx hb dX12_rings_47 (by decide) ?_
          refine lv_istore (lv' := [(6, .int (1 : Int32)), (5, .int (0 : Int32)), (0, .ref q_Md), (1, .int v1), (2, .int v2), (3, .int v3), (4, .int v4)]) hx hb dX12_rings_48 hl (by decide) rfl (fun ls hl => ?_)
          exact k_X12_rings_50 C0 N res q_Md q_mprimes q_mtable q_mtext q_mtold q_mstretch q_mfewest q_misOdd q_misHigh q_misTop q_mbits q_mpile v2 v3 v4 m_length r14z.1 m_toldMany m_fate m_tail m_round r14z.2.1 m_areLaid m_unlike m_isFree r14z.2.2.1 r14z.2.2.2 N (0 : Int32) (1 : Int32) h _ _ hP hD hS _ (lv_sub hl [2, 4, 5, 6, 1, 0] rfl)
        · have h := xf h c13z
          refine lv_iconst (v := (-1 : Int32)) hx hb dX12_rings_37 (by decide) ?_
          obtain rfl := Option.some.inj h
          exact W.iret (v := (-1 : Int32)) hx hb hr (fun t ht hW => ⟨⟨_, (), rfl, rfl, by rw [ht]; exact hP, hD⟩, hS.F ht⟩) hS.2.2 dX12_rings_38 hlocks
set_option maxRecDepth 100000 in
set_option maxHeartbeats 4000000 in
theorem c_X12_rings (l : Launch) (dC : Nat → ClassId) (dI : Nat → Nat → Nat) (cyI cyJ cyZ : ClassId) (N : Nat) (res : Int32 × Int32 × Int32 × (Nat → Int64) × (Nat → Int32)) (sz : Nat) (q_Md : Nat) (q_mprimes : Nat) (q_mtable : Nat) (q_mtext : Nat) (q_mtold : Nat) (q_mstretch : Nat) (q_mfewest : Nat) (q_misOdd : Nat) (q_misHigh : Nat) (q_misTop : Nat) (q_mbits : Nat) (q_mpile : Nat) (v1 : Int32) (v2 : Int32) (v3 : Int32) (v4 : Int32) (m_length : Int32) (m_primeMany : Int32) (m_toldMany : Int32) (m_fate : Int32) (m_tail : Int32) (m_round : Int32) (m_tableKind : Int32) (m_areLaid : Int32) (m_unlike : Int32) (m_isFree : Int32) (a_mprimes : Nat → Int64) (a_mtable : Nat → Int32) (h : f_X12_rings N v1 v2 v3 v4 m_primeMany m_tableKind a_mprimes a_mtable = some res) : Met l yX12_rings wsX12_rings rm_X12_rings (pC dC dI cyI cyJ cyZ [.ref q_Md, .int v1, .int v2, .int v3, .int v4] sz (wd58 cyI cyJ cyZ q_Md q_mprimes q_mtable q_mtext q_mtold q_mstretch q_mfewest q_misOdd q_misHigh q_misTop q_mbits q_mpile m_length m_primeMany m_toldMany m_fate m_tail m_round m_tableKind m_areLaid m_unlike m_isFree a_mprimes a_mtable)) (va_Qi (fun (r : Int32) (_ : Unit) => r = res.1) (bW dC dI (fun (u : Unit) => (wd58 cyI cyJ cyZ q_Md q_mprimes q_mtable q_mtext q_mtold q_mstretch q_mfewest q_misOdd q_misHigh q_misTop q_mbits q_mpile m_length res.2.1 m_toldMany m_fate m_tail m_round res.2.2.1 m_areLaid m_unlike m_isFree res.2.2.2.1 res.2.2.2.2)) (va_A (wd58 cyI cyJ cyZ q_Md q_mprimes q_mtable q_mtext q_mtold q_mstretch q_mfewest q_misOdd q_misHigh q_misTop q_mbits q_mpile m_length m_primeMany m_toldMany m_fate m_tail m_round m_tableKind m_areLaid m_unlike m_isFree a_mprimes a_mtable) sz)) (va_A (wd58 cyI cyJ cyZ q_Md q_mprimes q_mtable q_mtext q_mtold q_mstretch q_mfewest q_misOdd q_misHigh q_misTop q_mbits q_mpile m_length m_primeMany m_toldMany m_fate m_tail m_round m_tableKind m_areLaid m_unlike m_isFree a_mprimes a_mtable) sz)) 0 0 (va_A (wd58 cyI cyJ cyZ q_Md q_mprimes q_mtable q_mtext q_mtold q_mstretch q_mfewest q_misOdd q_misHigh q_misTop q_mbits q_mpile m_length m_primeMany m_toldMany m_fate m_tail m_round m_tableKind m_areLaid m_unlike m_isFree a_mprimes a_mtable) sz) := by
  refine Met.ofW (cc := cX12_rings) (maxL := 7) (ret := (some .int)) (by decide) rfl ?_
  intro p e s m args below meth c s₁ B hml hv
  obtain ⟨rfl, hsz, hP, hG, hD0⟩ := hv
  have hx := B.exec
  have hb := B.bytes
  have hr := B.returns
  have hts := atoms_spec (ws := wsX12_rings) B.pre
  have hown : s.vm.findClass RX12 = some m.cls := findClass_of_methodNamed B.named
  have hlocks := B.notSynchronized
  subst hsz
  have hD := hD0.self (sz := s.heap.size)
  generalize hAe : va_A (wd58 cyI cyJ cyZ q_Md q_mprimes q_mtable q_mtext q_mtold q_mstretch q_mfewest q_misOdd q_misHigh q_misTop q_mbits q_mpile m_length m_primeMany m_toldMany m_fate m_tail m_round m_tableKind m_areLaid m_unlike m_isFree a_mprimes a_mtable) s.heap.size = A at hD ⊢
  have hA : ∀ q : Nat, s.heap.size ≤ q → A q := fun q h => by rw [← hAe]; exact Or.inr h
  have hS : va_S A s.heap s.heap [] := va_S.rf
  have hl := lv_entry ([.ref q_Md, .int v1, .int v2, .int v3, .int v4]) (n := 7) (Nat.le_of_ble_eq_true rfl)
  rw [lg_entry_eq]
  generalize (lg_sl ([.ref q_Md, .int v1, .int v2, .int v3, .int v4]) ++ List.replicate (7 - (lg_sl ([.ref q_Md, .int v1, .int v2, .int v3, .int v4])).length) Slot.unset).toArray = ls at hl ⊢
  have hl : lv_has ls 7 [(0, .ref q_Md), (1, .int v1), (2, .int v2), (3, .int v3), (4, .int v4)] := hl
  exact k_X12_rings_0 ⟨hx, hb, hr, hml, hown, hts, hlocks, hG, hA⟩ N res q_Md q_mprimes q_mtable q_mtext q_mtold q_mstretch q_mfewest q_misOdd q_misHigh q_misTop q_mbits q_mpile v1 v2 v3 v4 m_length m_primeMany m_toldMany m_fate m_tail m_round m_tableKind m_areLaid m_unlike m_isFree a_mprimes a_mtable  h _ _ hP hD hS _ hl
abbrev rm_X12_having : Room := { frames := 4, cells := 0, slots := 0, locals := 107 }
theorem hd_X12_having : yX12_having.cls ≠ "java/lang/invoke/MethodHandle" ∧ yX12_having.cls ≠ "java/lang/invoke/VarHandle" ∧ (parseMethodDescriptor yX12_having.desc).map (fun d => d.parameters.length) = some 4 := by decide +kernel
theorem iw_X12_having_X12 : ∀ w ∈ wsX120, w ∈ wsX12_having := List.forall_mem_cons.mpr ⟨List.mem_of_getElem? (i := 33) rfl, List.forall_mem_cons.mpr ⟨List.mem_of_getElem? (i := 34) rfl, List.forall_mem_cons.mpr ⟨List.mem_of_getElem? (i := 35) rfl, List.forall_mem_cons.mpr ⟨List.mem_of_getElem? (i := 36) rfl, List.forall_mem_cons.mpr ⟨List.mem_of_getElem? (i := 37) rfl, List.forall_mem_cons.mpr ⟨List.mem_of_getElem? (i := 38) rfl, List.forall_mem_cons.mpr ⟨List.mem_of_getElem? (i := 39) rfl, List.forall_mem_cons.mpr ⟨List.mem_of_getElem? (i := 40) rfl, List.forall_mem_cons.mpr ⟨List.mem_of_getElem? (i := 41) rfl, List.forall_mem_cons.mpr ⟨List.mem_of_getElem? (i := 42) rfl, List.forall_mem_cons.mpr ⟨List.mem_of_getElem? (i := 43) rfl, List.forall_mem_cons.mpr ⟨List.mem_of_getElem? (i := 44) rfl, List.forall_mem_cons.mpr ⟨List.mem_of_getElem? (i := 45) rfl, List.forall_mem_cons.mpr ⟨List.mem_of_getElem? (i := 46) rfl, List.forall_mem_cons.mpr ⟨List.mem_of_getElem? (i := 47) rfl, List.forall_mem_cons.mpr ⟨List.mem_of_getElem? (i := 48) rfl, List.forall_mem_cons.mpr ⟨List.mem_of_getElem? (i := 49) rfl, List.forall_mem_cons.mpr ⟨List.mem_of_getElem? (i := 50) rfl, List.forall_mem_cons.mpr ⟨List.mem_of_getElem? (i := 51) rfl, List.forall_mem_cons.mpr ⟨List.mem_of_getElem? (i := 52) rfl, List.forall_mem_cons.mpr ⟨List.mem_of_getElem? (i := 53) rfl, fun _ h => absurd h List.not_mem_nil⟩⟩⟩⟩⟩⟩⟩⟩⟩⟩⟩⟩⟩⟩⟩⟩⟩⟩⟩⟩⟩
def j_X12_having_86 (N : Nat) (v4 : Int32) (v5 : Int32) (m_primeMany : Int32) (m_tableKind : Int32) (a_mprimes : Nat → Int64) (a_mtable : Nat → Int32) : Option (Int32 × Int32 × Int32 × (Nat → Int64) × (Nat → Int32)) :=
  if 0 ≤ v4 then
    some ((-4 : Int32), m_primeMany, m_tableKind, a_mprimes, a_mtable)
  else
    some (v5, m_primeMany, m_tableKind, a_mprimes, a_mtable)
set_option maxRecDepth 100000 in
set_option maxHeartbeats 4000000 in
theorem k_X12_having_86 {p : Program} {l : Launch} {e : Env} {s : State} {m : MethodId} {args : Array Value} {below : List Frame} {meth : Method} {c : Code} {dC : Nat → ClassId} {dI : Nat → Nat → Nat} {cyI cyJ cyZ : ClassId} {A : Nat → Prop} (C0 : mC p s m meth c args cX12_having (some .int) 7 RX12 wsX12_having (gK dC dI cyI cyJ cyZ) A) (N : Nat) (res : Int32 × Int32 × Int32 × (Nat → Int64) × (Nat → Int32)) (q_Md : Nat) (q_mprimes : Nat) (q_mtable : Nat) (q_mtext : Nat) (q_mtold : Nat) (q_mstretch : Nat) (q_mfewest : Nat) (q_misOdd : Nat) (q_misHigh : Nat) (q_misTop : Nat) (q_mbits : Nat) (q_mpile : Nat) (v4 : Int32) (v5 : Int32) (m_length : Int32) (m_primeMany : Int32) (m_toldMany : Int32) (m_fate : Int32) (m_tail : Int32) (m_round : Int32) (m_tableKind : Int32) (m_areLaid : Int32) (m_unlike : Int32) (m_isFree : Int32) (a_mprimes : Nat → Int64) (a_mtable : Nat → Int32) (h : j_X12_having_86 N v4 v5 m_primeMany m_tableKind a_mprimes a_mtable = some res) : ∀ (H : Heap) (locs : List Loc), va_P (dC, dI) vwCl (wd58 cyI cyJ cyZ q_Md q_mprimes q_mtable q_mtext q_mtold q_mstretch q_mfewest q_misOdd q_misHigh q_misTop q_mbits q_mpile m_length m_primeMany m_toldMany m_fate m_tail m_round m_tableKind m_areLaid m_unlike m_isFree a_mprimes a_mtable) H → va_D A (wd58 cyI cyJ cyZ q_Md q_mprimes q_mtable q_mtext q_mtold q_mstretch q_mfewest q_misOdd q_misHigh q_misTop q_mbits q_mpile m_length m_primeMany m_toldMany m_fate m_tail m_round m_tableKind m_areLaid m_unlike m_isFree a_mprimes a_mtable) → va_S A s.heap H locs → ∀ (ls : Array Slot), lv_has ls 7 [(4, .int v4), (5, .int v5)] → W p l e (headSpec wsX12_having rm_X12_having).room s m args below meth c H locs 0 0 (MQ below (va_Qi (fun (r : Int32) (_ : Unit) => r = res.1) (bW dC dI (fun (u : Unit) => (wd58 cyI cyJ cyZ q_Md q_mprimes q_mtable q_mtext q_mtold q_mstretch q_mfewest q_misOdd q_misHigh q_misTop q_mbits q_mpile m_length res.2.1 m_toldMany m_fate m_tail m_round res.2.2.1 m_areLaid m_unlike m_isFree res.2.2.2.1 res.2.2.2.2)) A) A) args s 0 0 A) (F0 m 86 ls []) := by
  obtain ⟨hx, hb, hr, hml, hown, hts, hlocks, hG, hA⟩ := id C0
  have hK := hG.1
  intro H locs hP hD hS ls hl
  unfold j_X12_having_86 at h
  refine lv_iload hx hb dX12_having_86 (lv_at hl 0 rfl) ?_
  refine lv_if_ge (tgt := 96) hx hb dX12_having_88 (by decide) (fun c18z => ?_) (fun c18z => ?_)
  · have h := xt h c18z
    refine lv_bipush (v := (-4 : Int32)) hx hb dX12_having_96 (by decide) ?_
    obtain rfl := Option.some.inj h
    exact W.iret (v := (-4 : Int32)) hx hb hr (fun t ht hW => ⟨⟨_, (), rfl, rfl, by rw [ht]; exact hP, hD⟩, hS.F ht⟩) hS.2.2 dX12_having_98 hlocks
  · have h := xf h c18z
    refine lv_iload hx hb dX12_having_91 (lv_at hl 1 rfl) ?_
    refine lv_goto (tgt := 98) hx hb dX12_having_93 (by decide) ?_
    obtain rfl := Option.some.inj h
    exact W.iret (v := v5) hx hb hr (fun t ht hW => ⟨⟨_, (), rfl, rfl, by rw [ht]; exact hP, hD⟩, hS.F ht⟩) hS.2.2 dX12_having_98 hlocks
def s_X12_having_50 (N : Nat) (v2 : Int32) (v3 : Int32) (v4 : Int32) (m_primeMany : Int32) (m_tableKind : Int32) (a_mprimes : Nat → Int64) (a_mtable : Nat → Int32) (k_50 : (Int32 × Int32) → Option (Int32 × Int32 × Int32 × (Nat → Int64) × (Nat → Int32))) (v5 : Int32) (v6 : Int32) : Option (Int32 × Int32 × Int32 × (Nat → Int64) × (Nat → Int32)) :=
  if v3 < v6 then
    j_X12_having_86 N v4 v5 m_primeMany m_tableKind a_mprimes a_mtable
  else
    if v6 < 0 ∨ 50001 ≤ v6.toNatClampNeg then
      none
    else
      if (a_mtable v6.toNatClampNeg) = v2 then
        if v5 = v4 then
          some (v6, m_primeMany, m_tableKind, a_mprimes, a_mtable)
        else
          xl (v5 + (1 : Int32)) fun y23z =>
          xl (v6 + (1 : Int32)) fun y24z =>
          k_50 (y23z, y24z)
      else
        xl (v6 + (1 : Int32)) fun y21z =>
        k_50 (v5, y21z)
def l_X12_having_50 (N : Nat) (v2 : Int32) (v3 : Int32) (v4 : Int32) (m_primeMany : Int32) (m_tableKind : Int32) (a_mprimes : Nat → Int64) (a_mtable : Nat → Int32) (n : Nat) (z : Int32 × Int32) : Option (Int32 × Int32 × Int32 × (Nat → Int64) × (Nat → Int32)) := lp (fun k z => s_X12_having_50 N v2 v3 v4 m_primeMany m_tableKind a_mprimes a_mtable k z.1 z.2) n z
set_option maxRecDepth 100000 in
set_option maxHeartbeats 4000000 in
theorem k_X12_having_50 {p : Program} {l : Launch} {e : Env} {s : State} {m : MethodId} {args : Array Value} {below : List Frame} {meth : Method} {c : Code} {dC : Nat → ClassId} {dI : Nat → Nat → Nat} {cyI cyJ cyZ : ClassId} {A : Nat → Prop} (C0 : mC p s m meth c args cX12_having (some .int) 7 RX12 wsX12_having (gK dC dI cyI cyJ cyZ) A) (N : Nat) (res : Int32 × Int32 × Int32 × (Nat → Int64) × (Nat → Int32)) (q_Md : Nat) (q_mprimes : Nat) (q_mtable : Nat) (q_mtext : Nat) (q_mtold : Nat) (q_mstretch : Nat) (q_mfewest : Nat) (q_misOdd : Nat) (q_misHigh : Nat) (q_misTop : Nat) (q_mbits : Nat) (q_mpile : Nat) (v2 : Int32) (v3 : Int32) (v4 : Int32) (m_length : Int32) (m_primeMany : Int32) (m_toldMany : Int32) (m_fate : Int32) (m_tail : Int32) (m_round : Int32) (m_tableKind : Int32) (m_areLaid : Int32) (m_unlike : Int32) (m_isFree : Int32) (a_mprimes : Nat → Int64) (a_mtable : Nat → Int32) : ∀ (n : Nat) (v5 : Int32) (v6 : Int32), l_X12_having_50 N v2 v3 v4 m_primeMany m_tableKind a_mprimes a_mtable n (v5, v6) = some res → ∀ (H : Heap) (locs : List Loc), va_P (dC, dI) vwCl (wd58 cyI cyJ cyZ q_Md q_mprimes q_mtable q_mtext q_mtold q_mstretch q_mfewest q_misOdd q_misHigh q_misTop q_mbits q_mpile m_length m_primeMany m_toldMany m_fate m_tail m_round m_tableKind m_areLaid m_unlike m_isFree a_mprimes a_mtable) H → va_D A (wd58 cyI cyJ cyZ q_Md q_mprimes q_mtable q_mtext q_mtold q_mstretch q_mfewest q_misOdd q_misHigh q_misTop q_mbits q_mpile m_length m_primeMany m_toldMany m_fate m_tail m_round m_tableKind m_areLaid m_unlike m_isFree a_mprimes a_mtable) → va_S A s.heap H locs → ∀ (ls : Array Slot), lv_has ls 7 [(0, .ref q_Md), (2, .int v2), (3, .int v3), (4, .int v4), (5, .int v5), (6, .int v6)] → W p l e (headSpec wsX12_having rm_X12_having).room s m args below meth c H locs 0 0 (MQ below (va_Qi (fun (r : Int32) (_ : Unit) => r = res.1) (bW dC dI (fun (u : Unit) => (wd58 cyI cyJ cyZ q_Md q_mprimes q_mtable q_mtext q_mtold q_mstretch q_mfewest q_misOdd q_misHigh q_misTop q_mbits q_mpile m_length res.2.1 m_toldMany m_fate m_tail m_round res.2.2.1 m_areLaid m_unlike m_isFree res.2.2.2.1 res.2.2.2.2)) A) A) args s 0 0 A) (F0 m 50 ls []) := by
  obtain ⟨hx, hb, hr, hml, hown, hts, hlocks, hG, hA⟩ := id C0
  have hK := hG.1
  intro n
  induction n with
  | zero =>
    intro v5 v6 h
    cases h
  | succ n ih =>
    intro v5 v6 h H locs hP hD hS ls hl
    have h : s_X12_having_50 N v2 v3 v4 m_primeMany m_tableKind a_mprimes a_mtable (l_X12_having_50 N v2 v3 v4 m_primeMany m_tableKind a_mprimes a_mtable n) v5 v6 = some res := h
    unfold s_X12_having_50 at h
    refine lv_iload hx hb dX12_having_50 (lv_at hl 5 rfl) ?_
    refine lv_iload_n hx hb dX12_having_52 rfl (lv_at hl 2 rfl) ?_
    refine lv_icmp_gt (tgt := 86) hx hb dX12_having_53 (by decide) (fun c17z => ?_) (fun c17z => ?_)
    · have h := xt h c17z
      exact k_X12_having_86 C0 N res q_Md q_mprimes q_mtable q_mtext q_mtold q_mstretch q_mfewest q_misOdd q_misHigh q_misTop q_mbits q_mpile v4 v5 m_length m_primeMany m_toldMany m_fate m_tail m_round m_tableKind m_areLaid m_unlike m_isFree a_mprimes a_mtable  h _ _ hP hD hS _ (lv_sub hl [3, 4] rfl)
    · have h := xf h c17z
      refine lv_aload_n hx hb dX12_having_56 rfl (lv_at hl 0 rfl) ?_
      refine va_get (D := (dC, dI)) (ci := 12) (v := .ref q_mtable) (C := RX12) (T := TX12) (N := 21) hx hb hts iw_X12_having_X12 hown hK hP 0 rfl rfl 10 (by decide) (hts (.fieldLink RX12 21 "GoesIntoModel" "table" "[I") (List.mem_of_getElem? (i := 3) rfl)) (fun _ h9 => h9) rfl dX12_having_57 ?_
      refine lv_iload hx hb dX12_having_60 (lv_at hl 5 rfl) ?_
      obtain ⟨b19z, h⟩ := xn h
      refine va_iald hx hb hK hP 2 0 rfl rfl b19z dX12_having_62 ?_
      refine lv_iload_n hx hb dX12_having_63 rfl (lv_at hl 1 rfl) ?_
      refine lv_icmp_ne (tgt := 80) hx hb dX12_having_64 (by decide) (fun c20z => ?_) (fun c20z => ?_)
      · have h := xf h c20z
        obtain ⟨y21z, ey21z⟩ : ∃ z : Int32, z = v6 + (1 : Int32) := ⟨_, rfl⟩
        have h := xl_at h ey21z
        refine lv_iinc (v := y21z) (lv' := [(6, .int y21z), (0, .ref q_Md), (2, .int v2), (3, .int v3), (4, .int v4), (5, .int v5)]) hx hb dX12_having_80 hl (k := 5) rfl (by rw [ey21z]; rfl) (by decide) rfl (fun ls hl => ?_)
        refine lv_goto (tgt := 50) hx hb dX12_having_83 (by decide) ?_
        exact ih v5 y21z h _ _ hP hD hS _ (lv_sub hl [1, 2, 3, 4, 5, 0] rfl)
      · have h := xt h c20z
        refine lv_iload hx hb dX12_having_67 (lv_at hl 4 rfl) ?_
        refine lv_iload hx hb dX12_having_69 (lv_at hl 3 rfl) ?_
        refine lv_icmp_ne (tgt := 77) hx hb dX12_having_71 (by decide) (fun c22z => ?_) (fun c22z => ?_)
        · have h := xf h c22z
          obtain ⟨y23z, ey23z⟩ : ∃ z : Int32, z = v5 + (1 : Int32) := ⟨_, rfl⟩
          have h := xl_at h ey23z
          refine lv_iinc (v := y23z) (lv' := [(5, .int y23z), (0, .ref q_Md), (2, .int v2), (3, .int v3), (4, .int v4), (6, .int v6)]) hx hb dX12_having_77 hl (k := 4) rfl (by rw [ey23z]; rfl) (by decide) rfl (fun ls hl => ?_)
          obtain ⟨y24z, ey24z⟩ : ∃ z : Int32, z = v6 + (1 : Int32) := ⟨_, rfl⟩
          have h := xl_at h ey24z
          refine lv_iinc (v := y24z) (lv' := [(6, .int y24z), (5, .int y23z), (0, .ref q_Md), (2, .int v2), (3, .int v3), (4, .int v4)]) hx hb dX12_having_80 hl (k := 5) rfl (by rw [ey24z]; rfl) (by decide) rfl (fun ls hl => ?_)
          refine lv_goto (tgt := 50) hx hb dX12_having_83 (by decide) ?_
          exact ih y23z y24z h _ _ hP hD hS _ (lv_sub hl [2, 3, 4, 5, 1, 0] rfl)
        · have h := xt h c22z
          refine lv_iload hx hb dX12_having_74 (lv_at hl 5 rfl) ?_
          obtain rfl := Option.some.inj h
          exact W.iret (v := v6) hx hb hr (fun t ht hW => ⟨⟨_, (), rfl, rfl, by rw [ht]; exact hP, hD⟩, hS.F ht⟩) hS.2.2 dX12_having_76 hlocks
def f_X12_having (N : Nat) (v1 : Int32) (v2 : Int32) (v3 : Int32) (v4 : Int32) (m_primeMany : Int32) (m_tableKind : Int32) (a_mprimes : Nat → Int64) (a_mtable : Nat → Int32) : Option (Int32 × Int32 × Int32 × (Nat → Int64) × (Nat → Int32)) :=
  Option.bind (f_X12_in N v1.toInt64 (0 : Int64) (3 : Int64)) fun r1z =>
  if r1z = 0 then
    some ((-1 : Int32), m_primeMany, m_tableKind, a_mprimes, a_mtable)
  else
    Option.bind (f_X12_in N v2.toInt64 (0 : Int64) (100000 : Int64)) fun r5z =>
    if r5z = 0 then
      some ((-1 : Int32), m_primeMany, m_tableKind, a_mprimes, a_mtable)
    else
      Option.bind (f_X12_isBound N v3) fun r9z =>
      if r9z = 0 then
        some ((-1 : Int32), m_primeMany, m_tableKind, a_mprimes, a_mtable)
      else
        if (-1 : Int32) ≤ v4 then
          Option.bind (f_X12_layTable N v1 m_primeMany m_tableKind a_mprimes a_mtable) fun r14z =>
          l_X12_having_50 N v2 v3 v4 r14z.1 r14z.2.1 r14z.2.2.1 r14z.2.2.2 N ((0 : Int32), (1 : Int32))
        else
          some ((-1 : Int32), m_primeMany, m_tableKind, a_mprimes, a_mtable)
set_option maxRecDepth 100000 in
set_option maxHeartbeats 4000000 in
theorem k_X12_having_0 {p : Program} {l : Launch} {e : Env} {s : State} {m : MethodId} {args : Array Value} {below : List Frame} {meth : Method} {c : Code} {dC : Nat → ClassId} {dI : Nat → Nat → Nat} {cyI cyJ cyZ : ClassId} {A : Nat → Prop} (C0 : mC p s m meth c args cX12_having (some .int) 7 RX12 wsX12_having (gK dC dI cyI cyJ cyZ) A) (N : Nat) (res : Int32 × Int32 × Int32 × (Nat → Int64) × (Nat → Int32)) (q_Md : Nat) (q_mprimes : Nat) (q_mtable : Nat) (q_mtext : Nat) (q_mtold : Nat) (q_mstretch : Nat) (q_mfewest : Nat) (q_misOdd : Nat) (q_misHigh : Nat) (q_misTop : Nat) (q_mbits : Nat) (q_mpile : Nat) (v1 : Int32) (v2 : Int32) (v3 : Int32) (v4 : Int32) (m_length : Int32) (m_primeMany : Int32) (m_toldMany : Int32) (m_fate : Int32) (m_tail : Int32) (m_round : Int32) (m_tableKind : Int32) (m_areLaid : Int32) (m_unlike : Int32) (m_isFree : Int32) (a_mprimes : Nat → Int64) (a_mtable : Nat → Int32) (h : f_X12_having N v1 v2 v3 v4 m_primeMany m_tableKind a_mprimes a_mtable = some res) : ∀ (H : Heap) (locs : List Loc), va_P (dC, dI) vwCl (wd58 cyI cyJ cyZ q_Md q_mprimes q_mtable q_mtext q_mtold q_mstretch q_mfewest q_misOdd q_misHigh q_misTop q_mbits q_mpile m_length m_primeMany m_toldMany m_fate m_tail m_round m_tableKind m_areLaid m_unlike m_isFree a_mprimes a_mtable) H → va_D A (wd58 cyI cyJ cyZ q_Md q_mprimes q_mtable q_mtext q_mtold q_mstretch q_mfewest q_misOdd q_misHigh q_misTop q_mbits q_mpile m_length m_primeMany m_toldMany m_fate m_tail m_round m_tableKind m_areLaid m_unlike m_isFree a_mprimes a_mtable) → va_S A s.heap H locs → ∀ (ls : Array Slot), lv_has ls 7 [(0, .ref q_Md), (1, .int v1), (2, .int v2), (3, .int v3), (4, .int v4)] → W p l e (headSpec wsX12_having rm_X12_having).room s m args below meth c H locs 0 0 (MQ below (va_Qi (fun (r : Int32) (_ : Unit) => r = res.1) (bW dC dI (fun (u : Unit) => (wd58 cyI cyJ cyZ q_Md q_mprimes q_mtable q_mtext q_mtold q_mstretch q_mfewest q_misOdd q_misHigh q_misTop q_mbits q_mpile m_length res.2.1 m_toldMany m_fate m_tail m_round res.2.2.1 m_areLaid m_unlike m_isFree res.2.2.2.1 res.2.2.2.2)) A) A) args s 0 0 A) (F0 m 0 ls []) := by
  obtain ⟨hx, hb, hr, hml, hown, hts, hlocks, hG, hA⟩ := id C0
  have hK := hG.1
  intro H locs hP hD hS ls hl
  unfold f_X12_having at h
  refine lv_iload_n hx hb dX12_having_0 rfl (lv_at hl 1 rfl) ?_
  refine lv_i2l (v := v1.toInt64) hx hb dX12_having_1 rfl ?_
  refine lv_lconst (v := (0 : Int64)) hx hb dX12_having_2 (by decide) ?_
  refine lv_ldc2 (v := (3 : Int64)) hx hb hown (hts (.constantLong RX12 69 (3)) (List.mem_of_getElem? (i := 1) rfl)) dX12_having_3 ?_
  obtain ⟨r1z, hr1z, h⟩ := xb_at h
  have hPc := hP.sub (ws' := (wd37 cyI cyJ cyZ)) [] rfl
  have hDc := hD.sub (ws' := (wd37 cyI cyJ cyZ)) [] (by decide) rfl
  refine cal_i [] [0, 1, 2] (va_runS (As := [.long v1.toInt64, .long (0 : Int64), .long (3 : Int64)]) (rest := []) ⟨hx, hb, hml, hown, hts⟩ (c_X12_in l dC dI cyI cyJ cyZ N r1z H.size  v1.toInt64 (0 : Int64) (3 : Int64)  hr1z) (va_cwS 3 hts gX12_having_X12_in rfl rfl rfl hd_X12_in ⟨Nat.le_of_ble_eq_true rfl, Nat.le_of_ble_eq_true rfl⟩) ⟨pC.blind, pC.pre hPc hG hDc⟩ rfl rfl hl.1 rfl (lv_room (Nat.le_of_ble_eq_true rfl)) dX12_having_6 ⟨Nat.zero_le _, Nat.zero_le _⟩) hP hD hS hA rfl rfl rfl (by decide) (fun x3z u2z H locs hw hP hD hS => ?_)
  obtain rfl := hw.symm
  have hP : va_P (dC, dI) vwCl (wd58 cyI cyJ cyZ q_Md q_mprimes q_mtable q_mtext q_mtold q_mstretch q_mfewest q_misOdd q_misHigh q_misTop q_mbits q_mpile m_length m_primeMany m_toldMany m_fate m_tail m_round m_tableKind m_areLaid m_unlike m_isFree a_mprimes a_mtable) H := hP.sub [0, 1, 2] rfl
  have hD : va_D A (wd58 cyI cyJ cyZ q_Md q_mprimes q_mtable q_mtext q_mtold q_mstretch q_mfewest q_misOdd q_misHigh q_misTop q_mbits q_mpile m_length m_primeMany m_toldMany m_fate m_tail m_round m_tableKind m_areLaid m_unlike m_isFree a_mprimes a_mtable) := hD.sub [0, 1, 2] (by decide) rfl
  refine lv_if_eq (tgt := 37) hx hb dX12_having_9 (by decide) (fun c4z => ?_) (fun c4z => ?_)
  · have h := xt h c4z
    refine lv_iconst (v := (-1 : Int32)) hx hb dX12_having_37 (by decide) ?_
    obtain rfl := Option.some.inj h
    exact W.iret (v := (-1 : Int32)) hx hb hr (fun t ht hW => ⟨⟨_, (), rfl, rfl, by rw [ht]; exact hP, hD⟩, hS.F ht⟩) hS.2.2 dX12_having_38 hlocks
  · have h := xf h c4z
    refine lv_iload_n hx hb dX12_having_12 rfl (lv_at hl 2 rfl) ?_
    refine lv_i2l (v := v2.toInt64) hx hb dX12_having_13 rfl ?_
    refine lv_lconst (v := (0 : Int64)) hx hb dX12_having_14 (by decide) ?_
    refine lv_ldc2 (v := (100000 : Int64)) hx hb hown (hts (.constantLong RX12 87 (100000)) (List.mem_of_getElem? (i := 2) rfl)) dX12_having_15 ?_
    obtain ⟨r5z, hr5z, h⟩ := xb_at h
    have hPc := hP.sub (ws' := (wd37 cyI cyJ cyZ)) [] rfl
    have hDc := hD.sub (ws' := (wd37 cyI cyJ cyZ)) [] (by decide) rfl
    refine cal_i [] [0, 1, 2] (va_runS (As := [.long v2.toInt64, .long (0 : Int64), .long (100000 : Int64)]) (rest := []) ⟨hx, hb, hml, hown, hts⟩ (c_X12_in l dC dI cyI cyJ cyZ N r5z H.size  v2.toInt64 (0 : Int64) (100000 : Int64)  hr5z) (va_cwS 3 hts gX12_having_X12_in rfl rfl rfl hd_X12_in ⟨Nat.le_of_ble_eq_true rfl, Nat.le_of_ble_eq_true rfl⟩) ⟨pC.blind, pC.pre hPc hG hDc⟩ rfl rfl hl.1 rfl (lv_room (Nat.le_of_ble_eq_true rfl)) dX12_having_18 ⟨Nat.zero_le _, Nat.zero_le _⟩) hP hD hS hA rfl rfl rfl (by decide) (fun x7z u6z H locs hw hP hD hS => ?_)
    obtain rfl := hw.symm
    have hP : va_P (dC, dI) vwCl (wd58 cyI cyJ cyZ q_Md q_mprimes q_mtable q_mtext q_mtold q_mstretch q_mfewest q_misOdd q_misHigh q_misTop q_mbits q_mpile m_length m_primeMany m_toldMany m_fate m_tail m_round m_tableKind m_areLaid m_unlike m_isFree a_mprimes a_mtable) H := hP.sub [0, 1, 2] rfl
    have hD : va_D A (wd58 cyI cyJ cyZ q_Md q_mprimes q_mtable q_mtext q_mtold q_mstretch q_mfewest q_misOdd q_misHigh q_misTop q_mbits q_mpile m_length m_primeMany m_toldMany m_fate m_tail m_round m_tableKind m_areLaid m_unlike m_isFree a_mprimes a_mtable) := hD.sub [0, 1, 2] (by decide) rfl
    refine lv_if_eq (tgt := 37) hx hb dX12_having_21 (by decide) (fun c8z => ?_) (fun c8z => ?_)
    · have h := xt h c8z
      refine lv_iconst (v := (-1 : Int32)) hx hb dX12_having_37 (by decide) ?_
      obtain rfl := Option.some.inj h
      exact W.iret (v := (-1 : Int32)) hx hb hr (fun t ht hW => ⟨⟨_, (), rfl, rfl, by rw [ht]; exact hP, hD⟩, hS.F ht⟩) hS.2.2 dX12_having_38 hlocks
    · have h := xf h c8z
      refine lv_iload_n hx hb dX12_having_24 rfl (lv_at hl 3 rfl) ?_
      obtain ⟨r9z, hr9z, h⟩ := xb_at h
      have hPc := hP.sub (ws' := (wd37 cyI cyJ cyZ)) [] rfl
      have hDc := hD.sub (ws' := (wd37 cyI cyJ cyZ)) [] (by decide) rfl
      refine cal_i [] [0, 1, 2] (va_runS (As := [.int v3]) (rest := []) ⟨hx, hb, hml, hown, hts⟩ (c_X12_isBound l dC dI cyI cyJ cyZ N r9z H.size  v3  hr9z) (va_cwS 1 hts gX12_having_X12_isBound rfl rfl rfl hd_X12_isBound ⟨Nat.le_of_ble_eq_true rfl, Nat.le_of_ble_eq_true rfl⟩) ⟨pC.blind, pC.pre hPc hG hDc⟩ rfl rfl hl.1 rfl (lv_room (Nat.le_of_ble_eq_true rfl)) dX12_having_25 ⟨Nat.zero_le _, Nat.zero_le _⟩) hP hD hS hA rfl rfl rfl (by decide) (fun x11z u10z H locs hw hP hD hS => ?_)
      obtain rfl := hw.symm
      have hP : va_P (dC, dI) vwCl (wd58 cyI cyJ cyZ q_Md q_mprimes q_mtable q_mtext q_mtold q_mstretch q_mfewest q_misOdd q_misHigh q_misTop q_mbits q_mpile m_length m_primeMany m_toldMany m_fate m_tail m_round m_tableKind m_areLaid m_unlike m_isFree a_mprimes a_mtable) H := hP.sub [0, 1, 2] rfl
      have hD : va_D A (wd58 cyI cyJ cyZ q_Md q_mprimes q_mtable q_mtext q_mtold q_mstretch q_mfewest q_misOdd q_misHigh q_misTop q_mbits q_mpile m_length m_primeMany m_toldMany m_fate m_tail m_round m_tableKind m_areLaid m_unlike m_isFree a_mprimes a_mtable) := hD.sub [0, 1, 2] (by decide) rfl
      refine lv_if_eq (tgt := 37) hx hb dX12_having_28 (by decide) (fun c12z => ?_) (fun c12z => ?_)
      · have h := xt h c12z
        refine lv_iconst (v := (-1 : Int32)) hx hb dX12_having_37 (by decide) ?_
        obtain rfl := Option.some.inj h
        exact W.iret (v := (-1 : Int32)) hx hb hr (fun t ht hW => ⟨⟨_, (), rfl, rfl, by rw [ht]; exact hP, hD⟩, hS.F ht⟩) hS.2.2 dX12_having_38 hlocks
      · have h := xf h c12z
        refine lv_iload hx hb dX12_having_31 (lv_at hl 4 rfl) ?_
        refine lv_iconst (v := (-1 : Int32)) hx hb dX12_having_33 (by decide) ?_
        refine lv_icmp_ge (tgt := 39) hx hb dX12_having_34 (by decide) (fun c13z => ?_) (fun c13z => ?_)
        · have h := xt h c13z
          refine lv_aload_n hx hb dX12_having_39 rfl (lv_at hl 0 rfl) ?_
          refine lv_iload_n hx hb dX12_having_40 rfl (lv_at hl 1 rfl) ?_
          obtain ⟨r14z, hr14z, h⟩ := xb_at h
          have hPc := hP.sub (ws' := (wd58 cyI cyJ cyZ q_Md q_mprimes q_mtable q_mtext q_mtold q_mstretch q_mfewest q_misOdd q_misHigh q_misTop q_mbits q_mpile m_length m_primeMany m_toldMany m_fate m_tail m_round m_tableKind m_areLaid m_unlike m_isFree a_mprimes a_mtable)) [0, 1, 2] rfl
          have hDc := hD.sub (ws' := (wd58 cyI cyJ cyZ q_Md q_mprimes q_mtable q_mtext q_mtold q_mstretch q_mfewest q_misOdd q_misHigh q_misTop q_mbits q_mpile m_length m_primeMany m_toldMany m_fate m_tail m_round m_tableKind m_areLaid m_unlike m_isFree a_mprimes a_mtable)) [0, 1, 2] (by decide) rfl
          refine cal_v [0, 1, 2] [] (va_runV (As := [.int v1]) (rest := []) ⟨hx, hb, hml, hown, hts⟩ (c_X12_layTable l dC dI cyI cyJ cyZ N r14z H.size q_Md q_mprimes q_mtable q_mtext q_mtold q_mstretch q_mfewest q_misOdd q_misHigh q_misTop q_mbits q_mpile v1 m_length m_primeMany m_toldMany m_fate m_tail m_round m_tableKind m_areLaid m_unlike m_isFree a_mprimes a_mtable hr14z) (cwV 1 hts gX12_having_X12_layTable rfl rfl rfl ⟨rfl, hd_X12_layTable⟩ ⟨Nat.le_of_ble_eq_true rfl, Nat.le_of_ble_eq_true rfl⟩) ⟨pC.blind, va_recv hK hPc (ci := 12) (q0 := 0) rfl rfl, pC.pre hPc hG hDc⟩ rfl rfl hl.1 rfl (lv_room (Nat.le_of_ble_eq_true rfl)) dX12_having_41 ⟨Nat.zero_le _, Nat.zero_le _⟩) hP hD hS hA rfl rfl rfl (by decide) (fun u15z H locs _ hP hD hS => ?_)
          have hP : va_P (dC, dI) vwCl (wd58 cyI cyJ cyZ q_Md q_mprimes q_mtable q_mtext q_mtold q_mstretch q_mfewest q_misOdd q_misHigh q_misTop q_mbits q_mpile m_length r14z.1 m_toldMany m_fate m_tail m_round r14z.2.1 m_areLaid m_unlike m_isFree r14z.2.2.1 r14z.2.2.2) H := hP.sub [0, 1, 2] rfl
          have hD : va_D A (wd58 cyI cyJ cyZ q_Md q_mprimes q_mtable q_mtext q_mtold q_mstretch q_mfewest q_misOdd q_misHigh q_misTop q_mbits q_mpile m_length r14z.1 m_toldMany m_fate m_tail m_round r14z.2.1 m_areLaid m_unlike m_isFree r14z.2.2.1 r14z.2.2.2) := hD.sub [0, 1, 2] (by decide) rfl
          refine lv_iconst (v := (0 : Int32)) hx hb dX12_having_44 (by decide) ?_
          refine lv_istore (lv' := [(5, .int (0 : Int32)), (0, .ref q_Md), (1, .int v1), (2, .int v2), (3, .int v3), (4, .int v4)]) hx hb dX12_having_45 hl (by decide) rfl (fun ls hl => ?_)
          refine lv_iconst (v := (1 : Int32)) hx hb dX12_having_47 (by decide) ?_
          refine lv_istore (lv' := [(6, .int (1 : Int32)), (5, .int (0 : Int32)), (0, .ref q_Md), (1, .int v1), (2, .int v2), (3, .int v3), (4, .int v4)]) hx hb dX12_having_48 hl (by decide) rfl (fun ls hl => ?_)
          exact k_X12_having_50 C0 N res q_Md q_mprimes q_mtable q_mtext q_mtold q_mstretch q_mfewest q_misOdd q_misHigh q_misTop q_mbits q_mpile v2 v3 v4 m_length r14z.1 m_toldMany m_fate m_tail m_round r14z.2.1 m_areLaid m_unlike m_isFree r14z.2.2.1 r14z.2.2.2 N (0 : Int32) (1 : Int32) h _ _ hP hD hS _ (lv_sub hl [2, 4, 5, 6, 1, 0] rfl)
        · have h := xf h c13z
          refine lv_iconst (v := (-1 : Int32)) hx hb dX12_having_37 (by decide) ?_
          obtain rfl := Option.some.inj h
          exact W.iret (v := (-1 : Int32)) hx hb hr (fun t ht hW => ⟨⟨_, (), rfl, rfl, by rw [ht]; exact hP, hD⟩, hS.F ht⟩) hS.2.2 dX12_having_38 hlocks
set_option maxRecDepth 100000 in
set_option maxHeartbeats 4000000 in
theorem c_X12_having (l : Launch) (dC : Nat → ClassId) (dI : Nat → Nat → Nat) (cyI cyJ cyZ : ClassId) (N : Nat) (res : Int32 × Int32 × Int32 × (Nat → Int64) × (Nat → Int32)) (sz : Nat) (q_Md : Nat) (q_mprimes : Nat) (q_mtable : Nat) (q_mtext : Nat) (q_mtold : Nat) (q_mstretch : Nat) (q_mfewest : Nat) (q_misOdd : Nat) (q_misHigh : Nat) (q_misTop : Nat) (q_mbits : Nat) (q_mpile : Nat) (v1 : Int32) (v2 : Int32) (v3 : Int32) (v4 : Int32) (m_length : Int32) (m_primeMany : Int32) (m_toldMany : Int32) (m_fate : Int32) (m_tail : Int32) (m_round : Int32) (m_tableKind : Int32) (m_areLaid : Int32) (m_unlike : Int32) (m_isFree : Int32) (a_mprimes : Nat → Int64) (a_mtable : Nat → Int32) (h : f_X12_having N v1 v2 v3 v4 m_primeMany m_tableKind a_mprimes a_mtable = some res) : Met l yX12_having wsX12_having rm_X12_having (pC dC dI cyI cyJ cyZ [.ref q_Md, .int v1, .int v2, .int v3, .int v4] sz (wd58 cyI cyJ cyZ q_Md q_mprimes q_mtable q_mtext q_mtold q_mstretch q_mfewest q_misOdd q_misHigh q_misTop q_mbits q_mpile m_length m_primeMany m_toldMany m_fate m_tail m_round m_tableKind m_areLaid m_unlike m_isFree a_mprimes a_mtable)) (va_Qi (fun (r : Int32) (_ : Unit) => r = res.1) (bW dC dI (fun (u : Unit) => (wd58 cyI cyJ cyZ q_Md q_mprimes q_mtable q_mtext q_mtold q_mstretch q_mfewest q_misOdd q_misHigh q_misTop q_mbits q_mpile m_length res.2.1 m_toldMany m_fate m_tail m_round res.2.2.1 m_areLaid m_unlike m_isFree res.2.2.2.1 res.2.2.2.2)) (va_A (wd58 cyI cyJ cyZ q_Md q_mprimes q_mtable q_mtext q_mtold q_mstretch q_mfewest q_misOdd q_misHigh q_misTop q_mbits q_mpile m_length m_primeMany m_toldMany m_fate m_tail m_round m_tableKind m_areLaid m_unlike m_isFree a_mprimes a_mtable) sz)) (va_A (wd58 cyI cyJ cyZ q_Md q_mprimes q_mtable q_mtext q_mtold q_mstretch q_mfewest q_misOdd q_misHigh q_misTop q_mbits q_mpile m_length m_primeMany m_toldMany m_fate m_tail m_round m_tableKind m_areLaid m_unlike m_isFree a_mprimes a_mtable) sz)) 0 0 (va_A (wd58 cyI cyJ cyZ q_Md q_mprimes q_mtable q_mtext q_mtold q_mstretch q_mfewest q_misOdd q_misHigh q_misTop q_mbits q_mpile m_length m_primeMany m_toldMany m_fate m_tail m_round m_tableKind m_areLaid m_unlike m_isFree a_mprimes a_mtable) sz) := by
  refine Met.ofW (cc := cX12_having) (maxL := 7) (ret := (some .int)) (by decide) rfl ?_
  intro p e s m args below meth c s₁ B hml hv
  obtain ⟨rfl, hsz, hP, hG, hD0⟩ := hv
  have hx := B.exec
  have hb := B.bytes
  have hr := B.returns
  have hts := atoms_spec (ws := wsX12_having) B.pre
  have hown : s.vm.findClass RX12 = some m.cls := findClass_of_methodNamed B.named
  have hlocks := B.notSynchronized
  subst hsz
  have hD := hD0.self (sz := s.heap.size)
  generalize hAe : va_A (wd58 cyI cyJ cyZ q_Md q_mprimes q_mtable q_mtext q_mtold q_mstretch q_mfewest q_misOdd q_misHigh q_misTop q_mbits q_mpile m_length m_primeMany m_toldMany m_fate m_tail m_round m_tableKind m_areLaid m_unlike m_isFree a_mprimes a_mtable) s.heap.size = A at hD ⊢
  have hA : ∀ q : Nat, s.heap.size ≤ q → A q := fun q h => by rw [← hAe]; exact Or.inr h
  have hS : va_S A s.heap s.heap [] := va_S.rf
  have hl := lv_entry ([.ref q_Md, .int v1, .int v2, .int v3, .int v4]) (n := 7) (Nat.le_of_ble_eq_true rfl)
  rw [lg_entry_eq]
  generalize (lg_sl ([.ref q_Md, .int v1, .int v2, .int v3, .int v4]) ++ List.replicate (7 - (lg_sl ([.ref q_Md, .int v1, .int v2, .int v3, .int v4])).length) Slot.unset).toArray = ls at hl ⊢
  have hl : lv_has ls 7 [(0, .ref q_Md), (1, .int v1), (2, .int v2), (3, .int v3), (4, .int v4)] := hl
  exact k_X12_having_0 ⟨hx, hb, hr, hml, hown, hts, hlocks, hG, hA⟩ N res q_Md q_mprimes q_mtable q_mtext q_mtold q_mstretch q_mfewest q_misOdd q_misHigh q_misTop q_mbits q_mpile v1 v2 v3 v4 m_length m_primeMany m_toldMany m_fate m_tail m_round m_tableKind m_areLaid m_unlike m_isFree a_mprimes a_mtable  h _ _ hP hD hS _ hl
/-- the cells Md, mstretch -/
abbrev wd60 (cyI cyJ cyZ : ClassId) (q_Md : Nat) (q_mstretch : Nat) (q_mtext : Nat) (q_mprimes : Nat) (q_mtold : Nat) (q_mtable : Nat) (q_mfewest : Nat) (q_misOdd : Nat) (q_misHigh : Nat) (q_misTop : Nat) (q_mbits : Nat) (q_mpile : Nat) (m_length : Int32) (m_primeMany : Int32) (m_toldMany : Int32) (m_fate : Int32) (m_tail : Int32) (m_round : Int32) (m_tableKind : Int32) (m_areLaid : Int32) (m_unlike : Int32) (m_isFree : Int32) (a_mstretch : Nat → Int64) : va_W := [(q_Md, .inr (12, [.int m_length, .ref q_mtext, .int m_primeMany, .ref q_mprimes, .int m_toldMany, .ref q_mtold, .int m_fate, .int m_tail, .int m_round, .int m_tableKind, .ref q_mtable, .ref q_mstretch, .ref q_mfewest, .int m_areLaid, .ref q_misOdd, .ref q_misHigh, .ref q_misTop, .ref q_mbits, .int m_unlike, .int m_isFree, .ref q_mpile])), (q_mstretch, .inl (cyJ, 1000, .inr (.inl a_mstretch)))]
abbrev rm_X12_layStretch : Room := { frames := 0, cells := 0, slots := 0, locals := 0 }
theorem hd_X12_layStretch : yX12_layStretch.cls ≠ "java/lang/invoke/MethodHandle" ∧ yX12_layStretch.cls ≠ "java/lang/invoke/VarHandle" ∧ (parseMethodDescriptor yX12_layStretch.desc).map (fun d => d.parameters.length) = some 1 := by decide +kernel
theorem iw_X12_layStretch_X12 : ∀ w ∈ wsX120, w ∈ wsX12_layStretch := List.forall_mem_cons.mpr ⟨List.mem_of_getElem? (i := 3) rfl, List.forall_mem_cons.mpr ⟨List.mem_of_getElem? (i := 4) rfl, List.forall_mem_cons.mpr ⟨List.mem_of_getElem? (i := 5) rfl, List.forall_mem_cons.mpr ⟨List.mem_of_getElem? (i := 6) rfl, List.forall_mem_cons.mpr ⟨List.mem_of_getElem? (i := 7) rfl, List.forall_mem_cons.mpr ⟨List.mem_of_getElem? (i := 8) rfl, List.forall_mem_cons.mpr ⟨List.mem_of_getElem? (i := 9) rfl, List.forall_mem_cons.mpr ⟨List.mem_of_getElem? (i := 10) rfl, List.forall_mem_cons.mpr ⟨List.mem_of_getElem? (i := 11) rfl, List.forall_mem_cons.mpr ⟨List.mem_of_getElem? (i := 12) rfl, List.forall_mem_cons.mpr ⟨List.mem_of_getElem? (i := 13) rfl, List.forall_mem_cons.mpr ⟨List.mem_of_getElem? (i := 14) rfl, List.forall_mem_cons.mpr ⟨List.mem_of_getElem? (i := 15) rfl, List.forall_mem_cons.mpr ⟨List.mem_of_getElem? (i := 16) rfl, List.forall_mem_cons.mpr ⟨List.mem_of_getElem? (i := 17) rfl, List.forall_mem_cons.mpr ⟨List.mem_of_getElem? (i := 18) rfl, List.forall_mem_cons.mpr ⟨List.mem_of_getElem? (i := 19) rfl, List.forall_mem_cons.mpr ⟨List.mem_of_getElem? (i := 20) rfl, List.forall_mem_cons.mpr ⟨List.mem_of_getElem? (i := 21) rfl, List.forall_mem_cons.mpr ⟨List.mem_of_getElem? (i := 22) rfl, List.forall_mem_cons.mpr ⟨List.mem_of_getElem? (i := 23) rfl, fun _ h => absurd h List.not_mem_nil⟩⟩⟩⟩⟩⟩⟩⟩⟩⟩⟩⟩⟩⟩⟩⟩⟩⟩⟩⟩⟩
def j_X12_layStretch_107 (N : Nat) (k_66 : (Int64 × (Nat → Int64)) → Option ((Nat → Int64))) (v3 : Int64) (v7 : Int64) (s0 : Int64) (s1 : Int64) (s2 : Int32) (a_mstretch : Nat → Int64) : Option ((Nat → Int64)) :=
  xl (s1 + s0) fun y12z =>
  if s2 < 0 ∨ 1000 ≤ s2.toNatClampNeg then
    none
  else
    xl (v7 + v3) fun y14z =>
    k_66 (y14z, vp_updL a_mstretch s2.toNatClampNeg y12z)
set_option maxRecDepth 100000 in
set_option maxHeartbeats 4000000 in
theorem k_X12_layStretch_107 {p : Program} {l : Launch} {e : Env} {s : State} {m : MethodId} {args : Array Value} {below : List Frame} {meth : Method} {c : Code} {dC : Nat → ClassId} {dI : Nat → Nat → Nat} {cyI cyJ cyZ : ClassId} {A : Nat → Prop} (C0 : mC p s m meth c args cX12_layStretch none 9 RX12 wsX12_layStretch (gK dC dI cyI cyJ cyZ) A) (N : Nat) (res : (Nat → Int64)) (q_Md : Nat) (q_mstretch : Nat) (q_mtext : Nat) (q_mprimes : Nat) (q_mtold : Nat) (q_mtable : Nat) (q_mfewest : Nat) (q_misOdd : Nat) (q_misHigh : Nat) (q_misTop : Nat) (q_mbits : Nat) (q_mpile : Nat) (v1 : Int64) (s0 : Int64) (s1 : Int64) (s2 : Int32) (m_length : Int32) (m_primeMany : Int32) (m_toldMany : Int32) (m_fate : Int32) (m_tail : Int32) (m_round : Int32) (m_tableKind : Int32) (m_areLaid : Int32) (m_unlike : Int32) (m_isFree : Int32) (v3 : Int64) (k_66 : (Int64 × (Nat → Int64)) → Option ((Nat → Int64))) (hk_66 : ∀ (v7 : Int64) (a_mstretch : Nat → Int64), k_66 (v7, a_mstretch) = some res → ∀ (H : Heap) (locs : List Loc), va_P (dC, dI) vwCl (wd60 cyI cyJ cyZ q_Md q_mstretch q_mtext q_mprimes q_mtold q_mtable q_mfewest q_misOdd q_misHigh q_misTop q_mbits q_mpile m_length m_primeMany m_toldMany m_fate m_tail m_round m_tableKind m_areLaid m_unlike m_isFree a_mstretch) H → va_D A (wd60 cyI cyJ cyZ q_Md q_mstretch q_mtext q_mprimes q_mtold q_mtable q_mfewest q_misOdd q_misHigh q_misTop q_mbits q_mpile m_length m_primeMany m_toldMany m_fate m_tail m_round m_tableKind m_areLaid m_unlike m_isFree a_mstretch) → va_S A s.heap H locs → ∀ (ls : Array Slot), lv_has ls 9 [(0, .ref q_Md), (1, .long v1), (3, .long v3), (7, .long v7)] → W p l e (headSpec wsX12_layStretch rm_X12_layStretch).room s m args below meth c H locs 0 0 (MQ below (va_Qv (fun (_ : Unit) => True) (bW dC dI (fun (u : Unit) => (wd60 cyI cyJ cyZ q_Md q_mstretch q_mtext q_mprimes q_mtold q_mtable q_mfewest q_misOdd q_misHigh q_misTop q_mbits q_mpile m_length m_primeMany m_toldMany m_fate m_tail m_round m_tableKind m_areLaid m_unlike m_isFree res)) A) A) args s 0 0 A) (F0 m 66 ls [])) (v7 : Int64) (a_mstretch : Nat → Int64) (h : j_X12_layStretch_107 N k_66 v3 v7 s0 s1 s2 a_mstretch = some res) : ∀ (H : Heap) (locs : List Loc), va_P (dC, dI) vwCl (wd60 cyI cyJ cyZ q_Md q_mstretch q_mtext q_mprimes q_mtold q_mtable q_mfewest q_misOdd q_misHigh q_misTop q_mbits q_mpile m_length m_primeMany m_toldMany m_fate m_tail m_round m_tableKind m_areLaid m_unlike m_isFree a_mstretch) H → va_D A (wd60 cyI cyJ cyZ q_Md q_mstretch q_mtext q_mprimes q_mtold q_mtable q_mfewest q_misOdd q_misHigh q_misTop q_mbits q_mpile m_length m_primeMany m_toldMany m_fate m_tail m_round m_tableKind m_areLaid m_unlike m_isFree a_mstretch) → va_S A s.heap H locs → ∀ (ls : Array Slot), lv_has ls 9 [(0, .ref q_Md), (1, .long v1), (3, .long v3), (7, .long v7)] → W p l e (headSpec wsX12_layStretch rm_X12_layStretch).room s m args below meth c H locs 0 0 (MQ below (va_Qv (fun (_ : Unit) => True) (bW dC dI (fun (u : Unit) => (wd60 cyI cyJ cyZ q_Md q_mstretch q_mtext q_mprimes q_mtold q_mtable q_mfewest q_misOdd q_misHigh q_misTop q_mbits q_mpile m_length m_primeMany m_toldMany m_fate m_tail m_round m_tableKind m_areLaid m_unlike m_isFree res)) A) A) args s 0 0 A) (F0 m 107 ls [.long s0, .long s1, .int s2, .ref q_mstretch]) := by
  obtain ⟨hx, hb, hr, hml, hown, hts, hlocks, hG, hA⟩ := id C0
  have hK := hG.1
  intro H locs hP hD hS ls hl
  unfold j_X12_layStretch_107 at h
  refine lv_ladd hx hb dX12_layStretch_107 ?_
  refine lv_topl (fun y12z ey12z => ?_)
  have h := xl_at h ey12z
  obtain ⟨b13z, h⟩ := xn h
  refine va_last hx hb hK hP hD hS 1 1 rfl rfl b13z dX12_layStretch_108 (fun H locs hP hD hS => ?_)
  have hP : va_P (dC, dI) vwCl (wd60 cyI cyJ cyZ q_Md q_mstretch q_mtext q_mprimes q_mtold q_mtable q_mfewest q_misOdd q_misHigh q_misTop q_mbits q_mpile m_length m_primeMany m_toldMany m_fate m_tail m_round m_tableKind m_areLaid m_unlike m_isFree (vp_updL a_mstretch s2.toNatClampNeg y12z)) H := hP
  have hD : va_D A (wd60 cyI cyJ cyZ q_Md q_mstretch q_mtext q_mprimes q_mtold q_mtable q_mfewest q_misOdd q_misHigh q_misTop q_mbits q_mpile m_length m_primeMany m_toldMany m_fate m_tail m_round m_tableKind m_areLaid m_unlike m_isFree (vp_updL a_mstretch s2.toNatClampNeg y12z)) := hD
  refine lv_lload hx hb dX12_layStretch_109 (lv_at hl 3 rfl) ?_
  refine lv_lload_n hx hb dX12_layStretch_111 rfl (lv_at hl 2 rfl) ?_
  refine lv_ladd hx hb dX12_layStretch_112 ?_
  refine lv_topl (fun y14z ey14z => ?_)
  have h := xl_at h ey14z
  refine lv_lstore (lv' := [(7, .long y14z), (0, .ref q_Md), (1, .long v1), (3, .long v3)]) hx hb dX12_layStretch_113 hl (by decide) rfl (fun ls hl => ?_)
  refine lv_goto (tgt := 66) hx hb dX12_layStretch_115 (by decide) ?_
  exact hk_66 y14z (vp_updL a_mstretch s2.toNatClampNeg y12z) h _ _ hP hD hS _ (lv_sub hl [1, 2, 3, 0] rfl)
def s_X12_layStretch_66 (N : Nat) (k_24 : (Int64 × (Nat → Int64)) → Option ((Nat → Int64))) (v1 : Int64) (v3 : Int64) (k_66 : (Int64 × (Nat → Int64)) → Option ((Nat → Int64))) (v7 : Int64) (a_mstretch : Nat → Int64) : Option ((Nat → Int64)) :=
  if (v1 + (1000 : Int64)) ≤ v7 then
    xl (v3 + (1 : Int64)) fun y7z =>
    k_24 (y7z, a_mstretch)
  else
    xl ((v7 - v1).toInt32) fun y8z =>
    if y8z < 0 ∨ 1000 ≤ y8z.toNatClampNeg then
      none
    else
      if (v3 * v3) = v7 then
        j_X12_layStretch_107 N k_66 v3 v7 v3 (a_mstretch y8z.toNatClampNeg) ((v7 - v1).toInt32) a_mstretch
      else
        if v3 = 0 then
          none
        else
          j_X12_layStretch_107 N k_66 v3 v7 (v3 + (v7 / v3)) (a_mstretch y8z.toNatClampNeg) ((v7 - v1).toInt32) a_mstretch
def l_X12_layStretch_66 (N : Nat) (k_24 : (Int64 × (Nat → Int64)) → Option ((Nat → Int64))) (v1 : Int64) (v3 : Int64) (n : Nat) (z : Int64 × (Nat → Int64)) : Option ((Nat → Int64)) := lp (fun k z => s_X12_layStretch_66 N k_24 v1 v3 k z.1 z.2) n z
set_option maxRecDepth 100000 in
set_option maxHeartbeats 4000000 in
theorem k_X12_layStretch_66 {p : Program} {l : Launch} {e : Env} {s : State} {m : MethodId} {args : Array Value} {below : List Frame} {meth : Method} {c : Code} {dC : Nat → ClassId} {dI : Nat → Nat → Nat} {cyI cyJ cyZ : ClassId} {A : Nat → Prop} (C0 : mC p s m meth c args cX12_layStretch none 9 RX12 wsX12_layStretch (gK dC dI cyI cyJ cyZ) A) (N : Nat) (res : (Nat → Int64)) (q_Md : Nat) (q_mstretch : Nat) (q_mtext : Nat) (q_mprimes : Nat) (q_mtold : Nat) (q_mtable : Nat) (q_mfewest : Nat) (q_misOdd : Nat) (q_misHigh : Nat) (q_misTop : Nat) (q_mbits : Nat) (q_mpile : Nat) (v1 : Int64) (m_length : Int32) (m_primeMany : Int32) (m_toldMany : Int32) (m_fate : Int32) (m_tail : Int32) (m_round : Int32) (m_tableKind : Int32) (m_areLaid : Int32) (m_unlike : Int32) (m_isFree : Int32) (k_24 : (Int64 × (Nat → Int64)) → Option ((Nat → Int64))) (hk_24 : ∀ (v3 : Int64) (a_mstretch : Nat → Int64), k_24 (v3, a_mstretch) = some res → ∀ (H : Heap) (locs : List Loc), va_P (dC, dI) vwCl (wd60 cyI cyJ cyZ q_Md q_mstretch q_mtext q_mprimes q_mtold q_mtable q_mfewest q_misOdd q_misHigh q_misTop q_mbits q_mpile m_length m_primeMany m_toldMany m_fate m_tail m_round m_tableKind m_areLaid m_unlike m_isFree a_mstretch) H → va_D A (wd60 cyI cyJ cyZ q_Md q_mstretch q_mtext q_mprimes q_mtold q_mtable q_mfewest q_misOdd q_misHigh q_misTop q_mbits q_mpile m_length m_primeMany m_toldMany m_fate m_tail m_round m_tableKind m_areLaid m_unlike m_isFree a_mstretch) → va_S A s.heap H locs → ∀ (ls : Array Slot), lv_has ls 9 [(0, .ref q_Md), (1, .long v1), (3, .long v3)] → W p l e (headSpec wsX12_layStretch rm_X12_layStretch).room s m args below meth c H locs 0 0 (MQ below (va_Qv (fun (_ : Unit) => True) (bW dC dI (fun (u : Unit) => (wd60 cyI cyJ cyZ q_Md q_mstretch q_mtext q_mprimes q_mtold q_mtable q_mfewest q_misOdd q_misHigh q_misTop q_mbits q_mpile m_length m_primeMany m_toldMany m_fate m_tail m_round m_tableKind m_areLaid m_unlike m_isFree res)) A) A) args s 0 0 A) (F0 m 24 ls [])) (v3 : Int64) : ∀ (n : Nat) (v7 : Int64) (a_mstretch : Nat → Int64), l_X12_layStretch_66 N k_24 v1 v3 n (v7, a_mstretch) = some res → ∀ (H : Heap) (locs : List Loc), va_P (dC, dI) vwCl (wd60 cyI cyJ cyZ q_Md q_mstretch q_mtext q_mprimes q_mtold q_mtable q_mfewest q_misOdd q_misHigh q_misTop q_mbits q_mpile m_length m_primeMany m_toldMany m_fate m_tail m_round m_tableKind m_areLaid m_unlike m_isFree a_mstretch) H → va_D A (wd60 cyI cyJ cyZ q_Md q_mstretch q_mtext q_mprimes q_mtold q_mtable q_mfewest q_misOdd q_misHigh q_misTop q_mbits q_mpile m_length m_primeMany m_toldMany m_fate m_tail m_round m_tableKind m_areLaid m_unlike m_isFree a_mstretch) → va_S A s.heap H locs → ∀ (ls : Array Slot), lv_has ls 9 [(0, .ref q_Md), (1, .long v1), (3, .long v3), (7, .long v7)] → W p l e (headSpec wsX12_layStretch rm_X12_layStretch).room s m args below meth c H locs 0 0 (MQ below (va_Qv (fun (_ : Unit) => True) (bW dC dI (fun (u : Unit) => (wd60 cyI cyJ cyZ q_Md q_mstretch q_mtext q_mprimes q_mtold q_mtable q_mfewest q_misOdd q_misHigh q_misTop q_mbits q_mpile m_length m_primeMany m_toldMany m_fate m_tail m_round m_tableKind m_areLaid m_unlike m_isFree res)) A) A) args s 0 0 A) (F0 m 66 ls []) := by
  obtain ⟨hx, hb, hr, hml, hown, hts, hlocks, hG, hA⟩ := id C0
  have hK := hG.1
  intro n
  induction n with
  | zero =>
    intro v7 a_mstretch h
    cases h
  | succ n ih =>
    intro v7 a_mstretch h H locs hP hD hS ls hl
    have h : s_X12_layStretch_66 N k_24 v1 v3 (l_X12_layStretch_66 N k_24 v1 v3 n) v7 a_mstretch = some res := h
    unfold s_X12_layStretch_66 at h
    refine lv_lload hx hb dX12_layStretch_66 (lv_at hl 3 rfl) ?_
    refine lv_lload_n hx hb dX12_layStretch_68 rfl (lv_at hl 1 rfl) ?_
    refine lv_ldc2 (v := (1000 : Int64)) hx hb hown (hts (.constantLong RX12 122 (1000)) (List.mem_of_getElem? (i := 2) rfl)) dX12_layStretch_69 ?_
    refine lv_ladd hx hb dX12_layStretch_72 ?_
    refine W.lcmp hx hb dX12_layStretch_73 ?_
    refine lv_if_ge (tgt := 118) hx hb dX12_layStretch_74 (by decide) (fun c6z => ?_) (fun c6z => ?_)
    · have c6z := (lg_cmp_ge _ _).mp c6z
      have h := xt h c6z
      refine lv_lload_n hx hb dX12_layStretch_118 rfl (lv_at hl 2 rfl) ?_
      refine lv_lconst (v := (1 : Int64)) hx hb dX12_layStretch_119 (by decide) ?_
      refine lv_ladd hx hb dX12_layStretch_120 ?_
      refine lv_topl (fun y7z ey7z => ?_)
      have h := xl_at h ey7z
      refine lv_lstore_n (lv' := [(3, .long y7z), (0, .ref q_Md), (1, .long v1), (7, .long v7)]) hx hb dX12_layStretch_121 rfl hl (by decide) rfl (fun ls hl => ?_)
      refine lv_goto (tgt := 24) hx hb dX12_layStretch_122 (by decide) ?_
      exact hk_24 y7z a_mstretch h _ _ hP hD hS _ (lv_sub hl [1, 2, 0] rfl)
    · have c6z := fun z => c6z ((lg_cmp_ge _ _).mpr z)
      have h := xf h c6z
      refine lv_aload_n hx hb dX12_layStretch_77 rfl (lv_at hl 0 rfl) ?_
      refine va_get (D := (dC, dI)) (ci := 12) (v := .ref q_mstretch) (C := RX12) (T := TX12) (N := 21) hx hb hts iw_X12_layStretch_X12 hown hK hP 0 rfl rfl 11 (by decide) (hts (.fieldLink RX12 24 "GoesIntoModel" "stretch" "[J") (List.mem_of_getElem? (i := 1) rfl)) (fun _ h9 => h9) rfl dX12_layStretch_78 ?_
      refine lv_lload hx hb dX12_layStretch_81 (lv_at hl 3 rfl) ?_
      refine lv_lload_n hx hb dX12_layStretch_83 rfl (lv_at hl 1 rfl) ?_
      refine lv_lsub hx hb dX12_layStretch_84 ?_
      refine lv_l2i (v := (v7 - v1).toInt32) hx hb dX12_layStretch_85 rfl ?_
      refine lv_dup2_11 hx hb dX12_layStretch_86 rfl rfl ?_
      refine lv_topi (fun y8z ey8z => ?_)
      have h := xl_at h ey8z
      obtain ⟨b9z, h⟩ := xn h
      refine va_lald hx hb hK hP 1 1 rfl rfl b9z dX12_layStretch_87 ?_
      refine lv_lload_n hx hb dX12_layStretch_88 rfl (lv_at hl 2 rfl) ?_
      refine lv_lload_n hx hb dX12_layStretch_89 rfl (lv_at hl 2 rfl) ?_
      refine lv_lmul hx hb dX12_layStretch_90 ?_
      refine lv_lload hx hb dX12_layStretch_91 (lv_at hl 3 rfl) ?_
      refine W.lcmp hx hb dX12_layStretch_93 ?_
      refine lv_if_ne (tgt := 101) hx hb dX12_layStretch_94 (by decide) (fun c10z => ?_) (fun c10z => ?_)
      · have c10z := fun z => c10z ((lg_cmp_eq _ _).mpr z)
        have h := xf h c10z
        refine lv_lload_n hx hb dX12_layStretch_101 rfl (lv_at hl 2 rfl) ?_
        refine lv_lload hx hb dX12_layStretch_102 (lv_at hl 3 rfl) ?_
        refine lv_lload_n hx hb dX12_layStretch_104 rfl (lv_at hl 2 rfl) ?_
        obtain ⟨b11z, h⟩ := xn h
        refine lv_ldiv hx hb dX12_layStretch_105 b11z ?_
        refine lv_ladd hx hb dX12_layStretch_106 ?_
        exact k_X12_layStretch_107 C0 N res q_Md q_mstretch q_mtext q_mprimes q_mtold q_mtable q_mfewest q_misOdd q_misHigh q_misTop q_mbits q_mpile v1 (v3 + (v7 / v3)) (a_mstretch y8z.toNatClampNeg) ((v7 - v1).toInt32) m_length m_primeMany m_toldMany m_fate m_tail m_round m_tableKind m_areLaid m_unlike m_isFree v3 _ ih v7 a_mstretch  h _ _ hP hD hS _ (lv_sub hl [0, 1, 2, 3] rfl)
      · have c10z := (lg_cmp_eq _ _).mp c10z
        have h := xt h c10z
        refine lv_lload_n hx hb dX12_layStretch_97 rfl (lv_at hl 2 rfl) ?_
        refine lv_goto (tgt := 107) hx hb dX12_layStretch_98 (by decide) ?_
        exact k_X12_layStretch_107 C0 N res q_Md q_mstretch q_mtext q_mprimes q_mtold q_mtable q_mfewest q_misOdd q_misHigh q_misTop q_mbits q_mpile v1 v3 (a_mstretch y8z.toNatClampNeg) ((v7 - v1).toInt32) m_length m_primeMany m_toldMany m_fate m_tail m_round m_tableKind m_areLaid m_unlike m_isFree v3 _ ih v7 a_mstretch  h _ _ hP hD hS _ (lv_sub hl [0, 1, 2, 3] rfl)
def j_X12_layStretch_64 (N : Nat) (k_24 : (Int64 × (Nat → Int64)) → Option ((Nat → Int64))) (v1 : Int64) (v3 : Int64) (s0 : Int64) (a_mstretch : Nat → Int64) : Option ((Nat → Int64)) :=
  l_X12_layStretch_66 N k_24 v1 v3 N (s0, a_mstretch)
set_option maxRecDepth 100000 in
set_option maxHeartbeats 4000000 in
theorem k_X12_layStretch_64 {p : Program} {l : Launch} {e : Env} {s : State} {m : MethodId} {args : Array Value} {below : List Frame} {meth : Method} {c : Code} {dC : Nat → ClassId} {dI : Nat → Nat → Nat} {cyI cyJ cyZ : ClassId} {A : Nat → Prop} (C0 : mC p s m meth c args cX12_layStretch none 9 RX12 wsX12_layStretch (gK dC dI cyI cyJ cyZ) A) (N : Nat) (res : (Nat → Int64)) (q_Md : Nat) (q_mstretch : Nat) (q_mtext : Nat) (q_mprimes : Nat) (q_mtold : Nat) (q_mtable : Nat) (q_mfewest : Nat) (q_misOdd : Nat) (q_misHigh : Nat) (q_misTop : Nat) (q_mbits : Nat) (q_mpile : Nat) (v1 : Int64) (s0 : Int64) (m_length : Int32) (m_primeMany : Int32) (m_toldMany : Int32) (m_fate : Int32) (m_tail : Int32) (m_round : Int32) (m_tableKind : Int32) (m_areLaid : Int32) (m_unlike : Int32) (m_isFree : Int32) (k_24 : (Int64 × (Nat → Int64)) → Option ((Nat → Int64))) (hk_24 : ∀ (v3 : Int64) (a_mstretch : Nat → Int64), k_24 (v3, a_mstretch) = some res → ∀ (H : Heap) (locs : List Loc), va_P (dC, dI) vwCl (wd60 cyI cyJ cyZ q_Md q_mstretch q_mtext q_mprimes q_mtold q_mtable q_mfewest q_misOdd q_misHigh q_misTop q_mbits q_mpile m_length m_primeMany m_toldMany m_fate m_tail m_round m_tableKind m_areLaid m_unlike m_isFree a_mstretch) H → va_D A (wd60 cyI cyJ cyZ q_Md q_mstretch q_mtext q_mprimes q_mtold q_mtable q_mfewest q_misOdd q_misHigh q_misTop q_mbits q_mpile m_length m_primeMany m_toldMany m_fate m_tail m_round m_tableKind m_areLaid m_unlike m_isFree a_mstretch) → va_S A s.heap H locs → ∀ (ls : Array Slot), lv_has ls 9 [(0, .ref q_Md), (1, .long v1), (3, .long v3)] → W p l e (headSpec wsX12_layStretch rm_X12_layStretch).room s m args below meth c H locs 0 0 (MQ below (va_Qv (fun (_ : Unit) => True) (bW dC dI (fun (u : Unit) => (wd60 cyI cyJ cyZ q_Md q_mstretch q_mtext q_mprimes q_mtold q_mtable q_mfewest q_misOdd q_misHigh q_misTop q_mbits q_mpile m_length m_primeMany m_toldMany m_fate m_tail m_round m_tableKind m_areLaid m_unlike m_isFree res)) A) A) args s 0 0 A) (F0 m 24 ls [])) (v3 : Int64) (a_mstretch : Nat → Int64) (h : j_X12_layStretch_64 N k_24 v1 v3 s0 a_mstretch = some res) : ∀ (H : Heap) (locs : List Loc), va_P (dC, dI) vwCl (wd60 cyI cyJ cyZ q_Md q_mstretch q_mtext q_mprimes q_mtold q_mtable q_mfewest q_misOdd q_misHigh q_misTop q_mbits q_mpile m_length m_primeMany m_toldMany m_fate m_tail m_round m_tableKind m_areLaid m_unlike m_isFree a_mstretch) H → va_D A (wd60 cyI cyJ cyZ q_Md q_mstretch q_mtext q_mprimes q_mtold q_mtable q_mfewest q_misOdd q_misHigh q_misTop q_mbits q_mpile m_length m_primeMany m_toldMany m_fate m_tail m_round m_tableKind m_areLaid m_unlike m_isFree a_mstretch) → va_S A s.heap H locs → ∀ (ls : Array Slot), lv_has ls 9 [(0, .ref q_Md), (1, .long v1), (3, .long v3)] → W p l e (headSpec wsX12_layStretch rm_X12_layStretch).room s m args below meth c H locs 0 0 (MQ below (va_Qv (fun (_ : Unit) => True) (bW dC dI (fun (u : Unit) => (wd60 cyI cyJ cyZ q_Md q_mstretch q_mtext q_mprimes q_mtold q_mtable q_mfewest q_misOdd q_misHigh q_misTop q_mbits q_mpile m_length m_primeMany m_toldMany m_fate m_tail m_round m_tableKind m_areLaid m_unlike m_isFree res)) A) A) args s 0 0 A) (F0 m 64 ls [.long s0]) := by
  obtain ⟨hx, hb, hr, hml, hown, hts, hlocks, hG, hA⟩ := id C0
  have hK := hG.1
  intro H locs hP hD hS ls hl
  unfold j_X12_layStretch_64 at h
  refine lv_lstore (lv' := [(7, .long s0), (0, .ref q_Md), (1, .long v1), (3, .long v3)]) hx hb dX12_layStretch_64 hl (by decide) rfl (fun ls hl => ?_)
  exact k_X12_layStretch_66 C0 N res q_Md q_mstretch q_mtext q_mprimes q_mtold q_mtable q_mfewest q_misOdd q_misHigh q_misTop q_mbits q_mpile v1 m_length m_primeMany m_toldMany m_fate m_tail m_round m_tableKind m_areLaid m_unlike m_isFree k_24 hk_24 v3 N s0 a_mstretch h _ _ hP hD hS _ (lv_sub hl [1, 2, 3, 0] rfl)
def s_X12_layStretch_24 (N : Nat) (v1 : Int64) (k_24 : (Int64 × (Nat → Int64)) → Option ((Nat → Int64))) (v3 : Int64) (a_mstretch : Nat → Int64) : Option ((Nat → Int64)) :=
  if (v1 + (1000 : Int64)) ≤ (v3 * v3) then
    some a_mstretch
  else
    if v3 = 0 then
      none
    else
      xl (v1 + ((v3 - (v1 - v1 / v3 * v3)) - (v3 - (v1 - v1 / v3 * v3)) / v3 * v3)) fun y4z =>
      if (v3 * v3) ≤ y4z then
        j_X12_layStretch_64 N k_24 v1 v3 y4z a_mstretch
      else
        j_X12_layStretch_64 N k_24 v1 v3 (v3 * v3) a_mstretch
def l_X12_layStretch_24 (N : Nat) (v1 : Int64) (n : Nat) (z : Int64 × (Nat → Int64)) : Option ((Nat → Int64)) := lp (fun k z => s_X12_layStretch_24 N v1 k z.1 z.2) n z
set_option maxRecDepth 100000 in
set_option maxHeartbeats 4000000 in
theorem k_X12_layStretch_24 {p : Program} {l : Launch} {e : Env} {s : State} {m : MethodId} {args : Array Value} {below : List Frame} {meth : Method} {c : Code} {dC : Nat → ClassId} {dI : Nat → Nat → Nat} {cyI cyJ cyZ : ClassId} {A : Nat → Prop} (C0 : mC p s m meth c args cX12_layStretch none 9 RX12 wsX12_layStretch (gK dC dI cyI cyJ cyZ) A) (N : Nat) (res : (Nat → Int64)) (q_Md : Nat) (q_mstretch : Nat) (q_mtext : Nat) (q_mprimes : Nat) (q_mtold : Nat) (q_mtable : Nat) (q_mfewest : Nat) (q_misOdd : Nat) (q_misHigh : Nat) (q_misTop : Nat) (q_mbits : Nat) (q_mpile : Nat) (v1 : Int64) (m_length : Int32) (m_primeMany : Int32) (m_toldMany : Int32) (m_fate : Int32) (m_tail : Int32) (m_round : Int32) (m_tableKind : Int32) (m_areLaid : Int32) (m_unlike : Int32) (m_isFree : Int32) : ∀ (n : Nat) (v3 : Int64) (a_mstretch : Nat → Int64), l_X12_layStretch_24 N v1 n (v3, a_mstretch) = some res → ∀ (H : Heap) (locs : List Loc), va_P (dC, dI) vwCl (wd60 cyI cyJ cyZ q_Md q_mstretch q_mtext q_mprimes q_mtold q_mtable q_mfewest q_misOdd q_misHigh q_misTop q_mbits q_mpile m_length m_primeMany m_toldMany m_fate m_tail m_round m_tableKind m_areLaid m_unlike m_isFree a_mstretch) H → va_D A (wd60 cyI cyJ cyZ q_Md q_mstretch q_mtext q_mprimes q_mtold q_mtable q_mfewest q_misOdd q_misHigh q_misTop q_mbits q_mpile m_length m_primeMany m_toldMany m_fate m_tail m_round m_tableKind m_areLaid m_unlike m_isFree a_mstretch) → va_S A s.heap H locs → ∀ (ls : Array Slot), lv_has ls 9 [(0, .ref q_Md), (1, .long v1), (3, .long v3)] → W p l e (headSpec wsX12_layStretch rm_X12_layStretch).room s m args below meth c H locs 0 0 (MQ below (va_Qv (fun (_ : Unit) => True) (bW dC dI (fun (u : Unit) => (wd60 cyI cyJ cyZ q_Md q_mstretch q_mtext q_mprimes q_mtold q_mtable q_mfewest q_misOdd q_misHigh q_misTop q_mbits q_mpile m_length m_primeMany m_toldMany m_fate m_tail m_round m_tableKind m_areLaid m_unlike m_isFree res)) A) A) args s 0 0 A) (F0 m 24 ls []) := by
  obtain ⟨hx, hb, hr, hml, hown, hts, hlocks, hG, hA⟩ := id C0
  have hK := hG.1
  intro n
  induction n with
  | zero =>
    intro v3 a_mstretch h
    cases h
  | succ n ih =>
    intro v3 a_mstretch h H locs hP hD hS ls hl
    have h : s_X12_layStretch_24 N v1 (l_X12_layStretch_24 N v1 n) v3 a_mstretch = some res := h
    unfold s_X12_layStretch_24 at h
    refine lv_lload_n hx hb dX12_layStretch_24 rfl (lv_at hl 2 rfl) ?_
    refine lv_lload_n hx hb dX12_layStretch_25 rfl (lv_at hl 2 rfl) ?_
    refine lv_lmul hx hb dX12_layStretch_26 ?_
    refine lv_lload_n hx hb dX12_layStretch_27 rfl (lv_at hl 1 rfl) ?_
    refine lv_ldc2 (v := (1000 : Int64)) hx hb hown (hts (.constantLong RX12 122 (1000)) (List.mem_of_getElem? (i := 2) rfl)) dX12_layStretch_28 ?_
    refine lv_ladd hx hb dX12_layStretch_31 ?_
    refine W.lcmp hx hb dX12_layStretch_32 ?_
    refine lv_if_ge (tgt := 125) hx hb dX12_layStretch_33 (by decide) (fun c2z => ?_) (fun c2z => ?_)
    · have c2z := (lg_cmp_ge _ _).mp c2z
      have h := xt h c2z
      obtain rfl := Option.some.inj h
      exact W.vret hx hb hr (fun t ht hW => ⟨⟨(), rfl, trivial, by rw [ht]; exact hP, hD⟩, hS.F ht⟩) hS.2.2 dX12_layStretch_125 hlocks
    · have c2z := fun z => c2z ((lg_cmp_ge _ _).mpr z)
      have h := xf h c2z
      refine lv_lload_n hx hb dX12_layStretch_36 rfl (lv_at hl 1 rfl) ?_
      refine lv_lload_n hx hb dX12_layStretch_37 rfl (lv_at hl 2 rfl) ?_
      refine lv_lload_n hx hb dX12_layStretch_38 rfl (lv_at hl 1 rfl) ?_
      refine lv_lload_n hx hb dX12_layStretch_39 rfl (lv_at hl 2 rfl) ?_
      obtain ⟨b3z, h⟩ := xn h
      refine lv_lrem hx hb dX12_layStretch_40 b3z ?_
      refine lv_lsub hx hb dX12_layStretch_41 ?_
      refine lv_lload_n hx hb dX12_layStretch_42 rfl (lv_at hl 2 rfl) ?_
      refine lv_lrem hx hb dX12_layStretch_43 b3z ?_
      refine lv_ladd hx hb dX12_layStretch_44 ?_
      refine lv_topl (fun y4z ey4z => ?_)
      have h := xl_at h ey4z
      refine lv_lstore (lv' := [(5, .long y4z), (0, .ref q_Md), (1, .long v1), (3, .long v3)]) hx hb dX12_layStretch_45 hl (by decide) rfl (fun ls hl => ?_)
      refine lv_lload hx hb dX12_layStretch_47 (lv_at hl 0 rfl) ?_
      refine lv_lload_n hx hb dX12_layStretch_49 rfl (lv_at hl 3 rfl) ?_
      refine lv_lload_n hx hb dX12_layStretch_50 rfl (lv_at hl 3 rfl) ?_
      refine lv_lmul hx hb dX12_layStretch_51 ?_
      refine W.lcmp hx hb dX12_layStretch_52 ?_
      refine lv_if_ge (tgt := 62) hx hb dX12_layStretch_53 (by decide) (fun c5z => ?_) (fun c5z => ?_)
      · have c5z := (lg_cmp_ge _ _).mp c5z
        have h := xt h c5z
        refine lv_lload hx hb dX12_layStretch_62 (lv_at hl 0 rfl) ?_
        exact k_X12_layStretch_64 C0 N res q_Md q_mstretch q_mtext q_mprimes q_mtold q_mtable q_mfewest q_misOdd q_misHigh q_misTop q_mbits q_mpile v1 y4z m_length m_primeMany m_toldMany m_fate m_tail m_round m_tableKind m_areLaid m_unlike m_isFree _ ih v3 a_mstretch  h _ _ hP hD hS _ (lv_sub hl [1, 2, 3] rfl)
      · have c5z := fun z => c5z ((lg_cmp_ge _ _).mpr z)
        have h := xf h c5z
        refine lv_lload_n hx hb dX12_layStretch_56 rfl (lv_at hl 3 rfl) ?_
        refine lv_lload_n hx hb dX12_layStretch_57 rfl (lv_at hl 3 rfl) ?_
        refine lv_lmul hx hb dX12_layStretch_58 ?_
        refine lv_goto (tgt := 64) hx hb dX12_layStretch_59 (by decide) ?_
        exact k_X12_layStretch_64 C0 N res q_Md q_mstretch q_mtext q_mprimes q_mtold q_mtable q_mfewest q_misOdd q_misHigh q_misTop q_mbits q_mpile v1 (v3 * v3) m_length m_primeMany m_toldMany m_fate m_tail m_round m_tableKind m_areLaid m_unlike m_isFree _ ih v3 a_mstretch  h _ _ hP hD hS _ (lv_sub hl [1, 2, 3] rfl)
def j_X12_layStretch_22 (N : Nat) (v1 : Int64) (a_mstretch : Nat → Int64) : Option ((Nat → Int64)) :=
  l_X12_layStretch_24 N v1 N ((1 : Int64), a_mstretch)
set_option maxRecDepth 100000 in
set_option maxHeartbeats 4000000 in
theorem k_X12_layStretch_22 {p : Program} {l : Launch} {e : Env} {s : State} {m : MethodId} {args : Array Value} {below : List Frame} {meth : Method} {c : Code} {dC : Nat → ClassId} {dI : Nat → Nat → Nat} {cyI cyJ cyZ : ClassId} {A : Nat → Prop} (C0 : mC p s m meth c args cX12_layStretch none 9 RX12 wsX12_layStretch (gK dC dI cyI cyJ cyZ) A) (N : Nat) (res : (Nat → Int64)) (q_Md : Nat) (q_mstretch : Nat) (q_mtext : Nat) (q_mprimes : Nat) (q_mtold : Nat) (q_mtable : Nat) (q_mfewest : Nat) (q_misOdd : Nat) (q_misHigh : Nat) (q_misTop : Nat) (q_mbits : Nat) (q_mpile : Nat) (v1 : Int64) (m_length : Int32) (m_primeMany : Int32) (m_toldMany : Int32) (m_fate : Int32) (m_tail : Int32) (m_round : Int32) (m_tableKind : Int32) (m_areLaid : Int32) (m_unlike : Int32) (m_isFree : Int32) (a_mstretch : Nat → Int64) (h : j_X12_layStretch_22 N v1 a_mstretch = some res) : ∀ (H : Heap) (locs : List Loc), va_P (dC, dI) vwCl (wd60 cyI cyJ cyZ q_Md q_mstretch q_mtext q_mprimes q_mtold q_mtable q_mfewest q_misOdd q_misHigh q_misTop q_mbits q_mpile m_length m_primeMany m_toldMany m_fate m_tail m_round m_tableKind m_areLaid m_unlike m_isFree a_mstretch) H → va_D A (wd60 cyI cyJ cyZ q_Md q_mstretch q_mtext q_mprimes q_mtold q_mtable q_mfewest q_misOdd q_misHigh q_misTop q_mbits q_mpile m_length m_primeMany m_toldMany m_fate m_tail m_round m_tableKind m_areLaid m_unlike m_isFree a_mstretch) → va_S A s.heap H locs → ∀ (ls : Array Slot), lv_has ls 9 [(0, .ref q_Md), (1, .long v1)] → W p l e (headSpec wsX12_layStretch rm_X12_layStretch).room s m args below meth c H locs 0 0 (MQ below (va_Qv (fun (_ : Unit) => True) (bW dC dI (fun (u : Unit) => (wd60 cyI cyJ cyZ q_Md q_mstretch q_mtext q_mprimes q_mtold q_mtable q_mfewest q_misOdd q_misHigh q_misTop q_mbits q_mpile m_length m_primeMany m_toldMany m_fate m_tail m_round m_tableKind m_areLaid m_unlike m_isFree res)) A) A) args s 0 0 A) (F0 m 22 ls []) := by
  obtain ⟨hx, hb, hr, hml, hown, hts, hlocks, hG, hA⟩ := id C0
  have hK := hG.1
  intro H locs hP hD hS ls hl
  unfold j_X12_layStretch_22 at h
  refine lv_lconst (v := (1 : Int64)) hx hb dX12_layStretch_22 (by decide) ?_
  refine lv_lstore_n (lv' := [(3, .long (1 : Int64)), (0, .ref q_Md), (1, .long v1)]) hx hb dX12_layStretch_23 rfl hl (by decide) rfl (fun ls hl => ?_)
  exact k_X12_layStretch_24 C0 N res q_Md q_mstretch q_mtext q_mprimes q_mtold q_mtable q_mfewest q_misOdd q_misHigh q_misTop q_mbits q_mpile v1 m_length m_primeMany m_toldMany m_fate m_tail m_round m_tableKind m_areLaid m_unlike m_isFree N (1 : Int64) a_mstretch h _ _ hP hD hS _ (lv_sub hl [1, 2, 0] rfl)
def s_X12_layStretch_2 (N : Nat) (v1 : Int64) (k_2 : (Int32 × (Nat → Int64)) → Option ((Nat → Int64))) (v3 : Int32) (a_mstretch : Nat → Int64) : Option ((Nat → Int64)) :=
  if (1000 : Int32) ≤ v3 then
    j_X12_layStretch_22 N v1 a_mstretch
  else
    if v3 < 0 ∨ 1000 ≤ v3.toNatClampNeg then
      none
    else
      xl (v3 + (1 : Int32)) fun y16z =>
      k_2 (y16z, vp_updL a_mstretch v3.toNatClampNeg (0 : Int64))
def l_X12_layStretch_2 (N : Nat) (v1 : Int64) (n : Nat) (z : Int32 × (Nat → Int64)) : Option ((Nat → Int64)) := lp (fun k z => s_X12_layStretch_2 N v1 k z.1 z.2) n z
set_option maxRecDepth 100000 in
set_option maxHeartbeats 4000000 in
theorem k_X12_layStretch_2 {p : Program} {l : Launch} {e : Env} {s : State} {m : MethodId} {args : Array Value} {below : List Frame} {meth : Method} {c : Code} {dC : Nat → ClassId} {dI : Nat → Nat → Nat} {cyI cyJ cyZ : ClassId} {A : Nat → Prop} (C0 : mC p s m meth c args cX12_layStretch none 9 RX12 wsX12_layStretch (gK dC dI cyI cyJ cyZ) A) (N : Nat) (res : (Nat → Int64)) (q_Md : Nat) (q_mstretch : Nat) (q_mtext : Nat) (q_mprimes : Nat) (q_mtold : Nat) (q_mtable : Nat) (q_mfewest : Nat) (q_misOdd : Nat) (q_misHigh : Nat) (q_misTop : Nat) (q_mbits : Nat) (q_mpile : Nat) (v1 : Int64) (m_length : Int32) (m_primeMany : Int32) (m_toldMany : Int32) (m_fate : Int32) (m_tail : Int32) (m_round : Int32) (m_tableKind : Int32) (m_areLaid : Int32) (m_unlike : Int32) (m_isFree : Int32) : ∀ (n : Nat) (v3 : Int32) (a_mstretch : Nat → Int64), l_X12_layStretch_2 N v1 n (v3, a_mstretch) = some res → ∀ (H : Heap) (locs : List Loc), va_P (dC, dI) vwCl (wd60 cyI cyJ cyZ q_Md q_mstretch q_mtext q_mprimes q_mtold q_mtable q_mfewest q_misOdd q_misHigh q_misTop q_mbits q_mpile m_length m_primeMany m_toldMany m_fate m_tail m_round m_tableKind m_areLaid m_unlike m_isFree a_mstretch) H → va_D A (wd60 cyI cyJ cyZ q_Md q_mstretch q_mtext q_mprimes q_mtold q_mtable q_mfewest q_misOdd q_misHigh q_misTop q_mbits q_mpile m_length m_primeMany m_toldMany m_fate m_tail m_round m_tableKind m_areLaid m_unlike m_isFree a_mstretch) → va_S A s.heap H locs → ∀ (ls : Array Slot), lv_has ls 9 [(0, .ref q_Md), (1, .long v1), (3, .int v3)] → W p l e (headSpec wsX12_layStretch rm_X12_layStretch).room s m args below meth c H locs 0 0 (MQ below (va_Qv (fun (_ : Unit) => True) (bW dC dI (fun (u : Unit) => (wd60 cyI cyJ cyZ q_Md q_mstretch q_mtext q_mprimes q_mtold q_mtable q_mfewest q_misOdd q_misHigh q_misTop q_mbits q_mpile m_length m_primeMany m_toldMany m_fate m_tail m_round m_tableKind m_areLaid m_unlike m_isFree res)) A) A) args s 0 0 A) (F0 m 2 ls []) := by
  obtain ⟨hx, hb, hr, hml, hown, hts, hlocks, hG, hA⟩ := id C0
  have hK := hG.1
  intro n
  induction n with
  | zero =>
    intro v3 a_mstretch h
    cases h
  | succ n ih =>
    intro v3 a_mstretch h H locs hP hD hS ls hl
    have h : s_X12_layStretch_2 N v1 (l_X12_layStretch_2 N v1 n) v3 a_mstretch = some res := h
    unfold s_X12_layStretch_2 at h
    refine lv_iload_n hx hb dX12_layStretch_2 rfl (lv_at hl 2 rfl) ?_
    refine lv_sipush (v := (1000 : Int32)) hx hb dX12_layStretch_3 (by decide) ?_
    refine lv_icmp_ge (tgt := 22) hx hb dX12_layStretch_6 (by decide) (fun c1z => ?_) (fun c1z => ?_)
    · have h := xt h c1z
      exact k_X12_layStretch_22 C0 N res q_Md q_mstretch q_mtext q_mprimes q_mtold q_mtable q_mfewest q_misOdd q_misHigh q_misTop q_mbits q_mpile v1 m_length m_primeMany m_toldMany m_fate m_tail m_round m_tableKind m_areLaid m_unlike m_isFree a_mstretch  h _ _ hP hD hS _ (lv_sub hl [0, 1] rfl)
    · have h := xf h c1z
      refine lv_aload_n hx hb dX12_layStretch_9 rfl (lv_at hl 0 rfl) ?_
      refine va_get (D := (dC, dI)) (ci := 12) (v := .ref q_mstretch) (C := RX12) (T := TX12) (N := 21) hx hb hts iw_X12_layStretch_X12 hown hK hP 0 rfl rfl 11 (by decide) (hts (.fieldLink RX12 24 "GoesIntoModel" "stretch" "[J") (List.mem_of_getElem? (i := 1) rfl)) (fun _ h9 => h9) rfl dX12_layStretch_10 ?_
      refine lv_iload_n hx hb dX12_layStretch_13 rfl (lv_at hl 2 rfl) ?_
      refine lv_lconst (v := (0 : Int64)) hx hb dX12_layStretch_14 (by decide) ?_
      obtain ⟨b15z, h⟩ := xn h
      refine va_last hx hb hK hP hD hS 1 1 rfl rfl b15z dX12_layStretch_15 (fun H locs hP hD hS => ?_)
      have hP : va_P (dC, dI) vwCl (wd60 cyI cyJ cyZ q_Md q_mstretch q_mtext q_mprimes q_mtold q_mtable q_mfewest q_misOdd q_misHigh q_misTop q_mbits q_mpile m_length m_primeMany m_toldMany m_fate m_tail m_round m_tableKind m_areLaid m_unlike m_isFree (vp_updL a_mstretch v3.toNatClampNeg (0 : Int64))) H := hP
      have hD : va_D A (wd60 cyI cyJ cyZ q_Md q_mstretch q_mtext q_mprimes q_mtold q_mtable q_mfewest q_misOdd q_misHigh q_misTop q_mbits q_mpile m_length m_primeMany m_toldMany m_fate m_tail m_round m_tableKind m_areLaid m_unlike m_isFree (vp_updL a_mstretch v3.toNatClampNeg (0 : Int64))) := hD
      obtain ⟨y16z, ey16z⟩ : ∃ z : Int32, z = v3 + (1 : Int32) := ⟨_, rfl⟩
      have h := xl_at h ey16z
      refine lv_iinc (v := y16z) (lv' := [(3, .int y16z), (0, .ref q_Md), (1, .long v1)]) hx hb dX12_layStretch_16 hl (k := 2) rfl (by rw [ey16z]; rfl) (by decide) rfl (fun ls hl => ?_)
      refine lv_goto (tgt := 2) hx hb dX12_layStretch_19 (by decide) ?_
      exact ih y16z (vp_updL a_mstretch v3.toNatClampNeg (0 : Int64)) h _ _ hP hD hS _ (lv_sub hl [1, 2, 0] rfl)
def f_X12_layStretch (N : Nat) (v1 : Int64) (a_mstretch : Nat → Int64) : Option ((Nat → Int64)) :=
  l_X12_layStretch_2 N v1 N ((0 : Int32), a_mstretch)
set_option maxRecDepth 100000 in
set_option maxHeartbeats 4000000 in
theorem k_X12_layStretch_0 {p : Program} {l : Launch} {e : Env} {s : State} {m : MethodId} {args : Array Value} {below : List Frame} {meth : Method} {c : Code} {dC : Nat → ClassId} {dI : Nat → Nat → Nat} {cyI cyJ cyZ : ClassId} {A : Nat → Prop} (C0 : mC p s m meth c args cX12_layStretch none 9 RX12 wsX12_layStretch (gK dC dI cyI cyJ cyZ) A) (N : Nat) (res : (Nat → Int64)) (q_Md : Nat) (q_mstretch : Nat) (q_mtext : Nat) (q_mprimes : Nat) (q_mtold : Nat) (q_mtable : Nat) (q_mfewest : Nat) (q_misOdd : Nat) (q_misHigh : Nat) (q_misTop : Nat) (q_mbits : Nat) (q_mpile : Nat) (v1 : Int64) (m_length : Int32) (m_primeMany : Int32) (m_toldMany : Int32) (m_fate : Int32) (m_tail : Int32) (m_round : Int32) (m_tableKind : Int32) (m_areLaid : Int32) (m_unlike : Int32) (m_isFree : Int32) (a_mstretch : Nat → Int64) (h : f_X12_layStretch N v1 a_mstretch = some res) : ∀ (H : Heap) (locs : List Loc), va_P (dC, dI) vwCl (wd60 cyI cyJ cyZ q_Md q_mstretch q_mtext q_mprimes q_mtold q_mtable q_mfewest q_misOdd q_misHigh q_misTop q_mbits q_mpile m_length m_primeMany m_toldMany m_fate m_tail m_round m_tableKind m_areLaid m_unlike m_isFree a_mstretch) H → va_D A (wd60 cyI cyJ cyZ q_Md q_mstretch q_mtext q_mprimes q_mtold q_mtable q_mfewest q_misOdd q_misHigh q_misTop q_mbits q_mpile m_length m_primeMany m_toldMany m_fate m_tail m_round m_tableKind m_areLaid m_unlike m_isFree a_mstretch) → va_S A s.heap H locs → ∀ (ls : Array Slot), lv_has ls 9 [(0, .ref q_Md), (1, .long v1)] → W p l e (headSpec wsX12_layStretch rm_X12_layStretch).room s m args below meth c H locs 0 0 (MQ below (va_Qv (fun (_ : Unit) => True) (bW dC dI (fun (u : Unit) => (wd60 cyI cyJ cyZ q_Md q_mstretch q_mtext q_mprimes q_mtold q_mtable q_mfewest q_misOdd q_misHigh q_misTop q_mbits q_mpile m_length m_primeMany m_toldMany m_fate m_tail m_round m_tableKind m_areLaid m_unlike m_isFree res)) A) A) args s 0 0 A) (F0 m 0 ls []) := by
  obtain ⟨hx, hb, hr, hml, hown, hts, hlocks, hG, hA⟩ := id C0
  have hK := hG.1
  intro H locs hP hD hS ls hl
  unfold f_X12_layStretch at h
  refine lv_iconst (v := (0 : Int32)) hx hb dX12_layStretch_0 (by decide) ?_
  refine lv_istore_n (lv' := [(3, .int (0 : Int32)), (0, .ref q_Md), (1, .long v1)]) hx hb dX12_layStretch_1 rfl hl (by decide) rfl (fun ls hl => ?_)
  exact k_X12_layStretch_2 C0 N res q_Md q_mstretch q_mtext q_mprimes q_mtold q_mtable q_mfewest q_misOdd q_misHigh q_misTop q_mbits q_mpile v1 m_length m_primeMany m_toldMany m_fate m_tail m_round m_tableKind m_areLaid m_unlike m_isFree N (0 : Int32) a_mstretch h _ _ hP hD hS _ (lv_sub hl [1, 2, 0] rfl)
set_option maxRecDepth 100000 in
set_option maxHeartbeats 4000000 in
theorem c_X12_layStretch (l : Launch) (dC : Nat → ClassId) (dI : Nat → Nat → Nat) (cyI cyJ cyZ : ClassId) (N : Nat) (res : (Nat → Int64)) (sz : Nat) (q_Md : Nat) (q_mstretch : Nat) (q_mtext : Nat) (q_mprimes : Nat) (q_mtold : Nat) (q_mtable : Nat) (q_mfewest : Nat) (q_misOdd : Nat) (q_misHigh : Nat) (q_misTop : Nat) (q_mbits : Nat) (q_mpile : Nat) (v1 : Int64) (m_length : Int32) (m_primeMany : Int32) (m_toldMany : Int32) (m_fate : Int32) (m_tail : Int32) (m_round : Int32) (m_tableKind : Int32) (m_areLaid : Int32) (m_unlike : Int32) (m_isFree : Int32) (a_mstretch : Nat → Int64) (h : f_X12_layStretch N v1 a_mstretch = some res) : Met l yX12_layStretch wsX12_layStretch rm_X12_layStretch (pC dC dI cyI cyJ cyZ [.ref q_Md, .long v1] sz (wd60 cyI cyJ cyZ q_Md q_mstretch q_mtext q_mprimes q_mtold q_mtable q_mfewest q_misOdd q_misHigh q_misTop q_mbits q_mpile m_length m_primeMany m_toldMany m_fate m_tail m_round m_tableKind m_areLaid m_unlike m_isFree a_mstretch)) (va_Qv (fun (_ : Unit) => True) (bW dC dI (fun (u : Unit) => (wd60 cyI cyJ cyZ q_Md q_mstretch q_mtext q_mprimes q_mtold q_mtable q_mfewest q_misOdd q_misHigh q_misTop q_mbits q_mpile m_length m_primeMany m_toldMany m_fate m_tail m_round m_tableKind m_areLaid m_unlike m_isFree res)) (va_A (wd60 cyI cyJ cyZ q_Md q_mstretch q_mtext q_mprimes q_mtold q_mtable q_mfewest q_misOdd q_misHigh q_misTop q_mbits q_mpile m_length m_primeMany m_toldMany m_fate m_tail m_round m_tableKind m_areLaid m_unlike m_isFree a_mstretch) sz)) (va_A (wd60 cyI cyJ cyZ q_Md q_mstretch q_mtext q_mprimes q_mtold q_mtable q_mfewest q_misOdd q_misHigh q_misTop q_mbits q_mpile m_length m_primeMany m_toldMany m_fate m_tail m_round m_tableKind m_areLaid m_unlike m_isFree a_mstretch) sz)) 0 0 (va_A (wd60 cyI cyJ cyZ q_Md q_mstretch q_mtext q_mprimes q_mtold q_mtable q_mfewest q_misOdd q_misHigh q_misTop q_mbits q_mpile m_length m_primeMany m_toldMany m_fate m_tail m_round m_tableKind m_areLaid m_unlike m_isFree a_mstretch) sz) := by
  refine Met.ofW (cc := cX12_layStretch) (maxL := 9) (ret := none) (by decide) rfl ?_
  intro p e s m args below meth c s₁ B hml hv
  obtain ⟨rfl, hsz, hP, hG, hD0⟩ := hv
  have hx := B.exec
  have hb := B.bytes
  have hr := B.returns
  have hts := atoms_spec (ws := wsX12_layStretch) B.pre
  have hown : s.vm.findClass RX12 = some m.cls := findClass_of_methodNamed B.named
  have hlocks := B.notSynchronized
  subst hsz
  have hD := hD0.self (sz := s.heap.size)
  generalize hAe : va_A (wd60 cyI cyJ cyZ q_Md q_mstretch q_mtext q_mprimes q_mtold q_mtable q_mfewest q_misOdd q_misHigh q_misTop q_mbits q_mpile m_length m_primeMany m_toldMany m_fate m_tail m_round m_tableKind m_areLaid m_unlike m_isFree a_mstretch) s.heap.size = A at hD ⊢
  have hA : ∀ q : Nat, s.heap.size ≤ q → A q := fun q h => by rw [← hAe]; exact Or.inr h
  have hS : va_S A s.heap s.heap [] := va_S.rf
  have hl := lv_entry ([.ref q_Md, .long v1]) (n := 9) (Nat.le_of_ble_eq_true rfl)
  rw [lg_entry_eq]
  generalize (lg_sl ([.ref q_Md, .long v1]) ++ List.replicate (9 - (lg_sl ([.ref q_Md, .long v1])).length) Slot.unset).toArray = ls at hl ⊢
  have hl : lv_has ls 9 [(0, .ref q_Md), (1, .long v1)] := hl
  exact k_X12_layStretch_0 ⟨hx, hb, hr, hml, hown, hts, hlocks, hG, hA⟩ N res q_Md q_mstretch q_mtext q_mprimes q_mtold q_mtable q_mfewest q_misOdd q_misHigh q_misTop q_mbits q_mpile v1 m_length m_primeMany m_toldMany m_fate m_tail m_round m_tableKind m_areLaid m_unlike m_isFree a_mstretch  h _ _ hP hD hS _ hl
abbrev rm_X12_wholly : Room := { frames := 1, cells := 0, slots := 0, locals := 28 }
theorem hd_X12_wholly : yX12_wholly.cls ≠ "java/lang/invoke/MethodHandle" ∧ yX12_wholly.cls ≠ "java/lang/invoke/VarHandle" ∧ (parseMethodDescriptor yX12_wholly.desc).map (fun d => d.parameters.length) = some 2 := by decide +kernel
theorem iw_X12_wholly_X12 : ∀ w ∈ wsX120, w ∈ wsX12_wholly := List.forall_mem_cons.mpr ⟨List.mem_of_getElem? (i := 12) rfl, List.forall_mem_cons.mpr ⟨List.mem_of_getElem? (i := 13) rfl, List.forall_mem_cons.mpr ⟨List.mem_of_getElem? (i := 14) rfl, List.forall_mem_cons.mpr ⟨List.mem_of_getElem? (i := 15) rfl, List.forall_mem_cons.mpr ⟨List.mem_of_getElem? (i := 16) rfl, List.forall_mem_cons.mpr ⟨List.mem_of_getElem? (i := 17) rfl, List.forall_mem_cons.mpr ⟨List.mem_of_getElem? (i := 18) rfl, List.forall_mem_cons.mpr ⟨List.mem_of_getElem? (i := 19) rfl, List.forall_mem_cons.mpr ⟨List.mem_of_getElem? (i := 20) rfl, List.forall_mem_cons.mpr ⟨List.mem_of_getElem? (i := 21) rfl, List.forall_mem_cons.mpr ⟨List.mem_of_getElem? (i := 22) rfl, List.forall_mem_cons.mpr ⟨List.mem_of_getElem? (i := 23) rfl, List.forall_mem_cons.mpr ⟨List.mem_of_getElem? (i := 24) rfl, List.forall_mem_cons.mpr ⟨List.mem_of_getElem? (i := 25) rfl, List.forall_mem_cons.mpr ⟨List.mem_of_getElem? (i := 26) rfl, List.forall_mem_cons.mpr ⟨List.mem_of_getElem? (i := 27) rfl, List.forall_mem_cons.mpr ⟨List.mem_of_getElem? (i := 28) rfl, List.forall_mem_cons.mpr ⟨List.mem_of_getElem? (i := 29) rfl, List.forall_mem_cons.mpr ⟨List.mem_of_getElem? (i := 30) rfl, List.forall_mem_cons.mpr ⟨List.mem_of_getElem? (i := 31) rfl, List.forall_mem_cons.mpr ⟨List.mem_of_getElem? (i := 32) rfl, fun _ h => absurd h List.not_mem_nil⟩⟩⟩⟩⟩⟩⟩⟩⟩⟩⟩⟩⟩⟩⟩⟩⟩⟩⟩⟩⟩
def j_X12_wholly_95 (N : Nat) (v2 : Int32) (v3 : Int32) (a_mstretch : Nat → Int64) : Option (Int32 × (Nat → Int64)) :=
  if 0 ≤ v2 then
    some ((-4 : Int32), a_mstretch)
  else
    some (v3, a_mstretch)
set_option maxRecDepth 100000 in
set_option maxHeartbeats 4000000 in
theorem k_X12_wholly_95 {p : Program} {l : Launch} {e : Env} {s : State} {m : MethodId} {args : Array Value} {below : List Frame} {meth : Method} {c : Code} {dC : Nat → ClassId} {dI : Nat → Nat → Nat} {cyI cyJ cyZ : ClassId} {A : Nat → Prop} (C0 : mC p s m meth c args cX12_wholly (some .int) 7 RX12 wsX12_wholly (gK dC dI cyI cyJ cyZ) A) (N : Nat) (res : Int32 × (Nat → Int64)) (q_Md : Nat) (q_mstretch : Nat) (q_mtext : Nat) (q_mprimes : Nat) (q_mtold : Nat) (q_mtable : Nat) (q_mfewest : Nat) (q_misOdd : Nat) (q_misHigh : Nat) (q_misTop : Nat) (q_mbits : Nat) (q_mpile : Nat) (v2 : Int32) (v3 : Int32) (m_length : Int32) (m_primeMany : Int32) (m_toldMany : Int32) (m_fate : Int32) (m_tail : Int32) (m_round : Int32) (m_tableKind : Int32) (m_areLaid : Int32) (m_unlike : Int32) (m_isFree : Int32) (a_mstretch : Nat → Int64) (h : j_X12_wholly_95 N v2 v3 a_mstretch = some res) : ∀ (H : Heap) (locs : List Loc), va_P (dC, dI) vwCl (wd60 cyI cyJ cyZ q_Md q_mstretch q_mtext q_mprimes q_mtold q_mtable q_mfewest q_misOdd q_misHigh q_misTop q_mbits q_mpile m_length m_primeMany m_toldMany m_fate m_tail m_round m_tableKind m_areLaid m_unlike m_isFree a_mstretch) H → va_D A (wd60 cyI cyJ cyZ q_Md q_mstretch q_mtext q_mprimes q_mtold q_mtable q_mfewest q_misOdd q_misHigh q_misTop q_mbits q_mpile m_length m_primeMany m_toldMany m_fate m_tail m_round m_tableKind m_areLaid m_unlike m_isFree a_mstretch) → va_S A s.heap H locs → ∀ (ls : Array Slot), lv_has ls 7 [(2, .int v2), (3, .int v3)] → W p l e (headSpec wsX12_wholly rm_X12_wholly).room s m args below meth c H locs 0 0 (MQ below (va_Qi (fun (r : Int32) (_ : Unit) => r = res.1) (bW dC dI (fun (u : Unit) => (wd60 cyI cyJ cyZ q_Md q_mstretch q_mtext q_mprimes q_mtold q_mtable q_mfewest q_misOdd q_misHigh q_misTop q_mbits q_mpile m_length m_primeMany m_toldMany m_fate m_tail m_round m_tableKind m_areLaid m_unlike m_isFree res.2)) A) A) args s 0 0 A) (F0 m 95 ls []) := by
  obtain ⟨hx, hb, hr, hml, hown, hts, hlocks, hG, hA⟩ := id C0
  have hK := hG.1
  intro H locs hP hD hS ls hl
  unfold j_X12_wholly_95 at h
  refine lv_iload_n hx hb dX12_wholly_95 rfl (lv_at hl 0 rfl) ?_
  refine lv_if_ge (tgt := 103) hx hb dX12_wholly_96 (by decide) (fun c7z => ?_) (fun c7z => ?_)
  · have h := xt h c7z
    refine lv_bipush (v := (-4 : Int32)) hx hb dX12_wholly_103 (by decide) ?_
    obtain rfl := Option.some.inj h
    exact W.iret (v := (-4 : Int32)) hx hb hr (fun t ht hW => ⟨⟨_, (), rfl, rfl, by rw [ht]; exact hP, hD⟩, hS.F ht⟩) hS.2.2 dX12_wholly_105 hlocks
  · have h := xf h c7z
    refine lv_iload_n hx hb dX12_wholly_99 rfl (lv_at hl 1 rfl) ?_
    refine lv_goto (tgt := 105) hx hb dX12_wholly_100 (by decide) ?_
    obtain rfl := Option.some.inj h
    exact W.iret (v := v3) hx hb hr (fun t ht hW => ⟨⟨_, (), rfl, rfl, by rw [ht]; exact hP, hD⟩, hS.F ht⟩) hS.2.2 dX12_wholly_105 hlocks
def j_X12_wholly_67 (N : Nat) (v4 : Int64) (v6 : Int32) (a_mstretch : Nat → Int64) : Option (Int32 × (Nat → Int64)) :=
  some ((v4 + v6.toInt64).toInt32, a_mstretch)
set_option maxRecDepth 100000 in
set_option maxHeartbeats 4000000 in
theorem k_X12_wholly_67 {p : Program} {l : Launch} {e : Env} {s : State} {m : MethodId} {args : Array Value} {below : List Frame} {meth : Method} {c : Code} {dC : Nat → ClassId} {dI : Nat → Nat → Nat} {cyI cyJ cyZ : ClassId} {A : Nat → Prop} (C0 : mC p s m meth c args cX12_wholly (some .int) 7 RX12 wsX12_wholly (gK dC dI cyI cyJ cyZ) A) (N : Nat) (res : Int32 × (Nat → Int64)) (q_Md : Nat) (q_mstretch : Nat) (q_mtext : Nat) (q_mprimes : Nat) (q_mtold : Nat) (q_mtable : Nat) (q_mfewest : Nat) (q_misOdd : Nat) (q_misHigh : Nat) (q_misTop : Nat) (q_mbits : Nat) (q_mpile : Nat) (v4 : Int64) (v6 : Int32) (m_length : Int32) (m_primeMany : Int32) (m_toldMany : Int32) (m_fate : Int32) (m_tail : Int32) (m_round : Int32) (m_tableKind : Int32) (m_areLaid : Int32) (m_unlike : Int32) (m_isFree : Int32) (a_mstretch : Nat → Int64) (h : j_X12_wholly_67 N v4 v6 a_mstretch = some res) : ∀ (H : Heap) (locs : List Loc), va_P (dC, dI) vwCl (wd60 cyI cyJ cyZ q_Md q_mstretch q_mtext q_mprimes q_mtold q_mtable q_mfewest q_misOdd q_misHigh q_misTop q_mbits q_mpile m_length m_primeMany m_toldMany m_fate m_tail m_round m_tableKind m_areLaid m_unlike m_isFree a_mstretch) H → va_D A (wd60 cyI cyJ cyZ q_Md q_mstretch q_mtext q_mprimes q_mtold q_mtable q_mfewest q_misOdd q_misHigh q_misTop q_mbits q_mpile m_length m_primeMany m_toldMany m_fate m_tail m_round m_tableKind m_areLaid m_unlike m_isFree a_mstretch) → va_S A s.heap H locs → ∀ (ls : Array Slot), lv_has ls 7 [(4, .long v4), (6, .int v6)] → W p l e (headSpec wsX12_wholly rm_X12_wholly).room s m args below meth c H locs 0 0 (MQ below (va_Qi (fun (r : Int32) (_ : Unit) => r = res.1) (bW dC dI (fun (u : Unit) => (wd60 cyI cyJ cyZ q_Md q_mstretch q_mtext q_mprimes q_mtold q_mtable q_mfewest q_misOdd q_misHigh q_misTop q_mbits q_mpile m_length m_primeMany m_toldMany m_fate m_tail m_round m_tableKind m_areLaid m_unlike m_isFree res.2)) A) A) args s 0 0 A) (F0 m 67 ls []) := by
  obtain ⟨hx, hb, hr, hml, hown, hts, hlocks, hG, hA⟩ := id C0
  have hK := hG.1
  intro H locs hP hD hS ls hl
  unfold j_X12_wholly_67 at h
  refine lv_lload hx hb dX12_wholly_67 (lv_at hl 0 rfl) ?_
  refine lv_iload hx hb dX12_wholly_69 (lv_at hl 1 rfl) ?_
  refine lv_i2l (v := v6.toInt64) hx hb dX12_wholly_71 rfl ?_
  refine lv_ladd hx hb dX12_wholly_72 ?_
  refine lv_l2i (v := (v4 + v6.toInt64).toInt32) hx hb dX12_wholly_73 rfl ?_
  obtain rfl := Option.some.inj h
  exact W.iret (v := (v4 + v6.toInt64).toInt32) hx hb hr (fun t ht hW => ⟨⟨_, (), rfl, rfl, by rw [ht]; exact hP, hD⟩, hS.F ht⟩) hS.2.2 dX12_wholly_74 hlocks
def s_X12_wholly_41 (N : Nat) (k_24 : (Int32 × Int64 × (Nat → Int64)) → Option (Int32 × (Nat → Int64))) (v1 : Int32) (v2 : Int32) (v4 : Int64) (a_mstretch : Nat → Int64) (k_41 : (Int32 × Int32) → Option (Int32 × (Nat → Int64))) (v3 : Int32) (v6 : Int32) : Option (Int32 × (Nat → Int64)) :=
  if (1000 : Int32) ≤ v6 then
    xl (v4 + (1000 : Int64)) fun y12z =>
    k_24 (v3, y12z, a_mstretch)
  else
    if v6 < 0 ∨ 1000 ≤ v6.toNatClampNeg then
      none
    else
      if (a_mstretch v6.toNatClampNeg) = v1.toInt64 then
        if v3 = v2 then
          j_X12_wholly_67 N v4 v6 a_mstretch
        else
          xl (v3 + (1 : Int32)) fun y17z =>
          xl (v6 + (1 : Int32)) fun y18z =>
          k_41 (y17z, y18z)
      else
        xl (v6 + (1 : Int32)) fun y15z =>
        k_41 (v3, y15z)
def l_X12_wholly_41 (N : Nat) (k_24 : (Int32 × Int64 × (Nat → Int64)) → Option (Int32 × (Nat → Int64))) (v1 : Int32) (v2 : Int32) (v4 : Int64) (a_mstretch : Nat → Int64) (n : Nat) (z : Int32 × Int32) : Option (Int32 × (Nat → Int64)) := lp (fun k z => s_X12_wholly_41 N k_24 v1 v2 v4 a_mstretch k z.1 z.2) n z
set_option maxRecDepth 100000 in
set_option maxHeartbeats 4000000 in
theorem k_X12_wholly_41 {p : Program} {l : Launch} {e : Env} {s : State} {m : MethodId} {args : Array Value} {below : List Frame} {meth : Method} {c : Code} {dC : Nat → ClassId} {dI : Nat → Nat → Nat} {cyI cyJ cyZ : ClassId} {A : Nat → Prop} (C0 : mC p s m meth c args cX12_wholly (some .int) 7 RX12 wsX12_wholly (gK dC dI cyI cyJ cyZ) A) (N : Nat) (res : Int32 × (Nat → Int64)) (q_Md : Nat) (q_mstretch : Nat) (q_mtext : Nat) (q_mprimes : Nat) (q_mtold : Nat) (q_mtable : Nat) (q_mfewest : Nat) (q_misOdd : Nat) (q_misHigh : Nat) (q_misTop : Nat) (q_mbits : Nat) (q_mpile : Nat) (v1 : Int32) (v2 : Int32) (m_length : Int32) (m_primeMany : Int32) (m_toldMany : Int32) (m_fate : Int32) (m_tail : Int32) (m_round : Int32) (m_tableKind : Int32) (m_areLaid : Int32) (m_unlike : Int32) (m_isFree : Int32) (k_24 : (Int32 × Int64 × (Nat → Int64)) → Option (Int32 × (Nat → Int64))) (hk_24 : ∀ (v3 : Int32) (v4 : Int64) (a_mstretch : Nat → Int64), k_24 (v3, v4, a_mstretch) = some res → ∀ (H : Heap) (locs : List Loc), va_P (dC, dI) vwCl (wd60 cyI cyJ cyZ q_Md q_mstretch q_mtext q_mprimes q_mtold q_mtable q_mfewest q_misOdd q_misHigh q_misTop q_mbits q_mpile m_length m_primeMany m_toldMany m_fate m_tail m_round m_tableKind m_areLaid m_unlike m_isFree a_mstretch) H → va_D A (wd60 cyI cyJ cyZ q_Md q_mstretch q_mtext q_mprimes q_mtold q_mtable q_mfewest q_misOdd q_misHigh q_misTop q_mbits q_mpile m_length m_primeMany m_toldMany m_fate m_tail m_round m_tableKind m_areLaid m_unlike m_isFree a_mstretch) → va_S A s.heap H locs → ∀ (ls : Array Slot), lv_has ls 7 [(0, .ref q_Md), (1, .int v1), (2, .int v2), (3, .int v3), (4, .long v4)] → W p l e (headSpec wsX12_wholly rm_X12_wholly).room s m args below meth c H locs 0 0 (MQ below (va_Qi (fun (r : Int32) (_ : Unit) => r = res.1) (bW dC dI (fun (u : Unit) => (wd60 cyI cyJ cyZ q_Md q_mstretch q_mtext q_mprimes q_mtold q_mtable q_mfewest q_misOdd q_misHigh q_misTop q_mbits q_mpile m_length m_primeMany m_toldMany m_fate m_tail m_round m_tableKind m_areLaid m_unlike m_isFree res.2)) A) A) args s 0 0 A) (F0 m 24 ls [])) (v4 : Int64) (a_mstretch : Nat → Int64) : ∀ (n : Nat) (v3 : Int32) (v6 : Int32), l_X12_wholly_41 N k_24 v1 v2 v4 a_mstretch n (v3, v6) = some res → ∀ (H : Heap) (locs : List Loc), va_P (dC, dI) vwCl (wd60 cyI cyJ cyZ q_Md q_mstretch q_mtext q_mprimes q_mtold q_mtable q_mfewest q_misOdd q_misHigh q_misTop q_mbits q_mpile m_length m_primeMany m_toldMany m_fate m_tail m_round m_tableKind m_areLaid m_unlike m_isFree a_mstretch) H → va_D A (wd60 cyI cyJ cyZ q_Md q_mstretch q_mtext q_mprimes q_mtold q_mtable q_mfewest q_misOdd q_misHigh q_misTop q_mbits q_mpile m_length m_primeMany m_toldMany m_fate m_tail m_round m_tableKind m_areLaid m_unlike m_isFree a_mstretch) → va_S A s.heap H locs → ∀ (ls : Array Slot), lv_has ls 7 [(0, .ref q_Md), (1, .int v1), (2, .int v2), (3, .int v3), (4, .long v4), (6, .int v6)] → W p l e (headSpec wsX12_wholly rm_X12_wholly).room s m args below meth c H locs 0 0 (MQ below (va_Qi (fun (r : Int32) (_ : Unit) => r = res.1) (bW dC dI (fun (u : Unit) => (wd60 cyI cyJ cyZ q_Md q_mstretch q_mtext q_mprimes q_mtold q_mtable q_mfewest q_misOdd q_misHigh q_misTop q_mbits q_mpile m_length m_primeMany m_toldMany m_fate m_tail m_round m_tableKind m_areLaid m_unlike m_isFree res.2)) A) A) args s 0 0 A) (F0 m 41 ls []) := by
  obtain ⟨hx, hb, hr, hml, hown, hts, hlocks, hG, hA⟩ := id C0
  have hK := hG.1
  intro n
  induction n with
  | zero =>
    intro v3 v6 h
    cases h
  | succ n ih =>
    intro v3 v6 h H locs hP hD hS ls hl
    have h : s_X12_wholly_41 N k_24 v1 v2 v4 a_mstretch (l_X12_wholly_41 N k_24 v1 v2 v4 a_mstretch n) v3 v6 = some res := h
    unfold s_X12_wholly_41 at h
    refine lv_iload hx hb dX12_wholly_41 (lv_at hl 5 rfl) ?_
    refine lv_sipush (v := (1000 : Int32)) hx hb dX12_wholly_43 (by decide) ?_
    refine lv_icmp_ge (tgt := 84) hx hb dX12_wholly_46 (by decide) (fun c11z => ?_) (fun c11z => ?_)
    · have h := xt h c11z
      refine lv_lload hx hb dX12_wholly_84 (lv_at hl 4 rfl) ?_
      refine lv_ldc2 (v := (1000 : Int64)) hx hb hown (hts (.constantLong RX12 122 (1000)) (List.mem_of_getElem? (i := 3) rfl)) dX12_wholly_86 ?_
      refine lv_ladd hx hb dX12_wholly_89 ?_
      refine lv_topl (fun y12z ey12z => ?_)
      have h := xl_at h ey12z
      refine lv_lstore (lv' := [(4, .long y12z), (0, .ref q_Md), (1, .int v1), (2, .int v2), (3, .int v3), (6, .int v6)]) hx hb dX12_wholly_90 hl (by decide) rfl (fun ls hl => ?_)
      refine lv_goto (tgt := 24) hx hb dX12_wholly_92 (by decide) ?_
      exact hk_24 v3 y12z a_mstretch h _ _ hP hD hS _ (lv_sub hl [1, 2, 3, 4, 0] rfl)
    · have h := xf h c11z
      refine lv_aload_n hx hb dX12_wholly_49 rfl (lv_at hl 0 rfl) ?_
      refine va_get (D := (dC, dI)) (ci := 12) (v := .ref q_mstretch) (C := RX12) (T := TX12) (N := 21) hx hb hts iw_X12_wholly_X12 hown hK hP 0 rfl rfl 11 (by decide) (hts (.fieldLink RX12 24 "GoesIntoModel" "stretch" "[J") (List.mem_of_getElem? (i := 2) rfl)) (fun _ h9 => h9) rfl dX12_wholly_50 ?_
      refine lv_iload hx hb dX12_wholly_53 (lv_at hl 5 rfl) ?_
      obtain ⟨b13z, h⟩ := xn h
      refine va_lald hx hb hK hP 1 1 rfl rfl b13z dX12_wholly_55 ?_
      refine lv_iload_n hx hb dX12_wholly_56 rfl (lv_at hl 1 rfl) ?_
      refine lv_i2l (v := v1.toInt64) hx hb dX12_wholly_57 rfl ?_
      refine W.lcmp hx hb dX12_wholly_58 ?_
      refine lv_if_ne (tgt := 78) hx hb dX12_wholly_59 (by decide) (fun c14z => ?_) (fun c14z => ?_)
      · have c14z := fun z => c14z ((lg_cmp_eq _ _).mpr z)
        have h := xf h c14z
        obtain ⟨y15z, ey15z⟩ : ∃ z : Int32, z = v6 + (1 : Int32) := ⟨_, rfl⟩
        have h := xl_at h ey15z
        refine lv_iinc (v := y15z) (lv' := [(6, .int y15z), (0, .ref q_Md), (1, .int v1), (2, .int v2), (3, .int v3), (4, .long v4)]) hx hb dX12_wholly_78 hl (k := 5) rfl (by rw [ey15z]; rfl) (by decide) rfl (fun ls hl => ?_)
        refine lv_goto (tgt := 41) hx hb dX12_wholly_81 (by decide) ?_
        exact ih v3 y15z h _ _ hP hD hS _ (lv_sub hl [1, 2, 3, 4, 5, 0] rfl)
      · have c14z := (lg_cmp_eq _ _).mp c14z
        have h := xt h c14z
        refine lv_iload_n hx hb dX12_wholly_62 rfl (lv_at hl 3 rfl) ?_
        refine lv_iload_n hx hb dX12_wholly_63 rfl (lv_at hl 2 rfl) ?_
        refine lv_icmp_ne (tgt := 75) hx hb dX12_wholly_64 (by decide) (fun c16z => ?_) (fun c16z => ?_)
        · have h := xf h c16z
          obtain ⟨y17z, ey17z⟩ : ∃ z : Int32, z = v3 + (1 : Int32) := ⟨_, rfl⟩
          have h := xl_at h ey17z
          refine lv_iinc (v := y17z) (lv' := [(3, .int y17z), (0, .ref q_Md), (1, .int v1), (2, .int v2), (4, .long v4), (6, .int v6)]) hx hb dX12_wholly_75 hl (k := 3) rfl (by rw [ey17z]; rfl) (by decide) rfl (fun ls hl => ?_)
          obtain ⟨y18z, ey18z⟩ : ∃ z : Int32, z = v6 + (1 : Int32) := ⟨_, rfl⟩
          have h := xl_at h ey18z
          refine lv_iinc (v := y18z) (lv' := [(6, .int y18z), (3, .int y17z), (0, .ref q_Md), (1, .int v1), (2, .int v2), (4, .long v4)]) hx hb dX12_wholly_78 hl (k := 5) rfl (by rw [ey18z]; rfl) (by decide) rfl (fun ls hl => ?_)
          refine lv_goto (tgt := 41) hx hb dX12_wholly_81 (by decide) ?_
          exact ih y17z y18z h _ _ hP hD hS _ (lv_sub hl [2, 3, 4, 1, 5, 0] rfl)
        · have h := xt h c16z
          exact k_X12_wholly_67 C0 N res q_Md q_mstretch q_mtext q_mprimes q_mtold q_mtable q_mfewest q_misOdd q_misHigh q_misTop q_mbits q_mpile v4 v6 m_length m_primeMany m_toldMany m_fate m_tail m_round m_tableKind m_areLaid m_unlike m_isFree a_mstretch  h _ _ hP hD hS _ (lv_sub hl [4, 5] rfl)
def s_X12_wholly_24 (N : Nat) (v1 : Int32) (v2 : Int32) (k_24 : (Int32 × Int64 × (Nat → Int64)) → Option (Int32 × (Nat → Int64))) (v3 : Int32) (v4 : Int64) (a_mstretch : Nat → Int64) : Option (Int32 × (Nat → Int64)) :=
  if v1.toInt64 < v4 then
    j_X12_wholly_95 N v2 v3 a_mstretch
  else
    Option.bind (f_X12_layStretch N v4 a_mstretch) fun r8z =>
    l_X12_wholly_41 N k_24 v1 v2 v4 r8z N (v3, (0 : Int32))
def l_X12_wholly_24 (N : Nat) (v1 : Int32) (v2 : Int32) (n : Nat) (z : Int32 × Int64 × (Nat → Int64)) : Option (Int32 × (Nat → Int64)) := lp (fun k z => s_X12_wholly_24 N v1 v2 k z.1 z.2.1 z.2.2) n z
set_option maxRecDepth 100000 in
set_option maxHeartbeats 4000000 in
theorem k_X12_wholly_24 {p : Program} {l : Launch} {e : Env} {s : State} {m : MethodId} {args : Array Value} {below : List Frame} {meth : Method} {c : Code} {dC : Nat → ClassId} {dI : Nat → Nat → Nat} {cyI cyJ cyZ : ClassId} {A : Nat → Prop} (C0 : mC p s m meth c args cX12_wholly (some .int) 7 RX12 wsX12_wholly (gK dC dI cyI cyJ cyZ) A) (N : Nat) (res : Int32 × (Nat → Int64)) (q_Md : Nat) (q_mstretch : Nat) (q_mtext : Nat) (q_mprimes : Nat) (q_mtold : Nat) (q_mtable : Nat) (q_mfewest : Nat) (q_misOdd : Nat) (q_misHigh : Nat) (q_misTop : Nat) (q_mbits : Nat) (q_mpile : Nat) (v1 : Int32) (v2 : Int32) (m_length : Int32) (m_primeMany : Int32) (m_toldMany : Int32) (m_fate : Int32) (m_tail : Int32) (m_round : Int32) (m_tableKind : Int32) (m_areLaid : Int32) (m_unlike : Int32) (m_isFree : Int32) : ∀ (n : Nat) (v3 : Int32) (v4 : Int64) (a_mstretch : Nat → Int64), l_X12_wholly_24 N v1 v2 n (v3, v4, a_mstretch) = some res → ∀ (H : Heap) (locs : List Loc), va_P (dC, dI) vwCl (wd60 cyI cyJ cyZ q_Md q_mstretch q_mtext q_mprimes q_mtold q_mtable q_mfewest q_misOdd q_misHigh q_misTop q_mbits q_mpile m_length m_primeMany m_toldMany m_fate m_tail m_round m_tableKind m_areLaid m_unlike m_isFree a_mstretch) H → va_D A (wd60 cyI cyJ cyZ q_Md q_mstretch q_mtext q_mprimes q_mtold q_mtable q_mfewest q_misOdd q_misHigh q_misTop q_mbits q_mpile m_length m_primeMany m_toldMany m_fate m_tail m_round m_tableKind m_areLaid m_unlike m_isFree a_mstretch) → va_S A s.heap H locs → ∀ (ls : Array Slot), lv_has ls 7 [(0, .ref q_Md), (1, .int v1), (2, .int v2), (3, .int v3), (4, .long v4)] → W p l e (headSpec wsX12_wholly rm_X12_wholly).room s m args below meth c H locs 0 0 (MQ below (va_Qi (fun (r : Int32) (_ : Unit) => r = res.1) (bW dC dI (fun (u : Unit) => (wd60 cyI cyJ cyZ q_Md q_mstretch q_mtext q_mprimes q_mtold q_mtable q_mfewest q_misOdd q_misHigh q_misTop q_mbits q_mpile m_length m_primeMany m_toldMany m_fate m_tail m_round m_tableKind m_areLaid m_unlike m_isFree res.2)) A) A) args s 0 0 A) (F0 m 24 ls []) := by
  obtain ⟨hx, hb, hr, hml, hown, hts, hlocks, hG, hA⟩ := id C0
  have hK := hG.1
  intro n
  induction n with
  | zero =>
    intro v3 v4 a_mstretch h
    cases h
  | succ n ih =>
    intro v3 v4 a_mstretch h H locs hP hD hS ls hl
    have h : s_X12_wholly_24 N v1 v2 (l_X12_wholly_24 N v1 v2 n) v3 v4 a_mstretch = some res := h
    unfold s_X12_wholly_24 at h
    refine lv_lload hx hb dX12_wholly_24 (lv_at hl 4 rfl) ?_
    refine lv_iload_n hx hb dX12_wholly_26 rfl (lv_at hl 1 rfl) ?_
    refine lv_i2l (v := v1.toInt64) hx hb dX12_wholly_27 rfl ?_
    refine W.lcmp hx hb dX12_wholly_28 ?_
    refine lv_if_gt (tgt := 95) hx hb dX12_wholly_29 (by decide) (fun c6z => ?_) (fun c6z => ?_)
    · have c6z := (lg_cmp_gt _ _).mp c6z
      have h := xt h c6z
      exact k_X12_wholly_95 C0 N res q_Md q_mstretch q_mtext q_mprimes q_mtold q_mtable q_mfewest q_misOdd q_misHigh q_misTop q_mbits q_mpile v2 v3 m_length m_primeMany m_toldMany m_fate m_tail m_round m_tableKind m_areLaid m_unlike m_isFree a_mstretch  h _ _ hP hD hS _ (lv_sub hl [2, 3] rfl)
    · have c6z := fun z => c6z ((lg_cmp_gt _ _).mpr z)
      have h := xf h c6z
      refine lv_aload_n hx hb dX12_wholly_32 rfl (lv_at hl 0 rfl) ?_
      refine lv_lload hx hb dX12_wholly_33 (lv_at hl 4 rfl) ?_
      obtain ⟨r8z, hr8z, h⟩ := xb_at h
      have hPc := hP.sub (ws' := (wd60 cyI cyJ cyZ q_Md q_mstretch q_mtext q_mprimes q_mtold q_mtable q_mfewest q_misOdd q_misHigh q_misTop q_mbits q_mpile m_length m_primeMany m_toldMany m_fate m_tail m_round m_tableKind m_areLaid m_unlike m_isFree a_mstretch)) [0, 1] rfl
      have hDc := hD.sub (ws' := (wd60 cyI cyJ cyZ q_Md q_mstretch q_mtext q_mprimes q_mtold q_mtable q_mfewest q_misOdd q_misHigh q_misTop q_mbits q_mpile m_length m_primeMany m_toldMany m_fate m_tail m_round m_tableKind m_areLaid m_unlike m_isFree a_mstretch)) [0, 1] (by decide) rfl
      refine cal_v [0, 1] [] (va_runV (As := [.long v4]) (rest := []) ⟨hx, hb, hml, hown, hts⟩ (c_X12_layStretch l dC dI cyI cyJ cyZ N r8z H.size q_Md q_mstretch q_mtext q_mprimes q_mtold q_mtable q_mfewest q_misOdd q_misHigh q_misTop q_mbits q_mpile v4 m_length m_primeMany m_toldMany m_fate m_tail m_round m_tableKind m_areLaid m_unlike m_isFree a_mstretch hr8z) (cwV 1 hts gX12_wholly_X12_layStretch rfl rfl rfl ⟨rfl, hd_X12_layStretch⟩ ⟨Nat.le_of_ble_eq_true rfl, Nat.le_of_ble_eq_true rfl⟩) ⟨pC.blind, va_recv hK hPc (ci := 12) (q0 := 0) rfl rfl, pC.pre hPc hG hDc⟩ rfl rfl hl.1 rfl (lv_room (Nat.le_of_ble_eq_true rfl)) dX12_wholly_35 ⟨Nat.zero_le _, Nat.zero_le _⟩) hP hD hS hA rfl rfl rfl (by decide) (fun u9z H locs _ hP hD hS => ?_)
      have hP : va_P (dC, dI) vwCl (wd60 cyI cyJ cyZ q_Md q_mstretch q_mtext q_mprimes q_mtold q_mtable q_mfewest q_misOdd q_misHigh q_misTop q_mbits q_mpile m_length m_primeMany m_toldMany m_fate m_tail m_round m_tableKind m_areLaid m_unlike m_isFree r8z) H := hP.sub [0, 1] rfl
      have hD : va_D A (wd60 cyI cyJ cyZ q_Md q_mstretch q_mtext q_mprimes q_mtold q_mtable q_mfewest q_misOdd q_misHigh q_misTop q_mbits q_mpile m_length m_primeMany m_toldMany m_fate m_tail m_round m_tableKind m_areLaid m_unlike m_isFree r8z) := hD.sub [0, 1] (by decide) rfl
      refine lv_iconst (v := (0 : Int32)) hx hb dX12_wholly_38 (by decide) ?_
      refine lv_istore (lv' := [(6, .int (0 : Int32)), (0, .ref q_Md), (1, .int v1), (2, .int v2), (3, .int v3), (4, .long v4)]) hx hb dX12_wholly_39 hl (by decide) rfl (fun ls hl => ?_)
      exact k_X12_wholly_41 C0 N res q_Md q_mstretch q_mtext q_mprimes q_mtold q_mtable q_mfewest q_misOdd q_misHigh q_misTop q_mbits q_mpile v1 v2 m_length m_primeMany m_toldMany m_fate m_tail m_round m_tableKind m_areLaid m_unlike m_isFree _ ih v4 r8z N v3 (0 : Int32) h _ _ hP hD hS _ (lv_sub hl [1, 2, 3, 4, 5, 0] rfl)
def f_X12_wholly (N : Nat) (v1 : Int32) (v2 : Int32) (a_mstretch : Nat → Int64) : Option (Int32 × (Nat → Int64)) :=
  Option.bind (f_X12_in N v1.toInt64 (1 : Int64) (1000000 : Int64)) fun r1z =>
  if r1z = 0 then
    some ((-1 : Int32), a_mstretch)
  else
    if (-1 : Int32) ≤ v2 then
      l_X12_wholly_24 N v1 v2 N ((0 : Int32), (1 : Int64), a_mstretch)
    else
      some ((-1 : Int32), a_mstretch)
set_option maxRecDepth 100000 in
set_option maxHeartbeats 4000000 in
theorem k_X12_wholly_0 {p : Program} {l : Launch} {e : Env} {s : State} {m : MethodId} {args : Array Value} {below : List Frame} {meth : Method} {c : Code} {dC : Nat → ClassId} {dI : Nat → Nat → Nat} {cyI cyJ cyZ : ClassId} {A : Nat → Prop} (C0 : mC p s m meth c args cX12_wholly (some .int) 7 RX12 wsX12_wholly (gK dC dI cyI cyJ cyZ) A) (N : Nat) (res : Int32 × (Nat → Int64)) (q_Md : Nat) (q_mstretch : Nat) (q_mtext : Nat) (q_mprimes : Nat) (q_mtold : Nat) (q_mtable : Nat) (q_mfewest : Nat) (q_misOdd : Nat) (q_misHigh : Nat) (q_misTop : Nat) (q_mbits : Nat) (q_mpile : Nat) (v1 : Int32) (v2 : Int32) (m_length : Int32) (m_primeMany : Int32) (m_toldMany : Int32) (m_fate : Int32) (m_tail : Int32) (m_round : Int32) (m_tableKind : Int32) (m_areLaid : Int32) (m_unlike : Int32) (m_isFree : Int32) (a_mstretch : Nat → Int64) (h : f_X12_wholly N v1 v2 a_mstretch = some res) : ∀ (H : Heap) (locs : List Loc), va_P (dC, dI) vwCl (wd60 cyI cyJ cyZ q_Md q_mstretch q_mtext q_mprimes q_mtold q_mtable q_mfewest q_misOdd q_misHigh q_misTop q_mbits q_mpile m_length m_primeMany m_toldMany m_fate m_tail m_round m_tableKind m_areLaid m_unlike m_isFree a_mstretch) H → va_D A (wd60 cyI cyJ cyZ q_Md q_mstretch q_mtext q_mprimes q_mtold q_mtable q_mfewest q_misOdd q_misHigh q_misTop q_mbits q_mpile m_length m_primeMany m_toldMany m_fate m_tail m_round m_tableKind m_areLaid m_unlike m_isFree a_mstretch) → va_S A s.heap H locs → ∀ (ls : Array Slot), lv_has ls 7 [(0, .ref q_Md), (1, .int v1), (2, .int v2)] → W p l e (headSpec wsX12_wholly rm_X12_wholly).room s m args below meth c H locs 0 0 (MQ below (va_Qi (fun (r : Int32) (_ : Unit) => r = res.1) (bW dC dI (fun (u : Unit) => (wd60 cyI cyJ cyZ q_Md q_mstretch q_mtext q_mprimes q_mtold q_mtable q_mfewest q_misOdd q_misHigh q_misTop q_mbits q_mpile m_length m_primeMany m_toldMany m_fate m_tail m_round m_tableKind m_areLaid m_unlike m_isFree res.2)) A) A) args s 0 0 A) (F0 m 0 ls []) := by
  obtain ⟨hx, hb, hr, hml, hown, hts, hlocks, hG, hA⟩ := id C0
  have hK := hG.1
  intro H locs hP hD hS ls hl
  unfold f_X12_wholly at h
  refine lv_iload_n hx hb dX12_wholly_0 rfl (lv_at hl 1 rfl) ?_
  refine lv_i2l (v := v1.toInt64) hx hb dX12_wholly_1 rfl ?_
  refine lv_lconst (v := (1 : Int64)) hx hb dX12_wholly_2 (by decide) ?_
  refine lv_ldc2 (v := (1000000 : Int64)) hx hb hown (hts (.constantLong RX12 124 (1000000)) (List.mem_of_getElem? (i := 1) rfl)) dX12_wholly_3 ?_
  obtain ⟨r1z, hr1z, h⟩ := xb_at h
  have hPc := hP.sub (ws' := (wd37 cyI cyJ cyZ)) [] rfl
  have hDc := hD.sub (ws' := (wd37 cyI cyJ cyZ)) [] (by decide) rfl
  refine cal_i [] [0, 1] (va_runS (As := [.long v1.toInt64, .long (1 : Int64), .long (1000000 : Int64)]) (rest := []) ⟨hx, hb, hml, hown, hts⟩ (c_X12_in l dC dI cyI cyJ cyZ N r1z H.size  v1.toInt64 (1 : Int64) (1000000 : Int64)  hr1z) (va_cwS 3 hts gX12_wholly_X12_in rfl rfl rfl hd_X12_in ⟨Nat.le_of_ble_eq_true rfl, Nat.le_of_ble_eq_true rfl⟩) ⟨pC.blind, pC.pre hPc hG hDc⟩ rfl rfl hl.1 rfl (lv_room (Nat.le_of_ble_eq_true rfl)) dX12_wholly_6 ⟨Nat.zero_le _, Nat.zero_le _⟩) hP hD hS hA rfl rfl rfl (by decide) (fun x3z u2z H locs hw hP hD hS => ?_)
  obtain rfl := hw.symm
  have hP : va_P (dC, dI) vwCl (wd60 cyI cyJ cyZ q_Md q_mstretch q_mtext q_mprimes q_mtold q_mtable q_mfewest q_misOdd q_misHigh q_misTop q_mbits q_mpile m_length m_primeMany m_toldMany m_fate m_tail m_round m_tableKind m_areLaid m_unlike m_isFree a_mstretch) H := hP.sub [0, 1] rfl
  have hD : va_D A (wd60 cyI cyJ cyZ q_Md q_mstretch q_mtext q_mprimes q_mtold q_mtable q_mfewest q_misOdd q_misHigh q_misTop q_mbits q_mpile m_length m_primeMany m_toldMany m_fate m_tail m_round m_tableKind m_areLaid m_unlike m_isFree a_mstretch) := hD.sub [0, 1] (by decide) rfl
  refine lv_if_eq (tgt := 17) hx hb dX12_wholly_9 (by decide) (fun c4z => ?_) (fun c4z => ?_)
  · have h := xt h c4z
    refine lv_iconst (v := (-1 : Int32)) hx hb dX12_wholly_17 (by decide) ?_
    obtain rfl := Option.some.inj h
    exact W.iret (v := (-1 : Int32)) hx hb hr (fun t ht hW => ⟨⟨_, (), rfl, rfl, by rw [ht]; exact hP, hD⟩, hS.F ht⟩) hS.2.2 dX12_wholly_18 hlocks
  · have h := xf h c4z
    refine lv_iload_n hx hb dX12_wholly_12 rfl (lv_at hl 2 rfl) ?_
    refine lv_iconst (v := (-1 : Int32)) hx hb dX12_wholly_13 (by decide) ?_
    refine lv_icmp_ge (tgt := 19) hx hb dX12_wholly_14 (by decide) (fun c5z => ?_) (fun c5z => ?_)
    · have h := xt h c5z
      refine lv_iconst (v := (0 : Int32)) hx hb dX12_wholly_19 (by decide) ?_
      refine lv_istore_n (lv' := [(3, .int (0 : Int32)), (0, .ref q_Md), (1, .int v1), (2, .int v2)]) hx hb dX12_wholly_20 rfl hl (by decide) rfl (fun ls hl => ?_)
      refine lv_lconst (v := (1 : Int64)) hx hb dX12_wholly_21 (by decide) ?_
      refine lv_lstore (lv' := [(4, .long (1 : Int64)), (3, .int (0 : Int32)), (0, .ref q_Md), (1, .int v1), (2, .int v2)]) hx hb dX12_wholly_22 hl (by decide) rfl (fun ls hl => ?_)
      exact k_X12_wholly_24 C0 N res q_Md q_mstretch q_mtext q_mprimes q_mtold q_mtable q_mfewest q_misOdd q_misHigh q_misTop q_mbits q_mpile v1 v2 m_length m_primeMany m_toldMany m_fate m_tail m_round m_tableKind m_areLaid m_unlike m_isFree N (0 : Int32) (1 : Int64) a_mstretch h _ _ hP hD hS _ (lv_sub hl [2, 3, 4, 1, 0] rfl)
    · have h := xf h c5z
      refine lv_iconst (v := (-1 : Int32)) hx hb dX12_wholly_17 (by decide) ?_
      obtain rfl := Option.some.inj h
      exact W.iret (v := (-1 : Int32)) hx hb hr (fun t ht hW => ⟨⟨_, (), rfl, rfl, by rw [ht]; exact hP, hD⟩, hS.F ht⟩) hS.2.2 dX12_wholly_18 hlocks
set_option maxRecDepth 100000 in
set_option maxHeartbeats 4000000 in
theorem c_X12_wholly (l : Launch) (dC : Nat → ClassId) (dI : Nat → Nat → Nat) (cyI cyJ cyZ : ClassId) (N : Nat) (res : Int32 × (Nat → Int64)) (sz : Nat) (q_Md : Nat) (q_mstretch : Nat) (q_mtext : Nat) (q_mprimes : Nat) (q_mtold : Nat) (q_mtable : Nat) (q_mfewest : Nat) (q_misOdd : Nat) (q_misHigh : Nat) (q_misTop : Nat) (q_mbits : Nat) (q_mpile : Nat) (v1 : Int32) (v2 : Int32) (m_length : Int32) (m_primeMany : Int32) (m_toldMany : Int32) (m_fate : Int32) (m_tail : Int32) (m_round : Int32) (m_tableKind : Int32) (m_areLaid : Int32) (m_unlike : Int32) (m_isFree : Int32) (a_mstretch : Nat → Int64) (h : f_X12_wholly N v1 v2 a_mstretch = some res) : Met l yX12_wholly wsX12_wholly rm_X12_wholly (pC dC dI cyI cyJ cyZ [.ref q_Md, .int v1, .int v2] sz (wd60 cyI cyJ cyZ q_Md q_mstretch q_mtext q_mprimes q_mtold q_mtable q_mfewest q_misOdd q_misHigh q_misTop q_mbits q_mpile m_length m_primeMany m_toldMany m_fate m_tail m_round m_tableKind m_areLaid m_unlike m_isFree a_mstretch)) (va_Qi (fun (r : Int32) (_ : Unit) => r = res.1) (bW dC dI (fun (u : Unit) => (wd60 cyI cyJ cyZ q_Md q_mstretch q_mtext q_mprimes q_mtold q_mtable q_mfewest q_misOdd q_misHigh q_misTop q_mbits q_mpile m_length m_primeMany m_toldMany m_fate m_tail m_round m_tableKind m_areLaid m_unlike m_isFree res.2)) (va_A (wd60 cyI cyJ cyZ q_Md q_mstretch q_mtext q_mprimes q_mtold q_mtable q_mfewest q_misOdd q_misHigh q_misTop q_mbits q_mpile m_length m_primeMany m_toldMany m_fate m_tail m_round m_tableKind m_areLaid m_unlike m_isFree a_mstretch) sz)) (va_A (wd60 cyI cyJ cyZ q_Md q_mstretch q_mtext q_mprimes q_mtold q_mtable q_mfewest q_misOdd q_misHigh q_misTop q_mbits q_mpile m_length m_primeMany m_toldMany m_fate m_tail m_round m_tableKind m_areLaid m_unlike m_isFree a_mstretch) sz)) 0 0 (va_A (wd60 cyI cyJ cyZ q_Md q_mstretch q_mtext q_mprimes q_mtold q_mtable q_mfewest q_misOdd q_misHigh q_misTop q_mbits q_mpile m_length m_primeMany m_toldMany m_fate m_tail m_round m_tableKind m_areLaid m_unlike m_isFree a_mstretch) sz) := by
  refine Met.ofW (cc := cX12_wholly) (maxL := 7) (ret := (some .int)) (by decide) rfl ?_
  intro p e s m args below meth c s₁ B hml hv
  obtain ⟨rfl, hsz, hP, hG, hD0⟩ := hv
  have hx := B.exec
  have hb := B.bytes
  have hr := B.returns
  have hts := atoms_spec (ws := wsX12_wholly) B.pre
  have hown : s.vm.findClass RX12 = some m.cls := findClass_of_methodNamed B.named
  have hlocks := B.notSynchronized
  subst hsz
  have hD := hD0.self (sz := s.heap.size)
  generalize hAe : va_A (wd60 cyI cyJ cyZ q_Md q_mstretch q_mtext q_mprimes q_mtold q_mtable q_mfewest q_misOdd q_misHigh q_misTop q_mbits q_mpile m_length m_primeMany m_toldMany m_fate m_tail m_round m_tableKind m_areLaid m_unlike m_isFree a_mstretch) s.heap.size = A at hD ⊢
  have hA : ∀ q : Nat, s.heap.size ≤ q → A q := fun q h => by rw [← hAe]; exact Or.inr h
  have hS : va_S A s.heap s.heap [] := va_S.rf
  have hl := lv_entry ([.ref q_Md, .int v1, .int v2]) (n := 7) (Nat.le_of_ble_eq_true rfl)
  rw [lg_entry_eq]
  generalize (lg_sl ([.ref q_Md, .int v1, .int v2]) ++ List.replicate (7 - (lg_sl ([.ref q_Md, .int v1, .int v2])).length) Slot.unset).toArray = ls at hl ⊢
  have hl : lv_has ls 7 [(0, .ref q_Md), (1, .int v1), (2, .int v2)] := hl
  exact k_X12_wholly_0 ⟨hx, hb, hr, hml, hown, hts, hlocks, hG, hA⟩ N res q_Md q_mstretch q_mtext q_mprimes q_mtold q_mtable q_mfewest q_misOdd q_misHigh q_misTop q_mbits q_mpile v1 v2 m_length m_primeMany m_toldMany m_fate m_tail m_round m_tableKind m_areLaid m_unlike m_isFree a_mstretch  h _ _ hP hD hS _ hl
abbrev rm_X12_bare : Room := { frames := 4, cells := 0, slots := 0, locals := 107 }
theorem hd_X12_bare : yX12_bare.cls ≠ "java/lang/invoke/MethodHandle" ∧ yX12_bare.cls ≠ "java/lang/invoke/VarHandle" ∧ (parseMethodDescriptor yX12_bare.desc).map (fun d => d.parameters.length) = some 1 := by decide +kernel
theorem iw_X12_bare_X12 : ∀ w ∈ wsX120, w ∈ wsX12_bare := List.forall_mem_cons.mpr ⟨List.mem_of_getElem? (i := 29) rfl, List.forall_mem_cons.mpr ⟨List.mem_of_getElem? (i := 30) rfl, List.forall_mem_cons.mpr ⟨List.mem_of_getElem? (i := 31) rfl, List.forall_mem_cons.mpr ⟨List.mem_of_getElem? (i := 32) rfl, List.forall_mem_cons.mpr ⟨List.mem_of_getElem? (i := 33) rfl, List.forall_mem_cons.mpr ⟨List.mem_of_getElem? (i := 34) rfl, List.forall_mem_cons.mpr ⟨List.mem_of_getElem? (i := 35) rfl, List.forall_mem_cons.mpr ⟨List.mem_of_getElem? (i := 36) rfl, List.forall_mem_cons.mpr ⟨List.mem_of_getElem? (i := 37) rfl, List.forall_mem_cons.mpr ⟨List.mem_of_getElem? (i := 38) rfl, List.forall_mem_cons.mpr ⟨List.mem_of_getElem? (i := 39) rfl, List.forall_mem_cons.mpr ⟨List.mem_of_getElem? (i := 40) rfl, List.forall_mem_cons.mpr ⟨List.mem_of_getElem? (i := 41) rfl, List.forall_mem_cons.mpr ⟨List.mem_of_getElem? (i := 42) rfl, List.forall_mem_cons.mpr ⟨List.mem_of_getElem? (i := 43) rfl, List.forall_mem_cons.mpr ⟨List.mem_of_getElem? (i := 44) rfl, List.forall_mem_cons.mpr ⟨List.mem_of_getElem? (i := 45) rfl, List.forall_mem_cons.mpr ⟨List.mem_of_getElem? (i := 46) rfl, List.forall_mem_cons.mpr ⟨List.mem_of_getElem? (i := 47) rfl, List.forall_mem_cons.mpr ⟨List.mem_of_getElem? (i := 48) rfl, List.forall_mem_cons.mpr ⟨List.mem_of_getElem? (i := 49) rfl, fun _ h => absurd h List.not_mem_nil⟩⟩⟩⟩⟩⟩⟩⟩⟩⟩⟩⟩⟩⟩⟩⟩⟩⟩⟩⟩⟩
def s_X12_bare_23 (N : Nat) (v1 : Int32) (m_primeMany : Int32) (m_tableKind : Int32) (a_mprimes : Nat → Int64) (a_mtable : Nat → Int32) (k_23 : (Int32) → Option (Int32 × Int32 × Int32 × (Nat → Int64) × (Nat → Int32))) (v2 : Int32) : Option (Int32 × Int32 × Int32 × (Nat → Int64) × (Nat → Int32)) :=
  if (40000 : Int32) < v2 then
    some ((1 : Int32), m_primeMany, m_tableKind, a_mprimes, a_mtable)
  else
    if v2 < 0 ∨ 50001 ≤ v2.toNatClampNeg then
      none
    else
      if (a_mtable v2.toNatClampNeg) = v1 then
        some ((0 : Int32), m_primeMany, m_tableKind, a_mprimes, a_mtable)
      else
        xl (v2 + (1 : Int32)) fun y11z =>
        k_23 y11z
def l_X12_bare_23 (N : Nat) (v1 : Int32) (m_primeMany : Int32) (m_tableKind : Int32) (a_mprimes : Nat → Int64) (a_mtable : Nat → Int32) (n : Nat) (z : Int32) : Option (Int32 × Int32 × Int32 × (Nat → Int64) × (Nat → Int32)) := lp (fun k z => s_X12_bare_23 N v1 m_primeMany m_tableKind a_mprimes a_mtable k z) n z
set_option maxRecDepth 100000 in
set_option maxHeartbeats 4000000 in
theorem k_X12_bare_23 {p : Program} {l : Launch} {e : Env} {s : State} {m : MethodId} {args : Array Value} {below : List Frame} {meth : Method} {c : Code} {dC : Nat → ClassId} {dI : Nat → Nat → Nat} {cyI cyJ cyZ : ClassId} {A : Nat → Prop} (C0 : mC p s m meth c args cX12_bare (some .int) 3 RX12 wsX12_bare (gK dC dI cyI cyJ cyZ) A) (N : Nat) (res : Int32 × Int32 × Int32 × (Nat → Int64) × (Nat → Int32)) (q_Md : Nat) (q_mprimes : Nat) (q_mtable : Nat) (q_mtext : Nat) (q_mtold : Nat) (q_mstretch : Nat) (q_mfewest : Nat) (q_misOdd : Nat) (q_misHigh : Nat) (q_misTop : Nat) (q_mbits : Nat) (q_mpile : Nat) (v1 : Int32) (m_length : Int32) (m_primeMany : Int32) (m_toldMany : Int32) (m_fate : Int32) (m_tail : Int32) (m_round : Int32) (m_tableKind : Int32) (m_areLaid : Int32) (m_unlike : Int32) (m_isFree : Int32) (a_mprimes : Nat → Int64) (a_mtable : Nat → Int32) : ∀ (n : Nat) (v2 : Int32), l_X12_bare_23 N v1 m_primeMany m_tableKind a_mprimes a_mtable n v2 = some res → ∀ (H : Heap) (locs : List Loc), va_P (dC, dI) vwCl (wd58 cyI cyJ cyZ q_Md q_mprimes q_mtable q_mtext q_mtold q_mstretch q_mfewest q_misOdd q_misHigh q_misTop q_mbits q_mpile m_length m_primeMany m_toldMany m_fate m_tail m_round m_tableKind m_areLaid m_unlike m_isFree a_mprimes a_mtable) H → va_D A (wd58 cyI cyJ cyZ q_Md q_mprimes q_mtable q_mtext q_mtold q_mstretch q_mfewest q_misOdd q_misHigh q_misTop q_mbits q_mpile m_length m_primeMany m_toldMany m_fate m_tail m_round m_tableKind m_areLaid m_unlike m_isFree a_mprimes a_mtable) → va_S A s.heap H locs → ∀ (ls : Array Slot), lv_has ls 3 [(0, .ref q_Md), (1, .int v1), (2, .int v2)] → W p l e (headSpec wsX12_bare rm_X12_bare).room s m args below meth c H locs 0 0 (MQ below (va_Qi (fun (r : Int32) (_ : Unit) => r = res.1) (bW dC dI (fun (u : Unit) => (wd58 cyI cyJ cyZ q_Md q_mprimes q_mtable q_mtext q_mtold q_mstretch q_mfewest q_misOdd q_misHigh q_misTop q_mbits q_mpile m_length res.2.1 m_toldMany m_fate m_tail m_round res.2.2.1 m_areLaid m_unlike m_isFree res.2.2.2.1 res.2.2.2.2)) A) A) args s 0 0 A) (F0 m 23 ls []) := by
  obtain ⟨hx, hb, hr, hml, hown, hts, hlocks, hG, hA⟩ := id C0
  have hK := hG.1
  intro n
  induction n with
  | zero =>
    intro v2 h
    cases h
  | succ n ih =>
    intro v2 h H locs hP hD hS ls hl
    have h : s_X12_bare_23 N v1 m_primeMany m_tableKind a_mprimes a_mtable (l_X12_bare_23 N v1 m_primeMany m_tableKind a_mprimes a_mtable n) v2 = some res := h
    unfold s_X12_bare_23 at h
    refine lv_iload_n hx hb dX12_bare_23 rfl (lv_at hl 2 rfl) ?_
    refine lv_ldc (v := (40000 : Int32)) hx hb hown (hts (.constant RX12 131 (40000)) (List.mem_of_getElem? (i := 3) rfl)) dX12_bare_24 ?_
    refine lv_icmp_gt (tgt := 47) hx hb dX12_bare_26 (by decide) (fun c8z => ?_) (fun c8z => ?_)
    · have h := xt h c8z
      refine lv_iconst (v := (1 : Int32)) hx hb dX12_bare_47 (by decide) ?_
      obtain rfl := Option.some.inj h
      exact W.iret (v := (1 : Int32)) hx hb hr (fun t ht hW => ⟨⟨_, (), rfl, rfl, by rw [ht]; exact hP, hD⟩, hS.F ht⟩) hS.2.2 dX12_bare_48 hlocks
    · have h := xf h c8z
      refine lv_aload_n hx hb dX12_bare_29 rfl (lv_at hl 0 rfl) ?_
      refine va_get (D := (dC, dI)) (ci := 12) (v := .ref q_mtable) (C := RX12) (T := TX12) (N := 21) hx hb hts iw_X12_bare_X12 hown hK hP 0 rfl rfl 10 (by decide) (hts (.fieldLink RX12 21 "GoesIntoModel" "table" "[I") (List.mem_of_getElem? (i := 4) rfl)) (fun _ h9 => h9) rfl dX12_bare_30 ?_
      refine lv_iload_n hx hb dX12_bare_33 rfl (lv_at hl 2 rfl) ?_
      obtain ⟨b9z, h⟩ := xn h
      refine va_iald hx hb hK hP 2 0 rfl rfl b9z dX12_bare_34 ?_
      refine lv_iload_n hx hb dX12_bare_35 rfl (lv_at hl 1 rfl) ?_
      refine lv_icmp_ne (tgt := 41) hx hb dX12_bare_36 (by decide) (fun c10z => ?_) (fun c10z => ?_)
      · have h := xf h c10z
        obtain ⟨y11z, ey11z⟩ : ∃ z : Int32, z = v2 + (1 : Int32) := ⟨_, rfl⟩
        have h := xl_at h ey11z
        refine lv_iinc (v := y11z) (lv' := [(2, .int y11z), (0, .ref q_Md), (1, .int v1)]) hx hb dX12_bare_41 hl (k := 2) rfl (by rw [ey11z]; rfl) (by decide) rfl (fun ls hl => ?_)
        refine lv_goto (tgt := 23) hx hb dX12_bare_44 (by decide) ?_
        exact ih y11z h _ _ hP hD hS _ (lv_sub hl [1, 2, 0] rfl)
      · have h := xt h c10z
        refine lv_iconst (v := (0 : Int32)) hx hb dX12_bare_39 (by decide) ?_
        obtain rfl := Option.some.inj h
        exact W.iret (v := (0 : Int32)) hx hb hr (fun t ht hW => ⟨⟨_, (), rfl, rfl, by rw [ht]; exact hP, hD⟩, hS.F ht⟩) hS.2.2 dX12_bare_40 hlocks
def f_X12_bare (N : Nat) (v1 : Int32) (m_primeMany : Int32) (m_tableKind : Int32) (a_mprimes : Nat → Int64) (a_mtable : Nat → Int32) : Option (Int32 × Int32 × Int32 × (Nat → Int64) × (Nat → Int32)) :=
  Option.bind (f_X12_in N v1.toInt64 (2 : Int64) (200 : Int64)) fun r1z =>
  if r1z = 0 then
    some ((-1 : Int32), m_primeMany, m_tableKind, a_mprimes, a_mtable)
  else
    Option.bind (f_X12_layTable N (1 : Int32) m_primeMany m_tableKind a_mprimes a_mtable) fun r5z =>
    l_X12_bare_23 N v1 r5z.1 r5z.2.1 r5z.2.2.1 r5z.2.2.2 N (1 : Int32)
set_option maxRecDepth 100000 in
set_option maxHeartbeats 4000000 in
theorem k_X12_bare_0 {p : Program} {l : Launch} {e : Env} {s : State} {m : MethodId} {args : Array Value} {below : List Frame} {meth : Method} {c : Code} {dC : Nat → ClassId} {dI : Nat → Nat → Nat} {cyI cyJ cyZ : ClassId} {A : Nat → Prop} (C0 : mC p s m meth c args cX12_bare (some .int) 3 RX12 wsX12_bare (gK dC dI cyI cyJ cyZ) A) (N : Nat) (res : Int32 × Int32 × Int32 × (Nat → Int64) × (Nat → Int32)) (q_Md : Nat) (q_mprimes : Nat) (q_mtable : Nat) (q_mtext : Nat) (q_mtold : Nat) (q_mstretch : Nat) (q_mfewest : Nat) (q_misOdd : Nat) (q_misHigh : Nat) (q_misTop : Nat) (q_mbits : Nat) (q_mpile : Nat) (v1 : Int32) (m_length : Int32) (m_primeMany : Int32) (m_toldMany : Int32) (m_fate : Int32) (m_tail : Int32) (m_round : Int32) (m_tableKind : Int32) (m_areLaid : Int32) (m_unlike : Int32) (m_isFree : Int32) (a_mprimes : Nat → Int64) (a_mtable : Nat → Int32) (h : f_X12_bare N v1 m_primeMany m_tableKind a_mprimes a_mtable = some res) : ∀ (H : Heap) (locs : List Loc), va_P (dC, dI) vwCl (wd58 cyI cyJ cyZ q_Md q_mprimes q_mtable q_mtext q_mtold q_mstretch q_mfewest q_misOdd q_misHigh q_misTop q_mbits q_mpile m_length m_primeMany m_toldMany m_fate m_tail m_round m_tableKind m_areLaid m_unlike m_isFree a_mprimes a_mtable) H → va_D A (wd58 cyI cyJ cyZ q_Md q_mprimes q_mtable q_mtext q_mtold q_mstretch q_mfewest q_misOdd q_misHigh q_misTop q_mbits q_mpile m_length m_primeMany m_toldMany m_fate m_tail m_round m_tableKind m_areLaid m_unlike m_isFree a_mprimes a_mtable) → va_S A s.heap H locs → ∀ (ls : Array Slot), lv_has ls 3 [(0, .ref q_Md), (1, .int v1)] → W p l e (headSpec wsX12_bare rm_X12_bare).room s m args below meth c H locs 0 0 (MQ below (va_Qi (fun (r : Int32) (_ : Unit) => r = res.1) (bW dC dI (fun (u : Unit) => (wd58 cyI cyJ cyZ q_Md q_mprimes q_mtable q_mtext q_mtold q_mstretch q_mfewest q_misOdd q_misHigh q_misTop q_mbits q_mpile m_length res.2.1 m_toldMany m_fate m_tail m_round res.2.2.1 m_areLaid m_unlike m_isFree res.2.2.2.1 res.2.2.2.2)) A) A) args s 0 0 A) (F0 m 0 ls []) := by
  obtain ⟨hx, hb, hr, hml, hown, hts, hlocks, hG, hA⟩ := id C0
  have hK := hG.1
  intro H locs hP hD hS ls hl
  unfold f_X12_bare at h
  refine lv_iload_n hx hb dX12_bare_0 rfl (lv_at hl 1 rfl) ?_
  refine lv_i2l (v := v1.toInt64) hx hb dX12_bare_1 rfl ?_
  refine lv_ldc2 (v := (2 : Int64)) hx hb hown (hts (.constantLong RX12 53 (2)) (List.mem_of_getElem? (i := 1) rfl)) dX12_bare_2 ?_
  refine lv_ldc2 (v := (200 : Int64)) hx hb hown (hts (.constantLong RX12 129 (200)) (List.mem_of_getElem? (i := 2) rfl)) dX12_bare_5 ?_
  obtain ⟨r1z, hr1z, h⟩ := xb_at h
  have hPc := hP.sub (ws' := (wd37 cyI cyJ cyZ)) [] rfl
  have hDc := hD.sub (ws' := (wd37 cyI cyJ cyZ)) [] (by decide) rfl
  refine cal_i [] [0, 1, 2] (va_runS (As := [.long v1.toInt64, .long (2 : Int64), .long (200 : Int64)]) (rest := []) ⟨hx, hb, hml, hown, hts⟩ (c_X12_in l dC dI cyI cyJ cyZ N r1z H.size  v1.toInt64 (2 : Int64) (200 : Int64)  hr1z) (va_cwS 3 hts gX12_bare_X12_in rfl rfl rfl hd_X12_in ⟨Nat.le_of_ble_eq_true rfl, Nat.le_of_ble_eq_true rfl⟩) ⟨pC.blind, pC.pre hPc hG hDc⟩ rfl rfl hl.1 rfl (lv_room (Nat.le_of_ble_eq_true rfl)) dX12_bare_8 ⟨Nat.zero_le _, Nat.zero_le _⟩) hP hD hS hA rfl rfl rfl (by decide) (fun x3z u2z H locs hw hP hD hS => ?_)
  obtain rfl := hw.symm
  have hP : va_P (dC, dI) vwCl (wd58 cyI cyJ cyZ q_Md q_mprimes q_mtable q_mtext q_mtold q_mstretch q_mfewest q_misOdd q_misHigh q_misTop q_mbits q_mpile m_length m_primeMany m_toldMany m_fate m_tail m_round m_tableKind m_areLaid m_unlike m_isFree a_mprimes a_mtable) H := hP.sub [0, 1, 2] rfl
  have hD : va_D A (wd58 cyI cyJ cyZ q_Md q_mprimes q_mtable q_mtext q_mtold q_mstretch q_mfewest q_misOdd q_misHigh q_misTop q_mbits q_mpile m_length m_primeMany m_toldMany m_fate m_tail m_round m_tableKind m_areLaid m_unlike m_isFree a_mprimes a_mtable) := hD.sub [0, 1, 2] (by decide) rfl
  refine lv_if_ne (tgt := 16) hx hb dX12_bare_11 (by decide) (fun c4z => ?_) (fun c4z => ?_)
  · have h := xf h c4z
    refine lv_aload_n hx hb dX12_bare_16 rfl (lv_at hl 0 rfl) ?_
    refine lv_iconst (v := (1 : Int32)) hx hb dX12_bare_17 (by decide) ?_
    obtain ⟨r5z, hr5z, h⟩ := xb_at h
    have hPc := hP.sub (ws' := (wd58 cyI cyJ cyZ q_Md q_mprimes q_mtable q_mtext q_mtold q_mstretch q_mfewest q_misOdd q_misHigh q_misTop q_mbits q_mpile m_length m_primeMany m_toldMany m_fate m_tail m_round m_tableKind m_areLaid m_unlike m_isFree a_mprimes a_mtable)) [0, 1, 2] rfl
    have hDc := hD.sub (ws' := (wd58 cyI cyJ cyZ q_Md q_mprimes q_mtable q_mtext q_mtold q_mstretch q_mfewest q_misOdd q_misHigh q_misTop q_mbits q_mpile m_length m_primeMany m_toldMany m_fate m_tail m_round m_tableKind m_areLaid m_unlike m_isFree a_mprimes a_mtable)) [0, 1, 2] (by decide) rfl
    refine cal_v [0, 1, 2] [] (va_runV (As := [.int (1 : Int32)]) (rest := []) ⟨hx, hb, hml, hown, hts⟩ (c_X12_layTable l dC dI cyI cyJ cyZ N r5z H.size q_Md q_mprimes q_mtable q_mtext q_mtold q_mstretch q_mfewest q_misOdd q_misHigh q_misTop q_mbits q_mpile (1 : Int32) m_length m_primeMany m_toldMany m_fate m_tail m_round m_tableKind m_areLaid m_unlike m_isFree a_mprimes a_mtable hr5z) (cwV 1 hts gX12_bare_X12_layTable rfl rfl rfl ⟨rfl, hd_X12_layTable⟩ ⟨Nat.le_of_ble_eq_true rfl, Nat.le_of_ble_eq_true rfl⟩) ⟨pC.blind, va_recv hK hPc (ci := 12) (q0 := 0) rfl rfl, pC.pre hPc hG hDc⟩ rfl rfl hl.1 rfl (lv_room (Nat.le_of_ble_eq_true rfl)) dX12_bare_18 ⟨Nat.zero_le _, Nat.zero_le _⟩) hP hD hS hA rfl rfl rfl (by decide) (fun u6z H locs _ hP hD hS => ?_)
    have hP : va_P (dC, dI) vwCl (wd58 cyI cyJ cyZ q_Md q_mprimes q_mtable q_mtext q_mtold q_mstretch q_mfewest q_misOdd q_misHigh q_misTop q_mbits q_mpile m_length r5z.1 m_toldMany m_fate m_tail m_round r5z.2.1 m_areLaid m_unlike m_isFree r5z.2.2.1 r5z.2.2.2) H := hP.sub [0, 1, 2] rfl
    have hD : va_D A (wd58 cyI cyJ cyZ q_Md q_mprimes q_mtable q_mtext q_mtold q_mstretch q_mfewest q_misOdd q_misHigh q_misTop q_mbits q_mpile m_length r5z.1 m_toldMany m_fate m_tail m_round r5z.2.1 m_areLaid m_unlike m_isFree r5z.2.2.1 r5z.2.2.2) := hD.sub [0, 1, 2] (by decide) rfl
    refine lv_iconst (v := (1 : Int32)) hx hb dX12_bare_21 (by decide) ?_
    refine lv_istore_n (lv' := [(2, .int (1 : Int32)), (0, .ref q_Md), (1, .int v1)]) hx hb dX12_bare_22 rfl hl (by decide) rfl (fun ls hl => ?_)
    exact k_X12_bare_23 C0 N res q_Md q_mprimes q_mtable q_mtext q_mtold q_mstretch q_mfewest q_misOdd q_misHigh q_misTop q_mbits q_mpile v1 m_length r5z.1 m_toldMany m_fate m_tail m_round r5z.2.1 m_areLaid m_unlike m_isFree r5z.2.2.1 r5z.2.2.2 N (1 : Int32) h _ _ hP hD hS _ (lv_sub hl [1, 2, 0] rfl)
  · have h := xt h c4z
    refine lv_iconst (v := (-1 : Int32)) hx hb dX12_bare_14 (by decide) ?_
    obtain rfl := Option.some.inj h
    exact W.iret (v := (-1 : Int32)) hx hb hr (fun t ht hW => ⟨⟨_, (), rfl, rfl, by rw [ht]; exact hP, hD⟩, hS.F ht⟩) hS.2.2 dX12_bare_15 hlocks
set_option maxRecDepth 100000 in
set_option maxHeartbeats 4000000 in
theorem c_X12_bare (l : Launch) (dC : Nat → ClassId) (dI : Nat → Nat → Nat) (cyI cyJ cyZ : ClassId) (N : Nat) (res : Int32 × Int32 × Int32 × (Nat → Int64) × (Nat → Int32)) (sz : Nat) (q_Md : Nat) (q_mprimes : Nat) (q_mtable : Nat) (q_mtext : Nat) (q_mtold : Nat) (q_mstretch : Nat) (q_mfewest : Nat) (q_misOdd : Nat) (q_misHigh : Nat) (q_misTop : Nat) (q_mbits : Nat) (q_mpile : Nat) (v1 : Int32) (m_length : Int32) (m_primeMany : Int32) (m_toldMany : Int32) (m_fate : Int32) (m_tail : Int32) (m_round : Int32) (m_tableKind : Int32) (m_areLaid : Int32) (m_unlike : Int32) (m_isFree : Int32) (a_mprimes : Nat → Int64) (a_mtable : Nat → Int32) (h : f_X12_bare N v1 m_primeMany m_tableKind a_mprimes a_mtable = some res) : Met l yX12_bare wsX12_bare rm_X12_bare (pC dC dI cyI cyJ cyZ [.ref q_Md, .int v1] sz (wd58 cyI cyJ cyZ q_Md q_mprimes q_mtable q_mtext q_mtold q_mstretch q_mfewest q_misOdd q_misHigh q_misTop q_mbits q_mpile m_length m_primeMany m_toldMany m_fate m_tail m_round m_tableKind m_areLaid m_unlike m_isFree a_mprimes a_mtable)) (va_Qi (fun (r : Int32) (_ : Unit) => r = res.1) (bW dC dI (fun (u : Unit) => (wd58 cyI cyJ cyZ q_Md q_mprimes q_mtable q_mtext q_mtold q_mstretch q_mfewest q_misOdd q_misHigh q_misTop q_mbits q_mpile m_length res.2.1 m_toldMany m_fate m_tail m_round res.2.2.1 m_areLaid m_unlike m_isFree res.2.2.2.1 res.2.2.2.2)) (va_A (wd58 cyI cyJ cyZ q_Md q_mprimes q_mtable q_mtext q_mtold q_mstretch q_mfewest q_misOdd q_misHigh q_misTop q_mbits q_mpile m_length m_primeMany m_toldMany m_fate m_tail m_round m_tableKind m_areLaid m_unlike m_isFree a_mprimes a_mtable) sz)) (va_A (wd58 cyI cyJ cyZ q_Md q_mprimes q_mtable q_mtext q_mtold q_mstretch q_mfewest q_misOdd q_misHigh q_misTop q_mbits q_mpile m_length m_primeMany m_toldMany m_fate m_tail m_round m_tableKind m_areLaid m_unlike m_isFree a_mprimes a_mtable) sz)) 0 0 (va_A (wd58 cyI cyJ cyZ q_Md q_mprimes q_mtable q_mtext q_mtold q_mstretch q_mfewest q_misOdd q_misHigh q_misTop q_mbits q_mpile m_length m_primeMany m_toldMany m_fate m_tail m_round m_tableKind m_areLaid m_unlike m_isFree a_mprimes a_mtable) sz) := by
  refine Met.ofW (cc := cX12_bare) (maxL := 3) (ret := (some .int)) (by decide) rfl ?_
  intro p e s m args below meth c s₁ B hml hv
  obtain ⟨rfl, hsz, hP, hG, hD0⟩ := hv
  have hx := B.exec
  have hb := B.bytes
  have hr := B.returns
  have hts := atoms_spec (ws := wsX12_bare) B.pre
  have hown : s.vm.findClass RX12 = some m.cls := findClass_of_methodNamed B.named
  have hlocks := B.notSynchronized
  subst hsz
  have hD := hD0.self (sz := s.heap.size)
  generalize hAe : va_A (wd58 cyI cyJ cyZ q_Md q_mprimes q_mtable q_mtext q_mtold q_mstretch q_mfewest q_misOdd q_misHigh q_misTop q_mbits q_mpile m_length m_primeMany m_toldMany m_fate m_tail m_round m_tableKind m_areLaid m_unlike m_isFree a_mprimes a_mtable) s.heap.size = A at hD ⊢
  have hA : ∀ q : Nat, s.heap.size ≤ q → A q := fun q h => by rw [← hAe]; exact Or.inr h
  have hS : va_S A s.heap s.heap [] := va_S.rf
  have hl := lv_entry ([.ref q_Md, .int v1]) (n := 3) (Nat.le_of_ble_eq_true rfl)
  rw [lg_entry_eq]
  generalize (lg_sl ([.ref q_Md, .int v1]) ++ List.replicate (3 - (lg_sl ([.ref q_Md, .int v1])).length) Slot.unset).toArray = ls at hl ⊢
  have hl : lv_has ls 3 [(0, .ref q_Md), (1, .int v1)] := hl
  exact k_X12_bare_0 ⟨hx, hb, hr, hml, hown, hts, hlocks, hG, hA⟩ N res q_Md q_mprimes q_mtable q_mtext q_mtold q_mstretch q_mfewest q_misOdd q_misHigh q_misTop q_mbits q_mpile v1 m_length m_primeMany m_toldMany m_fate m_tail m_round m_tableKind m_areLaid m_unlike m_isFree a_mprimes a_mtable  h _ _ hP hD hS _ hl
abbrev rm_X12_share : Room := { frames := 3, cells := 0, slots := 0, locals := 83 }
theorem hd_X12_share : yX12_share.cls ≠ "java/lang/invoke/MethodHandle" ∧ yX12_share.cls ≠ "java/lang/invoke/VarHandle" ∧ (parseMethodDescriptor yX12_share.desc).map (fun d => d.parameters.length) = some 2 := by decide +kernel
theorem iw_X12_share_X12 : ∀ w ∈ wsX120, w ∈ wsX12_share := List.forall_mem_cons.mpr ⟨List.mem_of_getElem? (i := 28) rfl, List.forall_mem_cons.mpr ⟨List.mem_of_getElem? (i := 29) rfl, List.forall_mem_cons.mpr ⟨List.mem_of_getElem? (i := 30) rfl, List.forall_mem_cons.mpr ⟨List.mem_of_getElem? (i := 31) rfl, List.forall_mem_cons.mpr ⟨List.mem_of_getElem? (i := 32) rfl, List.forall_mem_cons.mpr ⟨List.mem_of_getElem? (i := 33) rfl, List.forall_mem_cons.mpr ⟨List.mem_of_getElem? (i := 34) rfl, List.forall_mem_cons.mpr ⟨List.mem_of_getElem? (i := 35) rfl, List.forall_mem_cons.mpr ⟨List.mem_of_getElem? (i := 36) rfl, List.forall_mem_cons.mpr ⟨List.mem_of_getElem? (i := 37) rfl, List.forall_mem_cons.mpr ⟨List.mem_of_getElem? (i := 38) rfl, List.forall_mem_cons.mpr ⟨List.mem_of_getElem? (i := 39) rfl, List.forall_mem_cons.mpr ⟨List.mem_of_getElem? (i := 40) rfl, List.forall_mem_cons.mpr ⟨List.mem_of_getElem? (i := 41) rfl, List.forall_mem_cons.mpr ⟨List.mem_of_getElem? (i := 42) rfl, List.forall_mem_cons.mpr ⟨List.mem_of_getElem? (i := 43) rfl, List.forall_mem_cons.mpr ⟨List.mem_of_getElem? (i := 44) rfl, List.forall_mem_cons.mpr ⟨List.mem_of_getElem? (i := 45) rfl, List.forall_mem_cons.mpr ⟨List.mem_of_getElem? (i := 46) rfl, List.forall_mem_cons.mpr ⟨List.mem_of_getElem? (i := 47) rfl, List.forall_mem_cons.mpr ⟨List.mem_of_getElem? (i := 48) rfl, fun _ h => absurd h List.not_mem_nil⟩⟩⟩⟩⟩⟩⟩⟩⟩⟩⟩⟩⟩⟩⟩⟩⟩⟩⟩⟩⟩
def f_X12_share (N : Nat) (v1 : Int64) (v3 : Int32) (m_primeMany : Int32) (a_mprimes : Nat → Int64) : Option (Int64 × Int32 × (Nat → Int64)) :=
  Option.bind (f_X12_isNumber N v1) fun r1z =>
  if r1z = 0 then
    some ((-1 : Int64), m_primeMany, a_mprimes)
  else
    Option.bind (f_X12_in N v3.toInt64 (0 : Int64) (1 : Int64)) fun r5z =>
    if r5z = 0 then
      some ((-1 : Int64), m_primeMany, a_mprimes)
    else
      Option.bind (f_X12_sumOf N (0 : Int32) v1 m_primeMany a_mprimes) fun r9z =>
      Option.bind (f_X12_common N r9z.1 v1) fun r12z =>
      if v3 = 0 then
        if r12z = 0 then
          none
        else
          some (r9z.1 / r12z, r9z.2.1, r9z.2.2)
      else
        if r12z = 0 then
          none
        else
          some (v1 / r12z, r9z.2.1, r9z.2.2)
set_option maxRecDepth 100000 in
set_option maxHeartbeats 4000000 in
theorem k_X12_share_0 {p : Program} {l : Launch} {e : Env} {s : State} {m : MethodId} {args : Array Value} {below : List Frame} {meth : Method} {c : Code} {dC : Nat → ClassId} {dI : Nat → Nat → Nat} {cyI cyJ cyZ : ClassId} {A : Nat → Prop} (C0 : mC p s m meth c args cX12_share (some .long) 8 RX12 wsX12_share (gK dC dI cyI cyJ cyZ) A) (N : Nat) (res : Int64 × Int32 × (Nat → Int64)) (q_Md : Nat) (q_mprimes : Nat) (q_mtext : Nat) (q_mtold : Nat) (q_mtable : Nat) (q_mstretch : Nat) (q_mfewest : Nat) (q_misOdd : Nat) (q_misHigh : Nat) (q_misTop : Nat) (q_mbits : Nat) (q_mpile : Nat) (v1 : Int64) (v3 : Int32) (m_length : Int32) (m_primeMany : Int32) (m_toldMany : Int32) (m_fate : Int32) (m_tail : Int32) (m_round : Int32) (m_tableKind : Int32) (m_areLaid : Int32) (m_unlike : Int32) (m_isFree : Int32) (a_mprimes : Nat → Int64) (h : f_X12_share N v1 v3 m_primeMany a_mprimes = some res) : ∀ (H : Heap) (locs : List Loc), va_P (dC, dI) vwCl (wd55 cyI cyJ cyZ q_Md q_mprimes q_mtext q_mtold q_mtable q_mstretch q_mfewest q_misOdd q_misHigh q_misTop q_mbits q_mpile m_length m_primeMany m_toldMany m_fate m_tail m_round m_tableKind m_areLaid m_unlike m_isFree a_mprimes) H → va_D A (wd55 cyI cyJ cyZ q_Md q_mprimes q_mtext q_mtold q_mtable q_mstretch q_mfewest q_misOdd q_misHigh q_misTop q_mbits q_mpile m_length m_primeMany m_toldMany m_fate m_tail m_round m_tableKind m_areLaid m_unlike m_isFree a_mprimes) → va_S A s.heap H locs → ∀ (ls : Array Slot), lv_has ls 8 [(0, .ref q_Md), (1, .long v1), (3, .int v3)] → W p l e (headSpec wsX12_share rm_X12_share).room s m args below meth c H locs 0 0 (MQ below (va_Ql (fun (r : Int64) (_ : Unit) => r = res.1) (bW dC dI (fun (u : Unit) => (wd55 cyI cyJ cyZ q_Md q_mprimes q_mtext q_mtold q_mtable q_mstretch q_mfewest q_misOdd q_misHigh q_misTop q_mbits q_mpile m_length res.2.1 m_toldMany m_fate m_tail m_round m_tableKind m_areLaid m_unlike m_isFree res.2.2)) A) A) args s 0 0 A) (F0 m 0 ls []) := by
  obtain ⟨hx, hb, hr, hml, hown, hts, hlocks, hG, hA⟩ := id C0
  have hK := hG.1
  intro H locs hP hD hS ls hl
  unfold f_X12_share at h
  refine lv_lload_n hx hb dX12_share_0 rfl (lv_at hl 1 rfl) ?_
  obtain ⟨r1z, hr1z, h⟩ := xb_at h
  have hPc := hP.sub (ws' := (wd37 cyI cyJ cyZ)) [] rfl
  have hDc := hD.sub (ws' := (wd37 cyI cyJ cyZ)) [] (by decide) rfl
  refine cal_i [] [0, 1] (va_runS (As := [.long v1]) (rest := []) ⟨hx, hb, hml, hown, hts⟩ (c_X12_isNumber l dC dI cyI cyJ cyZ N r1z H.size  v1  hr1z) (va_cwS 1 hts gX12_share_X12_isNumber rfl rfl rfl hd_X12_isNumber ⟨Nat.le_of_ble_eq_true rfl, Nat.le_of_ble_eq_true rfl⟩) ⟨pC.blind, pC.pre hPc hG hDc⟩ rfl rfl hl.1 rfl (lv_room (Nat.le_of_ble_eq_true rfl)) dX12_share_1 ⟨Nat.zero_le _, Nat.zero_le _⟩) hP hD hS hA rfl rfl rfl (by decide) (fun x3z u2z H locs hw hP hD hS => ?_)
  obtain rfl := hw.symm
  have hP : va_P (dC, dI) vwCl (wd55 cyI cyJ cyZ q_Md q_mprimes q_mtext q_mtold q_mtable q_mstretch q_mfewest q_misOdd q_misHigh q_misTop q_mbits q_mpile m_length m_primeMany m_toldMany m_fate m_tail m_round m_tableKind m_areLaid m_unlike m_isFree a_mprimes) H := hP.sub [0, 1] rfl
  have hD : va_D A (wd55 cyI cyJ cyZ q_Md q_mprimes q_mtext q_mtold q_mtable q_mstretch q_mfewest q_misOdd q_misHigh q_misTop q_mbits q_mpile m_length m_primeMany m_toldMany m_fate m_tail m_round m_tableKind m_areLaid m_unlike m_isFree a_mprimes) := hD.sub [0, 1] (by decide) rfl
  refine lv_if_eq (tgt := 17) hx hb dX12_share_4 (by decide) (fun c4z => ?_) (fun c4z => ?_)
  · have h := xt h c4z
    refine lv_ldc2 (v := (-1 : Int64)) hx hb hown (hts (.constantLong RX12 79 (-1)) (List.mem_of_getElem? (i := 1) rfl)) dX12_share_17 ?_
    obtain rfl := Option.some.inj h
    exact W.lret (v := (-1 : Int64)) hx hb hr (fun t ht hW => ⟨⟨_, (), rfl, rfl, by rw [ht]; exact hP, hD⟩, hS.F ht⟩) hS.2.2 dX12_share_20 hlocks
  · have h := xf h c4z
    refine lv_iload_n hx hb dX12_share_7 rfl (lv_at hl 2 rfl) ?_
    refine lv_i2l (v := v3.toInt64) hx hb dX12_share_8 rfl ?_
    refine lv_lconst (v := (0 : Int64)) hx hb dX12_share_9 (by decide) ?_
    refine lv_lconst (v := (1 : Int64)) hx hb dX12_share_10 (by decide) ?_
    obtain ⟨r5z, hr5z, h⟩ := xb_at h
    have hPc := hP.sub (ws' := (wd37 cyI cyJ cyZ)) [] rfl
    have hDc := hD.sub (ws' := (wd37 cyI cyJ cyZ)) [] (by decide) rfl
    refine cal_i [] [0, 1] (va_runS (As := [.long v3.toInt64, .long (0 : Int64), .long (1 : Int64)]) (rest := []) ⟨hx, hb, hml, hown, hts⟩ (c_X12_in l dC dI cyI cyJ cyZ N r5z H.size  v3.toInt64 (0 : Int64) (1 : Int64)  hr5z) (va_cwS 3 hts gX12_share_X12_in rfl rfl rfl hd_X12_in ⟨Nat.le_of_ble_eq_true rfl, Nat.le_of_ble_eq_true rfl⟩) ⟨pC.blind, pC.pre hPc hG hDc⟩ rfl rfl hl.1 rfl (lv_room (Nat.le_of_ble_eq_true rfl)) dX12_share_11 ⟨Nat.zero_le _, Nat.zero_le _⟩) hP hD hS hA rfl rfl rfl (by decide) (fun x7z u6z H locs hw hP hD hS => ?_)
    obtain rfl := hw.symm
    have hP : va_P (dC, dI) vwCl (wd55 cyI cyJ cyZ q_Md q_mprimes q_mtext q_mtold q_mtable q_mstretch q_mfewest q_misOdd q_misHigh q_misTop q_mbits q_mpile m_length m_primeMany m_toldMany m_fate m_tail m_round m_tableKind m_areLaid m_unlike m_isFree a_mprimes) H := hP.sub [0, 1] rfl
    have hD : va_D A (wd55 cyI cyJ cyZ q_Md q_mprimes q_mtext q_mtold q_mtable q_mstretch q_mfewest q_misOdd q_misHigh q_misTop q_mbits q_mpile m_length m_primeMany m_toldMany m_fate m_tail m_round m_tableKind m_areLaid m_unlike m_isFree a_mprimes) := hD.sub [0, 1] (by decide) rfl
    refine lv_if_ne (tgt := 21) hx hb dX12_share_14 (by decide) (fun c8z => ?_) (fun c8z => ?_)
    · have h := xf h c8z
      refine lv_aload_n hx hb dX12_share_21 rfl (lv_at hl 0 rfl) ?_
      refine lv_iconst (v := (0 : Int32)) hx hb dX12_share_22 (by decide) ?_
      refine lv_lload_n hx hb dX12_share_23 rfl (lv_at hl 1 rfl) ?_
      obtain ⟨r9z, hr9z, h⟩ := xb_at h
      have hPc := hP.sub (ws' := (wd55 cyI cyJ cyZ q_Md q_mprimes q_mtext q_mtold q_mtable q_mstretch q_mfewest q_misOdd q_misHigh q_misTop q_mbits q_mpile m_length m_primeMany m_toldMany m_fate m_tail m_round m_tableKind m_areLaid m_unlike m_isFree a_mprimes)) [0, 1] rfl
      have hDc := hD.sub (ws' := (wd55 cyI cyJ cyZ q_Md q_mprimes q_mtext q_mtold q_mtable q_mstretch q_mfewest q_misOdd q_misHigh q_misTop q_mbits q_mpile m_length m_primeMany m_toldMany m_fate m_tail m_round m_tableKind m_areLaid m_unlike m_isFree a_mprimes)) [0, 1] (by decide) rfl
      refine cal_l [0, 1] [] (va_runV (As := [.int (0 : Int32), .long v1]) (rest := []) ⟨hx, hb, hml, hown, hts⟩ (c_X12_sumOf l dC dI cyI cyJ cyZ N r9z H.size q_Md q_mprimes q_mtext q_mtold q_mtable q_mstretch q_mfewest q_misOdd q_misHigh q_misTop q_mbits q_mpile (0 : Int32) v1 m_length m_primeMany m_toldMany m_fate m_tail m_round m_tableKind m_areLaid m_unlike m_isFree a_mprimes hr9z) (cwV 2 hts gX12_share_X12_sumOf rfl rfl rfl ⟨rfl, hd_X12_sumOf⟩ ⟨Nat.le_of_ble_eq_true rfl, Nat.le_of_ble_eq_true rfl⟩) ⟨pC.blind, va_recv hK hPc (ci := 12) (q0 := 0) rfl rfl, pC.pre hPc hG hDc⟩ rfl rfl hl.1 rfl (lv_room (Nat.le_of_ble_eq_true rfl)) dX12_share_24 ⟨Nat.zero_le _, Nat.zero_le _⟩) hP hD hS hA rfl rfl rfl (by decide) (fun x11z u10z H locs hw hP hD hS => ?_)
      obtain rfl := hw.symm
      have hP : va_P (dC, dI) vwCl (wd55 cyI cyJ cyZ q_Md q_mprimes q_mtext q_mtold q_mtable q_mstretch q_mfewest q_misOdd q_misHigh q_misTop q_mbits q_mpile m_length r9z.2.1 m_toldMany m_fate m_tail m_round m_tableKind m_areLaid m_unlike m_isFree r9z.2.2) H := hP.sub [0, 1] rfl
      have hD : va_D A (wd55 cyI cyJ cyZ q_Md q_mprimes q_mtext q_mtold q_mtable q_mstretch q_mfewest q_misOdd q_misHigh q_misTop q_mbits q_mpile m_length r9z.2.1 m_toldMany m_fate m_tail m_round m_tableKind m_areLaid m_unlike m_isFree r9z.2.2) := hD.sub [0, 1] (by decide) rfl
      refine lv_lstore (lv' := [(4, .long r9z.1), (0, .ref q_Md), (1, .long v1), (3, .int v3)]) hx hb dX12_share_27 hl (by decide) rfl (fun ls hl => ?_)
      refine lv_lload hx hb dX12_share_29 (lv_at hl 0 rfl) ?_
      refine lv_lload_n hx hb dX12_share_31 rfl (lv_at hl 2 rfl) ?_
      obtain ⟨r12z, hr12z, h⟩ := xb_at h
      have hPc := hP.sub (ws' := (wd37 cyI cyJ cyZ)) [] rfl
      have hDc := hD.sub (ws' := (wd37 cyI cyJ cyZ)) [] (by decide) rfl
      refine cal_l [] [0, 1] (va_runS (As := [.long r9z.1, .long v1]) (rest := []) ⟨hx, hb, hml, hown, hts⟩ (c_X12_common l dC dI cyI cyJ cyZ N r12z H.size  r9z.1 v1  hr12z) (va_cwS 2 hts gX12_share_X12_common rfl rfl rfl hd_X12_common ⟨Nat.le_of_ble_eq_true rfl, Nat.le_of_ble_eq_true rfl⟩) ⟨pC.blind, pC.pre hPc hG hDc⟩ rfl rfl hl.1 rfl (lv_room (Nat.le_of_ble_eq_true rfl)) dX12_share_32 ⟨Nat.zero_le _, Nat.zero_le _⟩) hP hD hS hA rfl rfl rfl (by decide) (fun x14z u13z H locs hw hP hD hS => ?_)
      obtain rfl := hw.symm
      have hP : va_P (dC, dI) vwCl (wd55 cyI cyJ cyZ q_Md q_mprimes q_mtext q_mtold q_mtable q_mstretch q_mfewest q_misOdd q_misHigh q_misTop q_mbits q_mpile m_length r9z.2.1 m_toldMany m_fate m_tail m_round m_tableKind m_areLaid m_unlike m_isFree r9z.2.2) H := hP.sub [0, 1] rfl
      have hD : va_D A (wd55 cyI cyJ cyZ q_Md q_mprimes q_mtext q_mtold q_mtable q_mstretch q_mfewest q_misOdd q_misHigh q_misTop q_mbits q_mpile m_length r9z.2.1 m_toldMany m_fate m_tail m_round m_tableKind m_areLaid m_unlike m_isFree r9z.2.2) := hD.sub [0, 1] (by decide) rfl
      refine lv_lstore (lv' := [(6, .long r12z), (4, .long r9z.1), (0, .ref q_Md), (1, .long v1), (3, .int v3)]) hx hb dX12_share_35 hl (by decide) rfl (fun ls hl => ?_)
      refine lv_iload_n hx hb dX12_share_37 rfl (lv_at hl 4 rfl) ?_
      refine lv_if_ne (tgt := 49) hx hb dX12_share_38 (by decide) (fun c15z => ?_) (fun c15z => ?_)
      · have h := xf h c15z
        refine lv_lload_n hx hb dX12_share_49 rfl (lv_at hl 3 rfl) ?_
        refine lv_lload hx hb dX12_share_50 (lv_at hl 0 rfl) ?_
        obtain ⟨b16z, h⟩ := xn h
        refine lv_ldiv hx hb dX12_share_52 b16z ?_
        obtain rfl := Option.some.inj h
        exact W.lret (v := v1 / r12z) hx hb hr (fun t ht hW => ⟨⟨_, (), rfl, rfl, by rw [ht]; exact hP, hD⟩, hS.F ht⟩) hS.2.2 dX12_share_53 hlocks
      · have h := xt h c15z
        refine lv_lload hx hb dX12_share_41 (lv_at hl 1 rfl) ?_
        refine lv_lload hx hb dX12_share_43 (lv_at hl 0 rfl) ?_
        obtain ⟨b17z, h⟩ := xn h
        refine lv_ldiv hx hb dX12_share_45 b17z ?_
        refine lv_goto (tgt := 53) hx hb dX12_share_46 (by decide) ?_
        obtain rfl := Option.some.inj h
        exact W.lret (v := r9z.1 / r12z) hx hb hr (fun t ht hW => ⟨⟨_, (), rfl, rfl, by rw [ht]; exact hP, hD⟩, hS.F ht⟩) hS.2.2 dX12_share_53 hlocks
    · have h := xt h c8z
      refine lv_ldc2 (v := (-1 : Int64)) hx hb hown (hts (.constantLong RX12 79 (-1)) (List.mem_of_getElem? (i := 1) rfl)) dX12_share_17 ?_
      obtain rfl := Option.some.inj h
      exact W.lret (v := (-1 : Int64)) hx hb hr (fun t ht hW => ⟨⟨_, (), rfl, rfl, by rw [ht]; exact hP, hD⟩, hS.F ht⟩) hS.2.2 dX12_share_20 hlocks
set_option maxRecDepth 100000 in
set_option maxHeartbeats 4000000 in
theorem c_X12_share (l : Launch) (dC : Nat → ClassId) (dI : Nat → Nat → Nat) (cyI cyJ cyZ : ClassId) (N : Nat) (res : Int64 × Int32 × (Nat → Int64)) (sz : Nat) (q_Md : Nat) (q_mprimes : Nat) (q_mtext : Nat) (q_mtold : Nat) (q_mtable : Nat) (q_mstretch : Nat) (q_mfewest : Nat) (q_misOdd : Nat) (q_misHigh : Nat) (q_misTop : Nat) (q_mbits : Nat) (q_mpile : Nat) (v1 : Int64) (v3 : Int32) (m_length : Int32) (m_primeMany : Int32) (m_toldMany : Int32) (m_fate : Int32) (m_tail : Int32) (m_round : Int32) (m_tableKind : Int32) (m_areLaid : Int32) (m_unlike : Int32) (m_isFree : Int32) (a_mprimes : Nat → Int64) (h : f_X12_share N v1 v3 m_primeMany a_mprimes = some res) : Met l yX12_share wsX12_share rm_X12_share (pC dC dI cyI cyJ cyZ [.ref q_Md, .long v1, .int v3] sz (wd55 cyI cyJ cyZ q_Md q_mprimes q_mtext q_mtold q_mtable q_mstretch q_mfewest q_misOdd q_misHigh q_misTop q_mbits q_mpile m_length m_primeMany m_toldMany m_fate m_tail m_round m_tableKind m_areLaid m_unlike m_isFree a_mprimes)) (va_Ql (fun (r : Int64) (_ : Unit) => r = res.1) (bW dC dI (fun (u : Unit) => (wd55 cyI cyJ cyZ q_Md q_mprimes q_mtext q_mtold q_mtable q_mstretch q_mfewest q_misOdd q_misHigh q_misTop q_mbits q_mpile m_length res.2.1 m_toldMany m_fate m_tail m_round m_tableKind m_areLaid m_unlike m_isFree res.2.2)) (va_A (wd55 cyI cyJ cyZ q_Md q_mprimes q_mtext q_mtold q_mtable q_mstretch q_mfewest q_misOdd q_misHigh q_misTop q_mbits q_mpile m_length m_primeMany m_toldMany m_fate m_tail m_round m_tableKind m_areLaid m_unlike m_isFree a_mprimes) sz)) (va_A (wd55 cyI cyJ cyZ q_Md q_mprimes q_mtext q_mtold q_mtable q_mstretch q_mfewest q_misOdd q_misHigh q_misTop q_mbits q_mpile m_length m_primeMany m_toldMany m_fate m_tail m_round m_tableKind m_areLaid m_unlike m_isFree a_mprimes) sz)) 0 0 (va_A (wd55 cyI cyJ cyZ q_Md q_mprimes q_mtext q_mtold q_mtable q_mstretch q_mfewest q_misOdd q_misHigh q_misTop q_mbits q_mpile m_length m_primeMany m_toldMany m_fate m_tail m_round m_tableKind m_areLaid m_unlike m_isFree a_mprimes) sz) := by
  refine Met.ofW (cc := cX12_share) (maxL := 8) (ret := (some .long)) (by decide) rfl ?_
  intro p e s m args below meth c s₁ B hml hv
  obtain ⟨rfl, hsz, hP, hG, hD0⟩ := hv
  have hx := B.exec
  have hb := B.bytes
  have hr := B.returns
  have hts := atoms_spec (ws := wsX12_share) B.pre
  have hown : s.vm.findClass RX12 = some m.cls := findClass_of_methodNamed B.named
  have hlocks := B.notSynchronized
  subst hsz
  have hD := hD0.self (sz := s.heap.size)
  generalize hAe : va_A (wd55 cyI cyJ cyZ q_Md q_mprimes q_mtext q_mtold q_mtable q_mstretch q_mfewest q_misOdd q_misHigh q_misTop q_mbits q_mpile m_length m_primeMany m_toldMany m_fate m_tail m_round m_tableKind m_areLaid m_unlike m_isFree a_mprimes) s.heap.size = A at hD ⊢
  have hA : ∀ q : Nat, s.heap.size ≤ q → A q := fun q h => by rw [← hAe]; exact Or.inr h
  have hS : va_S A s.heap s.heap [] := va_S.rf
  have hl := lv_entry ([.ref q_Md, .long v1, .int v3]) (n := 8) (Nat.le_of_ble_eq_true rfl)
  rw [lg_entry_eq]
  generalize (lg_sl ([.ref q_Md, .long v1, .int v3]) ++ List.replicate (8 - (lg_sl ([.ref q_Md, .long v1, .int v3])).length) Slot.unset).toArray = ls at hl ⊢
  have hl : lv_has ls 8 [(0, .ref q_Md), (1, .long v1), (3, .int v3)] := hl
  exact k_X12_share_0 ⟨hx, hb, hr, hml, hown, hts, hlocks, hG, hA⟩ N res q_Md q_mprimes q_mtext q_mtold q_mtable q_mstretch q_mfewest q_misOdd q_misHigh q_misTop q_mbits q_mpile v1 v3 m_length m_primeMany m_toldMany m_fate m_tail m_round m_tableKind m_areLaid m_unlike m_isFree a_mprimes  h _ _ hP hD hS _ hl
abbrev rm_X12_friends : Room := { frames := 4, cells := 0, slots := 0, locals := 107 }
theorem hd_X12_friends : yX12_friends.cls ≠ "java/lang/invoke/MethodHandle" ∧ yX12_friends.cls ≠ "java/lang/invoke/VarHandle" ∧ (parseMethodDescriptor yX12_friends.desc).map (fun d => d.parameters.length) = some 3 := by decide +kernel
theorem iw_X12_friends_X12 : ∀ w ∈ wsX120, w ∈ wsX12_friends := List.forall_mem_cons.mpr ⟨List.mem_of_getElem? (i := 31) rfl, List.forall_mem_cons.mpr ⟨List.mem_of_getElem? (i := 32) rfl, List.forall_mem_cons.mpr ⟨List.mem_of_getElem? (i := 33) rfl, List.forall_mem_cons.mpr ⟨List.mem_of_getElem? (i := 34) rfl, List.forall_mem_cons.mpr ⟨List.mem_of_getElem? (i := 35) rfl, List.forall_mem_cons.mpr ⟨List.mem_of_getElem? (i := 36) rfl, List.forall_mem_cons.mpr ⟨List.mem_of_getElem? (i := 37) rfl, List.forall_mem_cons.mpr ⟨List.mem_of_getElem? (i := 38) rfl, List.forall_mem_cons.mpr ⟨List.mem_of_getElem? (i := 39) rfl, List.forall_mem_cons.mpr ⟨List.mem_of_getElem? (i := 40) rfl, List.forall_mem_cons.mpr ⟨List.mem_of_getElem? (i := 41) rfl, List.forall_mem_cons.mpr ⟨List.mem_of_getElem? (i := 42) rfl, List.forall_mem_cons.mpr ⟨List.mem_of_getElem? (i := 43) rfl, List.forall_mem_cons.mpr ⟨List.mem_of_getElem? (i := 44) rfl, List.forall_mem_cons.mpr ⟨List.mem_of_getElem? (i := 45) rfl, List.forall_mem_cons.mpr ⟨List.mem_of_getElem? (i := 46) rfl, List.forall_mem_cons.mpr ⟨List.mem_of_getElem? (i := 47) rfl, List.forall_mem_cons.mpr ⟨List.mem_of_getElem? (i := 48) rfl, List.forall_mem_cons.mpr ⟨List.mem_of_getElem? (i := 49) rfl, List.forall_mem_cons.mpr ⟨List.mem_of_getElem? (i := 50) rfl, List.forall_mem_cons.mpr ⟨List.mem_of_getElem? (i := 51) rfl, fun _ h => absurd h List.not_mem_nil⟩⟩⟩⟩⟩⟩⟩⟩⟩⟩⟩⟩⟩⟩⟩⟩⟩⟩⟩⟩⟩
def j_X12_friends_93 (N : Nat) (v3 : Int32) (v4 : Int32) (m_primeMany : Int32) (m_tableKind : Int32) (a_mprimes : Nat → Int64) (a_mtable : Nat → Int32) : Option (Int32 × Int32 × Int32 × (Nat → Int64) × (Nat → Int32)) :=
  if 0 ≤ v3 then
    some ((-4 : Int32), m_primeMany, m_tableKind, a_mprimes, a_mtable)
  else
    some (v4, m_primeMany, m_tableKind, a_mprimes, a_mtable)
set_option maxRecDepth 100000 in
set_option maxHeartbeats 4000000 in
theorem k_X12_friends_93 {p : Program} {l : Launch} {e : Env} {s : State} {m : MethodId} {args : Array Value} {below : List Frame} {meth : Method} {c : Code} {dC : Nat → ClassId} {dI : Nat → Nat → Nat} {cyI cyJ cyZ : ClassId} {A : Nat → Prop} (C0 : mC p s m meth c args cX12_friends (some .int) 6 RX12 wsX12_friends (gK dC dI cyI cyJ cyZ) A) (N : Nat) (res : Int32 × Int32 × Int32 × (Nat → Int64) × (Nat → Int32)) (q_Md : Nat) (q_mprimes : Nat) (q_mtable : Nat) (q_mtext : Nat) (q_mtold : Nat) (q_mstretch : Nat) (q_mfewest : Nat) (q_misOdd : Nat) (q_misHigh : Nat) (q_misTop : Nat) (q_mbits : Nat) (q_mpile : Nat) (v3 : Int32) (v4 : Int32) (m_length : Int32) (m_primeMany : Int32) (m_toldMany : Int32) (m_fate : Int32) (m_tail : Int32) (m_round : Int32) (m_tableKind : Int32) (m_areLaid : Int32) (m_unlike : Int32) (m_isFree : Int32) (a_mprimes : Nat → Int64) (a_mtable : Nat → Int32) (h : j_X12_friends_93 N v3 v4 m_primeMany m_tableKind a_mprimes a_mtable = some res) : ∀ (H : Heap) (locs : List Loc), va_P (dC, dI) vwCl (wd58 cyI cyJ cyZ q_Md q_mprimes q_mtable q_mtext q_mtold q_mstretch q_mfewest q_misOdd q_misHigh q_misTop q_mbits q_mpile m_length m_primeMany m_toldMany m_fate m_tail m_round m_tableKind m_areLaid m_unlike m_isFree a_mprimes a_mtable) H → va_D A (wd58 cyI cyJ cyZ q_Md q_mprimes q_mtable q_mtext q_mtold q_mstretch q_mfewest q_misOdd q_misHigh q_misTop q_mbits q_mpile m_length m_primeMany m_toldMany m_fate m_tail m_round m_tableKind m_areLaid m_unlike m_isFree a_mprimes a_mtable) → va_S A s.heap H locs → ∀ (ls : Array Slot), lv_has ls 6 [(3, .int v3), (4, .int v4)] → W p l e (headSpec wsX12_friends rm_X12_friends).room s m args below meth c H locs 0 0 (MQ below (va_Qi (fun (r : Int32) (_ : Unit) => r = res.1) (bW dC dI (fun (u : Unit) => (wd58 cyI cyJ cyZ q_Md q_mprimes q_mtable q_mtext q_mtold q_mstretch q_mfewest q_misOdd q_misHigh q_misTop q_mbits q_mpile m_length res.2.1 m_toldMany m_fate m_tail m_round res.2.2.1 m_areLaid m_unlike m_isFree res.2.2.2.1 res.2.2.2.2)) A) A) args s 0 0 A) (F0 m 93 ls []) := by
  obtain ⟨hx, hb, hr, hml, hown, hts, hlocks, hG, hA⟩ := id C0
  have hK := hG.1
  intro H locs hP hD hS ls hl
  unfold j_X12_friends_93 at h
  refine lv_iload_n hx hb dX12_friends_93 rfl (lv_at hl 0 rfl) ?_
  refine lv_if_ge (tgt := 102) hx hb dX12_friends_94 (by decide) (fun c14z => ?_) (fun c14z => ?_)
  · have h := xt h c14z
    refine lv_bipush (v := (-4 : Int32)) hx hb dX12_friends_102 (by decide) ?_
    obtain rfl := Option.some.inj h
    exact W.iret (v := (-4 : Int32)) hx hb hr (fun t ht hW => ⟨⟨_, (), rfl, rfl, by rw [ht]; exact hP, hD⟩, hS.F ht⟩) hS.2.2 dX12_friends_104 hlocks
  · have h := xf h c14z
    refine lv_iload hx hb dX12_friends_97 (lv_at hl 1 rfl) ?_
    refine lv_goto (tgt := 104) hx hb dX12_friends_99 (by decide) ?_
    obtain rfl := Option.some.inj h
    exact W.iret (v := v4) hx hb hr (fun t ht hW => ⟨⟨_, (), rfl, rfl, by rw [ht]; exact hP, hD⟩, hS.F ht⟩) hS.2.2 dX12_friends_104 hlocks
def s_X12_friends_37 (N : Nat) (v1 : Int32) (v2 : Int32) (v3 : Int32) (m_primeMany : Int32) (m_tableKind : Int32) (a_mprimes : Nat → Int64) (a_mtable : Nat → Int32) (k_37 : (Int32 × Int32) → Option (Int32 × Int32 × Int32 × (Nat → Int64) × (Nat → Int32))) (v4 : Int32) (v5 : Int32) : Option (Int32 × Int32 × Int32 × (Nat → Int64) × (Nat → Int32)) :=
  if v2 < v5 then
    j_X12_friends_93 N v3 v4 m_primeMany m_tableKind a_mprimes a_mtable
  else
    if v5 = v1 then
      xl (v5 + (1 : Int32)) fun y16z =>
      k_37 (v4, y16z)
    else
      if v5 < 0 ∨ 50001 ≤ v5.toNatClampNeg then
        none
      else
        if v1 < 0 ∨ 50001 ≤ v1.toNatClampNeg then
          none
        else
          if (((a_mtable v5.toNatClampNeg).toInt64) * v1.toInt64) = (((a_mtable v1.toNatClampNeg).toInt64) * v5.toInt64) then
            if v4 = v3 then
              some (v5, m_primeMany, m_tableKind, a_mprimes, a_mtable)
            else
              xl (v4 + (1 : Int32)) fun y22z =>
              xl (v5 + (1 : Int32)) fun y23z =>
              k_37 (y22z, y23z)
          else
            xl (v5 + (1 : Int32)) fun y20z =>
            k_37 (v4, y20z)
def l_X12_friends_37 (N : Nat) (v1 : Int32) (v2 : Int32) (v3 : Int32) (m_primeMany : Int32) (m_tableKind : Int32) (a_mprimes : Nat → Int64) (a_mtable : Nat → Int32) (n : Nat) (z : Int32 × Int32) : Option (Int32 × Int32 × Int32 × (Nat → Int64) × (Nat → Int32)) := lp (fun k z => s_X12_friends_37 N v1 v2 v3 m_primeMany m_tableKind a_mprimes a_mtable k z.1 z.2) n z
set_option maxRecDepth 100000 in
set_option maxHeartbeats 4000000 in
theorem k_X12_friends_37 {p : Program} {l : Launch} {e : Env} {s : State} {m : MethodId} {args : Array Value} {below : List Frame} {meth : Method} {c : Code} {dC : Nat → ClassId} {dI : Nat → Nat → Nat} {cyI cyJ cyZ : ClassId} {A : Nat → Prop} (C0 : mC p s m meth c args cX12_friends (some .int) 6 RX12 wsX12_friends (gK dC dI cyI cyJ cyZ) A) (N : Nat) (res : Int32 × Int32 × Int32 × (Nat → Int64) × (Nat → Int32)) (q_Md : Nat) (q_mprimes : Nat) (q_mtable : Nat) (q_mtext : Nat) (q_mtold : Nat) (q_mstretch : Nat) (q_mfewest : Nat) (q_misOdd : Nat) (q_misHigh : Nat) (q_misTop : Nat) (q_mbits : Nat) (q_mpile : Nat) (v1 : Int32) (v2 : Int32) (v3 : Int32) (m_length : Int32) (m_primeMany : Int32) (m_toldMany : Int32) (m_fate : Int32) (m_tail : Int32) (m_round : Int32) (m_tableKind : Int32) (m_areLaid : Int32) (m_unlike : Int32) (m_isFree : Int32) (a_mprimes : Nat → Int64) (a_mtable : Nat → Int32) : ∀ (n : Nat) (v4 : Int32) (v5 : Int32), l_X12_friends_37 N v1 v2 v3 m_primeMany m_tableKind a_mprimes a_mtable n (v4, v5) = some res → ∀ (H : Heap) (locs : List Loc), va_P (dC, dI) vwCl (wd58 cyI cyJ cyZ q_Md q_mprimes q_mtable q_mtext q_mtold q_mstretch q_mfewest q_misOdd q_misHigh q_misTop q_mbits q_mpile m_length m_primeMany m_toldMany m_fate m_tail m_round m_tableKind m_areLaid m_unlike m_isFree a_mprimes a_mtable) H → va_D A (wd58 cyI cyJ cyZ q_Md q_mprimes q_mtable q_mtext q_mtold q_mstretch q_mfewest q_misOdd q_misHigh q_misTop q_mbits q_mpile m_length m_primeMany m_toldMany m_fate m_tail m_round m_tableKind m_areLaid m_unlike m_isFree a_mprimes a_mtable) → va_S A s.heap H locs → ∀ (ls : Array Slot), lv_has ls 6 [(0, .ref q_Md), (1, .int v1), (2, .int v2), (3, .int v3), (4, .int v4), (5, .int v5)] → W p l e (headSpec wsX12_friends rm_X12_friends).room s m args below meth c H locs 0 0 (MQ below (va_Qi (fun (r : Int32) (_ : Unit) => r = res.1) (bW dC dI (fun (u : Unit) => (wd58 cyI cyJ cyZ q_Md q_mprimes q_mtable q_mtext q_mtold q_mstretch q_mfewest q_misOdd q_misHigh q_misTop q_mbits q_mpile m_length res.2.1 m_toldMany m_fate m_tail m_round res.2.2.1 m_areLaid m_unlike m_isFree res.2.2.2.1 res.2.2.2.2)) A) A) args s 0 0 A) (F0 m 37 ls []) := by
  obtain ⟨hx, hb, hr, hml, hown, hts, hlocks, hG, hA⟩ := id C0
  have hK := hG.1
  intro n
  induction n with
  | zero =>
    intro v4 v5 h
    cases h
  | succ n ih =>
    intro v4 v5 h H locs hP hD hS ls hl
    have h : s_X12_friends_37 N v1 v2 v3 m_primeMany m_tableKind a_mprimes a_mtable (l_X12_friends_37 N v1 v2 v3 m_primeMany m_tableKind a_mprimes a_mtable n) v4 v5 = some res := h
    unfold s_X12_friends_37 at h
    refine lv_iload hx hb dX12_friends_37 (lv_at hl 5 rfl) ?_
    refine lv_iload_n hx hb dX12_friends_39 rfl (lv_at hl 2 rfl) ?_
    refine lv_icmp_gt (tgt := 93) hx hb dX12_friends_40 (by decide) (fun c13z => ?_) (fun c13z => ?_)
    · have h := xt h c13z
      exact k_X12_friends_93 C0 N res q_Md q_mprimes q_mtable q_mtext q_mtold q_mstretch q_mfewest q_misOdd q_misHigh q_misTop q_mbits q_mpile v3 v4 m_length m_primeMany m_toldMany m_fate m_tail m_round m_tableKind m_areLaid m_unlike m_isFree a_mprimes a_mtable  h _ _ hP hD hS _ (lv_sub hl [3, 4] rfl)
    · have h := xf h c13z
      refine lv_iload hx hb dX12_friends_43 (lv_at hl 5 rfl) ?_
      refine lv_iload_n hx hb dX12_friends_45 rfl (lv_at hl 1 rfl) ?_
      refine lv_icmp_eq (tgt := 87) hx hb dX12_friends_46 (by decide) (fun c15z => ?_) (fun c15z => ?_)
      · have h := xt h c15z
        obtain ⟨y16z, ey16z⟩ : ∃ z : Int32, z = v5 + (1 : Int32) := ⟨_, rfl⟩
        have h := xl_at h ey16z
        refine lv_iinc (v := y16z) (lv' := [(5, .int y16z), (0, .ref q_Md), (1, .int v1), (2, .int v2), (3, .int v3), (4, .int v4)]) hx hb dX12_friends_87 hl (k := 5) rfl (by rw [ey16z]; rfl) (by decide) rfl (fun ls hl => ?_)
        refine lv_goto (tgt := 37) hx hb dX12_friends_90 (by decide) ?_
        exact ih v4 y16z h _ _ hP hD hS _ (lv_sub hl [1, 2, 3, 4, 5, 0] rfl)
      · have h := xf h c15z
        refine lv_aload_n hx hb dX12_friends_49 rfl (lv_at hl 0 rfl) ?_
        refine va_get (D := (dC, dI)) (ci := 12) (v := .ref q_mtable) (C := RX12) (T := TX12) (N := 21) hx hb hts iw_X12_friends_X12 hown hK hP 0 rfl rfl 10 (by decide) (hts (.fieldLink RX12 21 "GoesIntoModel" "table" "[I") (List.mem_of_getElem? (i := 2) rfl)) (fun _ h9 => h9) rfl dX12_friends_50 ?_
        refine lv_iload hx hb dX12_friends_53 (lv_at hl 5 rfl) ?_
        obtain ⟨b17z, h⟩ := xn h
        refine va_iald hx hb hK hP 2 0 rfl rfl b17z dX12_friends_55 ?_
        refine lv_i2l (v := (a_mtable v5.toNatClampNeg).toInt64) hx hb dX12_friends_56 rfl ?_
        refine lv_iload_n hx hb dX12_friends_57 rfl (lv_at hl 1 rfl) ?_
        refine lv_i2l (v := v1.toInt64) hx hb dX12_friends_58 rfl ?_
        refine lv_lmul hx hb dX12_friends_59 ?_
        refine lv_aload_n hx hb dX12_friends_60 rfl (lv_at hl 0 rfl) ?_
        refine va_get (D := (dC, dI)) (ci := 12) (v := .ref q_mtable) (C := RX12) (T := TX12) (N := 21) hx hb hts iw_X12_friends_X12 hown hK hP 0 rfl rfl 10 (by decide) (hts (.fieldLink RX12 21 "GoesIntoModel" "table" "[I") (List.mem_of_getElem? (i := 2) rfl)) (fun _ h9 => h9) rfl dX12_friends_61 ?_
        refine lv_iload_n hx hb dX12_friends_64 rfl (lv_at hl 1 rfl) ?_
        obtain ⟨b18z, h⟩ := xn h
        refine va_iald hx hb hK hP 2 0 rfl rfl b18z dX12_friends_65 ?_
        refine lv_i2l (v := (a_mtable v1.toNatClampNeg).toInt64) hx hb dX12_friends_66 rfl ?_
        refine lv_iload hx hb dX12_friends_67 (lv_at hl 5 rfl) ?_
        refine lv_i2l (v := v5.toInt64) hx hb dX12_friends_69 rfl ?_
        refine lv_lmul hx hb dX12_friends_70 ?_
        refine W.lcmp hx hb dX12_friends_71 ?_
        refine lv_if_ne (tgt := 87) hx hb dX12_friends_72 (by decide) (fun c19z => ?_) (fun c19z => ?_)
        · have c19z := fun z => c19z ((lg_cmp_eq _ _).mpr z)
          have h := xf h c19z
          obtain ⟨y20z, ey20z⟩ : ∃ z : Int32, z = v5 + (1 : Int32) := ⟨_, rfl⟩
          have h := xl_at h ey20z
          refine lv_iinc (v := y20z) (lv' := [(5, .int y20z), (0, .ref q_Md), (1, .int v1), (2, .int v2), (3, .int v3), (4, .int v4)]) hx hb dX12_friends_87 hl (k := 5) rfl (by rw [ey20z]; rfl) (by decide) rfl (fun ls hl => ?_)
          refine lv_goto (tgt := 37) hx hb dX12_friends_90 (by decide) ?_
          exact ih v4 y20z h _ _ hP hD hS _ (lv_sub hl [1, 2, 3, 4, 5, 0] rfl)
        · have c19z := (lg_cmp_eq _ _).mp c19z
          have h := xt h c19z
          refine lv_iload hx hb dX12_friends_75 (lv_at hl 4 rfl) ?_
          refine lv_iload_n hx hb dX12_friends_77 rfl (lv_at hl 3 rfl) ?_
          refine lv_icmp_ne (tgt := 84) hx hb dX12_friends_78 (by decide) (fun c21z => ?_) (fun c21z => ?_)
          · have h := xf h c21z
            obtain ⟨y22z, ey22z⟩ : ∃ z : Int32, z = v4 + (1 : Int32) := ⟨_, rfl⟩
            have h := xl_at h ey22z
            refine lv_iinc (v := y22z) (lv' := [(4, .int y22z), (0, .ref q_Md), (1, .int v1), (2, .int v2), (3, .int v3), (5, .int v5)]) hx hb dX12_friends_84 hl (k := 4) rfl (by rw [ey22z]; rfl) (by decide) rfl (fun ls hl => ?_)
            obtain ⟨y23z, ey23z⟩ : ∃ z : Int32, z = v5 + (1 : Int32) := ⟨_, rfl⟩
            have h := xl_at h ey23z
            refine lv_iinc (v := y23z) (lv' := [(5, .int y23z), (4, .int y22z), (0, .ref q_Md), (1, .int v1), (2, .int v2), (3, .int v3)]) hx hb dX12_friends_87 hl (k := 5) rfl (by rw [ey23z]; rfl) (by decide) rfl (fun ls hl => ?_)
            refine lv_goto (tgt := 37) hx hb dX12_friends_90 (by decide) ?_
            exact ih y22z y23z h _ _ hP hD hS _ (lv_sub hl [2, 3, 4, 5, 1, 0] rfl)
          · have h := xt h c21z
            refine lv_iload hx hb dX12_friends_81 (lv_at hl 5 rfl) ?_
            obtain rfl := Option.some.inj h
            exact W.iret (v := v5) hx hb hr (fun t ht hW => ⟨⟨_, (), rfl, rfl, by rw [ht]; exact hP, hD⟩, hS.F ht⟩) hS.2.2 dX12_friends_83 hlocks
def f_X12_friends (N : Nat) (v1 : Int32) (v2 : Int32) (v3 : Int32) (m_primeMany : Int32) (m_tableKind : Int32) (a_mprimes : Nat → Int64) (a_mtable : Nat → Int32) : Option (Int32 × Int32 × Int32 × (Nat → Int64) × (Nat → Int32)) :=
  Option.bind (f_X12_in N v1.toInt64 (1 : Int64) (50000 : Int64)) fun r1z =>
  if r1z = 0 then
    some ((-1 : Int32), m_primeMany, m_tableKind, a_mprimes, a_mtable)
  else
    Option.bind (f_X12_isBound N v2) fun r5z =>
    if r5z = 0 then
      some ((-1 : Int32), m_primeMany, m_tableKind, a_mprimes, a_mtable)
    else
      if (-1 : Int32) ≤ v3 then
        Option.bind (f_X12_layTable N (0 : Int32) m_primeMany m_tableKind a_mprimes a_mtable) fun r10z =>
        l_X12_friends_37 N v1 v2 v3 r10z.1 r10z.2.1 r10z.2.2.1 r10z.2.2.2 N ((0 : Int32), (1 : Int32))
      else
        some ((-1 : Int32), m_primeMany, m_tableKind, a_mprimes, a_mtable)
set_option maxRecDepth 100000 in
set_option maxHeartbeats 4000000 in
theorem k_X12_friends_0 {p : Program} {l : Launch} {e : Env} {s : State} {m : MethodId} {args : Array Value} {below : List Frame} {meth : Method} {c : Code} {dC : Nat → ClassId} {dI : Nat → Nat → Nat} {cyI cyJ cyZ : ClassId} {A : Nat → Prop} (C0 : mC p s m meth c args cX12_friends (some .int) 6 RX12 wsX12_friends (gK dC dI cyI cyJ cyZ) A) (N : Nat) (res : Int32 × Int32 × Int32 × (Nat → Int64) × (Nat → Int32)) (q_Md : Nat) (q_mprimes : Nat) (q_mtable : Nat) (q_mtext : Nat) (q_mtold : Nat) (q_mstretch : Nat) (q_mfewest : Nat) (q_misOdd : Nat) (q_misHigh : Nat) (q_misTop : Nat) (q_mbits : Nat) (q_mpile : Nat) (v1 : Int32) (v2 : Int32) (v3 : Int32) (m_length : Int32) (m_primeMany : Int32) (m_toldMany : Int32) (m_fate : Int32) (m_tail : Int32) (m_round : Int32) (m_tableKind : Int32) (m_areLaid : Int32) (m_unlike : Int32) (m_isFree : Int32) (a_mprimes : Nat → Int64) (a_mtable : Nat → Int32) (h : f_X12_friends N v1 v2 v3 m_primeMany m_tableKind a_mprimes a_mtable = some res) : ∀ (H : Heap) (locs : List Loc), va_P (dC, dI) vwCl (wd58 cyI cyJ cyZ q_Md q_mprimes q_mtable q_mtext q_mtold q_mstretch q_mfewest q_misOdd q_misHigh q_misTop q_mbits q_mpile m_length m_primeMany m_toldMany m_fate m_tail m_round m_tableKind m_areLaid m_unlike m_isFree a_mprimes a_mtable) H → va_D A (wd58 cyI cyJ cyZ q_Md q_mprimes q_mtable q_mtext q_mtold q_mstretch q_mfewest q_misOdd q_misHigh q_misTop q_mbits q_mpile m_length m_primeMany m_toldMany m_fate m_tail m_round m_tableKind m_areLaid m_unlike m_isFree a_mprimes a_mtable) → va_S A s.heap H locs → ∀ (ls : Array Slot), lv_has ls 6 [(0, .ref q_Md), (1, .int v1), (2, .int v2), (3, .int v3)] → W p l e (headSpec wsX12_friends rm_X12_friends).room s m args below meth c H locs 0 0 (MQ below (va_Qi (fun (r : Int32) (_ : Unit) => r = res.1) (bW dC dI (fun (u : Unit) => (wd58 cyI cyJ cyZ q_Md q_mprimes q_mtable q_mtext q_mtold q_mstretch q_mfewest q_misOdd q_misHigh q_misTop q_mbits q_mpile m_length res.2.1 m_toldMany m_fate m_tail m_round res.2.2.1 m_areLaid m_unlike m_isFree res.2.2.2.1 res.2.2.2.2)) A) A) args s 0 0 A) (F0 m 0 ls []) := by
  obtain ⟨hx, hb, hr, hml, hown, hts, hlocks, hG, hA⟩ := id C0
  have hK := hG.1
  intro H locs hP hD hS ls hl
  unfold f_X12_friends at h
  refine lv_iload_n hx hb dX12_friends_0 rfl (lv_at hl 1 rfl) ?_
  refine lv_i2l (v := v1.toInt64) hx hb dX12_friends_1 rfl ?_
  refine lv_lconst (v := (1 : Int64)) hx hb dX12_friends_2 (by decide) ?_
  refine lv_ldc2 (v := (50000 : Int64)) hx hb hown (hts (.constantLong RX12 106 (50000)) (List.mem_of_getElem? (i := 1) rfl)) dX12_friends_3 ?_
  obtain ⟨r1z, hr1z, h⟩ := xb_at h
  have hPc := hP.sub (ws' := (wd37 cyI cyJ cyZ)) [] rfl
  have hDc := hD.sub (ws' := (wd37 cyI cyJ cyZ)) [] (by decide) rfl
  refine cal_i [] [0, 1, 2] (va_runS (As := [.long v1.toInt64, .long (1 : Int64), .long (50000 : Int64)]) (rest := []) ⟨hx, hb, hml, hown, hts⟩ (c_X12_in l dC dI cyI cyJ cyZ N r1z H.size  v1.toInt64 (1 : Int64) (50000 : Int64)  hr1z) (va_cwS 3 hts gX12_friends_X12_in rfl rfl rfl hd_X12_in ⟨Nat.le_of_ble_eq_true rfl, Nat.le_of_ble_eq_true rfl⟩) ⟨pC.blind, pC.pre hPc hG hDc⟩ rfl rfl hl.1 rfl (lv_room (Nat.le_of_ble_eq_true rfl)) dX12_friends_6 ⟨Nat.zero_le _, Nat.zero_le _⟩) hP hD hS hA rfl rfl rfl (by decide) (fun x3z u2z H locs hw hP hD hS => ?_)
  obtain rfl := hw.symm
  have hP : va_P (dC, dI) vwCl (wd58 cyI cyJ cyZ q_Md q_mprimes q_mtable q_mtext q_mtold q_mstretch q_mfewest q_misOdd q_misHigh q_misTop q_mbits q_mpile m_length m_primeMany m_toldMany m_fate m_tail m_round m_tableKind m_areLaid m_unlike m_isFree a_mprimes a_mtable) H := hP.sub [0, 1, 2] rfl
  have hD : va_D A (wd58 cyI cyJ cyZ q_Md q_mprimes q_mtable q_mtext q_mtold q_mstretch q_mfewest q_misOdd q_misHigh q_misTop q_mbits q_mpile m_length m_primeMany m_toldMany m_fate m_tail m_round m_tableKind m_areLaid m_unlike m_isFree a_mprimes a_mtable) := hD.sub [0, 1, 2] (by decide) rfl
  refine lv_if_eq (tgt := 24) hx hb dX12_friends_9 (by decide) (fun c4z => ?_) (fun c4z => ?_)
  · have h := xt h c4z
    refine lv_iconst (v := (-1 : Int32)) hx hb dX12_friends_24 (by decide) ?_
    obtain rfl := Option.some.inj h
    exact W.iret (v := (-1 : Int32)) hx hb hr (fun t ht hW => ⟨⟨_, (), rfl, rfl, by rw [ht]; exact hP, hD⟩, hS.F ht⟩) hS.2.2 dX12_friends_25 hlocks
  · have h := xf h c4z
    refine lv_iload_n hx hb dX12_friends_12 rfl (lv_at hl 2 rfl) ?_
    obtain ⟨r5z, hr5z, h⟩ := xb_at h
    have hPc := hP.sub (ws' := (wd37 cyI cyJ cyZ)) [] rfl
    have hDc := hD.sub (ws' := (wd37 cyI cyJ cyZ)) [] (by decide) rfl
    refine cal_i [] [0, 1, 2] (va_runS (As := [.int v2]) (rest := []) ⟨hx, hb, hml, hown, hts⟩ (c_X12_isBound l dC dI cyI cyJ cyZ N r5z H.size  v2  hr5z) (va_cwS 1 hts gX12_friends_X12_isBound rfl rfl rfl hd_X12_isBound ⟨Nat.le_of_ble_eq_true rfl, Nat.le_of_ble_eq_true rfl⟩) ⟨pC.blind, pC.pre hPc hG hDc⟩ rfl rfl hl.1 rfl (lv_room (Nat.le_of_ble_eq_true rfl)) dX12_friends_13 ⟨Nat.zero_le _, Nat.zero_le _⟩) hP hD hS hA rfl rfl rfl (by decide) (fun x7z u6z H locs hw hP hD hS => ?_)
    obtain rfl := hw.symm
    have hP : va_P (dC, dI) vwCl (wd58 cyI cyJ cyZ q_Md q_mprimes q_mtable q_mtext q_mtold q_mstretch q_mfewest q_misOdd q_misHigh q_misTop q_mbits q_mpile m_length m_primeMany m_toldMany m_fate m_tail m_round m_tableKind m_areLaid m_unlike m_isFree a_mprimes a_mtable) H := hP.sub [0, 1, 2] rfl
    have hD : va_D A (wd58 cyI cyJ cyZ q_Md q_mprimes q_mtable q_mtext q_mtold q_mstretch q_mfewest q_misOdd q_misHigh q_misTop q_mbits q_mpile m_length m_primeMany m_toldMany m_fate m_tail m_round m_tableKind m_areLaid m_unlike m_isFree a_mprimes a_mtable) := hD.sub [0, 1, 2] (by decide) rfl
    refine lv_if_eq (tgt := 24) hx hb dX12_friends_16 (by decide) (fun c8z => ?_) (fun c8z => ?_)
    · have h := xt h c8z
      refine lv_iconst (v := (-1 : Int32)) hx hb dX12_friends_24 (by decide) ?_
      obtain rfl := Option.some.inj h
      exact W.iret (v := (-1 : Int32)) hx hb hr (fun t ht hW => ⟨⟨_, (), rfl, rfl, by rw [ht]; exact hP, hD⟩, hS.F ht⟩) hS.2.2 dX12_friends_25 hlocks
    · have h := xf h c8z
      refine lv_iload_n hx hb dX12_friends_19 rfl (lv_at hl 3 rfl) ?_
      refine lv_iconst (v := (-1 : Int32)) hx hb dX12_friends_20 (by decide) ?_
      refine lv_icmp_ge (tgt := 26) hx hb dX12_friends_21 (by decide) (fun c9z => ?_) (fun c9z => ?_)
      · have h := xt h c9z
        refine lv_aload_n hx hb dX12_friends_26 rfl (lv_at hl 0 rfl) ?_
        refine lv_iconst (v := (0 : Int32)) hx hb dX12_friends_27 (by decide) ?_
        obtain ⟨r10z, hr10z, h⟩ := xb_at h
        have hPc := hP.sub (ws' := (wd58 cyI cyJ cyZ q_Md q_mprimes q_mtable q_mtext q_mtold q_mstretch q_mfewest q_misOdd q_misHigh q_misTop q_mbits q_mpile m_length m_primeMany m_toldMany m_fate m_tail m_round m_tableKind m_areLaid m_unlike m_isFree a_mprimes a_mtable)) [0, 1, 2] rfl
        have hDc := hD.sub (ws' := (wd58 cyI cyJ cyZ q_Md q_mprimes q_mtable q_mtext q_mtold q_mstretch q_mfewest q_misOdd q_misHigh q_misTop q_mbits q_mpile m_length m_primeMany m_toldMany m_fate m_tail m_round m_tableKind m_areLaid m_unlike m_isFree a_mprimes a_mtable)) [0, 1, 2] (by decide) rfl
        refine cal_v [0, 1, 2] [] (va_runV (As := [.int (0 : Int32)]) (rest := []) ⟨hx, hb, hml, hown, hts⟩ (c_X12_layTable l dC dI cyI cyJ cyZ N r10z H.size q_Md q_mprimes q_mtable q_mtext q_mtold q_mstretch q_mfewest q_misOdd q_misHigh q_misTop q_mbits q_mpile (0 : Int32) m_length m_primeMany m_toldMany m_fate m_tail m_round m_tableKind m_areLaid m_unlike m_isFree a_mprimes a_mtable hr10z) (cwV 1 hts gX12_friends_X12_layTable rfl rfl rfl ⟨rfl, hd_X12_layTable⟩ ⟨Nat.le_of_ble_eq_true rfl, Nat.le_of_ble_eq_true rfl⟩) ⟨pC.blind, va_recv hK hPc (ci := 12) (q0 := 0) rfl rfl, pC.pre hPc hG hDc⟩ rfl rfl hl.1 rfl (lv_room (Nat.le_of_ble_eq_true rfl)) dX12_friends_28 ⟨Nat.zero_le _, Nat.zero_le _⟩) hP hD hS hA rfl rfl rfl (by decide) (fun u11z H locs _ hP hD hS => ?_)
        have hP : va_P (dC, dI) vwCl (wd58 cyI cyJ cyZ q_Md q_mprimes q_mtable q_mtext q_mtold q_mstretch q_mfewest q_misOdd q_misHigh q_misTop q_mbits q_mpile m_length r10z.1 m_toldMany m_fate m_tail m_round r10z.2.1 m_areLaid m_unlike m_isFree r10z.2.2.1 r10z.2.2.2) H := hP.sub [0, 1, 2] rfl
        have hD : va_D A (wd58 cyI cyJ cyZ q_Md q_mprimes q_mtable q_mtext q_mtold q_mstretch q_mfewest q_misOdd q_misHigh q_misTop q_mbits q_mpile m_length r10z.1 m_toldMany m_fate m_tail m_round r10z.2.1 m_areLaid m_unlike m_isFree r10z.2.2.1 r10z.2.2.2) := hD.sub [0, 1, 2] (by decide) rfl
        refine lv_iconst (v := (0 : Int32)) hx hb dX12_friends_31 (by decide) ?_
        refine lv_istore (lv' := [(4, .int (0 : Int32)), (0, .ref q_Md), (1, .int v1), (2, .int v2), (3, .int v3)]) hx hb dX12_friends_32 hl (by decide) rfl (fun ls hl => ?_)
        refine lv_iconst (v := (1 : Int32)) hx hb dX12_friends_34 (by decide) ?_
        refine lv_istore (lv' := [(5, .int (1 : Int32)), (4, .int (0 : Int32)), (0, .ref q_Md), (1, .int v1), (2, .int v2), (3, .int v3)]) hx hb dX12_friends_35 hl (by decide) rfl (fun ls hl => ?_)
        exact k_X12_friends_37 C0 N res q_Md q_mprimes q_mtable q_mtext q_mtold q_mstretch q_mfewest q_misOdd q_misHigh q_misTop q_mbits q_mpile v1 v2 v3 m_length r10z.1 m_toldMany m_fate m_tail m_round r10z.2.1 m_areLaid m_unlike m_isFree r10z.2.2.1 r10z.2.2.2 N (0 : Int32) (1 : Int32) h _ _ hP hD hS _ (lv_sub hl [2, 3, 4, 5, 1, 0] rfl)
      · have h := xf h c9z
        refine lv_iconst (v := (-1 : Int32)) hx hb dX12_friends_24 (by decide) ?_
        obtain rfl := Option.some.inj h
        exact W.iret (v := (-1 : Int32)) hx hb hr (fun t ht hW => ⟨⟨_, (), rfl, rfl, by rw [ht]; exact hP, hD⟩, hS.F ht⟩) hS.2.2 dX12_friends_25 hlocks
set_option maxRecDepth 100000 in
set_option maxHeartbeats 4000000 in
theorem c_X12_friends (l : Launch) (dC : Nat → ClassId) (dI : Nat → Nat → Nat) (cyI cyJ cyZ : ClassId) (N : Nat) (res : Int32 × Int32 × Int32 × (Nat → Int64) × (Nat → Int32)) (sz : Nat) (q_Md : Nat) (q_mprimes : Nat) (q_mtable : Nat) (q_mtext : Nat) (q_mtold : Nat) (q_mstretch : Nat) (q_mfewest : Nat) (q_misOdd : Nat) (q_misHigh : Nat) (q_misTop : Nat) (q_mbits : Nat) (q_mpile : Nat) (v1 : Int32) (v2 : Int32) (v3 : Int32) (m_length : Int32) (m_primeMany : Int32) (m_toldMany : Int32) (m_fate : Int32) (m_tail : Int32) (m_round : Int32) (m_tableKind : Int32) (m_areLaid : Int32) (m_unlike : Int32) (m_isFree : Int32) (a_mprimes : Nat → Int64) (a_mtable : Nat → Int32) (h : f_X12_friends N v1 v2 v3 m_primeMany m_tableKind a_mprimes a_mtable = some res) : Met l yX12_friends wsX12_friends rm_X12_friends (pC dC dI cyI cyJ cyZ [.ref q_Md, .int v1, .int v2, .int v3] sz (wd58 cyI cyJ cyZ q_Md q_mprimes q_mtable q_mtext q_mtold q_mstretch q_mfewest q_misOdd q_misHigh q_misTop q_mbits q_mpile m_length m_primeMany m_toldMany m_fate m_tail m_round m_tableKind m_areLaid m_unlike m_isFree a_mprimes a_mtable)) (va_Qi (fun (r : Int32) (_ : Unit) => r = res.1) (bW dC dI (fun (u : Unit) => (wd58 cyI cyJ cyZ q_Md q_mprimes q_mtable q_mtext q_mtold q_mstretch q_mfewest q_misOdd q_misHigh q_misTop q_mbits q_mpile m_length res.2.1 m_toldMany m_fate m_tail m_round res.2.2.1 m_areLaid m_unlike m_isFree res.2.2.2.1 res.2.2.2.2)) (va_A (wd58 cyI cyJ cyZ q_Md q_mprimes q_mtable q_mtext q_mtold q_mstretch q_mfewest q_misOdd q_misHigh q_misTop q_mbits q_mpile m_length m_primeMany m_toldMany m_fate m_tail m_round m_tableKind m_areLaid m_unlike m_isFree a_mprimes a_mtable) sz)) (va_A (wd58 cyI cyJ cyZ q_Md q_mprimes q_mtable q_mtext q_mtold q_mstretch q_mfewest q_misOdd q_misHigh q_misTop q_mbits q_mpile m_length m_primeMany m_toldMany m_fate m_tail m_round m_tableKind m_areLaid m_unlike m_isFree a_mprimes a_mtable) sz)) 0 0 (va_A (wd58 cyI cyJ cyZ q_Md q_mprimes q_mtable q_mtext q_mtold q_mstretch q_mfewest q_misOdd q_misHigh q_misTop q_mbits q_mpile m_length m_primeMany m_toldMany m_fate m_tail m_round m_tableKind m_areLaid m_unlike m_isFree a_mprimes a_mtable) sz) := by
  refine Met.ofW (cc := cX12_friends) (maxL := 6) (ret := (some .int)) (by decide) rfl ?_
  intro p e s m args below meth c s₁ B hml hv
  obtain ⟨rfl, hsz, hP, hG, hD0⟩ := hv
  have hx := B.exec
  have hb := B.bytes
  have hr := B.returns
  have hts := atoms_spec (ws := wsX12_friends) B.pre
  have hown : s.vm.findClass RX12 = some m.cls := findClass_of_methodNamed B.named
  have hlocks := B.notSynchronized
  subst hsz
  have hD := hD0.self (sz := s.heap.size)
  generalize hAe : va_A (wd58 cyI cyJ cyZ q_Md q_mprimes q_mtable q_mtext q_mtold q_mstretch q_mfewest q_misOdd q_misHigh q_misTop q_mbits q_mpile m_length m_primeMany m_toldMany m_fate m_tail m_round m_tableKind m_areLaid m_unlike m_isFree a_mprimes a_mtable) s.heap.size = A at hD ⊢
  have hA : ∀ q : Nat, s.heap.size ≤ q → A q := fun q h => by rw [← hAe]; exact Or.inr h
  have hS : va_S A s.heap s.heap [] := va_S.rf
  have hl := lv_entry ([.ref q_Md, .int v1, .int v2, .int v3]) (n := 6) (Nat.le_of_ble_eq_true rfl)
  rw [lg_entry_eq]
  generalize (lg_sl ([.ref q_Md, .int v1, .int v2, .int v3]) ++ List.replicate (6 - (lg_sl ([.ref q_Md, .int v1, .int v2, .int v3])).length) Slot.unset).toArray = ls at hl ⊢
  have hl : lv_has ls 6 [(0, .ref q_Md), (1, .int v1), (2, .int v2), (3, .int v3)] := hl
  exact k_X12_friends_0 ⟨hx, hb, hr, hml, hown, hts, hlocks, hG, hA⟩ N res q_Md q_mprimes q_mtable q_mtext q_mtold q_mstretch q_mfewest q_misOdd q_misHigh q_misTop q_mbits q_mpile v1 v2 v3 m_length m_primeMany m_toldMany m_fate m_tail m_round m_tableKind m_areLaid m_unlike m_isFree a_mprimes a_mtable  h _ _ hP hD hS _ hl
abbrev rm_X12_reached : Room := { frames := 4, cells := 0, slots := 0, locals := 107 }
theorem hd_X12_reached : yX12_reached.cls ≠ "java/lang/invoke/MethodHandle" ∧ yX12_reached.cls ≠ "java/lang/invoke/VarHandle" ∧ (parseMethodDescriptor yX12_reached.desc).map (fun d => d.parameters.length) = some 3 := by decide +kernel
theorem iw_X12_reached_X12 : ∀ w ∈ wsX120, w ∈ wsX12_reached := List.forall_mem_cons.mpr ⟨List.mem_of_getElem? (i := 32) rfl, List.forall_mem_cons.mpr ⟨List.mem_of_getElem? (i := 33) rfl, List.forall_mem_cons.mpr ⟨List.mem_of_getElem? (i := 34) rfl, List.forall_mem_cons.mpr ⟨List.mem_of_getElem? (i := 35) rfl, List.forall_mem_cons.mpr ⟨List.mem_of_getElem? (i := 36) rfl, List.forall_mem_cons.mpr ⟨List.mem_of_getElem? (i := 37) rfl, List.forall_mem_cons.mpr ⟨List.mem_of_getElem? (i := 38) rfl, List.forall_mem_cons.mpr ⟨List.mem_of_getElem? (i := 39) rfl, List.forall_mem_cons.mpr ⟨List.mem_of_getElem? (i := 40) rfl, List.forall_mem_cons.mpr ⟨List.mem_of_getElem? (i := 41) rfl, List.forall_mem_cons.mpr ⟨List.mem_of_getElem? (i := 42) rfl, List.forall_mem_cons.mpr ⟨List.mem_of_getElem? (i := 43) rfl, List.forall_mem_cons.mpr ⟨List.mem_of_getElem? (i := 44) rfl, List.forall_mem_cons.mpr ⟨List.mem_of_getElem? (i := 45) rfl, List.forall_mem_cons.mpr ⟨List.mem_of_getElem? (i := 46) rfl, List.forall_mem_cons.mpr ⟨List.mem_of_getElem? (i := 47) rfl, List.forall_mem_cons.mpr ⟨List.mem_of_getElem? (i := 48) rfl, List.forall_mem_cons.mpr ⟨List.mem_of_getElem? (i := 49) rfl, List.forall_mem_cons.mpr ⟨List.mem_of_getElem? (i := 50) rfl, List.forall_mem_cons.mpr ⟨List.mem_of_getElem? (i := 51) rfl, List.forall_mem_cons.mpr ⟨List.mem_of_getElem? (i := 52) rfl, fun _ h => absurd h List.not_mem_nil⟩⟩⟩⟩⟩⟩⟩⟩⟩⟩⟩⟩⟩⟩⟩⟩⟩⟩⟩⟩⟩
def s_X12_reached_41 (N : Nat) (v1 : Int32) (v2 : Int32) (v3 : Int32) (m_primeMany : Int32) (m_tableKind : Int32) (a_mprimes : Nat → Int64) (a_mtable : Nat → Int32) (k_41 : (Int32) → Option (Int32 × Int32 × Int32 × (Nat → Int64) × (Nat → Int32))) (v4 : Int32) : Option (Int32 × Int32 × Int32 × (Nat → Int64) × (Nat → Int32)) :=
  if v3 < v4 then
    some ((-4 : Int32), m_primeMany, m_tableKind, a_mprimes, a_mtable)
  else
    if v4 < 0 ∨ 50001 ≤ v4.toNatClampNeg then
      none
    else
      if (((a_mtable v4.toNatClampNeg).toInt64) * v2.toInt64) < (v1.toInt64 * v4.toInt64) then
        xl (v4 + (1 : Int32)) fun y19z =>
        k_41 y19z
      else
        some (v4, m_primeMany, m_tableKind, a_mprimes, a_mtable)
def l_X12_reached_41 (N : Nat) (v1 : Int32) (v2 : Int32) (v3 : Int32) (m_primeMany : Int32) (m_tableKind : Int32) (a_mprimes : Nat → Int64) (a_mtable : Nat → Int32) (n : Nat) (z : Int32) : Option (Int32 × Int32 × Int32 × (Nat → Int64) × (Nat → Int32)) := lp (fun k z => s_X12_reached_41 N v1 v2 v3 m_primeMany m_tableKind a_mprimes a_mtable k z) n z
set_option maxRecDepth 100000 in
set_option maxHeartbeats 4000000 in
theorem k_X12_reached_41 {p : Program} {l : Launch} {e : Env} {s : State} {m : MethodId} {args : Array Value} {below : List Frame} {meth : Method} {c : Code} {dC : Nat → ClassId} {dI : Nat → Nat → Nat} {cyI cyJ cyZ : ClassId} {A : Nat → Prop} (C0 : mC p s m meth c args cX12_reached (some .int) 5 RX12 wsX12_reached (gK dC dI cyI cyJ cyZ) A) (N : Nat) (res : Int32 × Int32 × Int32 × (Nat → Int64) × (Nat → Int32)) (q_Md : Nat) (q_mprimes : Nat) (q_mtable : Nat) (q_mtext : Nat) (q_mtold : Nat) (q_mstretch : Nat) (q_mfewest : Nat) (q_misOdd : Nat) (q_misHigh : Nat) (q_misTop : Nat) (q_mbits : Nat) (q_mpile : Nat) (v1 : Int32) (v2 : Int32) (v3 : Int32) (m_length : Int32) (m_primeMany : Int32) (m_toldMany : Int32) (m_fate : Int32) (m_tail : Int32) (m_round : Int32) (m_tableKind : Int32) (m_areLaid : Int32) (m_unlike : Int32) (m_isFree : Int32) (a_mprimes : Nat → Int64) (a_mtable : Nat → Int32) : ∀ (n : Nat) (v4 : Int32), l_X12_reached_41 N v1 v2 v3 m_primeMany m_tableKind a_mprimes a_mtable n v4 = some res → ∀ (H : Heap) (locs : List Loc), va_P (dC, dI) vwCl (wd58 cyI cyJ cyZ q_Md q_mprimes q_mtable q_mtext q_mtold q_mstretch q_mfewest q_misOdd q_misHigh q_misTop q_mbits q_mpile m_length m_primeMany m_toldMany m_fate m_tail m_round m_tableKind m_areLaid m_unlike m_isFree a_mprimes a_mtable) H → va_D A (wd58 cyI cyJ cyZ q_Md q_mprimes q_mtable q_mtext q_mtold q_mstretch q_mfewest q_misOdd q_misHigh q_misTop q_mbits q_mpile m_length m_primeMany m_toldMany m_fate m_tail m_round m_tableKind m_areLaid m_unlike m_isFree a_mprimes a_mtable) → va_S A s.heap H locs → ∀ (ls : Array Slot), lv_has ls 5 [(0, .ref q_Md), (1, .int v1), (2, .int v2), (3, .int v3), (4, .int v4)] → W p l e (headSpec wsX12_reached rm_X12_reached).room s m args below meth c H locs 0 0 (MQ below (va_Qi (fun (r : Int32) (_ : Unit) => r = res.1) (bW dC dI (fun (u : Unit) => (wd58 cyI cyJ cyZ q_Md q_mprimes q_mtable q_mtext q_mtold q_mstretch q_mfewest q_misOdd q_misHigh q_misTop q_mbits q_mpile m_length res.2.1 m_toldMany m_fate m_tail m_round res.2.2.1 m_areLaid m_unlike m_isFree res.2.2.2.1 res.2.2.2.2)) A) A) args s 0 0 A) (F0 m 41 ls []) := by
  obtain ⟨hx, hb, hr, hml, hown, hts, hlocks, hG, hA⟩ := id C0
  have hK := hG.1
  intro n
  induction n with
  | zero =>
    intro v4 h
    cases h
  | succ n ih =>
    intro v4 h H locs hP hD hS ls hl
    have h : s_X12_reached_41 N v1 v2 v3 m_primeMany m_tableKind a_mprimes a_mtable (l_X12_reached_41 N v1 v2 v3 m_primeMany m_tableKind a_mprimes a_mtable n) v4 = some res := h
    unfold s_X12_reached_41 at h
    refine lv_iload hx hb dX12_reached_41 (lv_at hl 4 rfl) ?_
    refine lv_iload_n hx hb dX12_reached_43 rfl (lv_at hl 3 rfl) ?_
    refine lv_icmp_gt (tgt := 77) hx hb dX12_reached_44 (by decide) (fun c16z => ?_) (fun c16z => ?_)
    · have h := xt h c16z
      refine lv_bipush (v := (-4 : Int32)) hx hb dX12_reached_77 (by decide) ?_
      obtain rfl := Option.some.inj h
      exact W.iret (v := (-4 : Int32)) hx hb hr (fun t ht hW => ⟨⟨_, (), rfl, rfl, by rw [ht]; exact hP, hD⟩, hS.F ht⟩) hS.2.2 dX12_reached_79 hlocks
    · have h := xf h c16z
      refine lv_aload_n hx hb dX12_reached_47 rfl (lv_at hl 0 rfl) ?_
      refine va_get (D := (dC, dI)) (ci := 12) (v := .ref q_mtable) (C := RX12) (T := TX12) (N := 21) hx hb hts iw_X12_reached_X12 hown hK hP 0 rfl rfl 10 (by decide) (hts (.fieldLink RX12 21 "GoesIntoModel" "table" "[I") (List.mem_of_getElem? (i := 2) rfl)) (fun _ h9 => h9) rfl dX12_reached_48 ?_
      refine lv_iload hx hb dX12_reached_51 (lv_at hl 4 rfl) ?_
      obtain ⟨b17z, h⟩ := xn h
      refine va_iald hx hb hK hP 2 0 rfl rfl b17z dX12_reached_53 ?_
      refine lv_i2l (v := (a_mtable v4.toNatClampNeg).toInt64) hx hb dX12_reached_54 rfl ?_
      refine lv_iload_n hx hb dX12_reached_55 rfl (lv_at hl 2 rfl) ?_
      refine lv_i2l (v := v2.toInt64) hx hb dX12_reached_56 rfl ?_
      refine lv_lmul hx hb dX12_reached_57 ?_
      refine lv_iload_n hx hb dX12_reached_58 rfl (lv_at hl 1 rfl) ?_
      refine lv_i2l (v := v1.toInt64) hx hb dX12_reached_59 rfl ?_
      refine lv_iload hx hb dX12_reached_60 (lv_at hl 4 rfl) ?_
      refine lv_i2l (v := v4.toInt64) hx hb dX12_reached_62 rfl ?_
      refine lv_lmul hx hb dX12_reached_63 ?_
      refine W.lcmp hx hb dX12_reached_64 ?_
      refine lv_if_lt (tgt := 71) hx hb dX12_reached_65 (by decide) (fun c18z => ?_) (fun c18z => ?_)
      · have c18z := (lg_cmp_lt _ _).mp c18z
        have h := xt h c18z
        obtain ⟨y19z, ey19z⟩ : ∃ z : Int32, z = v4 + (1 : Int32) := ⟨_, rfl⟩
        have h := xl_at h ey19z
        refine lv_iinc (v := y19z) (lv' := [(4, .int y19z), (0, .ref q_Md), (1, .int v1), (2, .int v2), (3, .int v3)]) hx hb dX12_reached_71 hl (k := 4) rfl (by rw [ey19z]; rfl) (by decide) rfl (fun ls hl => ?_)
        refine lv_goto (tgt := 41) hx hb dX12_reached_74 (by decide) ?_
        exact ih y19z h _ _ hP hD hS _ (lv_sub hl [1, 2, 3, 4, 0] rfl)
      · have c18z := fun z => c18z ((lg_cmp_lt _ _).mpr z)
        have h := xf h c18z
        refine lv_iload hx hb dX12_reached_68 (lv_at hl 4 rfl) ?_
        obtain rfl := Option.some.inj h
        exact W.iret (v := v4) hx hb hr (fun t ht hW => ⟨⟨_, (), rfl, rfl, by rw [ht]; exact hP, hD⟩, hS.F ht⟩) hS.2.2 dX12_reached_70 hlocks
def f_X12_reached (N : Nat) (v1 : Int32) (v2 : Int32) (v3 : Int32) (m_primeMany : Int32) (m_tableKind : Int32) (a_mprimes : Nat → Int64) (a_mtable : Nat → Int32) : Option (Int32 × Int32 × Int32 × (Nat → Int64) × (Nat → Int32)) :=
  Option.bind (f_X12_in N v1.toInt64 (1 : Int64) (1000 : Int64)) fun r1z =>
  if r1z = 0 then
    some ((-1 : Int32), m_primeMany, m_tableKind, a_mprimes, a_mtable)
  else
    Option.bind (f_X12_in N v2.toInt64 (1 : Int64) (1000 : Int64)) fun r5z =>
    if r5z = 0 then
      some ((-1 : Int32), m_primeMany, m_tableKind, a_mprimes, a_mtable)
    else
      Option.bind (f_X12_isBound N v3) fun r9z =>
      if r9z = 0 then
        some ((-1 : Int32), m_primeMany, m_tableKind, a_mprimes, a_mtable)
      else
        Option.bind (f_X12_layTable N (0 : Int32) m_primeMany m_tableKind a_mprimes a_mtable) fun r13z =>
        l_X12_reached_41 N v1 v2 v3 r13z.1 r13z.2.1 r13z.2.2.1 r13z.2.2.2 N (1 : Int32)
set_option maxRecDepth 100000 in
set_option maxHeartbeats 4000000 in
theorem k_X12_reached_0 {p : Program} {l : Launch} {e : Env} {s : State} {m : MethodId} {args : Array Value} {below : List Frame} {meth : Method} {c : Code} {dC : Nat → ClassId} {dI : Nat → Nat → Nat} {cyI cyJ cyZ : ClassId} {A : Nat → Prop} (C0 : mC p s m meth c args cX12_reached (some .int) 5 RX12 wsX12_reached (gK dC dI cyI cyJ cyZ) A) (N : Nat) (res : Int32 × Int32 × Int32 × (Nat → Int64) × (Nat → Int32)) (q_Md : Nat) (q_mprimes : Nat) (q_mtable : Nat) (q_mtext : Nat) (q_mtold : Nat) (q_mstretch : Nat) (q_mfewest : Nat) (q_misOdd : Nat) (q_misHigh : Nat) (q_misTop : Nat) (q_mbits : Nat) (q_mpile : Nat) (v1 : Int32) (v2 : Int32) (v3 : Int32) (m_length : Int32) (m_primeMany : Int32) (m_toldMany : Int32) (m_fate : Int32) (m_tail : Int32) (m_round : Int32) (m_tableKind : Int32) (m_areLaid : Int32) (m_unlike : Int32) (m_isFree : Int32) (a_mprimes : Nat → Int64) (a_mtable : Nat → Int32) (h : f_X12_reached N v1 v2 v3 m_primeMany m_tableKind a_mprimes a_mtable = some res) : ∀ (H : Heap) (locs : List Loc), va_P (dC, dI) vwCl (wd58 cyI cyJ cyZ q_Md q_mprimes q_mtable q_mtext q_mtold q_mstretch q_mfewest q_misOdd q_misHigh q_misTop q_mbits q_mpile m_length m_primeMany m_toldMany m_fate m_tail m_round m_tableKind m_areLaid m_unlike m_isFree a_mprimes a_mtable) H → va_D A (wd58 cyI cyJ cyZ q_Md q_mprimes q_mtable q_mtext q_mtold q_mstretch q_mfewest q_misOdd q_misHigh q_misTop q_mbits q_mpile m_length m_primeMany m_toldMany m_fate m_tail m_round m_tableKind m_areLaid m_unlike m_isFree a_mprimes a_mtable) → va_S A s.heap H locs → ∀ (ls : Array Slot), lv_has ls 5 [(0, .ref q_Md), (1, .int v1), (2, .int v2), (3, .int v3)] → W p l e (headSpec wsX12_reached rm_X12_reached).room s m args below meth c H locs 0 0 (MQ below (va_Qi (fun (r : Int32) (_ : Unit) => r = res.1) (bW dC dI (fun (u : Unit) => (wd58 cyI cyJ cyZ q_Md q_mprimes q_mtable q_mtext q_mtold q_mstretch q_mfewest q_misOdd q_misHigh q_misTop q_mbits q_mpile m_length res.2.1 m_toldMany m_fate m_tail m_round res.2.2.1 m_areLaid m_unlike m_isFree res.2.2.2.1 res.2.2.2.2)) A) A) args s 0 0 A) (F0 m 0 ls []) := by
  obtain ⟨hx, hb, hr, hml, hown, hts, hlocks, hG, hA⟩ := id C0
  have hK := hG.1
  intro H locs hP hD hS ls hl
  unfold f_X12_reached at h
  refine lv_iload_n hx hb dX12_reached_0 rfl (lv_at hl 1 rfl) ?_
  refine lv_i2l (v := v1.toInt64) hx hb dX12_reached_1 rfl ?_
  refine lv_lconst (v := (1 : Int64)) hx hb dX12_reached_2 (by decide) ?_
  refine lv_ldc2 (v := (1000 : Int64)) hx hb hown (hts (.constantLong RX12 122 (1000)) (List.mem_of_getElem? (i := 1) rfl)) dX12_reached_3 ?_
  obtain ⟨r1z, hr1z, h⟩ := xb_at h
  have hPc := hP.sub (ws' := (wd37 cyI cyJ cyZ)) [] rfl
  have hDc := hD.sub (ws' := (wd37 cyI cyJ cyZ)) [] (by decide) rfl
  refine cal_i [] [0, 1, 2] (va_runS (As := [.long v1.toInt64, .long (1 : Int64), .long (1000 : Int64)]) (rest := []) ⟨hx, hb, hml, hown, hts⟩ (c_X12_in l dC dI cyI cyJ cyZ N r1z H.size  v1.toInt64 (1 : Int64) (1000 : Int64)  hr1z) (va_cwS 3 hts gX12_reached_X12_in rfl rfl rfl hd_X12_in ⟨Nat.le_of_ble_eq_true rfl, Nat.le_of_ble_eq_true rfl⟩) ⟨pC.blind, pC.pre hPc hG hDc⟩ rfl rfl hl.1 rfl (lv_room (Nat.le_of_ble_eq_true rfl)) dX12_reached_6 ⟨Nat.zero_le _, Nat.zero_le _⟩) hP hD hS hA rfl rfl rfl (by decide) (fun x3z u2z H locs hw hP hD hS => ?_)
  obtain rfl := hw.symm
  have hP : va_P (dC, dI) vwCl (wd58 cyI cyJ cyZ q_Md q_mprimes q_mtable q_mtext q_mtold q_mstretch q_mfewest q_misOdd q_misHigh q_misTop q_mbits q_mpile m_length m_primeMany m_toldMany m_fate m_tail m_round m_tableKind m_areLaid m_unlike m_isFree a_mprimes a_mtable) H := hP.sub [0, 1, 2] rfl
  have hD : va_D A (wd58 cyI cyJ cyZ q_Md q_mprimes q_mtable q_mtext q_mtold q_mstretch q_mfewest q_misOdd q_misHigh q_misTop q_mbits q_mpile m_length m_primeMany m_toldMany m_fate m_tail m_round m_tableKind m_areLaid m_unlike m_isFree a_mprimes a_mtable) := hD.sub [0, 1, 2] (by decide) rfl
  refine lv_if_eq (tgt := 31) hx hb dX12_reached_9 (by decide) (fun c4z => ?_) (fun c4z => ?_)
  · have h := xt h c4z
    refine lv_iconst (v := (-1 : Int32)) hx hb dX12_reached_31 (by decide) ?_
    obtain rfl := Option.some.inj h
    exact W.iret (v := (-1 : Int32)) hx hb hr (fun t ht hW => ⟨⟨_, (), rfl, rfl, by rw [ht]; exact hP, hD⟩, hS.F ht⟩) hS.2.2 dX12_reached_32 hlocks
  · have h := xf h c4z
    refine lv_iload_n hx hb dX12_reached_12 rfl (lv_at hl 2 rfl) ?_
    refine lv_i2l (v := v2.toInt64) hx hb dX12_reached_13 rfl ?_
    refine lv_lconst (v := (1 : Int64)) hx hb dX12_reached_14 (by decide) ?_
    refine lv_ldc2 (v := (1000 : Int64)) hx hb hown (hts (.constantLong RX12 122 (1000)) (List.mem_of_getElem? (i := 1) rfl)) dX12_reached_15 ?_
    obtain ⟨r5z, hr5z, h⟩ := xb_at h
    have hPc := hP.sub (ws' := (wd37 cyI cyJ cyZ)) [] rfl
    have hDc := hD.sub (ws' := (wd37 cyI cyJ cyZ)) [] (by decide) rfl
    refine cal_i [] [0, 1, 2] (va_runS (As := [.long v2.toInt64, .long (1 : Int64), .long (1000 : Int64)]) (rest := []) ⟨hx, hb, hml, hown, hts⟩ (c_X12_in l dC dI cyI cyJ cyZ N r5z H.size  v2.toInt64 (1 : Int64) (1000 : Int64)  hr5z) (va_cwS 3 hts gX12_reached_X12_in rfl rfl rfl hd_X12_in ⟨Nat.le_of_ble_eq_true rfl, Nat.le_of_ble_eq_true rfl⟩) ⟨pC.blind, pC.pre hPc hG hDc⟩ rfl rfl hl.1 rfl (lv_room (Nat.le_of_ble_eq_true rfl)) dX12_reached_18 ⟨Nat.zero_le _, Nat.zero_le _⟩) hP hD hS hA rfl rfl rfl (by decide) (fun x7z u6z H locs hw hP hD hS => ?_)
    obtain rfl := hw.symm
    have hP : va_P (dC, dI) vwCl (wd58 cyI cyJ cyZ q_Md q_mprimes q_mtable q_mtext q_mtold q_mstretch q_mfewest q_misOdd q_misHigh q_misTop q_mbits q_mpile m_length m_primeMany m_toldMany m_fate m_tail m_round m_tableKind m_areLaid m_unlike m_isFree a_mprimes a_mtable) H := hP.sub [0, 1, 2] rfl
    have hD : va_D A (wd58 cyI cyJ cyZ q_Md q_mprimes q_mtable q_mtext q_mtold q_mstretch q_mfewest q_misOdd q_misHigh q_misTop q_mbits q_mpile m_length m_primeMany m_toldMany m_fate m_tail m_round m_tableKind m_areLaid m_unlike m_isFree a_mprimes a_mtable) := hD.sub [0, 1, 2] (by decide) rfl
    refine lv_if_eq (tgt := 31) hx hb dX12_reached_21 (by decide) (fun c8z => ?_) (fun c8z => ?_)
    · have h := xt h c8z
      refine lv_iconst (v := (-1 : Int32)) hx hb dX12_reached_31 (by decide) ?_
      obtain rfl := Option.some.inj h
      exact W.iret (v := (-1 : Int32)) hx hb hr (fun t ht hW => ⟨⟨_, (), rfl, rfl, by rw [ht]; exact hP, hD⟩, hS.F ht⟩) hS.2.2 dX12_reached_32 hlocks
    · have h := xf h c8z
      refine lv_iload_n hx hb dX12_reached_24 rfl (lv_at hl 3 rfl) ?_
      obtain ⟨r9z, hr9z, h⟩ := xb_at h
      have hPc := hP.sub (ws' := (wd37 cyI cyJ cyZ)) [] rfl
      have hDc := hD.sub (ws' := (wd37 cyI cyJ cyZ)) [] (by decide) rfl
      refine cal_i [] [0, 1, 2] (va_runS (As := [.int v3]) (rest := []) ⟨hx, hb, hml, hown, hts⟩ (c_X12_isBound l dC dI cyI cyJ cyZ N r9z H.size  v3  hr9z) (va_cwS 1 hts gX12_reached_X12_isBound rfl rfl rfl hd_X12_isBound ⟨Nat.le_of_ble_eq_true rfl, Nat.le_of_ble_eq_true rfl⟩) ⟨pC.blind, pC.pre hPc hG hDc⟩ rfl rfl hl.1 rfl (lv_room (Nat.le_of_ble_eq_true rfl)) dX12_reached_25 ⟨Nat.zero_le _, Nat.zero_le _⟩) hP hD hS hA rfl rfl rfl (by decide) (fun x11z u10z H locs hw hP hD hS => ?_)
      obtain rfl := hw.symm
      have hP : va_P (dC, dI) vwCl (wd58 cyI cyJ cyZ q_Md q_mprimes q_mtable q_mtext q_mtold q_mstretch q_mfewest q_misOdd q_misHigh q_misTop q_mbits q_mpile m_length m_primeMany m_toldMany m_fate m_tail m_round m_tableKind m_areLaid m_unlike m_isFree a_mprimes a_mtable) H := hP.sub [0, 1, 2] rfl
      have hD : va_D A (wd58 cyI cyJ cyZ q_Md q_mprimes q_mtable q_mtext q_mtold q_mstretch q_mfewest q_misOdd q_misHigh q_misTop q_mbits q_mpile m_length m_primeMany m_toldMany m_fate m_tail m_round m_tableKind m_areLaid m_unlike m_isFree a_mprimes a_mtable) := hD.sub [0, 1, 2] (by decide) rfl
      refine lv_if_ne (tgt := 33) hx hb dX12_reached_28 (by decide) (fun c12z => ?_) (fun c12z => ?_)
      · have h := xf h c12z
        refine lv_aload_n hx hb dX12_reached_33 rfl (lv_at hl 0 rfl) ?_
        refine lv_iconst (v := (0 : Int32)) hx hb dX12_reached_34 (by decide) ?_
        obtain ⟨r13z, hr13z, h⟩ := xb_at h
        have hPc := hP.sub (ws' := (wd58 cyI cyJ cyZ q_Md q_mprimes q_mtable q_mtext q_mtold q_mstretch q_mfewest q_misOdd q_misHigh q_misTop q_mbits q_mpile m_length m_primeMany m_toldMany m_fate m_tail m_round m_tableKind m_areLaid m_unlike m_isFree a_mprimes a_mtable)) [0, 1, 2] rfl
        have hDc := hD.sub (ws' := (wd58 cyI cyJ cyZ q_Md q_mprimes q_mtable q_mtext q_mtold q_mstretch q_mfewest q_misOdd q_misHigh q_misTop q_mbits q_mpile m_length m_primeMany m_toldMany m_fate m_tail m_round m_tableKind m_areLaid m_unlike m_isFree a_mprimes a_mtable)) [0, 1, 2] (by decide) rfl
        refine cal_v [0, 1, 2] [] (va_runV (As := [.int (0 : Int32)]) (rest := []) ⟨hx, hb, hml, hown, hts⟩ (c_X12_layTable l dC dI cyI cyJ cyZ N r13z H.size q_Md q_mprimes q_mtable q_mtext q_mtold q_mstretch q_mfewest q_misOdd q_misHigh q_misTop q_mbits q_mpile (0 : Int32) m_length m_primeMany m_toldMany m_fate m_tail m_round m_tableKind m_areLaid m_unlike m_isFree a_mprimes a_mtable hr13z) (cwV 1 hts gX12_reached_X12_layTable rfl rfl rfl ⟨rfl, hd_X12_layTable⟩ ⟨Nat.le_of_ble_eq_true rfl, Nat.le_of_ble_eq_true rfl⟩) ⟨pC.blind, va_recv hK hPc (ci := 12) (q0 := 0) rfl rfl, pC.pre hPc hG hDc⟩ rfl rfl hl.1 rfl (lv_room (Nat.le_of_ble_eq_true rfl)) dX12_reached_35 ⟨Nat.zero_le _, Nat.zero_le _⟩) hP hD hS hA rfl rfl rfl (by decide) (fun u14z H locs _ hP hD hS => ?_)
        have hP : va_P (dC, dI) vwCl (wd58 cyI cyJ cyZ q_Md q_mprimes q_mtable q_mtext q_mtold q_mstretch q_mfewest q_misOdd q_misHigh q_misTop q_mbits q_mpile m_length r13z.1 m_toldMany m_fate m_tail m_round r13z.2.1 m_areLaid m_unlike m_isFree r13z.2.2.1 r13z.2.2.2) H := hP.sub [0, 1, 2] rfl
        have hD : va_D A (wd58 cyI cyJ cyZ q_Md q_mprimes q_mtable q_mtext q_mtold q_mstretch q_mfewest q_misOdd q_misHigh q_misTop q_mbits q_mpile m_length r13z.1 m_toldMany m_fate m_tail m_round r13z.2.1 m_areLaid m_unlike m_isFree r13z.2.2.1 r13z.2.2.2) := hD.sub [0, 1, 2] (by decide) rfl
        refine lv_iconst (v := (1 : Int32)) hx hb dX12_reached_38 (by decide) ?_
        refine lv_istore (lv' := [(4, .int (1 : Int32)), (0, .ref q_Md), (1, .int v1), (2, .int v2), (3, .int v3)]) hx hb dX12_reached_39 hl (by decide) rfl (fun ls hl => ?_)
        exact k_X12_reached_41 C0 N res q_Md q_mprimes q_mtable q_mtext q_mtold q_mstretch q_mfewest q_misOdd q_misHigh q_misTop q_mbits q_mpile v1 v2 v3 m_length r13z.1 m_toldMany m_fate m_tail m_round r13z.2.1 m_areLaid m_unlike m_isFree r13z.2.2.1 r13z.2.2.2 N (1 : Int32) h _ _ hP hD hS _ (lv_sub hl [1, 2, 3, 4, 0] rfl)
      · have h := xt h c12z
        refine lv_iconst (v := (-1 : Int32)) hx hb dX12_reached_31 (by decide) ?_
        obtain rfl := Option.some.inj h
        exact W.iret (v := (-1 : Int32)) hx hb hr (fun t ht hW => ⟨⟨_, (), rfl, rfl, by rw [ht]; exact hP, hD⟩, hS.F ht⟩) hS.2.2 dX12_reached_32 hlocks
set_option maxRecDepth 100000 in
set_option maxHeartbeats 4000000 in
theorem c_X12_reached (l : Launch) (dC : Nat → ClassId) (dI : Nat → Nat → Nat) (cyI cyJ cyZ : ClassId) (N : Nat) (res : Int32 × Int32 × Int32 × (Nat → Int64) × (Nat → Int32)) (sz : Nat) (q_Md : Nat) (q_mprimes : Nat) (q_mtable : Nat) (q_mtext : Nat) (q_mtold : Nat) (q_mstretch : Nat) (q_mfewest : Nat) (q_misOdd : Nat) (q_misHigh : Nat) (q_misTop : Nat) (q_mbits : Nat) (q_mpile : Nat) (v1 : Int32) (v2 : Int32) (v3 : Int32) (m_length : Int32) (m_primeMany : Int32) (m_toldMany : Int32) (m_fate : Int32) (m_tail : Int32) (m_round : Int32) (m_tableKind : Int32) (m_areLaid : Int32) (m_unlike : Int32) (m_isFree : Int32) (a_mprimes : Nat → Int64) (a_mtable : Nat → Int32) (h : f_X12_reached N v1 v2 v3 m_primeMany m_tableKind a_mprimes a_mtable = some res) : Met l yX12_reached wsX12_reached rm_X12_reached (pC dC dI cyI cyJ cyZ [.ref q_Md, .int v1, .int v2, .int v3] sz (wd58 cyI cyJ cyZ q_Md q_mprimes q_mtable q_mtext q_mtold q_mstretch q_mfewest q_misOdd q_misHigh q_misTop q_mbits q_mpile m_length m_primeMany m_toldMany m_fate m_tail m_round m_tableKind m_areLaid m_unlike m_isFree a_mprimes a_mtable)) (va_Qi (fun (r : Int32) (_ : Unit) => r = res.1) (bW dC dI (fun (u : Unit) => (wd58 cyI cyJ cyZ q_Md q_mprimes q_mtable q_mtext q_mtold q_mstretch q_mfewest q_misOdd q_misHigh q_misTop q_mbits q_mpile m_length res.2.1 m_toldMany m_fate m_tail m_round res.2.2.1 m_areLaid m_unlike m_isFree res.2.2.2.1 res.2.2.2.2)) (va_A (wd58 cyI cyJ cyZ q_Md q_mprimes q_mtable q_mtext q_mtold q_mstretch q_mfewest q_misOdd q_misHigh q_misTop q_mbits q_mpile m_length m_primeMany m_toldMany m_fate m_tail m_round m_tableKind m_areLaid m_unlike m_isFree a_mprimes a_mtable) sz)) (va_A (wd58 cyI cyJ cyZ q_Md q_mprimes q_mtable q_mtext q_mtold q_mstretch q_mfewest q_misOdd q_misHigh q_misTop q_mbits q_mpile m_length m_primeMany m_toldMany m_fate m_tail m_round m_tableKind m_areLaid m_unlike m_isFree a_mprimes a_mtable) sz)) 0 0 (va_A (wd58 cyI cyJ cyZ q_Md q_mprimes q_mtable q_mtext q_mtold q_mstretch q_mfewest q_misOdd q_misHigh q_misTop q_mbits q_mpile m_length m_primeMany m_toldMany m_fate m_tail m_round m_tableKind m_areLaid m_unlike m_isFree a_mprimes a_mtable) sz) := by
  refine Met.ofW (cc := cX12_reached) (maxL := 5) (ret := (some .int)) (by decide) rfl ?_
  intro p e s m args below meth c s₁ B hml hv
  obtain ⟨rfl, hsz, hP, hG, hD0⟩ := hv
  have hx := B.exec
  have hb := B.bytes
  have hr := B.returns
  have hts := atoms_spec (ws := wsX12_reached) B.pre
  have hown : s.vm.findClass RX12 = some m.cls := findClass_of_methodNamed B.named
  have hlocks := B.notSynchronized
  subst hsz
  have hD := hD0.self (sz := s.heap.size)
  generalize hAe : va_A (wd58 cyI cyJ cyZ q_Md q_mprimes q_mtable q_mtext q_mtold q_mstretch q_mfewest q_misOdd q_misHigh q_misTop q_mbits q_mpile m_length m_primeMany m_toldMany m_fate m_tail m_round m_tableKind m_areLaid m_unlike m_isFree a_mprimes a_mtable) s.heap.size = A at hD ⊢
  have hA : ∀ q : Nat, s.heap.size ≤ q → A q := fun q h => by rw [← hAe]; exact Or.inr h
  have hS : va_S A s.heap s.heap [] := va_S.rf
  have hl := lv_entry ([.ref q_Md, .int v1, .int v2, .int v3]) (n := 5) (Nat.le_of_ble_eq_true rfl)
  rw [lg_entry_eq]
  generalize (lg_sl ([.ref q_Md, .int v1, .int v2, .int v3]) ++ List.replicate (5 - (lg_sl ([.ref q_Md, .int v1, .int v2, .int v3])).length) Slot.unset).toArray = ls at hl ⊢
  have hl : lv_has ls 5 [(0, .ref q_Md), (1, .int v1), (2, .int v2), (3, .int v3)] := hl
  exact k_X12_reached_0 ⟨hx, hb, hr, hml, hown, hts, hlocks, hG, hA⟩ N res q_Md q_mprimes q_mtable q_mtext q_mtold q_mstretch q_mfewest q_misOdd q_misHigh q_misTop q_mbits q_mpile v1 v2 v3 m_length m_primeMany m_toldMany m_fate m_tail m_round m_tableKind m_areLaid m_unlike m_isFree a_mprimes a_mtable  h _ _ hP hD hS _ hl
abbrev rm_X12_records : Room := { frames := 4, cells := 0, slots := 0, locals := 107 }
theorem hd_X12_records : yX12_records.cls ≠ "java/lang/invoke/MethodHandle" ∧ yX12_records.cls ≠ "java/lang/invoke/VarHandle" ∧ (parseMethodDescriptor yX12_records.desc).map (fun d => d.parameters.length) = some 3 := by decide +kernel
theorem iw_X12_records_X12 : ∀ w ∈ wsX120, w ∈ wsX12_records := List.forall_mem_cons.mpr ⟨List.mem_of_getElem? (i := 31) rfl, List.forall_mem_cons.mpr ⟨List.mem_of_getElem? (i := 32) rfl, List.forall_mem_cons.mpr ⟨List.mem_of_getElem? (i := 33) rfl, List.forall_mem_cons.mpr ⟨List.mem_of_getElem? (i := 34) rfl, List.forall_mem_cons.mpr ⟨List.mem_of_getElem? (i := 35) rfl, List.forall_mem_cons.mpr ⟨List.mem_of_getElem? (i := 36) rfl, List.forall_mem_cons.mpr ⟨List.mem_of_getElem? (i := 37) rfl, List.forall_mem_cons.mpr ⟨List.mem_of_getElem? (i := 38) rfl, List.forall_mem_cons.mpr ⟨List.mem_of_getElem? (i := 39) rfl, List.forall_mem_cons.mpr ⟨List.mem_of_getElem? (i := 40) rfl, List.forall_mem_cons.mpr ⟨List.mem_of_getElem? (i := 41) rfl, List.forall_mem_cons.mpr ⟨List.mem_of_getElem? (i := 42) rfl, List.forall_mem_cons.mpr ⟨List.mem_of_getElem? (i := 43) rfl, List.forall_mem_cons.mpr ⟨List.mem_of_getElem? (i := 44) rfl, List.forall_mem_cons.mpr ⟨List.mem_of_getElem? (i := 45) rfl, List.forall_mem_cons.mpr ⟨List.mem_of_getElem? (i := 46) rfl, List.forall_mem_cons.mpr ⟨List.mem_of_getElem? (i := 47) rfl, List.forall_mem_cons.mpr ⟨List.mem_of_getElem? (i := 48) rfl, List.forall_mem_cons.mpr ⟨List.mem_of_getElem? (i := 49) rfl, List.forall_mem_cons.mpr ⟨List.mem_of_getElem? (i := 50) rfl, List.forall_mem_cons.mpr ⟨List.mem_of_getElem? (i := 51) rfl, fun _ h => absurd h List.not_mem_nil⟩⟩⟩⟩⟩⟩⟩⟩⟩⟩⟩⟩⟩⟩⟩⟩⟩⟩⟩⟩⟩
def j_X12_records_135 (N : Nat) (v3 : Int32) (v4 : Int32) (m_primeMany : Int32) (m_tableKind : Int32) (a_mprimes : Nat → Int64) (a_mtable : Nat → Int32) : Option (Int32 × Int32 × Int32 × (Nat → Int64) × (Nat → Int32)) :=
  if 0 ≤ v3 then
    some ((-4 : Int32), m_primeMany, m_tableKind, a_mprimes, a_mtable)
  else
    some (v4, m_primeMany, m_tableKind, a_mprimes, a_mtable)
set_option maxRecDepth 100000 in
set_option maxHeartbeats 4000000 in
theorem k_X12_records_135 {p : Program} {l : Launch} {e : Env} {s : State} {m : MethodId} {args : Array Value} {below : List Frame} {meth : Method} {c : Code} {dC : Nat → ClassId} {dI : Nat → Nat → Nat} {cyI cyJ cyZ : ClassId} {A : Nat → Prop} (C0 : mC p s m meth c args cX12_records (some .int) 8 RX12 wsX12_records (gK dC dI cyI cyJ cyZ) A) (N : Nat) (res : Int32 × Int32 × Int32 × (Nat → Int64) × (Nat → Int32)) (q_Md : Nat) (q_mprimes : Nat) (q_mtable : Nat) (q_mtext : Nat) (q_mtold : Nat) (q_mstretch : Nat) (q_mfewest : Nat) (q_misOdd : Nat) (q_misHigh : Nat) (q_misTop : Nat) (q_mbits : Nat) (q_mpile : Nat) (v3 : Int32) (v4 : Int32) (m_length : Int32) (m_primeMany : Int32) (m_toldMany : Int32) (m_fate : Int32) (m_tail : Int32) (m_round : Int32) (m_tableKind : Int32) (m_areLaid : Int32) (m_unlike : Int32) (m_isFree : Int32) (a_mprimes : Nat → Int64) (a_mtable : Nat → Int32) (h : j_X12_records_135 N v3 v4 m_primeMany m_tableKind a_mprimes a_mtable = some res) : ∀ (H : Heap) (locs : List Loc), va_P (dC, dI) vwCl (wd58 cyI cyJ cyZ q_Md q_mprimes q_mtable q_mtext q_mtold q_mstretch q_mfewest q_misOdd q_misHigh q_misTop q_mbits q_mpile m_length m_primeMany m_toldMany m_fate m_tail m_round m_tableKind m_areLaid m_unlike m_isFree a_mprimes a_mtable) H → va_D A (wd58 cyI cyJ cyZ q_Md q_mprimes q_mtable q_mtext q_mtold q_mstretch q_mfewest q_misOdd q_misHigh q_misTop q_mbits q_mpile m_length m_primeMany m_toldMany m_fate m_tail m_round m_tableKind m_areLaid m_unlike m_isFree a_mprimes a_mtable) → va_S A s.heap H locs → ∀ (ls : Array Slot), lv_has ls 8 [(3, .int v3), (4, .int v4)] → W p l e (headSpec wsX12_records rm_X12_records).room s m args below meth c H locs 0 0 (MQ below (va_Qi (fun (r : Int32) (_ : Unit) => r = res.1) (bW dC dI (fun (u : Unit) => (wd58 cyI cyJ cyZ q_Md q_mprimes q_mtable q_mtext q_mtold q_mstretch q_mfewest q_misOdd q_misHigh q_misTop q_mbits q_mpile m_length res.2.1 m_toldMany m_fate m_tail m_round res.2.2.1 m_areLaid m_unlike m_isFree res.2.2.2.1 res.2.2.2.2)) A) A) args s 0 0 A) (F0 m 135 ls []) := by
  obtain ⟨hx, hb, hr, hml, hown, hts, hlocks, hG, hA⟩ := id C0
  have hK := hG.1
  intro H locs hP hD hS ls hl
  unfold j_X12_records_135 at h
  refine lv_iload_n hx hb dX12_records_135 rfl (lv_at hl 0 rfl) ?_
  refine lv_if_ge (tgt := 144) hx hb dX12_records_136 (by decide) (fun c14z => ?_) (fun c14z => ?_)
  · have h := xt h c14z
    refine lv_bipush (v := (-4 : Int32)) hx hb dX12_records_144 (by decide) ?_
    obtain rfl := Option.some.inj h
    exact W.iret (v := (-4 : Int32)) hx hb hr (fun t ht hW => ⟨⟨_, (), rfl, rfl, by rw [ht]; exact hP, hD⟩, hS.F ht⟩) hS.2.2 dX12_records_146 hlocks
  · have h := xf h c14z
    refine lv_iload hx hb dX12_records_139 (lv_at hl 1 rfl) ?_
    refine lv_goto (tgt := 146) hx hb dX12_records_141 (by decide) ?_
    obtain rfl := Option.some.inj h
    exact W.iret (v := v4) hx hb hr (fun t ht hW => ⟨⟨_, (), rfl, rfl, by rw [ht]; exact hP, hD⟩, hS.F ht⟩) hS.2.2 dX12_records_146 hlocks
def j_X12_records_106 (N : Nat) (k_38 : (Int32 × Int32 × Int32) → Option (Int32 × Int32 × Int32 × (Nat → Int64) × (Nat → Int32))) (v3 : Int32) (v4 : Int32) (v5 : Int32) (v6 : Int32) (s0 : Int32) (m_primeMany : Int32) (m_tableKind : Int32) (a_mprimes : Nat → Int64) (a_mtable : Nat → Int32) : Option (Int32 × Int32 × Int32 × (Nat → Int64) × (Nat → Int32)) :=
  if s0 = 0 then
    xl (v6 + (1 : Int32)) fun y17z =>
    k_38 (v4, v5, y17z)
  else
    if v4 = v3 then
      some (v6, m_primeMany, m_tableKind, a_mprimes, a_mtable)
    else
      xl (v4 + (1 : Int32)) fun y19z =>
      xl (v6 + (1 : Int32)) fun y20z =>
      k_38 (y19z, v6, y20z)
set_option maxRecDepth 100000 in
set_option maxHeartbeats 4000000 in
theorem k_X12_records_106 {p : Program} {l : Launch} {e : Env} {s : State} {m : MethodId} {args : Array Value} {below : List Frame} {meth : Method} {c : Code} {dC : Nat → ClassId} {dI : Nat → Nat → Nat} {cyI cyJ cyZ : ClassId} {A : Nat → Prop} (C0 : mC p s m meth c args cX12_records (some .int) 8 RX12 wsX12_records (gK dC dI cyI cyJ cyZ) A) (N : Nat) (res : Int32 × Int32 × Int32 × (Nat → Int64) × (Nat → Int32)) (q_Md : Nat) (q_mprimes : Nat) (q_mtable : Nat) (q_mtext : Nat) (q_mtold : Nat) (q_mstretch : Nat) (q_mfewest : Nat) (q_misOdd : Nat) (q_misHigh : Nat) (q_misTop : Nat) (q_mbits : Nat) (q_mpile : Nat) (v1 : Int32) (v2 : Int32) (v3 : Int32) (s0 : Int32) (m_length : Int32) (m_primeMany : Int32) (m_toldMany : Int32) (m_fate : Int32) (m_tail : Int32) (m_round : Int32) (m_tableKind : Int32) (m_areLaid : Int32) (m_unlike : Int32) (m_isFree : Int32) (a_mprimes : Nat → Int64) (a_mtable : Nat → Int32) (k_38 : (Int32 × Int32 × Int32) → Option (Int32 × Int32 × Int32 × (Nat → Int64) × (Nat → Int32))) (hk_38 : ∀ (v4 : Int32) (v5 : Int32) (v6 : Int32), k_38 (v4, v5, v6) = some res → ∀ (H : Heap) (locs : List Loc), va_P (dC, dI) vwCl (wd58 cyI cyJ cyZ q_Md q_mprimes q_mtable q_mtext q_mtold q_mstretch q_mfewest q_misOdd q_misHigh q_misTop q_mbits q_mpile m_length m_primeMany m_toldMany m_fate m_tail m_round m_tableKind m_areLaid m_unlike m_isFree a_mprimes a_mtable) H → va_D A (wd58 cyI cyJ cyZ q_Md q_mprimes q_mtable q_mtext q_mtold q_mstretch q_mfewest q_misOdd q_misHigh q_misTop q_mbits q_mpile m_length m_primeMany m_toldMany m_fate m_tail m_round m_tableKind m_areLaid m_unlike m_isFree a_mprimes a_mtable) → va_S A s.heap H locs → ∀ (ls : Array Slot), lv_has ls 8 [(0, .ref q_Md), (1, .int v1), (2, .int v2), (3, .int v3), (4, .int v4), (5, .int v5), (6, .int v6)] → W p l e (headSpec wsX12_records rm_X12_records).room s m args below meth c H locs 0 0 (MQ below (va_Qi (fun (r : Int32) (_ : Unit) => r = res.1) (bW dC dI (fun (u : Unit) => (wd58 cyI cyJ cyZ q_Md q_mprimes q_mtable q_mtext q_mtold q_mstretch q_mfewest q_misOdd q_misHigh q_misTop q_mbits q_mpile m_length res.2.1 m_toldMany m_fate m_tail m_round res.2.2.1 m_areLaid m_unlike m_isFree res.2.2.2.1 res.2.2.2.2)) A) A) args s 0 0 A) (F0 m 38 ls [])) (v4 : Int32) (v5 : Int32) (v6 : Int32) (h : j_X12_records_106 N k_38 v3 v4 v5 v6 s0 m_primeMany m_tableKind a_mprimes a_mtable = some res) : ∀ (H : Heap) (locs : List Loc), va_P (dC, dI) vwCl (wd58 cyI cyJ cyZ q_Md q_mprimes q_mtable q_mtext q_mtold q_mstretch q_mfewest q_misOdd q_misHigh q_misTop q_mbits q_mpile m_length m_primeMany m_toldMany m_fate m_tail m_round m_tableKind m_areLaid m_unlike m_isFree a_mprimes a_mtable) H → va_D A (wd58 cyI cyJ cyZ q_Md q_mprimes q_mtable q_mtext q_mtold q_mstretch q_mfewest q_misOdd q_misHigh q_misTop q_mbits q_mpile m_length m_primeMany m_toldMany m_fate m_tail m_round m_tableKind m_areLaid m_unlike m_isFree a_mprimes a_mtable) → va_S A s.heap H locs → ∀ (ls : Array Slot), lv_has ls 8 [(0, .ref q_Md), (1, .int v1), (2, .int v2), (3, .int v3), (4, .int v4), (5, .int v5), (6, .int v6)] → W p l e (headSpec wsX12_records rm_X12_records).room s m args below meth c H locs 0 0 (MQ below (va_Qi (fun (r : Int32) (_ : Unit) => r = res.1) (bW dC dI (fun (u : Unit) => (wd58 cyI cyJ cyZ q_Md q_mprimes q_mtable q_mtext q_mtold q_mstretch q_mfewest q_misOdd q_misHigh q_misTop q_mbits q_mpile m_length res.2.1 m_toldMany m_fate m_tail m_round res.2.2.1 m_areLaid m_unlike m_isFree res.2.2.2.1 res.2.2.2.2)) A) A) args s 0 0 A) (F0 m 106 ls [.int s0]) := by
  obtain ⟨hx, hb, hr, hml, hown, hts, hlocks, hG, hA⟩ := id C0
  have hK := hG.1
  intro H locs hP hD hS ls hl
  unfold j_X12_records_106 at h
  refine lv_istore (lv' := [(7, .int s0), (0, .ref q_Md), (1, .int v1), (2, .int v2), (3, .int v3), (4, .int v4), (5, .int v5), (6, .int v6)]) hx hb dX12_records_106 hl (by decide) rfl (fun ls hl => ?_)
  refine lv_iload hx hb dX12_records_108 (lv_at hl 0 rfl) ?_
  refine lv_if_eq (tgt := 129) hx hb dX12_records_110 (by decide) (fun c16z => ?_) (fun c16z => ?_)
  · have h := xt h c16z
    obtain ⟨y17z, ey17z⟩ : ∃ z : Int32, z = v6 + (1 : Int32) := ⟨_, rfl⟩
    have h := xl_at h ey17z
    refine lv_iinc (v := y17z) (lv' := [(6, .int y17z), (7, .int s0), (0, .ref q_Md), (1, .int v1), (2, .int v2), (3, .int v3), (4, .int v4), (5, .int v5)]) hx hb dX12_records_129 hl (k := 7) rfl (by rw [ey17z]; rfl) (by decide) rfl (fun ls hl => ?_)
    refine lv_goto (tgt := 38) hx hb dX12_records_132 (by decide) ?_
    exact hk_38 v4 v5 y17z h _ _ hP hD hS _ (lv_sub hl [2, 3, 4, 5, 6, 7, 0] rfl)
  · have h := xf h c16z
    refine lv_iload hx hb dX12_records_113 (lv_at hl 7 rfl) ?_
    refine lv_istore (lv' := [(5, .int v6), (7, .int s0), (0, .ref q_Md), (1, .int v1), (2, .int v2), (3, .int v3), (4, .int v4), (6, .int v6)]) hx hb dX12_records_115 hl (by decide) rfl (fun ls hl => ?_)
    refine lv_iload hx hb dX12_records_117 (lv_at hl 6 rfl) ?_
    refine lv_iload_n hx hb dX12_records_119 rfl (lv_at hl 5 rfl) ?_
    refine lv_icmp_ne (tgt := 126) hx hb dX12_records_120 (by decide) (fun c18z => ?_) (fun c18z => ?_)
    · have h := xf h c18z
      obtain ⟨y19z, ey19z⟩ : ∃ z : Int32, z = v4 + (1 : Int32) := ⟨_, rfl⟩
      have h := xl_at h ey19z
      refine lv_iinc (v := y19z) (lv' := [(4, .int y19z), (5, .int v6), (7, .int s0), (0, .ref q_Md), (1, .int v1), (2, .int v2), (3, .int v3), (6, .int v6)]) hx hb dX12_records_126 hl (k := 6) rfl (by rw [ey19z]; rfl) (by decide) rfl (fun ls hl => ?_)
      obtain ⟨y20z, ey20z⟩ : ∃ z : Int32, z = v6 + (1 : Int32) := ⟨_, rfl⟩
      have h := xl_at h ey20z
      refine lv_iinc (v := y20z) (lv' := [(6, .int y20z), (4, .int y19z), (5, .int v6), (7, .int s0), (0, .ref q_Md), (1, .int v1), (2, .int v2), (3, .int v3)]) hx hb dX12_records_129 hl (k := 7) rfl (by rw [ey20z]; rfl) (by decide) rfl (fun ls hl => ?_)
      refine lv_goto (tgt := 38) hx hb dX12_records_132 (by decide) ?_
      exact hk_38 y19z v6 y20z h _ _ hP hD hS _ (lv_sub hl [4, 5, 6, 7, 1, 2, 0] rfl)
    · have h := xt h c18z
      refine lv_iload hx hb dX12_records_123 (lv_at hl 7 rfl) ?_
      obtain rfl := Option.some.inj h
      exact W.iret (v := v6) hx hb hr (fun t ht hW => ⟨⟨_, (), rfl, rfl, by rw [ht]; exact hP, hD⟩, hS.F ht⟩) hS.2.2 dX12_records_125 hlocks
def j_X12_records_101 (N : Nat) (k_38 : (Int32 × Int32 × Int32) → Option (Int32 × Int32 × Int32 × (Nat → Int64) × (Nat → Int32))) (v3 : Int32) (v4 : Int32) (v5 : Int32) (v6 : Int32) (m_primeMany : Int32) (m_tableKind : Int32) (a_mprimes : Nat → Int64) (a_mtable : Nat → Int32) : Option (Int32 × Int32 × Int32 × (Nat → Int64) × (Nat → Int32)) :=
  j_X12_records_106 N k_38 v3 v4 v5 v6 (1 : Int32) m_primeMany m_tableKind a_mprimes a_mtable
set_option maxRecDepth 100000 in
set_option maxHeartbeats 4000000 in
theorem k_X12_records_101 {p : Program} {l : Launch} {e : Env} {s : State} {m : MethodId} {args : Array Value} {below : List Frame} {meth : Method} {c : Code} {dC : Nat → ClassId} {dI : Nat → Nat → Nat} {cyI cyJ cyZ : ClassId} {A : Nat → Prop} (C0 : mC p s m meth c args cX12_records (some .int) 8 RX12 wsX12_records (gK dC dI cyI cyJ cyZ) A) (N : Nat) (res : Int32 × Int32 × Int32 × (Nat → Int64) × (Nat → Int32)) (q_Md : Nat) (q_mprimes : Nat) (q_mtable : Nat) (q_mtext : Nat) (q_mtold : Nat) (q_mstretch : Nat) (q_mfewest : Nat) (q_misOdd : Nat) (q_misHigh : Nat) (q_misTop : Nat) (q_mbits : Nat) (q_mpile : Nat) (v1 : Int32) (v2 : Int32) (v3 : Int32) (m_length : Int32) (m_primeMany : Int32) (m_toldMany : Int32) (m_fate : Int32) (m_tail : Int32) (m_round : Int32) (m_tableKind : Int32) (m_areLaid : Int32) (m_unlike : Int32) (m_isFree : Int32) (a_mprimes : Nat → Int64) (a_mtable : Nat → Int32) (k_38 : (Int32 × Int32 × Int32) → Option (Int32 × Int32 × Int32 × (Nat → Int64) × (Nat → Int32))) (hk_38 : ∀ (v4 : Int32) (v5 : Int32) (v6 : Int32), k_38 (v4, v5, v6) = some res → ∀ (H : Heap) (locs : List Loc), va_P (dC, dI) vwCl (wd58 cyI cyJ cyZ q_Md q_mprimes q_mtable q_mtext q_mtold q_mstretch q_mfewest q_misOdd q_misHigh q_misTop q_mbits q_mpile m_length m_primeMany m_toldMany m_fate m_tail m_round m_tableKind m_areLaid m_unlike m_isFree a_mprimes a_mtable) H → va_D A (wd58 cyI cyJ cyZ q_Md q_mprimes q_mtable q_mtext q_mtold q_mstretch q_mfewest q_misOdd q_misHigh q_misTop q_mbits q_mpile m_length m_primeMany m_toldMany m_fate m_tail m_round m_tableKind m_areLaid m_unlike m_isFree a_mprimes a_mtable) → va_S A s.heap H locs → ∀ (ls : Array Slot), lv_has ls 8 [(0, .ref q_Md), (1, .int v1), (2, .int v2), (3, .int v3), (4, .int v4), (5, .int v5), (6, .int v6)] → W p l e (headSpec wsX12_records rm_X12_records).room s m args below meth c H locs 0 0 (MQ below (va_Qi (fun (r : Int32) (_ : Unit) => r = res.1) (bW dC dI (fun (u : Unit) => (wd58 cyI cyJ cyZ q_Md q_mprimes q_mtable q_mtext q_mtold q_mstretch q_mfewest q_misOdd q_misHigh q_misTop q_mbits q_mpile m_length res.2.1 m_toldMany m_fate m_tail m_round res.2.2.1 m_areLaid m_unlike m_isFree res.2.2.2.1 res.2.2.2.2)) A) A) args s 0 0 A) (F0 m 38 ls [])) (v4 : Int32) (v5 : Int32) (v6 : Int32) (h : j_X12_records_101 N k_38 v3 v4 v5 v6 m_primeMany m_tableKind a_mprimes a_mtable = some res) : ∀ (H : Heap) (locs : List Loc), va_P (dC, dI) vwCl (wd58 cyI cyJ cyZ q_Md q_mprimes q_mtable q_mtext q_mtold q_mstretch q_mfewest q_misOdd q_misHigh q_misTop q_mbits q_mpile m_length m_primeMany m_toldMany m_fate m_tail m_round m_tableKind m_areLaid m_unlike m_isFree a_mprimes a_mtable) H → va_D A (wd58 cyI cyJ cyZ q_Md q_mprimes q_mtable q_mtext q_mtold q_mstretch q_mfewest q_misOdd q_misHigh q_misTop q_mbits q_mpile m_length m_primeMany m_toldMany m_fate m_tail m_round m_tableKind m_areLaid m_unlike m_isFree a_mprimes a_mtable) → va_S A s.heap H locs → ∀ (ls : Array Slot), lv_has ls 8 [(0, .ref q_Md), (1, .int v1), (2, .int v2), (3, .int v3), (4, .int v4), (5, .int v5), (6, .int v6)] → W p l e (headSpec wsX12_records rm_X12_records).room s m args below meth c H locs 0 0 (MQ below (va_Qi (fun (r : Int32) (_ : Unit) => r = res.1) (bW dC dI (fun (u : Unit) => (wd58 cyI cyJ cyZ q_Md q_mprimes q_mtable q_mtext q_mtold q_mstretch q_mfewest q_misOdd q_misHigh q_misTop q_mbits q_mpile m_length res.2.1 m_toldMany m_fate m_tail m_round res.2.2.1 m_areLaid m_unlike m_isFree res.2.2.2.1 res.2.2.2.2)) A) A) args s 0 0 A) (F0 m 101 ls []) := by
  obtain ⟨hx, hb, hr, hml, hown, hts, hlocks, hG, hA⟩ := id C0
  have hK := hG.1
  intro H locs hP hD hS ls hl
  unfold j_X12_records_101 at h
  refine lv_iconst (v := (1 : Int32)) hx hb dX12_records_101 (by decide) ?_
  refine lv_goto (tgt := 106) hx hb dX12_records_102 (by decide) ?_
  exact k_X12_records_106 C0 N res q_Md q_mprimes q_mtable q_mtext q_mtold q_mstretch q_mfewest q_misOdd q_misHigh q_misTop q_mbits q_mpile v1 v2 v3 (1 : Int32) m_length m_primeMany m_toldMany m_fate m_tail m_round m_tableKind m_areLaid m_unlike m_isFree a_mprimes a_mtable k_38 hk_38 v4 v5 v6  h _ _ hP hD hS _ (lv_sub hl [0, 1, 2, 3, 4, 5, 6] rfl)
def j_X12_records_105 (N : Nat) (k_38 : (Int32 × Int32 × Int32) → Option (Int32 × Int32 × Int32 × (Nat → Int64) × (Nat → Int32))) (v3 : Int32) (v4 : Int32) (v5 : Int32) (v6 : Int32) (m_primeMany : Int32) (m_tableKind : Int32) (a_mprimes : Nat → Int64) (a_mtable : Nat → Int32) : Option (Int32 × Int32 × Int32 × (Nat → Int64) × (Nat → Int32)) :=
  j_X12_records_106 N k_38 v3 v4 v5 v6 (0 : Int32) m_primeMany m_tableKind a_mprimes a_mtable
set_option maxRecDepth 100000 in
set_option maxHeartbeats 4000000 in
theorem k_X12_records_105 {p : Program} {l : Launch} {e : Env} {s : State} {m : MethodId} {args : Array Value} {below : List Frame} {meth : Method} {c : Code} {dC : Nat → ClassId} {dI : Nat → Nat → Nat} {cyI cyJ cyZ : ClassId} {A : Nat → Prop} (C0 : mC p s m meth c args cX12_records (some .int) 8 RX12 wsX12_records (gK dC dI cyI cyJ cyZ) A) (N : Nat) (res : Int32 × Int32 × Int32 × (Nat → Int64) × (Nat → Int32)) (q_Md : Nat) (q_mprimes : Nat) (q_mtable : Nat) (q_mtext : Nat) (q_mtold : Nat) (q_mstretch : Nat) (q_mfewest : Nat) (q_misOdd : Nat) (q_misHigh : Nat) (q_misTop : Nat) (q_mbits : Nat) (q_mpile : Nat) (v1 : Int32) (v2 : Int32) (v3 : Int32) (m_length : Int32) (m_primeMany : Int32) (m_toldMany : Int32) (m_fate : Int32) (m_tail : Int32) (m_round : Int32) (m_tableKind : Int32) (m_areLaid : Int32) (m_unlike : Int32) (m_isFree : Int32) (a_mprimes : Nat → Int64) (a_mtable : Nat → Int32) (k_38 : (Int32 × Int32 × Int32) → Option (Int32 × Int32 × Int32 × (Nat → Int64) × (Nat → Int32))) (hk_38 : ∀ (v4 : Int32) (v5 : Int32) (v6 : Int32), k_38 (v4, v5, v6) = some res → ∀ (H : Heap) (locs : List Loc), va_P (dC, dI) vwCl (wd58 cyI cyJ cyZ q_Md q_mprimes q_mtable q_mtext q_mtold q_mstretch q_mfewest q_misOdd q_misHigh q_misTop q_mbits q_mpile m_length m_primeMany m_toldMany m_fate m_tail m_round m_tableKind m_areLaid m_unlike m_isFree a_mprimes a_mtable) H → va_D A (wd58 cyI cyJ cyZ q_Md q_mprimes q_mtable q_mtext q_mtold q_mstretch q_mfewest q_misOdd q_misHigh q_misTop q_mbits q_mpile m_length m_primeMany m_toldMany m_fate m_tail m_round m_tableKind m_areLaid m_unlike m_isFree a_mprimes a_mtable) → va_S A s.heap H locs → ∀ (ls : Array Slot), lv_has ls 8 [(0, .ref q_Md), (1, .int v1), (2, .int v2), (3, .int v3), (4, .int v4), (5, .int v5), (6, .int v6)] → W p l e (headSpec wsX12_records rm_X12_records).room s m args below meth c H locs 0 0 (MQ below (va_Qi (fun (r : Int32) (_ : Unit) => r = res.1) (bW dC dI (fun (u : Unit) => (wd58 cyI cyJ cyZ q_Md q_mprimes q_mtable q_mtext q_mtold q_mstretch q_mfewest q_misOdd q_misHigh q_misTop q_mbits q_mpile m_length res.2.1 m_toldMany m_fate m_tail m_round res.2.2.1 m_areLaid m_unlike m_isFree res.2.2.2.1 res.2.2.2.2)) A) A) args s 0 0 A) (F0 m 38 ls [])) (v4 : Int32) (v5 : Int32) (v6 : Int32) (h : j_X12_records_105 N k_38 v3 v4 v5 v6 m_primeMany m_tableKind a_mprimes a_mtable = some res) : ∀ (H : Heap) (locs : List Loc), va_P (dC, dI) vwCl (wd58 cyI cyJ cyZ q_Md q_mprimes q_mtable q_mtext q_mtold q_mstretch q_mfewest q_misOdd q_misHigh q_misTop q_mbits q_mpile m_length m_primeMany m_toldMany m_fate m_tail m_round m_tableKind m_areLaid m_unlike m_isFree a_mprimes a_mtable) H → va_D A (wd58 cyI cyJ cyZ q_Md q_mprimes q_mtable q_mtext q_mtold q_mstretch q_mfewest q_misOdd q_misHigh q_misTop q_mbits q_mpile m_length m_primeMany m_toldMany m_fate m_tail m_round m_tableKind m_areLaid m_unlike m_isFree a_mprimes a_mtable) → va_S A s.heap H locs → ∀ (ls : Array Slot), lv_has ls 8 [(0, .ref q_Md), (1, .int v1), (2, .int v2), (3, .int v3), (4, .int v4), (5, .int v5), (6, .int v6)] → W p l e (headSpec wsX12_records rm_X12_records).room s m args below meth c H locs 0 0 (MQ below (va_Qi (fun (r : Int32) (_ : Unit) => r = res.1) (bW dC dI (fun (u : Unit) => (wd58 cyI cyJ cyZ q_Md q_mprimes q_mtable q_mtext q_mtold q_mstretch q_mfewest q_misOdd q_misHigh q_misTop q_mbits q_mpile m_length res.2.1 m_toldMany m_fate m_tail m_round res.2.2.1 m_areLaid m_unlike m_isFree res.2.2.2.1 res.2.2.2.2)) A) A) args s 0 0 A) (F0 m 105 ls []) := by
  obtain ⟨hx, hb, hr, hml, hown, hts, hlocks, hG, hA⟩ := id C0
  have hK := hG.1
  intro H locs hP hD hS ls hl
  unfold j_X12_records_105 at h
  refine lv_iconst (v := (0 : Int32)) hx hb dX12_records_105 (by decide) ?_
  exact k_X12_records_106 C0 N res q_Md q_mprimes q_mtable q_mtext q_mtold q_mstretch q_mfewest q_misOdd q_misHigh q_misTop q_mbits q_mpile v1 v2 v3 (0 : Int32) m_length m_primeMany m_toldMany m_fate m_tail m_round m_tableKind m_areLaid m_unlike m_isFree a_mprimes a_mtable k_38 hk_38 v4 v5 v6  h _ _ hP hD hS _ (lv_sub hl [0, 1, 2, 3, 4, 5, 6] rfl)
def s_X12_records_38 (N : Nat) (v1 : Int32) (v2 : Int32) (v3 : Int32) (m_primeMany : Int32) (m_tableKind : Int32) (a_mprimes : Nat → Int64) (a_mtable : Nat → Int32) (k_38 : (Int32 × Int32 × Int32) → Option (Int32 × Int32 × Int32 × (Nat → Int64) × (Nat → Int32))) (v4 : Int32) (v5 : Int32) (v6 : Int32) : Option (Int32 × Int32 × Int32 × (Nat → Int64) × (Nat → Int32)) :=
  if v2 < v6 then
    j_X12_records_135 N v3 v4 m_primeMany m_tableKind a_mprimes a_mtable
  else
    if v5 = 0 then
      j_X12_records_101 N k_38 v3 v4 v5 v6 m_primeMany m_tableKind a_mprimes a_mtable
    else
      if v1 = 0 then
        if v6 < 0 ∨ 50001 ≤ v6.toNatClampNeg then
          none
        else
          if v5 < 0 ∨ 50001 ≤ v5.toNatClampNeg then
            none
          else
            if (a_mtable v6.toNatClampNeg) ≤ (a_mtable v5.toNatClampNeg) then
              j_X12_records_105 N k_38 v3 v4 v5 v6 m_primeMany m_tableKind a_mprimes a_mtable
            else
              j_X12_records_101 N k_38 v3 v4 v5 v6 m_primeMany m_tableKind a_mprimes a_mtable
      else
        if v6 < 0 ∨ 50001 ≤ v6.toNatClampNeg then
          none
        else
          if v5 < 0 ∨ 50001 ≤ v5.toNatClampNeg then
            none
          else
            if (((a_mtable v6.toNatClampNeg).toInt64) * v5.toInt64) ≤ (((a_mtable v5.toNatClampNeg).toInt64) * v6.toInt64) then
              j_X12_records_105 N k_38 v3 v4 v5 v6 m_primeMany m_tableKind a_mprimes a_mtable
            else
              j_X12_records_101 N k_38 v3 v4 v5 v6 m_primeMany m_tableKind a_mprimes a_mtable
def l_X12_records_38 (N : Nat) (v1 : Int32) (v2 : Int32) (v3 : Int32) (m_primeMany : Int32) (m_tableKind : Int32) (a_mprimes : Nat → Int64) (a_mtable : Nat → Int32) (n : Nat) (z : Int32 × Int32 × Int32) : Option (Int32 × Int32 × Int32 × (Nat → Int64) × (Nat → Int32)) := lp (fun k z => s_X12_records_38 N v1 v2 v3 m_primeMany m_tableKind a_mprimes a_mtable k z.1 z.2.1 z.2.2) n z
set_option maxRecDepth 100000 in
set_option maxHeartbeats 4000000 in
theorem k_X12_records_38 {p : Program} {l : Launch} {e : Env} {s : State} {m : MethodId} {args : Array Value} {below : List Frame} {meth : Method} {c : Code} {dC : Nat → ClassId} {dI : Nat → Nat → Nat} {cyI cyJ cyZ : ClassId} {A : Nat → Prop} (C0 : mC p s m meth c args cX12_records (some .int) 8 RX12 wsX12_records (gK dC dI cyI cyJ cyZ) A) (N : Nat) (res : Int32 × Int32 × Int32 × (Nat → Int64) × (Nat → Int32)) (q_Md : Nat) (q_mprimes : Nat) (q_mtable : Nat) (q_mtext : Nat) (q_mtold : Nat) (q_mstretch : Nat) (q_mfewest : Nat) (q_misOdd : Nat) (q_misHigh : Nat) (q_misTop : Nat) (q_mbits : Nat) (q_mpile : Nat) (v1 : Int32) (v2 : Int32) (v3 : Int32) (m_length : Int32) (m_primeMany : Int32) (m_toldMany : Int32) (m_fate : Int32) (m_tail : Int32) (m_round : Int32) (m_tableKind : Int32) (m_areLaid : Int32) (m_unlike : Int32) (m_isFree : Int32) (a_mprimes : Nat → Int64) (a_mtable : Nat → Int32) : ∀ (n : Nat) (v4 : Int32) (v5 : Int32) (v6 : Int32), l_X12_records_38 N v1 v2 v3 m_primeMany m_tableKind a_mprimes a_mtable n (v4, v5, v6) = some res → ∀ (H : Heap) (locs : List Loc), va_P (dC, dI) vwCl (wd58 cyI cyJ cyZ q_Md q_mprimes q_mtable q_mtext q_mtold q_mstretch q_mfewest q_misOdd q_misHigh q_misTop q_mbits q_mpile m_length m_primeMany m_toldMany m_fate m_tail m_round m_tableKind m_areLaid m_unlike m_isFree a_mprimes a_mtable) H → va_D A (wd58 cyI cyJ cyZ q_Md q_mprimes q_mtable q_mtext q_mtold q_mstretch q_mfewest q_misOdd q_misHigh q_misTop q_mbits q_mpile m_length m_primeMany m_toldMany m_fate m_tail m_round m_tableKind m_areLaid m_unlike m_isFree a_mprimes a_mtable) → va_S A s.heap H locs → ∀ (ls : Array Slot), lv_has ls 8 [(0, .ref q_Md), (1, .int v1), (2, .int v2), (3, .int v3), (4, .int v4), (5, .int v5), (6, .int v6)] → W p l e (headSpec wsX12_records rm_X12_records).room s m args below meth c H locs 0 0 (MQ below (va_Qi (fun (r : Int32) (_ : Unit) => r = res.1) (bW dC dI (fun (u : Unit) => (wd58 cyI cyJ cyZ q_Md q_mprimes q_mtable q_mtext q_mtold q_mstretch q_mfewest q_misOdd q_misHigh q_misTop q_mbits q_mpile m_length res.2.1 m_toldMany m_fate m_tail m_round res.2.2.1 m_areLaid m_unlike m_isFree res.2.2.2.1 res.2.2.2.2)) A) A) args s 0 0 A) (F0 m 38 ls []) := by
  obtain ⟨hx, hb, hr, hml, hown, hts, hlocks, hG, hA⟩ := id C0
  have hK := hG.1
  intro n
  induction n with
  | zero =>
    intro v4 v5 v6 h
    cases h
  | succ n ih =>
    intro v4 v5 v6 h H locs hP hD hS ls hl
    have h : s_X12_records_38 N v1 v2 v3 m_primeMany m_tableKind a_mprimes a_mtable (l_X12_records_38 N v1 v2 v3 m_primeMany m_tableKind a_mprimes a_mtable n) v4 v5 v6 = some res := h
    unfold s_X12_records_38 at h
    refine lv_iload hx hb dX12_records_38 (lv_at hl 6 rfl) ?_
    refine lv_iload_n hx hb dX12_records_40 rfl (lv_at hl 2 rfl) ?_
    refine lv_icmp_gt (tgt := 135) hx hb dX12_records_41 (by decide) (fun c13z => ?_) (fun c13z => ?_)
    · have h := xt h c13z
      exact k_X12_records_135 C0 N res q_Md q_mprimes q_mtable q_mtext q_mtold q_mstretch q_mfewest q_misOdd q_misHigh q_misTop q_mbits q_mpile v3 v4 m_length m_primeMany m_toldMany m_fate m_tail m_round m_tableKind m_areLaid m_unlike m_isFree a_mprimes a_mtable  h _ _ hP hD hS _ (lv_sub hl [3, 4] rfl)
    · have h := xf h c13z
      refine lv_iload hx hb dX12_records_44 (lv_at hl 5 rfl) ?_
      refine lv_if_eq (tgt := 101) hx hb dX12_records_46 (by decide) (fun c15z => ?_) (fun c15z => ?_)
      · have h := xt h c15z
        exact k_X12_records_101 C0 N res q_Md q_mprimes q_mtable q_mtext q_mtold q_mstretch q_mfewest q_misOdd q_misHigh q_misTop q_mbits q_mpile v1 v2 v3 m_length m_primeMany m_toldMany m_fate m_tail m_round m_tableKind m_areLaid m_unlike m_isFree a_mprimes a_mtable _ ih v4 v5 v6  h _ _ hP hD hS _ (lv_sub hl [0, 1, 2, 3, 4, 5, 6] rfl)
      · have h := xf h c15z
        refine lv_iload_n hx hb dX12_records_49 rfl (lv_at hl 1 rfl) ?_
        refine lv_if_ne (tgt := 73) hx hb dX12_records_50 (by decide) (fun c21z => ?_) (fun c21z => ?_)
        · have h := xf h c21z
          refine lv_aload_n hx hb dX12_records_73 rfl (lv_at hl 0 rfl) ?_
          refine va_get (D := (dC, dI)) (ci := 12) (v := .ref q_mtable) (C := RX12) (T := TX12) (N := 21) hx hb hts iw_X12_records_X12 hown hK hP 0 rfl rfl 10 (by decide) (hts (.fieldLink RX12 21 "GoesIntoModel" "table" "[I") (List.mem_of_getElem? (i := 1) rfl)) (fun _ h9 => h9) rfl dX12_records_74 ?_
          refine lv_iload hx hb dX12_records_77 (lv_at hl 6 rfl) ?_
          obtain ⟨b22z, h⟩ := xn h
          refine va_iald hx hb hK hP 2 0 rfl rfl b22z dX12_records_79 ?_
          refine lv_i2l (v := (a_mtable v6.toNatClampNeg).toInt64) hx hb dX12_records_80 rfl ?_
          refine lv_iload hx hb dX12_records_81 (lv_at hl 5 rfl) ?_
          refine lv_i2l (v := v5.toInt64) hx hb dX12_records_83 rfl ?_
          refine lv_lmul hx hb dX12_records_84 ?_
          refine lv_aload_n hx hb dX12_records_85 rfl (lv_at hl 0 rfl) ?_
          refine va_get (D := (dC, dI)) (ci := 12) (v := .ref q_mtable) (C := RX12) (T := TX12) (N := 21) hx hb hts iw_X12_records_X12 hown hK hP 0 rfl rfl 10 (by decide) (hts (.fieldLink RX12 21 "GoesIntoModel" "table" "[I") (List.mem_of_getElem? (i := 1) rfl)) (fun _ h9 => h9) rfl dX12_records_86 ?_
          refine lv_iload hx hb dX12_records_89 (lv_at hl 5 rfl) ?_
          obtain ⟨b23z, h⟩ := xn h
          refine va_iald hx hb hK hP 2 0 rfl rfl b23z dX12_records_91 ?_
          refine lv_i2l (v := (a_mtable v5.toNatClampNeg).toInt64) hx hb dX12_records_92 rfl ?_
          refine lv_iload hx hb dX12_records_93 (lv_at hl 6 rfl) ?_
          refine lv_i2l (v := v6.toInt64) hx hb dX12_records_95 rfl ?_
          refine lv_lmul hx hb dX12_records_96 ?_
          refine W.lcmp hx hb dX12_records_97 ?_
          refine lv_if_le (tgt := 105) hx hb dX12_records_98 (by decide) (fun c24z => ?_) (fun c24z => ?_)
          · have c24z := (lg_cmp_le _ _).mp c24z
            have h := xt h c24z
            exact k_X12_records_105 C0 N res q_Md q_mprimes q_mtable q_mtext q_mtold q_mstretch q_mfewest q_misOdd q_misHigh q_misTop q_mbits q_mpile v1 v2 v3 m_length m_primeMany m_toldMany m_fate m_tail m_round m_tableKind m_areLaid m_unlike m_isFree a_mprimes a_mtable _ ih v4 v5 v6  h _ _ hP hD hS _ (lv_sub hl [0, 1, 2, 3, 4, 5, 6] rfl)
          · have c24z := fun z => c24z ((lg_cmp_le _ _).mpr z)
            have h := xf h c24z
            exact k_X12_records_101 C0 N res q_Md q_mprimes q_mtable q_mtext q_mtold q_mstretch q_mfewest q_misOdd q_misHigh q_misTop q_mbits q_mpile v1 v2 v3 m_length m_primeMany m_toldMany m_fate m_tail m_round m_tableKind m_areLaid m_unlike m_isFree a_mprimes a_mtable _ ih v4 v5 v6  h _ _ hP hD hS _ (lv_sub hl [0, 1, 2, 3, 4, 5, 6] rfl)
        · have h := xt h c21z
          refine lv_aload_n hx hb dX12_records_53 rfl (lv_at hl 0 rfl) ?_
          refine va_get (D := (dC, dI)) (ci := 12) (v := .ref q_mtable) (C := RX12) (T := TX12) (N := 21) hx hb hts iw_X12_records_X12 hown hK hP 0 rfl rfl 10 (by decide) (hts (.fieldLink RX12 21 "GoesIntoModel" "table" "[I") (List.mem_of_getElem? (i := 1) rfl)) (fun _ h9 => h9) rfl dX12_records_54 ?_
          refine lv_iload hx hb dX12_records_57 (lv_at hl 6 rfl) ?_
          obtain ⟨b25z, h⟩ := xn h
          refine va_iald hx hb hK hP 2 0 rfl rfl b25z dX12_records_59 ?_
          refine lv_aload_n hx hb dX12_records_60 rfl (lv_at hl 0 rfl) ?_
          refine va_get (D := (dC, dI)) (ci := 12) (v := .ref q_mtable) (C := RX12) (T := TX12) (N := 21) hx hb hts iw_X12_records_X12 hown hK hP 0 rfl rfl 10 (by decide) (hts (.fieldLink RX12 21 "GoesIntoModel" "table" "[I") (List.mem_of_getElem? (i := 1) rfl)) (fun _ h9 => h9) rfl dX12_records_61 ?_
          refine lv_iload hx hb dX12_records_64 (lv_at hl 5 rfl) ?_
          obtain ⟨b26z, h⟩ := xn h
          refine va_iald hx hb hK hP 2 0 rfl rfl b26z dX12_records_66 ?_
          refine lv_icmp_le (tgt := 105) hx hb dX12_records_67 (by decide) (fun c27z => ?_) (fun c27z => ?_)
          · have h := xt h c27z
            exact k_X12_records_105 C0 N res q_Md q_mprimes q_mtable q_mtext q_mtold q_mstretch q_mfewest q_misOdd q_misHigh q_misTop q_mbits q_mpile v1 v2 v3 m_length m_primeMany m_toldMany m_fate m_tail m_round m_tableKind m_areLaid m_unlike m_isFree a_mprimes a_mtable _ ih v4 v5 v6  h _ _ hP hD hS _ (lv_sub hl [0, 1, 2, 3, 4, 5, 6] rfl)
          · have h := xf h c27z
            refine lv_goto (tgt := 101) hx hb dX12_records_70 (by decide) ?_
            exact k_X12_records_101 C0 N res q_Md q_mprimes q_mtable q_mtext q_mtold q_mstretch q_mfewest q_misOdd q_misHigh q_misTop q_mbits q_mpile v1 v2 v3 m_length m_primeMany m_toldMany m_fate m_tail m_round m_tableKind m_areLaid m_unlike m_isFree a_mprimes a_mtable _ ih v4 v5 v6  h _ _ hP hD hS _ (lv_sub hl [0, 1, 2, 3, 4, 5, 6] rfl)
def f_X12_records (N : Nat) (v1 : Int32) (v2 : Int32) (v3 : Int32) (m_primeMany : Int32) (m_tableKind : Int32) (a_mprimes : Nat → Int64) (a_mtable : Nat → Int32) : Option (Int32 × Int32 × Int32 × (Nat → Int64) × (Nat → Int32)) :=
  Option.bind (f_X12_in N v1.toInt64 (0 : Int64) (1 : Int64)) fun r1z =>
  if r1z = 0 then
    some ((-1 : Int32), m_primeMany, m_tableKind, a_mprimes, a_mtable)
  else
    Option.bind (f_X12_isBound N v2) fun r5z =>
    if r5z = 0 then
      some ((-1 : Int32), m_primeMany, m_tableKind, a_mprimes, a_mtable)
    else
      if (-1 : Int32) ≤ v3 then
        Option.bind (f_X12_layTable N (0 : Int32) m_primeMany m_tableKind a_mprimes a_mtable) fun r10z =>
        l_X12_records_38 N v1 v2 v3 r10z.1 r10z.2.1 r10z.2.2.1 r10z.2.2.2 N ((0 : Int32), (0 : Int32), (1 : Int32))
      else
        some ((-1 : Int32), m_primeMany, m_tableKind, a_mprimes, a_mtable)
set_option maxRecDepth 100000 in
set_option maxHeartbeats 4000000 in
theorem k_X12_records_0 {p : Program} {l : Launch} {e : Env} {s : State} {m : MethodId} {args : Array Value} {below : List Frame} {meth : Method} {c : Code} {dC : Nat → ClassId} {dI : Nat → Nat → Nat} {cyI cyJ cyZ : ClassId} {A : Nat → Prop} (C0 : mC p s m meth c args cX12_records (some .int) 8 RX12 wsX12_records (gK dC dI cyI cyJ cyZ) A) (N : Nat) (res : Int32 × Int32 × Int32 × (Nat → Int64) × (Nat → Int32)) (q_Md : Nat) (q_mprimes : Nat) (q_mtable : Nat) (q_mtext : Nat) (q_mtold : Nat) (q_mstretch : Nat) (q_mfewest : Nat) (q_misOdd : Nat) (q_misHigh : Nat) (q_misTop : Nat) (q_mbits : Nat) (q_mpile : Nat) (v1 : Int32) (v2 : Int32) (v3 : Int32) (m_length : Int32) (m_primeMany : Int32) (m_toldMany : Int32) (m_fate : Int32) (m_tail : Int32) (m_round : Int32) (m_tableKind : Int32) (m_areLaid : Int32) (m_unlike : Int32) (m_isFree : Int32) (a_mprimes : Nat → Int64) (a_mtable : Nat → Int32) (h : f_X12_records N v1 v2 v3 m_primeMany m_tableKind a_mprimes a_mtable = some res) : ∀ (H : Heap) (locs : List Loc), va_P (dC, dI) vwCl (wd58 cyI cyJ cyZ q_Md q_mprimes q_mtable q_mtext q_mtold q_mstretch q_mfewest q_misOdd q_misHigh q_misTop q_mbits q_mpile m_length m_primeMany m_toldMany m_fate m_tail m_round m_tableKind m_areLaid m_unlike m_isFree a_mprimes a_mtable) H → va_D A (wd58 cyI cyJ cyZ q_Md q_mprimes q_mtable q_mtext q_mtold q_mstretch q_mfewest q_misOdd q_misHigh q_misTop q_mbits q_mpile m_length m_primeMany m_toldMany m_fate m_tail m_round m_tableKind m_areLaid m_unlike m_isFree a_mprimes a_mtable) → va_S A s.heap H locs → ∀ (ls : Array Slot), lv_has ls 8 [(0, .ref q_Md), (1, .int v1), (2, .int v2), (3, .int v3)] → W p l e (headSpec wsX12_records rm_X12_records).room s m args below meth c H locs 0 0 (MQ below (va_Qi (fun (r : Int32) (_ : Unit) => r = res.1) (bW dC dI (fun (u : Unit) => (wd58 cyI cyJ cyZ q_Md q_mprimes q_mtable q_mtext q_mtold q_mstretch q_mfewest q_misOdd q_misHigh q_misTop q_mbits q_mpile m_length res.2.1 m_toldMany m_fate m_tail m_round res.2.2.1 m_areLaid m_unlike m_isFree res.2.2.2.1 res.2.2.2.2)) A) A) args s 0 0 A) (F0 m 0 ls []) := by
  obtain ⟨hx, hb, hr, hml, hown, hts, hlocks, hG, hA⟩ := id C0
  have hK := hG.1
  intro H locs hP hD hS ls hl
  unfold f_X12_records at h
  refine lv_iload_n hx hb dX12_records_0 rfl (lv_at hl 1 rfl) ?_
  refine lv_i2l (v := v1.toInt64) hx hb dX12_records_1 rfl ?_
  refine lv_lconst (v := (0 : Int64)) hx hb dX12_records_2 (by decide) ?_
  refine lv_lconst (v := (1 : Int64)) hx hb dX12_records_3 (by decide) ?_
  obtain ⟨r1z, hr1z, h⟩ := xb_at h
  have hPc := hP.sub (ws' := (wd37 cyI cyJ cyZ)) [] rfl
  have hDc := hD.sub (ws' := (wd37 cyI cyJ cyZ)) [] (by decide) rfl
  refine cal_i [] [0, 1, 2] (va_runS (As := [.long v1.toInt64, .long (0 : Int64), .long (1 : Int64)]) (rest := []) ⟨hx, hb, hml, hown, hts⟩ (c_X12_in l dC dI cyI cyJ cyZ N r1z H.size  v1.toInt64 (0 : Int64) (1 : Int64)  hr1z) (va_cwS 3 hts gX12_records_X12_in rfl rfl rfl hd_X12_in ⟨Nat.le_of_ble_eq_true rfl, Nat.le_of_ble_eq_true rfl⟩) ⟨pC.blind, pC.pre hPc hG hDc⟩ rfl rfl hl.1 rfl (lv_room (Nat.le_of_ble_eq_true rfl)) dX12_records_4 ⟨Nat.zero_le _, Nat.zero_le _⟩) hP hD hS hA rfl rfl rfl (by decide) (fun x3z u2z H locs hw hP hD hS => ?_)
  obtain rfl := hw.symm
  have hP : va_P (dC, dI) vwCl (wd58 cyI cyJ cyZ q_Md q_mprimes q_mtable q_mtext q_mtold q_mstretch q_mfewest q_misOdd q_misHigh q_misTop q_mbits q_mpile m_length m_primeMany m_toldMany m_fate m_tail m_round m_tableKind m_areLaid m_unlike m_isFree a_mprimes a_mtable) H := hP.sub [0, 1, 2] rfl
  have hD : va_D A (wd58 cyI cyJ cyZ q_Md q_mprimes q_mtable q_mtext q_mtold q_mstretch q_mfewest q_misOdd q_misHigh q_misTop q_mbits q_mpile m_length m_primeMany m_toldMany m_fate m_tail m_round m_tableKind m_areLaid m_unlike m_isFree a_mprimes a_mtable) := hD.sub [0, 1, 2] (by decide) rfl
  refine lv_if_eq (tgt := 22) hx hb dX12_records_7 (by decide) (fun c4z => ?_) (fun c4z => ?_)
  · have h := xt h c4z
    refine lv_iconst (v := (-1 : Int32)) hx hb dX12_records_22 (by decide) ?_
    obtain rfl := Option.some.inj h
    exact W.iret (v := (-1 : Int32)) hx hb hr (fun t ht hW => ⟨⟨_, (), rfl, rfl, by rw [ht]; exact hP, hD⟩, hS.F ht⟩) hS.2.2 dX12_records_23 hlocks
  · have h := xf h c4z
    refine lv_iload_n hx hb dX12_records_10 rfl (lv_at hl 2 rfl) ?_
    obtain ⟨r5z, hr5z, h⟩ := xb_at h
    have hPc := hP.sub (ws' := (wd37 cyI cyJ cyZ)) [] rfl
    have hDc := hD.sub (ws' := (wd37 cyI cyJ cyZ)) [] (by decide) rfl
    refine cal_i [] [0, 1, 2] (va_runS (As := [.int v2]) (rest := []) ⟨hx, hb, hml, hown, hts⟩ (c_X12_isBound l dC dI cyI cyJ cyZ N r5z H.size  v2  hr5z) (va_cwS 1 hts gX12_records_X12_isBound rfl rfl rfl hd_X12_isBound ⟨Nat.le_of_ble_eq_true rfl, Nat.le_of_ble_eq_true rfl⟩) ⟨pC.blind, pC.pre hPc hG hDc⟩ rfl rfl hl.1 rfl (lv_room (Nat.le_of_ble_eq_true rfl)) dX12_records_11 ⟨Nat.zero_le _, Nat.zero_le _⟩) hP hD hS hA rfl rfl rfl (by decide) (fun x7z u6z H locs hw hP hD hS => ?_)
    obtain rfl := hw.symm
    have hP : va_P (dC, dI) vwCl (wd58 cyI cyJ cyZ q_Md q_mprimes q_mtable q_mtext q_mtold q_mstretch q_mfewest q_misOdd q_misHigh q_misTop q_mbits q_mpile m_length m_primeMany m_toldMany m_fate m_tail m_round m_tableKind m_areLaid m_unlike m_isFree a_mprimes a_mtable) H := hP.sub [0, 1, 2] rfl
    have hD : va_D A (wd58 cyI cyJ cyZ q_Md q_mprimes q_mtable q_mtext q_mtold q_mstretch q_mfewest q_misOdd q_misHigh q_misTop q_mbits q_mpile m_length m_primeMany m_toldMany m_fate m_tail m_round m_tableKind m_areLaid m_unlike m_isFree a_mprimes a_mtable) := hD.sub [0, 1, 2] (by decide) rfl
    refine lv_if_eq (tgt := 22) hx hb dX12_records_14 (by decide) (fun c8z => ?_) (fun c8z => ?_)
    · have h := xt h c8z
      refine lv_iconst (v := (-1 : Int32)) hx hb dX12_records_22 (by decide) ?_
      obtain rfl := Option.some.inj h
      exact W.iret (v := (-1 : Int32)) hx hb hr (fun t ht hW => ⟨⟨_, (), rfl, rfl, by rw [ht]; exact hP, hD⟩, hS.F ht⟩) hS.2.2 dX12_records_23 hlocks
    · have h := xf h c8z
      refine lv_iload_n hx hb dX12_records_17 rfl (lv_at hl 3 rfl) ?_
      refine lv_iconst (v := (-1 : Int32)) hx hb dX12_records_18 (by decide) ?_
      refine lv_icmp_ge (tgt := 24) hx hb dX12_records_19 (by decide) (fun c9z => ?_) (fun c9z => ?_)
      · have h := xt h c9z
        refine lv_aload_n hx hb dX12_records_24 rfl (lv_at hl 0 rfl) ?_
        refine lv_iconst (v := (0 : Int32)) hx hb dX12_records_25 (by decide) ?_
        obtain ⟨r10z, hr10z, h⟩ := xb_at h
        have hPc := hP.sub (ws' := (wd58 cyI cyJ cyZ q_Md q_mprimes q_mtable q_mtext q_mtold q_mstretch q_mfewest q_misOdd q_misHigh q_misTop q_mbits q_mpile m_length m_primeMany m_toldMany m_fate m_tail m_round m_tableKind m_areLaid m_unlike m_isFree a_mprimes a_mtable)) [0, 1, 2] rfl
        have hDc := hD.sub (ws' := (wd58 cyI cyJ cyZ q_Md q_mprimes q_mtable q_mtext q_mtold q_mstretch q_mfewest q_misOdd q_misHigh q_misTop q_mbits q_mpile m_length m_primeMany m_toldMany m_fate m_tail m_round m_tableKind m_areLaid m_unlike m_isFree a_mprimes a_mtable)) [0, 1, 2] (by decide) rfl
        refine cal_v [0, 1, 2] [] (va_runV (As := [.int (0 : Int32)]) (rest := []) ⟨hx, hb, hml, hown, hts⟩ (c_X12_layTable l dC dI cyI cyJ cyZ N r10z H.size q_Md q_mprimes q_mtable q_mtext q_mtold q_mstretch q_mfewest q_misOdd q_misHigh q_misTop q_mbits q_mpile (0 : Int32) m_length m_primeMany m_toldMany m_fate m_tail m_round m_tableKind m_areLaid m_unlike m_isFree a_mprimes a_mtable hr10z) (cwV 1 hts gX12_records_X12_layTable rfl rfl rfl ⟨rfl, hd_X12_layTable⟩ ⟨Nat.le_of_ble_eq_true rfl, Nat.le_of_ble_eq_true rfl⟩) ⟨pC.blind, va_recv hK hPc (ci := 12) (q0 := 0) rfl rfl, pC.pre hPc hG hDc⟩ rfl rfl hl.1 rfl (lv_room (Nat.le_of_ble_eq_true rfl)) dX12_records_26 ⟨Nat.zero_le _, Nat.zero_le _⟩) hP hD hS hA rfl rfl rfl (by decide) (fun u11z H locs _ hP hD hS => ?_)
        have hP : va_P (dC, dI) vwCl (wd58 cyI cyJ cyZ q_Md q_mprimes q_mtable q_mtext q_mtold q_mstretch q_mfewest q_misOdd q_misHigh q_misTop q_mbits q_mpile m_length r10z.1 m_toldMany m_fate m_tail m_round r10z.2.1 m_areLaid m_unlike m_isFree r10z.2.2.1 r10z.2.2.2) H := hP.sub [0, 1, 2] rfl
        have hD : va_D A (wd58 cyI cyJ cyZ q_Md q_mprimes q_mtable q_mtext q_mtold q_mstretch q_mfewest q_misOdd q_misHigh q_misTop q_mbits q_mpile m_length r10z.1 m_toldMany m_fate m_tail m_round r10z.2.1 m_areLaid m_unlike m_isFree r10z.2.2.1 r10z.2.2.2) := hD.sub [0, 1, 2] (by decide) rfl
        refine lv_iconst (v := (0 : Int32)) hx hb dX12_records_29 (by decide) ?_
        refine lv_istore (lv' := [(4, .int (0 : Int32)), (0, .ref q_Md), (1, .int v1), (2, .int v2), (3, .int v3)]) hx hb dX12_records_30 hl (by decide) rfl (fun ls hl => ?_)
        refine lv_iconst (v := (0 : Int32)) hx hb dX12_records_32 (by decide) ?_
        refine lv_istore (lv' := [(5, .int (0 : Int32)), (4, .int (0 : Int32)), (0, .ref q_Md), (1, .int v1), (2, .int v2), (3, .int v3)]) hx hb dX12_records_33 hl (by decide) rfl (fun ls hl => ?_)
        refine lv_iconst (v := (1 : Int32)) hx hb dX12_records_35 (by decide) ?_
        refine lv_istore (lv' := [(6, .int (1 : Int32)), (5, .int (0 : Int32)), (4, .int (0 : Int32)), (0, .ref q_Md), (1, .int v1), (2, .int v2), (3, .int v3)]) hx hb dX12_records_36 hl (by decide) rfl (fun ls hl => ?_)
        exact k_X12_records_38 C0 N res q_Md q_mprimes q_mtable q_mtext q_mtold q_mstretch q_mfewest q_misOdd q_misHigh q_misTop q_mbits q_mpile v1 v2 v3 m_length r10z.1 m_toldMany m_fate m_tail m_round r10z.2.1 m_areLaid m_unlike m_isFree r10z.2.2.1 r10z.2.2.2 N (0 : Int32) (0 : Int32) (1 : Int32) h _ _ hP hD hS _ (lv_sub hl [3, 4, 5, 6, 2, 1, 0] rfl)
      · have h := xf h c9z
        refine lv_iconst (v := (-1 : Int32)) hx hb dX12_records_22 (by decide) ?_
        obtain rfl := Option.some.inj h
        exact W.iret (v := (-1 : Int32)) hx hb hr (fun t ht hW => ⟨⟨_, (), rfl, rfl, by rw [ht]; exact hP, hD⟩, hS.F ht⟩) hS.2.2 dX12_records_23 hlocks
set_option maxRecDepth 100000 in
set_option maxHeartbeats 4000000 in
theorem c_X12_records (l : Launch) (dC : Nat → ClassId) (dI : Nat → Nat → Nat) (cyI cyJ cyZ : ClassId) (N : Nat) (res : Int32 × Int32 × Int32 × (Nat → Int64) × (Nat → Int32)) (sz : Nat) (q_Md : Nat) (q_mprimes : Nat) (q_mtable : Nat) (q_mtext : Nat) (q_mtold : Nat) (q_mstretch : Nat) (q_mfewest : Nat) (q_misOdd : Nat) (q_misHigh : Nat) (q_misTop : Nat) (q_mbits : Nat) (q_mpile : Nat) (v1 : Int32) (v2 : Int32) (v3 : Int32) (m_length : Int32) (m_primeMany : Int32) (m_toldMany : Int32) (m_fate : Int32) (m_tail : Int32) (m_round : Int32) (m_tableKind : Int32) (m_areLaid : Int32) (m_unlike : Int32) (m_isFree : Int32) (a_mprimes : Nat → Int64) (a_mtable : Nat → Int32) (h : f_X12_records N v1 v2 v3 m_primeMany m_tableKind a_mprimes a_mtable = some res) : Met l yX12_records wsX12_records rm_X12_records (pC dC dI cyI cyJ cyZ [.ref q_Md, .int v1, .int v2, .int v3] sz (wd58 cyI cyJ cyZ q_Md q_mprimes q_mtable q_mtext q_mtold q_mstretch q_mfewest q_misOdd q_misHigh q_misTop q_mbits q_mpile m_length m_primeMany m_toldMany m_fate m_tail m_round m_tableKind m_areLaid m_unlike m_isFree a_mprimes a_mtable)) (va_Qi (fun (r : Int32) (_ : Unit) => r = res.1) (bW dC dI (fun (u : Unit) => (wd58 cyI cyJ cyZ q_Md q_mprimes q_mtable q_mtext q_mtold q_mstretch q_mfewest q_misOdd q_misHigh q_misTop q_mbits q_mpile m_length res.2.1 m_toldMany m_fate m_tail m_round res.2.2.1 m_areLaid m_unlike m_isFree res.2.2.2.1 res.2.2.2.2)) (va_A (wd58 cyI cyJ cyZ q_Md q_mprimes q_mtable q_mtext q_mtold q_mstretch q_mfewest q_misOdd q_misHigh q_misTop q_mbits q_mpile m_length m_primeMany m_toldMany m_fate m_tail m_round m_tableKind m_areLaid m_unlike m_isFree a_mprimes a_mtable) sz)) (va_A (wd58 cyI cyJ cyZ q_Md q_mprimes q_mtable q_mtext q_mtold q_mstretch q_mfewest q_misOdd q_misHigh q_misTop q_mbits q_mpile m_length m_primeMany m_toldMany m_fate m_tail m_round m_tableKind m_areLaid m_unlike m_isFree a_mprimes a_mtable) sz)) 0 0 (va_A (wd58 cyI cyJ cyZ q_Md q_mprimes q_mtable q_mtext q_mtold q_mstretch q_mfewest q_misOdd q_misHigh q_misTop q_mbits q_mpile m_length m_primeMany m_toldMany m_fate m_tail m_round m_tableKind m_areLaid m_unlike m_isFree a_mprimes a_mtable) sz) := by
  refine Met.ofW (cc := cX12_records) (maxL := 8) (ret := (some .int)) (by decide) rfl ?_
  intro p e s m args below meth c s₁ B hml hv
  obtain ⟨rfl, hsz, hP, hG, hD0⟩ := hv
  have hx := B.exec
  have hb := B.bytes
  have hr := B.returns
  have hts := atoms_spec (ws := wsX12_records) B.pre
  have hown : s.vm.findClass RX12 = some m.cls := findClass_of_methodNamed B.named
  have hlocks := B.notSynchronized
  subst hsz
  have hD := hD0.self (sz := s.heap.size)
  generalize hAe : va_A (wd58 cyI cyJ cyZ q_Md q_mprimes q_mtable q_mtext q_mtold q_mstretch q_mfewest q_misOdd q_misHigh q_misTop q_mbits q_mpile m_length m_primeMany m_toldMany m_fate m_tail m_round m_tableKind m_areLaid m_unlike m_isFree a_mprimes a_mtable) s.heap.size = A at hD ⊢
  have hA : ∀ q : Nat, s.heap.size ≤ q → A q := fun q h => by rw [← hAe]; exact Or.inr h
  have hS : va_S A s.heap s.heap [] := va_S.rf
  have hl := lv_entry ([.ref q_Md, .int v1, .int v2, .int v3]) (n := 8) (Nat.le_of_ble_eq_true rfl)
  rw [lg_entry_eq]
  generalize (lg_sl ([.ref q_Md, .int v1, .int v2, .int v3]) ++ List.replicate (8 - (lg_sl ([.ref q_Md, .int v1, .int v2, .int v3])).length) Slot.unset).toArray = ls at hl ⊢
  have hl : lv_has ls 8 [(0, .ref q_Md), (1, .int v1), (2, .int v2), (3, .int v3)] := hl
  exact k_X12_records_0 ⟨hx, hb, hr, hml, hown, hts, hlocks, hG, hA⟩ N res q_Md q_mprimes q_mtable q_mtext q_mtold q_mstretch q_mfewest q_misOdd q_misHigh q_misTop q_mbits q_mpile v1 v2 v3 m_length m_primeMany m_toldMany m_fate m_tail m_round m_tableKind m_areLaid m_unlike m_isFree a_mprimes a_mtable  h _ _ hP hD hS _ hl
