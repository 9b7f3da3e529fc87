/-! small words of the walk: a pure function of a method's numbers says what the method does; the walk goes along it -/
theorem xt {c : Prop} [Decidable c] {α : Type} {A B r : α} (h : (if c then A else B) = r) (hc : c) : A = r := by rw [if_pos hc] at h; exact h
theorem xf {c : Prop} [Decidable c] {α : Type} {A B r : α} (h : (if c then A else B) = r) (hc : ¬ c) : B = r := by rw [if_neg hc] at h; exact h
theorem xn {c : Prop} [Decidable c] {α : Type} {B : Option α} {r : α} (h : (if c then none else B) = some r) : ¬ c ∧ B = some r := by
  by_cases hc : c
  · rw [if_pos hc] at h; cases h
  · rw [if_neg hc] at h; exact ⟨hc, h⟩
theorem xa {c : Prop} [Decidable c] {α : Type} {A : Option α} {r : α} (h : (if c then A else none) = some r) : c ∧ A = some r := by
  by_cases hc : c
  · rw [if_pos hc] at h; exact ⟨hc, h⟩
  · rw [if_neg hc] at h; cases h
def xl {α β : Type} (e : α) (f : α → β) : β := f e
theorem xl_at {α β : Type} {e : α} {f : α → β} {r : β} (h : xl e f = r) {y : α} (hy : y = e) : f y = r := by subst hy; exact h
theorem xb_at {α β : Type} {o : Option α} {f : α → Option β} {r : β} (h : Option.bind o f = some r) : ∃ z, o = some z ∧ f z = some r := by
  cases o with
  | none => cases h
  | some z => exact ⟨z, rfl, h⟩
/-- a loop: at most n rounds of F -/
def lp {σ ρ : Type} (F : (σ → Option ρ) → σ → Option ρ) : Nat → σ → Option ρ
  | 0 => fun _ => none
  | n + 1 => F (lp F n)
/-! the tables' facts that every contract takes along -/
abbrev gTy (cyI cyJ cyZ : ClassId) : List (ClassId × FieldType) := [(cyI, .int), (cyJ, .long), (cyZ, .boolean)]
def gN (U : State) : Prop := va_Nw (.fieldLinkNest RX11 130 "GoesInto$Chain" "ending" "I" "GoesInto") U ∧ va_Nw (.fieldLinkNest RX11 134 "GoesInto$Chain" "tail" "I" "GoesInto") U ∧ va_Nw (.fieldLinkNest RX11 137 "GoesInto$Chain" "round" "I" "GoesInto") U ∧ va_Nw (.fieldLinkNest RX11 140 "GoesInto$Chain" "greatest" "J" "GoesInto") U ∧ va_Nw (.fieldLinkNest RX11 214 "GoesInto$Wishes" "length" "I" "GoesInto") U ∧ va_Nw (.fieldLinkNest RX11 224 "GoesInto$Split" "unlike" "I" "GoesInto") U ∧ va_Nw (.fieldLinkNest RX1 36 "GoesInto$Split" "partsKept" "I" "GoesInto") U ∧ va_Nw (.fieldLinkNest RX1 40 "GoesInto$Split" "parts" "[J" "GoesInto") U ∧ va_Nw (.fieldLinkNest RX6 40 "GoesInto$Primes" "list" "[I" "GoesInto") U ∧ va_Nw (.fieldLinkNest RX8 50 "GoesInto$Split" "unlike" "I" "GoesInto") U ∧ va_Nw (.fieldLinkNest RX9 82 "GoesInto$Primes" "list" "[I" "GoesInto") U ∧
  va_Nw (.methodLinkNest RX11 9 yX4_init "GoesInto") U ∧ va_Nw (.methodLinkNest RX5 11 yX2_init "GoesInto") U ∧ va_Nw (.methodLinkNest RX6 71 yX11_putInOrder "GoesInto") U ∧ va_Nw (.methodLinkNest RX9 57 yX11_putInOrder "GoesInto") U ∧ va_Nw (.methodLinkNest RX10 11 yX2_init "GoesInto") U
theorem gN.warm {s U : State} (hW : s.WarmedH U.vm) (h : gN s) : gN U := by
  obtain ⟨a1, a2, a3, a4, a5, a6, a7, a8, a9, a10, a11, b1, b2, b3, b4, b5⟩ := h
  exact ⟨a1.warmF hW, a2.warmF hW, a3.warmF hW, a4.warmF hW, a5.warmF hW, a6.warmF hW, a7.warmF hW, a8.warmF hW, a9.warmF hW, a10.warmF hW, a11.warmF hW, b1.warmM hW, b2.warmM hW, b3.warmM hW, b4.warmM hW, b5.warmM hW⟩
theorem gN.same {u U : State} (e : u.vm = U.vm) (h : gN u) : gN U := by
  obtain ⟨a1, a2, a3, a4, a5, a6, a7, a8, a9, a10, a11, b1, b2, b3, b4, b5⟩ := h
  exact ⟨va_Nw.same rfl e a1, va_Nw.same rfl e a2, va_Nw.same rfl e a3, va_Nw.same rfl e a4, va_Nw.same rfl e a5, va_Nw.same rfl e a6, va_Nw.same rfl e a7, va_Nw.same rfl e a8, va_Nw.same rfl e a9, va_Nw.same rfl e a10, va_Nw.same rfl e a11, va_Nw.same rfl e b1, va_Nw.same rfl e b2, va_Nw.same rfl e b3, va_Nw.same rfl e b4, va_Nw.same rfl e b5⟩
def gK (dC : Nat → ClassId) (dI : Nat → Nat → Nat) (cyI cyJ cyZ : ClassId) (U : State) : Prop := va_K (dC, dI) vwCl (gTy cyI cyJ cyZ) U ∧ gN U
theorem gK.warm {dC : Nat → ClassId} {dI : Nat → Nat → Nat} {cyI cyJ cyZ : ClassId} {s U : State} (hW : s.WarmedH U.vm) (h : gK dC dI cyI cyJ cyZ s) : gK dC dI cyI cyJ cyZ U := ⟨va_K.moved hW.alike h.1, h.2.warm hW⟩
/-- a contract's start: the arguments, the size of the heap, the world, the tables -/
def pC (dC : Nat → ClassId) (dI : Nat → Nat → Nat) (cyI cyJ cyZ : ClassId) (av : List Value) (sz : Nat) (w : va_W) : Array Value → State → Prop := va_Pc av (fun U => U.heap.size = sz ∧ va_P (dC, dI) vwCl w U.heap ∧ gK dC dI cyI cyJ cyZ U ∧ va_D (fun _ => True) w)
theorem pC.blind {dC : Nat → ClassId} {dI : Nat → Nat → Nat} {cyI cyJ cyZ : ClassId} {av : List Value} {sz : Nat} {w : va_W} : FrameBlind (pC dC dI cyI cyJ cyZ av sz w) := fun a U g mk q => ⟨q.1, q.2.1, q.2.2.1, ⟨va_K.moved (u := U) (U := U.calling g mk a) (Vm.Alike.refl U.vm) q.2.2.2.1.1, gN.same (u := U) (U := U.calling g mk a) rfl q.2.2.2.1.2⟩, q.2.2.2.2⟩
theorem pC.pre {dC : Nat → ClassId} {dI : Nat → Nat → Nat} {cyI cyJ cyZ : ClassId} {av : List Value} {w : va_W} {s : State} {H : Heap} {A : Nat → Prop} (hP : va_P (dC, dI) vwCl w H) (hG : gK dC dI cyI cyJ cyZ s) (hD : va_D A w) : ∀ U : State, U.heap = H → s.WarmedH U.vm → pC dC dI cyI cyJ cyZ av H.size w av.toArray U := fun U hU hW => ⟨rfl, by rw [hU], by rw [hU]; exact hP, hG.warm hW, hD.weaken (fun _ _ _ _ => trivial)⟩
/-- a contract's end: the world behind it (u: the addresses that came new) -/
def bW (dC : Nat → ClassId) (dI : Nat → Nat → Nat) {S : Type} (w1 : S → va_W) (A : Nat → Prop) : S → State → Prop := fun u t => va_P (dC, dI) vwCl (w1 u) t.heap ∧ va_D A (w1 u)
def bR (dC : Nat → ClassId) (dI : Nat → Nat → Nat) {S : Type} (w1 : S → Nat → va_W) (A : Nat → Prop) : S → Nat → State → Prop := fun u a t => va_P (dC, dI) vwCl (w1 u a) t.heap ∧ va_D A (w1 u a)
/-- what a walk of a method stands on -/
def mC (p : Program) (s : State) (m : MethodId) (meth : Method) (c : Code) (args : Array Value) (cc : ByteArray) (ret : Option FieldType) (maxL : Nat) (own : String) (ws : List Cond) (gk : State → Prop) (A : Nat → Prop) : Prop :=
  p.tables.exec = Jvm.exec ∧ c.code = cc ∧ meth.sig.returnType = ret ∧ c.maxLocals = maxL ∧ s.vm.findClass own = some m.cls ∧ (∀ w ∈ ws, w.before args s = true) ∧ meth.locks = false ∧ gk s ∧ ∀ q : Nat, s.heap.size ≤ q → A q
/-- a new array's class is the one that the tables know -/
theorem xcy {D : va_G} {cl : List vw_C} {tys : List (ClassId × FieldType)} {U : State} {cA cB : ClassId} {ty : FieldType} (hty : ty = .int ∨ ty = .long ∨ ty = .boolean) (k j : Nat) (h : va_K D cl tys U) (h1 : tys[k]? = some (cA, ty)) (h2 : tys[j]? = some (cB, ty)) : cA = cB := by
  have a := (h.2 k _ h1).2
  have b := (h.2 j _ h2).2
  rcases hty with rfl | rfl | rfl <;> exact Option.some.inj (a.symm.trans b)
section XC
variable {p : Program} {l : Launch} {e : Env} {R : Room} {s : State} {m : MethodId} {args : Array Value} {below : List Frame} {meth : Method} {c : Code} {H : Heap} {locs : List Loc} {cells slots : Nat} {Q : State → Prop}
variable {pc : Nat} {ls : Array Slot} {rest st0 : List Value} {a : Array Value} {A0 : Nat → Prop} {H0 : Heap} {mc ms : Nat} {dC : Nat → ClassId} {dI : Nat → Nat → Nat} {S : Type} {w wc : va_W}
theorem cal_i {post : Int32 → S → Prop} {w1 : S → va_W} (isC isR : List Nat) (hr : va_Run p l e R s m args below meth c H locs cells slots mc ms (F0 m pc ls st0) rest (va_Qi post (bW dC dI w1 (va_A wc H.size)) (va_A wc H.size) a) (va_A wc H.size)) (hP : va_P (dC, dI) vwCl w H) (hD : va_D A0 w) (hS : va_S A0 H0 H locs) (hA : ∀ q, H0.size ≤ q → A0 q)
    (hC : isC.map (fun i => w[i]?) = wc.map some) (hR : isR.map (fun i => w[i]?) = (isR.filterMap (fun i => w[i]?)).map some) (hn : va_nd isR = true) (hdis : ∀ i ∈ isR, i ∉ isC)
    (kk : ∀ (r : Int32) (u : S) (H1 : Heap) (locs1 : List Loc), post r u → va_P (dC, dI) vwCl (isR.filterMap (fun i => w[i]?) ++ w1 u) H1 → va_D A0 (isR.filterMap (fun i => w[i]?) ++ w1 u) → va_S A0 H0 H1 locs1 → W p l e R s m args below meth c H1 locs1 (cells + mc) (slots + ms) Q (F0 m (pc + 3) ls (.int r :: rest))) : W p l e R s m args below meth c H locs cells slots Q (F0 m pc ls st0) := by
  have hF := va_free (wc := wc) hD hS hA isC hC
  refine va_calli hr hS (fun q _ h => hF q h) hF (fun r u t H1 locs1 ht hvm hw hB hz hk hS1 => ?_)
  obtain ⟨hP1, hD1⟩ := hB
  rw [ht] at hP1
  obtain ⟨hP2, hD2⟩ := va_join hP hD isC isR hC hR hn hdis hk hF hP1 hD1
  exact kk r u H1 locs1 hw hP2 hD2 hS1
theorem cal_l {post : Int64 → S → Prop} {w1 : S → va_W} (isC isR : List Nat) (hr : va_Run p l e R s m args below meth c H locs cells slots mc ms (F0 m pc ls st0) rest (va_Ql post (bW dC dI w1 (va_A wc H.size)) (va_A wc H.size) a) (va_A wc H.size)) (hP : va_P (dC, dI) vwCl w H) (hD : va_D A0 w) (hS : va_S A0 H0 H locs) (hA : ∀ q, H0.size ≤ q → A0 q)
    (hC : isC.map (fun i => w[i]?) = wc.map some) (hR : isR.map (fun i => w[i]?) = (isR.filterMap (fun i => w[i]?)).map some) (hn : va_nd isR = true) (hdis : ∀ i ∈ isR, i ∉ isC)
    (kk : ∀ (r : Int64) (u : S) (H1 : Heap) (locs1 : List Loc), post r u → va_P (dC, dI) vwCl (isR.filterMap (fun i => w[i]?) ++ w1 u) H1 → va_D A0 (isR.filterMap (fun i => w[i]?) ++ w1 u) → va_S A0 H0 H1 locs1 → W p l e R s m args below meth c H1 locs1 (cells + mc) (slots + ms) Q (F0 m (pc + 3) ls (.long r :: rest))) : W p l e R s m args below meth c H locs cells slots Q (F0 m pc ls st0) := by
  have hF := va_free (wc := wc) hD hS hA isC hC
  refine va_calll hr hS (fun q _ h => hF q h) hF (fun r u t H1 locs1 ht hvm hw hB hz hk hS1 => ?_)
  obtain ⟨hP1, hD1⟩ := hB
  rw [ht] at hP1
  obtain ⟨hP2, hD2⟩ := va_join hP hD isC isR hC hR hn hdis hk hF hP1 hD1
  exact kk r u H1 locs1 hw hP2 hD2 hS1
theorem cal_v {post : S → Prop} {w1 : S → va_W} (isC isR : List Nat) (hr : va_Run p l e R s m args below meth c H locs cells slots mc ms (F0 m pc ls st0) rest (va_Qv post (bW dC dI w1 (va_A wc H.size)) (va_A wc H.size) a) (va_A wc H.size)) (hP : va_P (dC, dI) vwCl w H) (hD : va_D A0 w) (hS : va_S A0 H0 H locs) (hA : ∀ q, H0.size ≤ q → A0 q)
    (hC : isC.map (fun i => w[i]?) = wc.map some) (hR : isR.map (fun i => w[i]?) = (isR.filterMap (fun i => w[i]?)).map some) (hn : va_nd isR = true) (hdis : ∀ i ∈ isR, i ∉ isC)
    (kk : ∀ (u : S) (H1 : Heap) (locs1 : List Loc), post u → va_P (dC, dI) vwCl (isR.filterMap (fun i => w[i]?) ++ w1 u) H1 → va_D A0 (isR.filterMap (fun i => w[i]?) ++ w1 u) → va_S A0 H0 H1 locs1 → W p l e R s m args below meth c H1 locs1 (cells + mc) (slots + ms) Q (F0 m (pc + 3) ls rest)) : W p l e R s m args below meth c H locs cells slots Q (F0 m pc ls st0) := by
  have hF := va_free (wc := wc) hD hS hA isC hC
  refine va_callv hr hS (fun q _ h => hF q h) hF (fun u t H1 locs1 ht hvm hw hB hz hk hS1 => ?_)
  obtain ⟨hP1, hD1⟩ := hB
  rw [ht] at hP1
  obtain ⟨hP2, hD2⟩ := va_join hP hD isC isR hC hR hn hdis hk hF hP1 hD1
  exact kk u H1 locs1 hw hP2 hD2 hS1
theorem cal_r {post : S → Prop} {w1 : S → Nat → va_W} (isC isR : List Nat) (hr : va_Run p l e R s m args below meth c H locs cells slots mc ms (F0 m pc ls st0) rest (va_Qr post (bR dC dI w1 (va_A wc H.size)) (va_A wc H.size) a) (va_A wc H.size)) (hP : va_P (dC, dI) vwCl w H) (hD : va_D A0 w) (hS : va_S A0 H0 H locs) (hA : ∀ q, H0.size ≤ q → A0 q)
    (hC : isC.map (fun i => w[i]?) = wc.map some) (hR : isR.map (fun i => w[i]?) = (isR.filterMap (fun i => w[i]?)).map some) (hn : va_nd isR = true) (hdis : ∀ i ∈ isR, i ∉ isC)
    (kk : ∀ (ra : Nat) (u : S) (H1 : Heap) (locs1 : List Loc), post u → va_P (dC, dI) vwCl (isR.filterMap (fun i => w[i]?) ++ w1 u ra) H1 → va_D A0 (isR.filterMap (fun i => w[i]?) ++ w1 u ra) → va_S A0 H0 H1 locs1 → W p l e R s m args below meth c H1 locs1 (cells + mc) (slots + ms) Q (F0 m (pc + 3) ls (.ref ra :: rest))) : W p l e R s m args below meth c H locs cells slots Q (F0 m pc ls st0) := by
  have hF := va_free (wc := wc) hD hS hA isC hC
  refine va_callr hr hS (fun q _ h => hF q h) hF (fun u ra t H1 locs1 ht hvm hw hB hz hk hS1 => ?_)
  obtain ⟨hP1, hD1⟩ := hB
  rw [ht] at hP1
  obtain ⟨hP2, hD2⟩ := va_join hP hD isC isR hC hR hn hdis hk hF hP1 hD1
  exact kk ra u H1 locs1 hw hP2 hD2 hS1
end XC
theorem xz01 {v : Int32} (h : v = 0 ∨ v = 1) : narrow .boolean (.int v) = .int v := by rcases h with rfl | rfl <;> rfl
