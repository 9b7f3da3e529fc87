/-! falling: a row of steps against the walk itself -/
def ds (k m b : Nat) : Nat → Nat → Prop
  | 0, x => x = m
  | j + 1, x => x ≠ m ∧ 1 ≤ x ∧ x ≤ b ∧ ds k m b j (tbv k x)
def fl (k m b : Nat) : Nat → Nat → Bool
  | 0, x => decide (x = m)
  | j + 1, x => decide (x = m) || (decide (1 ≤ x ∧ x ≤ b) && fl k m b j (tbv k x))
def itk (k : Nat) : Nat → Nat → Nat
  | 0, x => x
  | i + 1, x => tbv k (itk k i x)
theorem itk_s (k : Nat) : ∀ i x, itk k (i + 1) x = itk k i (tbv k x)
  | 0, _ => rfl
  | i + 1, x => by
    show tbv k (itk k (i + 1) x) = tbv k (itk k i (tbv k x))
    rw [itk_s k i x]
theorem ds_one {k m b : Nat} : ∀ i j x, ds k m b i x → ds k m b j x → i = j
  | 0, 0, _, _, _ => rfl
  | 0, j + 1, x, h1, h2 => absurd h1 h2.1
  | i + 1, 0, x, h1, h2 => absurd h2 h1.1
  | i + 1, j + 1, x, h1, h2 => by rw [ds_one i j (tbv k x) h1.2.2.2 h2.2.2.2]
theorem ds_it {k m b : Nat} : ∀ i j x, ds k m b j x → i ≤ j → ds k m b (j - i) (itk k i x)
  | 0, j, x, h, _ => h
  | i + 1, j + 1, x, h, hi => by
    rw [itk_s, Nat.succ_sub_succ]
    exact ds_it i j (tbv k x) h.2.2.2 (by omega)
theorem ds_in {k m b : Nat} (hm1 : 1 ≤ m) (hmb : m ≤ b) : ∀ j x, ds k m b j x → x ≤ b
  | 0, x, h => by rw [show x = m from h]; exact hmb
  | j + 1, x, h => h.2.2.1
theorem ds_le {k m b : Nat} (hm1 : 1 ≤ m) (hmb : m ≤ b) {j x : Nat} (h : ds k m b j x) : j ≤ b := by
  have := fb_holes (b + 1) (j + 1) (fun i => itk k i x) (fun i hi => by
    have := ds_in hm1 hmb _ _ (ds_it i j x h (by omega))
    show itk k i x < b + 1
    omega) (fun i i2 h1 h2 e => by
    have e : itk k i x = itk k i2 x := e
    have a := ds_it i j x h (by omega)
    have b2 := ds_it i2 j x h (by omega)
    rw [e] at a
    have := ds_one _ _ _ a b2
    omega)
  omega
theorem fl_iff {k m b : Nat} : ∀ j x, fl k m b j x = true ↔ ∃ i, i ≤ j ∧ ds k m b i x
  | 0, x => by
    unfold fl
    constructor
    · intro h
      have h : x = m := by simpa using h
      exact ⟨0, Nat.le_refl 0, h⟩
    · rintro ⟨i, h1, h2⟩
      have : i = 0 := by omega
      subst this
      have h2 : x = m := h2
      simpa using h2
  | j + 1, x => by
    unfold fl
    have ih := fl_iff (k := k) (m := m) (b := b) j (tbv k x)
    constructor
    · intro h
      by_cases c : x = m
      · exact ⟨0, by omega, c⟩
      · simp only [c, decide_false, Bool.false_or, Bool.and_eq_true, decide_eq_true_eq] at h
        obtain ⟨i, h1, h2⟩ := ih.mp h.2
        exact ⟨i + 1, by omega, c, h.1.1, h.1.2, h2⟩
    · rintro ⟨i, h1, h2⟩
      match i, h1, h2 with
      | 0, _, h2 => have h2 : x = m := h2; simp [h2]
      | i + 1, h1, h2 =>
        have : fl k m b j (tbv k x) = true := ih.mpr ⟨i, by omega, h2.2.2.2⟩
        simp [this, h2.2.1, h2.2.2.1]
def OKv (k m b : Nat) (y : Nat) (v : Int32) : Prop := (∃ j, v = nI (j + 1) ∧ ds k m b j y) ∨ (v = -2 ∧ ∀ j, ¬ ds k m b j y)
def Rw (k m b : Nat) (a : Nat → Int32) : Prop := a m ≠ 0 ∧ ∀ y, 1 ≤ y → y ≤ b → a y = 0 ∨ OKv k m b y (a y)
theorem OKv.ne {k m b y : Nat} {v : Int32} (hm1 : 1 ≤ m) (hmb : m ≤ b) (hb : b ≤ 50000) (h : OKv k m b y v) : v ≠ 0 ∧ v ≠ -1 := by
  rcases h with ⟨j, rfl, h⟩ | ⟨rfl, _⟩
  · have := ds_le hm1 hmb h
    exact ⟨L_ne (j + 1) 0 (by omega) (by omega) (by decide), nI_nem (by omega)⟩
  · exact ⟨by decide, by decide⟩
theorem isOpen_f (N : Nat) {b x : Nat} (hb : b ≤ 50000) (hx : x < 2 ^ 31) (a : Nat → Int32) : f_X5_isOpen N (nI x) (nI b) 50001 a = some (if 1 ≤ x ∧ x ≤ b ∧ a x = 0 then 1 else 0) := by
  unfold f_X5_isOpen
  by_cases c1 : x < 1
  · rw [if_pos (L_lt x 1 c1 (by decide)), if_neg (fun q => by omega)]
  · rw [if_neg (L_nlt x 1 (by omega) hx)]
    by_cases c2 : b < x
    · rw [if_pos (L_lt b x c2 hx), if_neg (fun q => by omega)]
    · rw [if_neg (L_nlt b x (by omega) (by omega)), if_neg (L_nle 50001 x (by omega) (by decide)), if_neg (L_in x 50001 (by omega) hx), nI_clamp hx]
      by_cases c3 : a x = 0
      · rw [if_pos c3, if_pos ⟨by omega, by omega, c3⟩]
      · rw [if_neg c3, if_neg (fun q => c3 q.2.2)]
theorem itk_lt {k : Nat} (hk : k ≤ 3) {n : Nat} (hn : n ≤ 50000) : ∀ i, itk k i n < 2 ^ 28
  | 0 => by show n < _; omega
  | i + 1 => tbv_lt hk
/-- the second walk: it tells the steps -/
theorem tell2 (N : Nat) (hN : 2 ^ 40 ≤ N) {A B : Nat → Int32} (hT : TT A B) {k m b n len : Nat} (hk : k ≤ 3) (hb : b ≤ 50000) (hn : n ≤ 50000) (hlen : len ≤ 50000) (a1 : Nat → Int32) (v7 v8 : Int32) (V : Nat → Int32) (hin : ∀ t, t < len → 1 ≤ itk k t n ∧ itk k t n ≤ b) (hV : ∀ t, t < len → (if v7 = 0 then (-2 : Int32) else (v8 + nI len) - nI t) = V t) (hOK : ∀ t, t < len → OKv k m b (itk k t n) (V t)) : ∃ a', l_X5_tellWay_111 N (nI k) (nI len) v7 v8 50001 A 50001 B 50001 N (nI n, (0 : Int32), a1) = some a' ∧ (∀ y, (∃ t, t < len ∧ itk k t n = y) → OKv k m b y (a' y)) ∧ (∀ y, (¬ ∃ t, t < len ∧ itk k t n = y) → a' y = a1 y) := by
  have h40 : (2 : Nat) ^ 40 = 1099511627776 := by decide
  unfold l_X5_tellWay_111
  refine lp_post (I := fun (z : Int32 × Int32 × (Nat → Int32)) => ∃ t : Nat, z.1 = nI (itk k t n) ∧ z.2.1 = nI t ∧ t ≤ len ∧ (∀ y, (∃ s, s < t ∧ itk k s n = y) → OKv k m b y (z.2.2 y)) ∧ (∀ y, (¬ ∃ s, s < t ∧ itk k s n = y) → z.2.2 y = a1 y)) (μ := fun z => 50001 - z.2.1.toNatClampNeg) (post := fun r => ∃ a' : Nat → Int32, r = some a' ∧ (∀ y, (∃ t, t < len ∧ itk k t n = y) → OKv k m b y (a' y)) ∧ (∀ y, (¬ ∃ t, t < len ∧ itk k t n = y) → a' y = a1 y)) ?_ N _ ?_ ?_
  · intro z K hI hK
    obtain ⟨z1, z2, z3⟩ := z
    obtain ⟨t, e1, e2, ht, h1, h2⟩ := hI
    simp only at e1 e2 h1 h2
    subst e1
    subst e2
    show ∃ a', s_X5_tellWay_111 N (nI k) (nI len) v7 v8 50001 A 50001 B 50001 K (nI (itk k t n)) (nI t) z3 = some a' ∧ _
    unfold s_X5_tellWay_111
    by_cases c : len ≤ t
    · rw [if_pos (L_le len t c (by omega))]
      have : t = len := by omega
      subst this
      exact ⟨z3, rfl, h1, h2⟩
    · obtain ⟨i1, i2⟩ := hin t (by omega)
      have h28 := itk_lt hk hn t
      rw [if_neg (L_nle len t (by omega) (by omega)), if_neg (L_nlt (itk k t n) 1 i1 (by omega)), if_neg (L_nle 50001 (itk k t n) (by omega) (by decide))]
      have key : ∃ a', j_X5_tellWay_154 N K (nI k) (nI (itk k t n)) (nI t) (V t) (nI (itk k t n)) 50001 A 50001 B 50001 z3 = some a' ∧ (∀ y, (∃ t, t < len ∧ itk k t n = y) → OKv k m b y (a' y)) ∧ (∀ y, (¬ ∃ t, t < len ∧ itk k t n = y) → a' y = a1 y) := by
        unfold j_X5_tellWay_154
        rw [if_neg (L_in (itk k t n) 50001 (by omega) (by omega)), nI_clamp (by omega), summed7 N hT hk (by omega), ob]
        simp only [xl, nI_1]
        refine hK _ ⟨t + 1, rfl, rfl, by omega, fun y hy => ?_, fun y hy => ?_⟩ ?_
        · show OKv k m b y (upd z3 (itk k t n) (V t) y)
          by_cases q : y = itk k t n
          · subst q; rw [pk_us]; exact hOK t (by omega)
          · rw [pk_un q]
            obtain ⟨s, hs, es⟩ := hy
            refine h1 y ⟨s, ?_, es⟩
            rcases Nat.lt_or_ge s t with w | w
            · exact w
            · exfalso
              have : s = t := by omega
              subst this
              exact q es.symm
        · show upd z3 (itk k t n) (V t) y = a1 y
          have q : y ≠ itk k t n := fun q => hy ⟨t, by omega, q.symm⟩
          rw [pk_un q]
          exact h2 y (fun ⟨s, hs, es⟩ => hy ⟨s, by omega, es⟩)
        · show 50001 - (nI (t + 1)).toNatClampNeg < 50001 - (nI t).toNatClampNeg
          rw [nI_clamp (by omega), nI_clamp (by omega)]; omega
      have hv := hV t (by omega)
      by_cases c7 : v7 = 0
      · rw [if_pos c7]; rw [if_pos c7] at hv; rw [hv]; exact key
      · rw [if_neg c7]; rw [if_neg c7] at hv; rw [hv]; exact key
  · exact ⟨0, rfl, rfl, Nat.zero_le _, fun y ⟨s, hs, _⟩ => by omega, fun y _ => rfl⟩
  · show 50001 - _ < N
    omega
theorem tellWay_f (N : Nat) (hN : 2 ^ 40 ≤ N) {A B : Nat → Int32} (hT : TT A B) {k m b n : Nat} (hk : k ≤ 3) (hb : b ≤ 50000) (hm1 : 1 ≤ m) (hmb : m ≤ b) (hn1 : 1 ≤ n) (hnb : n ≤ b) {a0 : Nat → Int32} (hR : Rw k m b a0) (h0 : a0 n = 0) : ∃ a', f_X5_tellWay N (nI k) (nI b) (nI n) 50001 A 50001 B 50001 a0 = some a' ∧ Rw k m b a' ∧ a' n ≠ 0 := by
  have h40 : (2 : Nat) ^ 40 = 1099511627776 := by decide
  unfold f_X5_tellWay l_X5_tellWay_9
  refine lp_post (I := fun (z : Int32 × Int32 × Int32 × (Nat → Int32)) => ∃ i : Nat, z.1 = nI i ∧ z.2.1 = nI (itk k i n) ∧ z.2.2.1 = nI i ∧ (∀ t, t < i → 1 ≤ itk k t n ∧ itk k t n ≤ b ∧ a0 (itk k t n) = 0) ∧ (∀ s t, s < t → t < i → itk k s n ≠ itk k t n) ∧ (∀ y, (∃ t, t < i ∧ itk k t n = y) → z.2.2.2 y = -1) ∧ (∀ y, (¬ ∃ t, t < i ∧ itk k t n = y) → z.2.2.2 y = a0 y)) (μ := fun z => 50001 - z.1.toNatClampNeg) (post := fun r => ∃ a' : Nat → Int32, r = some a' ∧ Rw k m b a' ∧ a' n ≠ 0) ?_ N _ ?_ ?_
  · intro z K hI hK
    obtain ⟨z1, z2, z3, z4⟩ := z
    obtain ⟨i, e1, e2, e3, hin, hdi, hy1, hy2⟩ := hI
    simp only at e1 e2 e3 hy1 hy2
    subst e1
    subst e2
    subst e3
    have hnm : ∀ t, t < i → itk k t n ≠ m := fun t ht q => by
      have := (hin t ht).2.2
      rw [q] at this
      exact hR.1 this
    -- no more than b - 1 can be on the way
    have hib : i + 1 ≤ b := fb_holes b (i + 1) (fun t => if t = i then m - 1 else itk k t n - 1) (fun t ht => by
      show (if t = i then m - 1 else itk k t n - 1) < b
      by_cases q : t = i
      · rw [if_pos q]; omega
      · rw [if_neg q]
        have := hin t (by omega)
        omega) (fun s t h1 h2 => by
      show (if s = i then m - 1 else itk k s n - 1) ≠ (if t = i then m - 1 else itk k t n - 1)
      rw [if_neg (by omega)]
      have a1 := hin s (by omega)
      by_cases q : t = i
      · rw [if_pos q]
        have := hnm s (by omega)
        omega
      · rw [if_neg q]
        have a2 := hin t (by omega)
        have := hdi s t h1 (by omega)
        omega)
    have h28 := itk_lt hk (show n ≤ 50000 by omega) i
    show ∃ a', s_X5_tellWay_9 N (nI k) (nI b) (nI n) 50001 A 50001 B 50001 K (nI i) (nI (itk k i n)) (nI i) z4 = some a' ∧ Rw k m b a' ∧ a' n ≠ 0
    unfold s_X5_tellWay_9
    rw [if_neg (L_nle 50000 i (by omega) (by decide)), isOpen_f N hb (by omega), ob]
    by_cases c : 1 ≤ itk k i n ∧ itk k i n ≤ b ∧ z4 (itk k i n) = 0
    · rw [if_pos c, if_neg one0, if_neg (L_in (itk k i n) 50001 (by omega) (by omega)), nI_clamp (by omega), summed7 N hT hk (by omega), ob]
      simp only [xl, nI_1]
      have hnew : ¬ ∃ t, t < i ∧ itk k t n = itk k i n := fun q => by
        have := hy1 _ q
        rw [this] at c
        exact absurd c.2.2 (by decide)
      refine hK _ ⟨i + 1, rfl, rfl, rfl, fun t ht => ?_, fun s t h1 h2 => ?_, fun y hy => ?_, fun y hy => ?_⟩ ?_
      · rcases Nat.lt_or_ge t i with w | w
        · exact hin t w
        · have : t = i := by omega
          subst this
          exact ⟨c.1, c.2.1, by rw [← hy2 _ hnew]; exact c.2.2⟩
      · rcases Nat.lt_or_ge t i with w | w
        · exact hdi s t h1 w
        · have : t = i := by omega
          subst this
          exact fun q => hnew ⟨s, h1, q⟩
      · show upd z4 (itk k i n) (-1) y = -1
        by_cases q : y = itk k i n
        · rw [q, pk_us]
        · rw [pk_un q]
          obtain ⟨s, hs, es⟩ := hy
          refine hy1 y ⟨s, ?_, es⟩
          rcases Nat.lt_or_ge s i with w | w
          · exact w
          · exfalso
            have : s = i := by omega
            subst this
            exact q es.symm
      · show upd z4 (itk k i n) (-1) y = a0 y
        have q : y ≠ itk k i n := fun q => hy ⟨i, by omega, q.symm⟩
        rw [pk_un q]
        exact hy2 y (fun ⟨s, hs, es⟩ => hy ⟨s, by omega, es⟩)
      · show 50001 - (nI (i + 1)).toNatClampNeg < 50001 - (nI i).toNatClampNeg
        rw [nI_clamp (by omega), nI_clamp (by omega)]; omega
    · rw [if_neg c, if_pos rfl]
      -- the way has an end: i ≥ 1
      have hi0 : 1 ≤ i := by
        rcases Nat.eq_zero_or_pos i with q | q
        · exfalso
          subst q
          exact c ⟨hn1, hnb, by rw [hy2 _ (fun ⟨t, ht, _⟩ => by omega)]; exact h0⟩
        · exact q
      -- what the second walk gives
      have fin : ∀ (v7 v8 : Int32) (V : Nat → Int32), (∀ t, t < i → (if v7 = 0 then (-2 : Int32) else (v8 + nI i) - nI t) = V t) → (∀ t, t < i → OKv k m b (itk k t n) (V t)) → ∃ a', j_X5_tellWay_103 N (nI k) (nI n) (nI i) v7 v8 50001 A 50001 B 50001 z4 = some a' ∧ Rw k m b a' ∧ a' n ≠ 0 := by
        intro v7 v8 V hV hOK
        unfold j_X5_tellWay_103
        obtain ⟨a', g1, g2, g3⟩ := tell2 N hN hT hk hb (show n ≤ 50000 by omega) (show i ≤ 50000 by omega) z4 v7 v8 V (fun t ht => ⟨(hin t ht).1, (hin t ht).2.1⟩) hV hOK
        refine ⟨a', g1, ⟨?_, fun y y1 y2 => ?_⟩, ((g2 n ⟨0, by omega, rfl⟩).ne hm1 hmb hb).1⟩
        · have : ¬ ∃ t, t < i ∧ itk k t n = m := fun ⟨t, ht, q⟩ => hnm t ht q
          rw [g3 m this, hy2 m this]
          exact hR.1
        · by_cases q : ∃ t, t < i ∧ itk k t n = y
          · exact Or.inr (g2 y q)
          · rw [g3 y q, hy2 y q]
            exact hR.2 y y1 y2
      -- steps of the way from those of its end
      have up : ∀ j d t, t + d = i → ds k m b j (itk k i n) → ds k m b (j + d) (itk k t n) := by
        intro j d
        induction d with
        | zero => intro t ht h; rw [show t = i by omega]; exact h
        | succ d ih =>
          intro t ht h
          have a := ih (t + 1) (by omega) h
          have hi := hin t (by omega)
          exact ⟨hnm t (by omega), hi.1, hi.2.1, a⟩
      have dn : ∀ j t, t < i → ds k m b j (itk k t n) → ∃ j', j = j' + 1 ∧ ds k m b j' (itk k (t + 1) n) := by
        intro j t ht h
        match j, h with
        | 0, h => exact absurd h (hnm t ht)
        | j + 1, h => exact ⟨j, rfl, h.2.2.2⟩
      have nev : (∀ j, ¬ ds k m b j (itk k i n)) → ∀ d t, t + d = i → ∀ j, ¬ ds k m b j (itk k t n) := by
        intro hno d
        induction d with
        | zero => intro t ht; rw [show t = i by omega]; exact hno
        | succ d ih =>
          intro t ht j h
          obtain ⟨j', _, h'⟩ := dn j t (by omega) h
          exact ih (t + 1) (by omega) j' h'
      have no : (∀ t, t < i → ∀ j, ¬ ds k m b j (itk k t n)) → ∃ a', j_X5_tellWay_86 N (nI k) (nI n) (nI i) (nI (itk k i n)) 50001 A 50001 B 50001 z4 = some a' ∧ Rw k m b a' ∧ a' n ≠ 0 := by
        intro h
        unfold j_X5_tellWay_86 j_X5_tellWay_87
        rw [if_pos rfl]
        exact fin 0 0 (fun _ => -2) (fun t _ => by rw [if_pos rfl]) (fun t ht => Or.inr ⟨rfl, h t ht⟩)
      unfold j_X5_tellWay_54
      by_cases c1 : itk k i n < 1
      · rw [if_pos (L_lt (itk k i n) 1 c1 (by decide))]
        refine no (fun t ht => nev (fun j h => ?_) (i - t) t (by omega))
        match j, h with
        | 0, h => have h : itk k i n = m := h; omega
        | j + 1, h => have := h.2.1; omega
      · rw [if_neg (L_nlt (itk k i n) 1 (by omega) (by omega))]
        by_cases c2 : b < itk k i n
        · rw [if_pos (L_lt b (itk k i n) c2 (by omega))]
          refine no (fun t ht => nev (fun j h => ?_) (i - t) t (by omega))
          have := ds_in hm1 hmb _ _ h
          omega
        · rw [if_neg (L_nlt b (itk k i n) (by omega) (by omega)), if_neg (L_nle 50001 (itk k i n) (by omega) (by decide)), if_neg (L_in (itk k i n) 50001 (by omega) (by omega)), nI_clamp (by omega)]
          by_cases onw : ∃ t, t < i ∧ itk k t n = itk k i n
          · rw [hy1 _ onw, if_pos (by decide)]
            obtain ⟨t0, ht0, et0⟩ := onw
            have cyc : ∀ j t, t < i → ¬ ds k m b j (itk k t n) := by
              intro j
              induction j with
              | zero => intro t ht h; exact hnm t ht h
              | succ j ih =>
                intro t ht h
                have h' := h.2.2.2
                rcases Nat.lt_or_ge (t + 1) i with w | w
                · exact ih (t + 1) w h'
                · have : t + 1 = i := by omega
                  have h'' : ds k m b j (itk k (t + 1) n) := h'
                  rw [this, ← et0] at h''
                  exact ih t0 ht0 h''
            exact no (fun t ht j => cyc j t ht)
          · have ez := hy2 _ onw
            have hne : ¬ z4 (itk k i n) = 0 := fun q => c ⟨by omega, by omega, q⟩
            rcases hR.2 (itk k i n) (by omega) (by omega) with q | ⟨j, q1, q2⟩ | ⟨q1, q2⟩
            · exact absurd (by rw [ez]; exact q) hne
            · have hj := ds_le hm1 hmb q2
              rw [ez, q1, if_neg (L_nle (j + 1) 0 (by omega) (by omega))]
              unfold j_X5_tellWay_87
              rw [if_neg one0, if_neg (L_in (itk k i n) 50001 (by omega) (by omega)), nI_clamp (by omega), ez, q1]
              refine fin 1 (nI (j + 1)) (fun t => nI (j + 1 + i - t)) (fun t ht => ?_) (fun t ht => Or.inl ⟨j + (i - t), ?_, up j (i - t) t (by omega) q2⟩)
              · rw [if_neg one0, nI_add, pk_sub (by omega)]
              · show nI (j + 1 + i - t) = nI (j + (i - t) + 1)
                rw [show j + 1 + i - t = j + (i - t) + 1 by omega]
            · rw [ez, q1, if_pos (by decide)]
              exact no (fun t ht => nev q2 (i - t) t (by omega))
  · exact ⟨0, rfl, rfl, rfl, fun t ht => by omega, fun s t h1 h2 => by omega, fun y ⟨t, ht, _⟩ => by omega, fun y _ => rfl⟩
  · show 50001 - _ < N
    omega
def flC (k m b j : Nat) (n : Nat) : Nat := fb_ct (fun y => decide (1 ≤ y) && fl k m b j y) n
theorem fall_c (N : Nat) (hN : 2 ^ 40 ≤ N) {A B : Nat → Int32} (hT : TT A B) {k m b j : Nat} (hk : k ≤ 3) (hb : b ≤ 50000) (hj : j ≤ 50) (hm1 : 1 ≤ m) (hm : m ≤ 50000) (MC MS : Nat) (a_row : Nat → Int32) : ∃ a', f_X5_howManyFall N MC MS (nI k) (nI m) (nI j) (nI b) 50001 a_row 50001 A 50001 B = some (nI (if m ≤ b then flC k m b j (b + 1) else 0), 50001, a') := by
  have h40 : (2 : Nat) ^ 40 = 1099511627776 := by decide
  have h20 : (2 : Nat) ^ 20 = 1048576 := by decide
  unfold f_X5_howManyFall
  by_cases hmb : m ≤ b
  · rw [if_pos (L_le m b hmb (by omega)), if_pos hmb]
    have e0 : ¬ nI 50001 = 0 := by decide
    simp only [if_neg e0]
    have hz : 0 + 0 ≤ MC ∧ 0 + 0 ≤ MS := ⟨Nat.zero_le _, Nat.zero_le _⟩
    obtain ⟨a1, f1, f2⟩ := cleared_f N (by omega) (MC := 0) (MS := 0) (n_row := 50001) (Or.inr rfl) (by decide) (by decide) a_row
    rw [if_pos hz, f1, ob]
    simp only
    rw [if_neg (L_nlt m 1 hm1 (by omega)), if_pos (L_lt b 50001 (by omega) (by decide)), if_neg (L_in m 50001 (by omega) (by omega)), nI_clamp (by omega)]
    unfold l_X5_howManyFall_43
    refine lp_post (I := fun (z : Int32 × Int32 × (Nat → Int32)) => ∃ n : Nat, z.1 = nI (flC k m b j n) ∧ z.2.1 = nI n ∧ 1 ≤ n ∧ n ≤ b + 1 ∧ Rw k m b z.2.2) (μ := fun z => 50002 - z.2.1.toNatClampNeg) (post := fun r => ∃ a', r = some (nI (flC k m b j (b + 1)), 50001, a')) ?_ N _ ?_ ?_
    · intro z K hI hK
      obtain ⟨z1, z2, z3⟩ := z
      obtain ⟨n, e1, e2, hn1, hn2, hR⟩ := hI
      simp only at e1 e2 hR
      subst e1
      subst e2
      show ∃ a', s_X5_howManyFall_43 N MC MS (nI k) (nI j) (nI b) 50001 50001 A 50001 B (0 + 0) (0 + 0) K (nI (flC k m b j n)) (nI n) z3 = _
      unfold s_X5_howManyFall_43
      by_cases c : b < n
      · rw [if_pos (L_lt b n c (by omega)), if_pos hz, show n = b + 1 by omega]
        exact ⟨z3, rfl⟩
      · rw [if_neg (L_nlt b n (by omega) (by omega)), if_neg (L_in n 50001 (by omega) (by omega)), nI_clamp (by omega)]
        have key : ∀ a2 : Nat → Int32, Rw k m b a2 → a2 n ≠ 0 → ∃ a', j_X5_howManyFall_69 N K (nI j) (nI (flC k m b j n)) (nI n) 50001 a2 = some (nI (flC k m b j (b + 1)), 50001, a') := by
          intro a2 hR2 hne
          have hμ : 50002 - (nI (n + 1)).toNatClampNeg < 50002 - (nI n).toNatClampNeg := by rw [nI_clamp (by omega), nI_clamp (by omega)]; omega
          have hs : flC k m b j (n + 1) = flC k m b j n + (if fl k m b j n = true then 1 else 0) := by
            unfold flC
            rw [fb_ct_succ]
            simp [hn1]
          unfold j_X5_howManyFall_69
          rw [if_neg (L_in n 50001 (by omega) (by omega)), nI_clamp (by omega)]
          simp only [xl, nI_1]
          rcases hR2.2 n hn1 (by omega) with q | ⟨i, q1, q2⟩ | ⟨q1, q2⟩
          · exact absurd q hne
          · have hi := ds_le hm1 hmb q2
            rw [q1, if_neg (L_nle (i + 1) 0 (by omega) (by omega))]
            by_cases w : j + 1 < i + 1
            · rw [if_pos (L_lt (j + 1) (i + 1) w (by omega))]
              refine hK _ ⟨n + 1, ?_, rfl, by omega, by omega, hR2⟩ hμ
              show nI _ = nI _
              rw [hs, if_neg (fun h => by
                obtain ⟨i2, a, b2⟩ := (fl_iff j n).mp h
                have := ds_one _ _ _ b2 q2
                omega), Nat.add_zero]
            · rw [if_neg (L_nlt (j + 1) (i + 1) (by omega) (by omega))]
              refine hK _ ⟨n + 1, ?_, rfl, by omega, by omega, hR2⟩ hμ
              show nI _ = nI _
              rw [hs, if_pos ((fl_iff j n).mpr ⟨i, by omega, q2⟩)]
          · rw [q1, if_pos (by decide)]
            refine hK _ ⟨n + 1, ?_, rfl, by omega, by omega, hR2⟩ hμ
            show nI _ = nI _
            rw [hs, if_neg (fun h => by
                obtain ⟨i2, a, b2⟩ := (fl_iff j n).mp h
                exact q2 i2 b2), Nat.add_zero]
        by_cases c2 : z3 n = 0
        · rw [if_pos c2, if_pos hz]
          obtain ⟨a', g1, g2, g3⟩ := tellWay_f N hN hT hk hb hm1 hmb hn1 (by omega) hR c2
          rw [g1, ob]
          exact key a' g2 g3
        · rw [if_neg c2]
          exact key z3 hR c2
    · refine ⟨1, ?_, rfl, by decide, by omega, ?_, fun y y1 y2 => ?_⟩
      · show (0 : Int32) = nI _
        have : flC k m b j 1 = 0 := by unfold flC; rw [fb_ct_succ]; simp [fb_ct]
        rw [this]; rfl
      · show upd a1 m 1 m ≠ 0
        rw [pk_us]; decide
      · show upd a1 m 1 y = 0 ∨ OKv k m b y (upd a1 m 1 y)
        by_cases q : y = m
        · subst q
          rw [pk_us]
          exact Or.inr (Or.inl ⟨0, rfl, rfl⟩)
        · rw [pk_un q, f2 y (by omega)]
          exact Or.inl rfl
    · show 50002 - _ < N
      omega
  · rw [if_neg (L_nle m b (by omega) (by omega)), if_neg hmb, if_pos (z2 MC MS)]
    exact ⟨a_row, rfl⟩
theorem fall_in (N : Nat) {t : Nat → Int32} {k m b : Nat} (hk : k ≤ 3) (hT : MT k t) (hb : b ≤ 50000) (hm : m ≤ 50000) {c n : Nat} (K : (Int32 × Int32) → Option (Int32 × Int32 × Int32 × (Nat → Int64) × (Nat → Int32))) {J : Nat} (hJ : J ≤ 50) : ∀ d x s f, s + d = J → d < f → x < 2 ^ 31 → l_X12_falling_71 N K (nI m) (nI J) (nI b) (nI c) (nI n) t f (nI x, nI s) = K (nI (c + (if m ≤ b ∧ fl k m b d x = true then 1 else 0)), nI (n + 1)) := by
  have fin : ∀ x d, x < 2 ^ 31 → (fl k m b d x = true ↔ x = m) → j_X12_falling_111 N K (nI m) (nI b) (nI c) (nI n) (nI x) = K (nI (c + (if m ≤ b ∧ fl k m b d x = true then 1 else 0)), nI (n + 1)) := by
    intro x d hx h
    unfold j_X12_falling_111
    simp only [xl, nI_1]
    have z : nI c + (0 : Int32) = nI (c + 0) := nI_add c 0
    by_cases q : x = m
    · rw [if_pos (by rw [q])]
      by_cases w : b < m
      · rw [if_pos (L_lt b m w (by omega)), if_neg (fun r => by omega), z]
      · rw [if_neg (L_nlt b m (by omega) (by omega)), if_pos ⟨by omega, h.mpr q⟩]
    · rw [if_neg (L_ne x m q hx (by omega)), if_neg (fun r => q (h.mp r.2)), z]
  intro d
  induction d with
  | zero =>
    intro x s f hs hf hx
    match f, hf with
    | f + 1, _ =>
      show s_X12_falling_71 N K (nI m) (nI J) (nI b) (nI c) (nI n) t _ (nI x) (nI s) = _
      unfold s_X12_falling_71
      rw [if_pos (L_le J s (by omega) (by omega))]
      exact fin x 0 hx (by simp [fl])
  | succ d ih =>
    intro x s f hs hf hx
    match f, hf with
    | f + 1, hf =>
      show s_X12_falling_71 N K (nI m) (nI J) (nI b) (nI c) (nI n) t (l_X12_falling_71 N K (nI m) (nI J) (nI b) (nI c) (nI n) t f) (nI x) (nI s) = _
      unfold s_X12_falling_71
      rw [if_neg (L_nle J s (by omega) (by omega))]
      by_cases q : x = m
      · rw [if_pos (by rw [q])]
        exact fin x (d + 1) hx (by simp [fl, q])
      · rw [if_neg (L_ne x m q hx (by omega))]
        have hin := in_f N (nI x) 1 b (by decide) (by omega)
        have hin : f_X12_in N (nI x).toInt64 (1 : Int64) (lN b) = f_X11_within N (nI x) (1 : Int32) (nI b) := hin
        rw [nI_i64 (show b < 2 ^ 31 by omega), hin]
        unfold f_X11_within
        by_cases c1 : x < 1
        · rw [if_pos (L_lt x 1 c1 (by decide)), ob, if_pos rfl]
          exact fin x (d + 1) hx (by unfold fl; simp [q]; omega)
        · rw [if_neg (L_nlt x 1 (by omega) hx)]
          by_cases c2 : b < x
          · rw [if_pos (L_lt b x c2 hx), ob, if_pos rfl]
            exact fin x (d + 1) hx (by unfold fl; simp [q]; omega)
          · rw [if_neg (L_nlt b x (by omega) (by omega)), ob, if_neg one0, if_neg (L_in x 50001 (by omega) hx), nI_clamp hx, hT x (by omega)]
            simp only [xl, nI_1]
            have h28 := tbv_lt (x := x) hk
            rw [ih (tbv k x) (s + 1) f (by omega) (by omega) (by omega)]
            have : fl k m b (d + 1) x = fl k m b d (tbv k x) := by
              show (decide (x = m) || (decide (1 ≤ x ∧ x ≤ b) && fl k m b d (tbv k x))) = _
              simp [q, show 1 ≤ x by omega, show x ≤ b by omega]
            rw [this]
theorem fall_m (N : Nat) (hN : 2 ^ 40 ≤ N) {t : Nat → Int32} {k m b J : Nat} (hk : k ≤ 3) (hT : MT k t) (hb : b ≤ 50000) (hJ : J ≤ 50) (hm : m ≤ 50000) (pm tk : Int32) (ps : Nat → Int64) : l_X12_falling_57 N (nI m) (nI J) (nI b) pm tk ps t N ((0 : Int32), (1 : Int32)) = some (nI (if m ≤ b then flC k m b J (b + 1) else 0), pm, tk, ps, t) := by
  have h40 : (2 : Nat) ^ 40 = 1099511627776 := by decide
  unfold l_X12_falling_57
  refine lp_eq _ (I := fun (z : Int32 × Int32) => ∃ n : Nat, z.1 = nI (if m ≤ b then flC k m b J n else 0) ∧ z.2 = nI n ∧ 1 ≤ n ∧ n ≤ b + 1) (μ := fun z => 50002 - z.2.toNatClampNeg) ?_ N _ ?_ ?_
  · intro z K hI hK
    obtain ⟨z1, z2⟩ := z
    obtain ⟨n, e1, e2, hn1, hn2⟩ := hI
    simp only at e1 e2
    subst e1
    subst e2
    show s_X12_falling_57 N (nI m) (nI J) (nI b) pm tk ps t K _ (nI n) = _
    unfold s_X12_falling_57
    by_cases c : b < n
    · rw [if_pos (L_lt b n c (by omega)), show n = b + 1 by omega]
    · rw [if_neg (L_nlt b n (by omega) (by omega)), show ((nI n, (0 : Int32)) : Int32 × Int32) = (nI n, nI 0) from rfl, fall_in N hk hT hb hm K hJ J n 0 N (by omega) (by omega) (by omega)]
      refine hK _ ⟨n + 1, ?_, rfl, by omega, by omega⟩ ?_
      · show nI _ = nI _
        have hs : flC k m b J (n + 1) = flC k m b J n + (if fl k m b J n = true then 1 else 0) := by
          unfold flC
          rw [fb_ct_succ]
          simp [hn1]
        by_cases q : m ≤ b
        · simp [q, hs]
        · simp [q]
      · show 50002 - (nI (n + 1)).toNatClampNeg < 50002 - (nI n).toNatClampNeg
        rw [nI_clamp (by omega), nI_clamp (by omega)]; omega
  · refine ⟨1, ?_, rfl, by decide, by omega⟩
    show (0 : Int32) = nI _
    have : flC k m b J 1 = 0 := by unfold flC; rw [fb_ct_succ]; simp [fb_ct]
    rw [this]; split <;> rfl
  · show 50002 - _ < N
    omega
theorem falling_eq (N : Nat) (hN : 2 ^ 40 ≤ N) (v1 v2 v3 v4 : Int32) {n_row n_all n_apart : Nat} {a_row a_all a_apart : Nat → Int32} (hT : TbOK n_row n_all a_all n_apart a_apart) : TRes (fun MC MS => (f_X11_falling N MC MS v1 v2 v3 v4 n_row a_row n_all a_all n_apart a_apart).map (fun r => (r.1, 0, 0, r.2))) (fun pm tk mp mt => f_X12_falling N v1 v2 v3 v4 pm tk mp mt) n_row n_all n_apart := by
  have h40 : (2 : Nat) ^ 40 = 1099511627776 := by decide
  rcases with_f N v1 1 3 (by decide) (by decide) with ⟨k, _, hk, rfl, w1, w2⟩ | ⟨w1, w2⟩
  · have w1 : f_X11_within N (nI k) (1 : Int32) (3 : Int32) = some 1 := w1
    have w2 : f_X12_in N (nI k).toInt64 (1 : Int64) (3 : Int64) = some 1 := w2
    rcases bnd_f N v2 with ⟨m, hm1, hm, rfl, m1, _, m2⟩ | ⟨m1, _, m2⟩
    · rcases with_f N v3 0 50 (by decide) (by decide) with ⟨J, _, hJ, rfl, x1, x2⟩ | ⟨x1, x2⟩
      · have x1 : f_X11_within N (nI J) (0 : Int32) (50 : Int32) = some 1 := x1
        have x2 : f_X12_in N (nI J).toInt64 (0 : Int64) (50 : Int64) = some 1 := x2
        rcases bnd_f N v4 with ⟨b, hb1, hb, rfl, y1, y2, _⟩ | ⟨y1, y2, _⟩
        · refine TRes.good N hN (a_row := a_row) hT (nI (if m ≤ b then flC k m b J (b + 1) else 0)) (fun MC MS ar A B p1 p2 hbu hz => ?_) (fun pm tk mp mt hM => ?_)
          · obtain ⟨eC, eS⟩ := c7_eq hT
            obtain ⟨a', e⟩ := fall_c N hN p2 hk hb hJ hm1 hm 0 0 ar
            have e0 : ¬ nI 50001 = 0 := by decide
            have hbu' : 0 + cC7 n_row n_all + 0 ≤ MC ∧ 0 + cS7 n_row n_all + 0 ≤ MS := ⟨by omega, by omega⟩
            refine ⟨0, 0, a', ?_⟩
            unfold f_X11_falling
            simp only [eC, eS, w1, m1, x1, y1, ob, if_neg one0, if_pos (z2 MC MS), if_pos hbu, p1, if_neg e0, if_pos hbu', e, Option.map_some]
          · obtain ⟨pm', mp', t, l1, l2⟩ := layTable_f N hN hk hM pm mp
            refine ⟨pm', nI k, mp', t, ?_, MtOK.done hk l2⟩
            show f_X12_falling N (nI k) (nI m) (nI J) (nI b) pm tk mp mt = _
            unfold f_X12_falling
            simp only [w2, m2, x2, y2, ob, if_neg one0, l1, fall_m N hN hk l2 hb hJ hm]
        · refine TRes.bad (a_row := a_row) hT (pw := 0) (ps := 0) (fun MC MS => ?_) (fun pm tk mp mt => ?_)
          · unfold f_X11_falling
            simp only [w1, m1, x1, y1, ob, if_neg one0, if_pos (z2 MC MS), if_true, Option.map_some]
          · unfold f_X12_falling
            simp only [w2, m2, x2, y2, ob, if_neg one0, if_true]
      · have x1 : f_X11_within N v3 (0 : Int32) (50 : Int32) = some 0 := x1
        have x2 : f_X12_in N v3.toInt64 (0 : Int64) (50 : Int64) = some 0 := x2
        refine TRes.bad (a_row := a_row) hT (pw := 0) (ps := 0) (fun MC MS => ?_) (fun pm tk mp mt => ?_)
        · unfold f_X11_falling
          simp only [w1, m1, x1, ob, if_neg one0, if_pos (z2 MC MS), if_true, Option.map_some]
        · unfold f_X12_falling
          simp only [w2, m2, x2, ob, if_neg one0, if_true]
    · refine TRes.bad (a_row := a_row) hT (pw := 0) (ps := 0) (fun MC MS => ?_) (fun pm tk mp mt => ?_)
      · unfold f_X11_falling
        simp only [w1, m1, ob, if_neg one0, if_pos (z2 MC MS), if_true, Option.map_some]
      · unfold f_X12_falling
        simp only [w2, m2, ob, if_neg one0, if_true]
  · have w1 : f_X11_within N v1 (1 : Int32) (3 : Int32) = some 0 := w1
    have w2 : f_X12_in N v1.toInt64 (1 : Int64) (3 : Int64) = some 0 := w2
    refine TRes.bad (a_row := a_row) hT (pw := 0) (ps := 0) (fun MC MS => ?_) (fun pm tk mp mt => ?_)
    · unfold f_X11_falling
      simp only [w1, ob, if_pos (z2 MC MS), if_true, Option.map_some]
    · unfold f_X12_falling
      simp only [w2, ob, if_true]
