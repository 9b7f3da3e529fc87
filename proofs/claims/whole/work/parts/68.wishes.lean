/-! wishes: a pile of bits and a pile of truths -/
def uB (S : Nat → Bool) (k : Nat) (v : Bool) : Nat → Bool := fun i => if i = k then v else S i
def op2 (k : Nat) (x y : Bool) : Bool := if k = 20 then x && y else if k = 21 then x || y else x ^^ y
def ev (t : Nat → Nat) (s : Nat → Bool) : Nat → Nat → Nat → (Nat → Bool) → Bool
  | 0, _, _, S => S 0
  | d + 1, a, h, S => if t a < 19 then ev t s d (a + 1) (h + 1) (uB S h (s (t a))) else if t a = 19 then ev t s d (a + 1) h (uB S (h - 1) (!S (h - 1))) else ev t s d (a + 1) (h - 1) (uB S (h - 2) (op2 (t a) (S (h - 2)) (S (h - 1))))
def b2n (c : Bool) : Nat := if c then 1 else 0
def bvf (S : Nat → Bool) : Nat → Nat
  | 0 => 0
  | h + 1 => 2 * bvf S h + b2n (S h)
theorem b2n_lt (c : Bool) : b2n c < 2 := by cases c <;> decide
theorem bvf_lt (S : Nat → Bool) : ∀ h, bvf S h < 2 ^ h
  | 0 => Nat.one_pos
  | h + 1 => by
    have := bvf_lt S h
    have := b2n_lt (S h)
    show 2 * bvf S h + b2n (S h) < 2 ^ (h + 1)
    rw [Nat.pow_succ]
    omega
theorem bvf_cong {S S' : Nat → Bool} : ∀ h, (∀ i, i < h → S i = S' i) → bvf S h = bvf S' h
  | 0, _ => rfl
  | h + 1, e => by
    show 2 * bvf S h + b2n (S h) = 2 * bvf S' h + b2n (S' h)
    rw [bvf_cong h (fun i hi => e i (by omega)), e h (by omega)]
theorem uB_s (S : Nat → Bool) (k : Nat) (v : Bool) : uB S k v k = v := if_pos rfl
theorem uB_n {S : Nat → Bool} {k i : Nat} {v : Bool} (h : i ≠ k) : uB S k v i = S i := if_neg h
theorem bt_ops : ∀ v, v < 256 → ((nI v <<< ((1 : Int32) &&& 31)) ||| (0 : Int32)) = nI (2 * v) ∧ ((nI v <<< ((1 : Int32) &&& 31)) ||| (1 : Int32)) = nI (2 * v + 1) ∧ (nI v ^^^ (1 : Int32)) = nI (if v % 2 = 0 then v + 1 else v - 1) ∧ ((nI v >>> ((1 : Int32) &&& 31)) &&& (1 : Int32)) = nI (v / 2 % 2) ∧ (nI v &&& (1 : Int32)) = nI (v % 2) ∧ (((nI v >>> ((2 : Int32) &&& 31)) <<< ((1 : Int32) &&& 31)) ||| nI 0) = nI (v / 4 * 2) ∧ (((nI v >>> ((2 : Int32) &&& 31)) <<< ((1 : Int32) &&& 31)) ||| nI 1) = nI (v / 4 * 2 + 1) := by decide +kernel
theorem tog_0 : ∀ k, k < 23 → 20 ≤ k → ∀ x y : Bool, f_X10_together 0 (nI k) (nI (b2n x)) (nI (b2n y)) = some (nI (b2n (op2 k x y))) := by decide +kernel
theorem tog_f (N : Nat) {k : Nat} (h : k < 23) (h2 : 20 ≤ k) (x y : Bool) : f_X10_together N (nI k) (nI (b2n x)) (nI (b2n y)) = some (nI (b2n (op2 k x y))) := tog_0 k h h2 x y
theorem sh19 : ∀ j, j < 19 → ((nI j &&& 31).toBitVec.smod 32).toNat = j := by decide +kernel
theorem has_f (N : Nat) {tr : Nat → Int32} (hR : TrR tr) {n j : Nat} (h0 : 1 ≤ n) (hn : n ≤ 5000) (hj : j < 19) : f_X8_has N (nI n) (nI j) 5001 tr = some (bI (se n j)) := by
  obtain ⟨w, hw, e, hb⟩ := hR n h0 hn
  unfold f_X8_has
  rw [if_neg (nI_pos (by omega)), if_neg (L_nle 5001 n (by omega) (by decide)), if_neg (L_in n 5001 (by omega) (by omega)), nI_clamp (by omega), e, pk_shrN (by omega) (nI j &&& 31) j (sh19 j hj)]
  have hd : w / 2 ^ j ≤ w := Nat.div_le_self _ _
  rw [pk_andN (by omega) 1 (by decide)]
  have ht := hb j hj
  rw [Nat.testBit_eq_decide_div_mod_eq] at ht
  have h2 : w / 2 ^ j % 2 ^ 1 = w / 2 ^ j % 2 := rfl
  rw [h2]
  have hm := Nat.mod_lt (w / 2 ^ j) (show 2 > 0 by decide)
  by_cases c : w / 2 ^ j % 2 = 1
  · rw [if_pos (by rw [c]; rfl), ← ht, decide_eq_true c]; rfl
  · rw [if_neg (L_ne (w / 2 ^ j % 2) 1 c (by omega) (by decide)), ← ht, decide_eq_false c]; rfl
theorem ft_ne {len x : Nat} (hl : len ≤ 60) (hx : x ≤ len) : nI x ≠ -4 := fun e => by
  have : (0 : Int32) ≤ nI x := nI_ge0 (by omega)
  rw [e] at this
  exact absurd this (by decide)
theorem agrees_f (N : Nat) {len n : Nat} (hl : len ≤ 60) (h0 : 1 ≤ n) (hn : n ≤ 5000) {tr : Nat → Int32} (hR : TrR tr) {ct : Nat → Int32} {bt : Nat → Nat} (hb : ∀ i, i < len → bt i < 256 ∧ ct i = tokI (bt i)) : ∀ d a h S f, a + d = len → d < f → h ≤ 8 → ft (fun i => tix (bt i)) len d a h = -4 → l_X10_agrees_4 N (nI n) (nI len) 5001 tr ct f (nI (bvf S h), nI a) = some (bI (ev (fun i => tix (bt i)) (se n) d a h S)) := by
  intro d
  induction d with
  | zero =>
    intro a h S f h1 h2 h3 hv
    obtain ⟨f, rfl⟩ : ∃ g, f = g + 1 := ⟨f - 1, by omega⟩
    have hv : (if h = 1 then (-4 : Int32) else nI len) = -4 := hv
    have hh : h = 1 := by
      rcases Nat.decEq h 1 with q | q
      · rw [if_neg q] at hv
        exact absurd hv (ft_ne hl (Nat.le_refl _))
      · exact q
    subst hh
    show s_X10_agrees_4 N (nI n) (nI len) 5001 tr ct (lp _ f) (nI (bvf S 1)) (nI a) = _
    unfold s_X10_agrees_4 j_X10_agrees_100 ev
    rw [if_pos (L_le len a (by omega) (by omega)), (bt_ops (bvf S 1) (by have := bvf_lt S 1; omega)).2.2.2.2.1]
    show (if nI ((2 * 0 + b2n (S 0)) % 2) = 1 then some 1 else some 0) = _
    cases S 0 <;> rfl
  | succ d ihd =>
    intro a h S f h1 h2 h3 hv
    obtain ⟨f, rfl⟩ : ∃ g, f = g + 1 := ⟨f - 1, by omega⟩
    obtain ⟨b1, b2⟩ := hb a (by omega)
    obtain ⟨o1, _, _, _, _, o6, _, _⟩ := tok_eq (bt a) b1
    have ot := (tok_ok (bt a) b1).2.1
    have hv8 : bvf S h < 256 := Nat.lt_of_lt_of_le (bvf_lt S h) (Nat.pow_le_pow_right (by decide) h3)
    obtain ⟨p1, p2, p3, p4, p5, p6, p7⟩ := bt_ops (bvf S h) hv8
    show s_X10_agrees_4 N (nI n) (nI len) 5001 tr ct (l_X10_agrees_4 N (nI n) (nI len) 5001 tr ct f) (nI (bvf S h)) (nI a) = _
    unfold ft at hv
    unfold s_X10_agrees_4 ev
    rw [if_neg (L_nle len a (by omega) (by omega)), if_neg (L_nle 60 a (by omega) (by decide)), if_neg (L_in a 60 (by omega) (by omega)), nI_clamp (by omega), b2]
    simp only [xl]
    rw [look_c N b1, ob]
    simp only [ite01, nI_1]
    by_cases q : tix (bt a) < 19
    · rw [if_neg (fun w => w q), if_pos q]
      rw [if_pos q] at hv
      have q8 : ¬ h = 8 := fun w => by rw [if_pos w] at hv; exact ft_ne hl (by omega) hv
      rw [if_neg q8] at hv
      have htk : tokI (bt a) = nI (tix (bt a)) := by unfold tokI; rw [if_pos (by omega)]
      rw [htk, has_f N hR h0 hn q, ob]
      simp only [bI_0]
      have ih := ihd (a + 1) (h + 1) (uB S h (se n (tix (bt a)))) f (by omega) (by omega) (by omega) hv
      have e : bvf (uB S h (se n (tix (bt a)))) (h + 1) = 2 * bvf S h + b2n (se n (tix (bt a))) := by
        show 2 * bvf (uB S h _) h + b2n (uB S h _ h) = _
        rw [bvf_cong (S' := S) h (fun i hi => uB_n (by omega)), uB_s]
      rw [e] at ih
      by_cases c : se n (tix (bt a)) = true
      · rw [if_neg (fun w => w c), p2]
        rw [c] at ih ⊢
        exact ih
      · rw [if_pos c, p1]
        have c' : se n (tix (bt a)) = false := by simpa using c
        rw [c'] at ih ⊢
        exact ih
    · rw [if_pos q, if_neg q]
      rw [if_neg q] at hv
      by_cases q19 : tix (bt a) = 19
      · rw [if_pos (o1.mpr q19), if_pos q19]
        rw [if_pos q19] at hv
        have q1 : ¬ h < 1 := fun w => by rw [if_pos w] at hv; exact ft_ne hl (by omega) hv
        rw [if_neg q1] at hv
        have ih := ihd (a + 1) h (uB S (h - 1) (!S (h - 1))) f (by omega) (by omega) (by omega) hv
        have e : bvf (uB S (h - 1) (!S (h - 1))) h = (if bvf S h % 2 = 0 then bvf S h + 1 else bvf S h - 1) := by
          obtain ⟨k, rfl⟩ : ∃ k, h = k + 1 := ⟨h - 1, by omega⟩
          rw [Nat.add_sub_cancel]
          show 2 * bvf (uB S k _) k + b2n (uB S k _ k) = if (2 * bvf S k + b2n (S k)) % 2 = 0 then 2 * bvf S k + b2n (S k) + 1 else 2 * bvf S k + b2n (S k) - 1
          rw [bvf_cong (S' := S) k (fun i hi => uB_n (by omega)), uB_s]
          cases S k
          · rw [if_pos (by show (2 * bvf S k + 0) % 2 = 0; omega)]; rfl
          · rw [if_neg (by show ¬ (2 * bvf S k + 1) % 2 = 0; omega)]; rfl
        rw [p3, ← e]
        exact ih
      · rw [if_neg (fun w => q19 (o1.mp w)), if_neg q19]
        rw [if_neg q19] at hv
        have q23 : tix (bt a) < 23 := by
          rcases Nat.lt_or_ge (tix (bt a)) 23 with w | w
          · exact w
          · exfalso
            rw [if_neg (by omega)] at hv
            exact ft_ne hl (by omega) hv
        rw [if_pos q23] at hv
        have q2 : ¬ h < 2 := fun w => by rw [if_pos w] at hv; exact ft_ne hl (by omega) hv
        rw [if_neg q2] at hv
        have htk : tokI (bt a) = nI (tix (bt a)) := by unfold tokI; rw [if_pos q23]
        have ih := ihd (a + 1) (h - 1) (uB S (h - 2) (op2 (tix (bt a)) (S (h - 2)) (S (h - 1)))) f (by omega) (by omega) (by omega) hv
        obtain ⟨k, rfl⟩ : ∃ k, h = k + 2 := ⟨h - 2, by omega⟩
        have ev2 : bvf S (k + 2) = 2 * (2 * bvf S k + b2n (S k)) + b2n (S (k + 1)) := rfl
        have l1 := b2n_lt (S k)
        have l2 := b2n_lt (S (k + 1))
        rw [p4, p5, htk, show bvf S (k + 2) / 2 % 2 = b2n (S k) by omega, show bvf S (k + 2) % 2 = b2n (S (k + 1)) by omega, tog_f N q23 (by omega), ob]
        have e : bvf (uB S (k + 2 - 2) (op2 (tix (bt a)) (S (k + 2 - 2)) (S (k + 2 - 1)))) (k + 2 - 1) = bvf S (k + 2) / 4 * 2 + b2n (op2 (tix (bt a)) (S k) (S (k + 1))) := by
          rw [show k + 2 - 2 = k by omega, show k + 2 - 1 = k + 1 by omega]
          show 2 * bvf (uB S k _) k + b2n (uB S k _ k) = _
          rw [bvf_cong (S' := S) k (fun i hi => uB_n (by omega)), uB_s]
          omega
        rw [e] at ih
        have p67 : ((nI (bvf S (k + 2)) >>> ((2 : Int32) &&& 31)) <<< ((1 : Int32) &&& 31)) ||| nI (b2n (op2 (tix (bt a)) (S k) (S (k + 1)))) = nI (bvf S (k + 2) / 4 * 2 + b2n (op2 (tix (bt a)) (S k) (S (k + 1)))) := by
          cases op2 (tix (bt a)) (S k) (S (k + 1))
          · exact p6
          · exact p7
        rw [p67]
        exact ih
theorem isW_s (N : Nat) (v1 ml : Int32) (mtx mt o hh t : Nat → Int32) (f : Nat) (x1 x2 x3 x4 x5 : Int32) (x6 : Nat → Int64) (x7 : Nat → Int32) : l_X12_isWished_4 N v1 ml mtx mt o hh t (f + 1) (x1, x2, x3, x4, x5, x6, x7) = s_X12_isWished_4 N v1 ml mtx mt o hh t (l_X12_isWished_4 N v1 ml mtx mt o hh t f) x1 x2 x3 x4 x5 x6 x7 := by
  unfold l_X12_isWished_4
  exact lp_s _ _ _
theorem isW_f (N : Nat) (hN : 2 ^ 40 ≤ N) {len n : Nat} (hl : len ≤ 60) (h0 : 1 ≤ n) (hn : n ≤ 5000) {mt o hh t : Nat → Int32} (hM : MT 0 mt) (hF : FgR o hh t 5001) {mtx : Nat → Int32} {bt : Nat → Nat} (hb : ∀ i, i < len → bt i < 256 ∧ mtx i = nI (bt i)) : ∀ d a h S f (pm un fr : Int32) (mp : Nat → Int64) (pile : Nat → Int32), a + d = len → d < f → h ≤ 8 → (∀ i, i < h → pile i = bI (S i)) → ft (fun i => tix (bt i)) len d a h = -4 → ∃ (pm' un' fr' : Int32) (mp' : Nat → Int64) (pile' : Nat → Int32), l_X12_isWished_4 N (nI n) (nI len) mtx mt o hh t f (nI h, nI a, pm, un, fr, mp, pile) = some (bI (ev (fun i => tix (bt i)) (se n) d a h S), pm', un', fr', mp', pile') := by
  intro d
  induction d with
  | zero =>
    intro a h S f pm un fr mp pile h1 h2 h3 hp hv
    obtain ⟨f, rfl⟩ : ∃ g, f = g + 1 := ⟨f - 1, by omega⟩
    have hv : (if h = 1 then (-4 : Int32) else nI len) = -4 := hv
    have hh : h = 1 := by
      rcases Nat.decEq h 1 with q | q
      · rw [if_neg q] at hv
        exact absurd hv (ft_ne hl (Nat.le_refl _))
      · exact q
    subst hh
    refine ⟨pm, un, fr, mp, pile, ?_⟩
    rw [isW_s]
    unfold s_X12_isWished_4 ev
    rw [if_pos (L_le len a (by omega) (by omega)), if_neg (by decide)]
    have e : pile (0 : Int32).toNatClampNeg = bI (S 0) := hp 0 (by decide)
    rw [e, if_pos (bI_01 _)]
  | succ d ihd =>
    intro a h S f pm un fr mp pile h1 h2 h3 hp hv
    obtain ⟨f, rfl⟩ : ∃ g, f = g + 1 := ⟨f - 1, by omega⟩
    obtain ⟨b1, b2⟩ := hb a (by omega)
    obtain ⟨_, o2, o3, o4, o5, _, _, _⟩ := tok_eq (bt a) b1
    have ot := (tok_ok (bt a) b1).2.1
    rw [isW_s]
    unfold ft at hv
    have lkm := look_m N b1
    unfold s_X12_isWished_4
    rw [if_neg (L_nle len a (by omega) (by omega)), if_neg (L_in a 60 (by omega) (by omega)), nI_clamp (by omega), b2, xl]
    by_cases q : tix (bt a) < 19
    · rw [if_pos q] at lkm
      rw [lkm, ob, if_neg one0]
      rw [show ev (fun i => tix (bt i)) (se n) (d + 1) a h S = ev (fun i => tix (bt i)) (se n) d (a + 1) (h + 1) (uB S h (se n (tix (bt a)))) from if_pos q]
      rw [if_pos q] at hv
      have q8 : ¬ h = 8 := fun w => by rw [if_pos w] at hv; exact ft_ne hl (by omega) hv
      rw [if_neg q8] at hv
      obtain ⟨pm2, un2, fr2, mp2, s1⟩ := seen_f N hN h0 hn b1 q hM hF pm un fr mp
      rw [s1, ob, if_neg (L_in h 9 (by omega) (by omega)), nI_clamp (by omega), nar_b]
      simp only [xl, nI_1]
      exact ihd (a + 1) (h + 1) _ f pm2 un2 fr2 mp2 _ (by omega) (by omega) (by omega) (fun i hi => by
        by_cases e : i = h
        · rw [e, pk_us, uB_s]
        · rw [pk_un e, uB_n e]; exact hp i (by omega)) hv
    · rw [if_neg q] at lkm
      rw [lkm, ob, if_pos rfl]
      rw [if_neg q] at hv
      by_cases q19 : tix (bt a) = 19
      · rw [if_pos (o2.mpr q19), xl]
        rw [show ev (fun i => tix (bt i)) (se n) (d + 1) a h S = ev (fun i => tix (bt i)) (se n) d (a + 1) h (uB S (h - 1) (!S (h - 1))) from (if_neg q).trans (if_pos q19)]
        rw [if_pos q19] at hv
        have q1 : ¬ h < 1 := fun w => by rw [if_pos w] at hv; exact ft_ne hl (by omega) hv
        rw [if_neg q1] at hv
        rw [show (1 : Int32) = nI 1 from rfl, pk_sub (by omega)]
        rw [if_neg (L_in (h - 1) 9 (by omega) (by omega)), nI_clamp (by omega), hp (h - 1) (by omega)]
        simp only [bI_0]
        have fin : ∀ s0 : Int32, s0 = bI (!S (h - 1)) → ∃ (pm' un' fr' : Int32) (mp' : Nat → Int64) (pile' : Nat → Int32), j_X12_isWished_77 N (l_X12_isWished_4 N (nI n) (nI len) mtx mt o hh t f) (nI h) (nI a) s0 (nI (h - 1)) pm un fr mp pile = some (bI (ev (fun i => tix (bt i)) (se n) d (a + 1) h (uB S (h - 1) (!S (h - 1)))), pm', un', fr', mp', pile') := by
          intro s0 hs0
          subst hs0
          unfold j_X12_isWished_77
          rw [if_neg (L_in (h - 1) 9 (by omega) (by omega)), nI_clamp (by omega), nar_b]
          simp only [xl, nI_1]
          exact ihd (a + 1) h _ f pm un fr mp _ (by omega) (by omega) (by omega) (fun i hi => by
            by_cases e : i = h - 1
            · rw [e, pk_us, uB_s]
            · rw [pk_un e, uB_n e]; exact hp i (by omega)) hv
        by_cases c : S (h - 1) = true
        · rw [if_neg (fun w => w c)]
          exact fin 0 (by rw [c]; rfl)
        · rw [if_pos c]
          have c' : S (h - 1) = false := by simpa using c
          exact fin (nI 1) (by rw [c']; rfl)
      · rw [if_neg (fun w => q19 (o2.mp w)), xl, xl]
        rw [show ev (fun i => tix (bt i)) (se n) (d + 1) a h S = ev (fun i => tix (bt i)) (se n) d (a + 1) (h - 1) (uB S (h - 2) (op2 (tix (bt a)) (S (h - 2)) (S (h - 1)))) from (if_neg q).trans (if_neg q19)]
        rw [if_neg q19] at hv
        have q23 : tix (bt a) < 23 := by
          rcases Nat.lt_or_ge (tix (bt a)) 23 with w | w
          · exact w
          · exfalso
            rw [if_neg (by omega)] at hv
            exact ft_ne hl (by omega) hv
        rw [if_pos q23] at hv
        have q2 : ¬ h < 2 := fun w => by rw [if_pos w] at hv; exact ft_ne hl (by omega) hv
        rw [if_neg q2] at hv
        obtain ⟨k, rfl⟩ : ∃ k, h = k + 2 := ⟨h - 2, by omega⟩
        rw [pk_m1, nI_pred]
        rw [if_neg (L_in k 9 (by omega) (by omega)), nI_clamp (show k < 2 ^ 31 by omega), xl, if_neg (L_in (k + 1) 9 (by omega) (by omega)), nI_clamp (show k + 1 < 2 ^ 31 by omega), xl, hp k (by omega), hp (k + 1) (by omega)]
        rw [show k + 2 - 2 = k by omega, show k + 2 - 1 = k + 1 by omega] at *
        have fin : ∀ s0 : Int32, s0 = bI (op2 (tix (bt a)) (S k) (S (k + 1))) → ∃ (pm' un' fr' : Int32) (mp' : Nat → Int64) (pile' : Nat → Int32), j_X12_isWished_171 N (l_X12_isWished_4 N (nI n) (nI len) mtx mt o hh t f) (nI (k + 1)) (nI a) s0 (nI k) pm un fr mp pile = some (bI (ev (fun i => tix (bt i)) (se n) d (a + 1) (k + 1) (uB S k (op2 (tix (bt a)) (S k) (S (k + 1))))), pm', un', fr', mp', pile') := by
          intro s0 hs0
          subst hs0
          unfold j_X12_isWished_171
          rw [if_neg (L_in k 9 (by omega) (by omega)), nI_clamp (by omega), nar_b]
          simp only [xl, nI_1]
          exact ihd (a + 1) (k + 1) _ f pm un fr mp _ (by omega) (by omega) (by omega) (fun i hi => by
            by_cases e : i = k
            · rw [e, pk_us, uB_s]
            · rw [pk_un e, uB_n e]; exact hp i (by omega)) hv
        unfold j_X12_isWished_130 j_X12_isWished_151
        simp only [bI_0]
        by_cases q20 : tix (bt a) = 20
        · rw [if_pos (o3.mpr q20)]
          rw [q20] at fin ⊢
          cases hx : S k <;> cases hy : S (k + 1) <;> rw [hx, hy] at fin <;> simp only [Bool.false_eq_true, not_false_eq_true, not_true_eq_false, if_true, if_false]
          · exact fin 0 rfl
          · exact fin 0 rfl
          · exact fin 0 rfl
          · exact fin 1 rfl
        · rw [if_neg (fun w => q20 (o3.mp w))]
          by_cases q21 : tix (bt a) = 21
          · rw [if_pos (o4.mpr q21)]
            rw [q21] at fin ⊢
            cases hx : S k <;> cases hy : S (k + 1) <;> rw [hx, hy] at fin <;> simp only [Bool.false_eq_true, not_false_eq_true, not_true_eq_false, if_true, if_false]
            · exact fin 0 rfl
            · exact fin 1 rfl
            · exact fin 1 rfl
            · exact fin 1 rfl
          · rw [if_neg (fun w => q21 (o4.mp w))]
            have q22 : tix (bt a) = 22 := by omega
            rw [q22] at fin ⊢
            cases hx : S k <;> cases hy : S (k + 1) <;> rw [hx, hy] at fin
            · rw [if_pos rfl]; exact fin 0 rfl
            · rw [if_neg (by decide)]; exact fin 1 rfl
            · rw [if_neg (by decide)]; exact fin 1 rfl
            · rw [if_pos rfl]; exact fin 0 rfl
