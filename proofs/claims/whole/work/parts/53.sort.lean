/-! putInOrder: by shrinking gaps; what was there is there, and rises -/
def cnE (X : Nat → Nat) (t x : Nat) : Nat := fb_ct (fun i => decide (X i = x)) t
theorem cnE_swap {X : Nat → Nat} {t i j : Nat} (hi : i < t) (hj : j < t) (hij : i ≠ j) (x : Nat) : cnE (fun k => if k = i then X j else if k = j then X i else X k) t x = cnE X t x := by
  have e1 := fb_ct_upd (fun k => decide (X k = x)) (decide (X i = x)) (i := j) (n := t) hj
  have e2 := fb_ct_upd (fun k => if k = j then decide (X i = x) else decide (X k = x)) (decide (X j = x)) (i := i) (n := t) hi
  have e3 : cnE (fun k => if k = i then X j else if k = j then X i else X k) t x = fb_ct (fun k => if k = i then decide (X j = x) else if k = j then decide (X i = x) else decide (X k = x)) t := by
    unfold cnE
    refine fb_ct_cong (fun k hk => ?_)
    by_cases a : k = i
    · simp only [if_pos a]
    · simp only [if_neg a]
      by_cases b : k = j
      · simp only [if_pos b]
      · simp only [if_neg b]
  rw [e3]
  simp only [if_neg hij] at e2
  unfold cnE
  generalize fb_ct (fun k => if k = i then decide (X j = x) else if k = j then decide (X i = x) else decide (X k = x)) t = A at *
  generalize fb_ct (fun k => if k = j then decide (X i = x) else decide (X k = x)) t = B at *
  generalize fb_ct (fun k => decide (X k = x)) t = C at *
  by_cases a : X i = x <;> by_cases b : X j = x <;> simp [a, b] at e1 e2 <;> omega
def OrI (t : Nat) (X : Nat → Nat) (A : Nat → Int64) (Z : Nat → Nat) : Prop := (∀ k, k < t → A k = lN (Z k) ∧ Z k < 2 ^ 63) ∧ ∀ x, cnE Z t x = cnE X t x
def OrP (t : Nat) (X : Nat → Nat) (r : Option (Nat → Int64)) : Prop := ∃ (A' : Nat → Int64) (Y : Nat → Nat), r = some A' ∧ OrI t X A' Y ∧ ∀ a b, a ≤ b → b < t → Y a ≤ Y b
theorem order_in (N : Nat) (hN : 2 ^ 20 ≤ N) {t L g i : Nat} {X : Nat → Nat} (htL : t ≤ L) (hL : L < 2 ^ 20) (hg : 1 ≤ g) (hgb : g < 2 ^ 20) (hi : i < t) (K : (Int32 × (Nat → Int64)) → Option (Nat → Int64)) (hK : ∀ A' Z', OrI t X A' Z' → (g = 1 → ∀ a b, a ≤ b → b < i + 1 → Z' a ≤ Z' b) → OrP t X (K (nI (i + 1), A'))) {A : Nat → Int64} {Z : Nat → Nat} (h : OrI t X A Z) (hs : g = 1 → ∀ a b, a ≤ b → b < i → Z a ≤ Z b) : OrP t X (l_X11_putInOrder_35 N K (nI g) (nI i) (A i) L N (nI i, nI i - nI g, A)) := by
  obtain ⟨hA, hc⟩ := h
  rw [(hA i hi).1]
  have hmv : Z i < 2 ^ 63 := (hA i hi).2
  unfold l_X11_putInOrder_35
  refine lp_post (I := fun (z : Int32 × Int32 × (Nat → Int64)) => ∃ (fr : Nat) (W : Nat → Nat), z.1 = nI fr ∧ z.2.1 = nI fr - nI g ∧ fr ≤ i ∧ (∀ k, k < t → k ≠ fr → z.2.2 k = lN (W k)) ∧ (∀ k, k < t → W k < 2 ^ 63) ∧ W fr = Z i ∧ (∀ x, cnE W t x = cnE X t x) ∧ (g = 1 → (∀ a b, a ≤ b → b ≤ i → a ≠ fr → b ≠ fr → W a ≤ W b) ∧ ∀ b, fr < b → b ≤ i → Z i ≤ W b)) (μ := fun z => z.1.toNatClampNeg) (post := OrP t X) ?_ N _ ?_ ?_
  · intro z K2 hI hK2
    obtain ⟨z1, z2, z3⟩ := z
    obtain ⟨fr, W, e1, e2, hfr, hv, hb, hW, hcW, hsW⟩ := hI
    simp only at e1 e2 hv
    subst e1; subst e2
    show OrP t X (s_X11_putInOrder_35 N K (nI g) (nI i) (lN (Z i)) L K2 (nI fr) (nI fr - nI g) z3)
    have fin : (g = 1 → ∀ a, a < fr → W a ≤ Z i) → OrP t X (j_X11_putInOrder_71 N K (nI i) (lN (Z i)) (nI fr) L z3) := by
      intro hf
      unfold j_X11_putInOrder_71
      rw [if_neg (L_in fr L (by omega) (by omega))]
      simp only [xl]
      rw [nI_clamp (by omega), show nI i + (1 : Int32) = nI (i + 1) from nI_1 i]
      refine hK _ W ⟨fun k hk => ⟨?_, hb k hk⟩, hcW⟩ (fun g1 a b hab hbi => ?_)
      · by_cases e : k = fr
        · subst e; rw [hW]; exact pk_uLs
        · rw [pk_uLn e]; exact hv k hk e
      · obtain ⟨s1, s2⟩ := hsW g1
        by_cases ea : a = fr
        · by_cases eb : b = fr
          · rw [ea, eb]; exact Nat.le_refl _
          · rw [ea, hW]; exact s2 b (by omega) (by omega)
        · by_cases eb : b = fr
          · rw [eb, hW]; exact hf g1 a (by omega)
          · exact s1 a b hab (by omega) ea eb
    unfold s_X11_putInOrder_35
    by_cases hlt : fr < g
    · have hneg : nI fr - nI g < 0 := by
        rw [Int32.lt_iff_toInt_lt, pk_sub_toInt (by omega) (by omega)]
        have : (0 : Int32).toInt = 0 := rfl
        omega
      rw [if_pos hneg]
      exact fin (fun g1 a ha => by omega)
    · rw [pk_sub (show g ≤ fr by omega), if_neg (nI_pos (by omega)), if_neg (L_in (fr - g) L (by omega) (by omega)), nI_clamp (by omega), hv (fr - g) (by omega) (by omega)]
      by_cases hle : W (fr - g) ≤ Z i
      · rw [if_pos (M_le _ _ hle hmv)]
        refine fin (fun g1 a ha => ?_)
        have := (hsW g1).1 a (fr - g) (by omega) (by omega) (by omega) (by omega)
        omega
      · rw [if_neg (M_nle (W (fr - g)) (Z i) (by omega) (hb _ (by omega)))]
        simp only [xl]
        rw [if_neg (L_in fr L (by omega) (by omega)), nI_clamp (by omega)]
        refine hK2 _ ⟨fr - g, fun k => if k = fr then W (fr - g) else if k = fr - g then W fr else W k, rfl, rfl, by omega, fun k hk hne => ?_, fun k hk => ?_, ?_, fun x => ?_, fun g1 => ⟨fun a b hab hbi ha hb2 => ?_, fun b h1 h2 => ?_⟩⟩ ?_
        · show vp_updL z3 fr (lN (W (fr - g))) k = _
          by_cases e : k = fr
          · subst e; simp only [if_true]; exact pk_uLs
          · rw [pk_uLn e]; simp only [if_neg e, if_neg hne]; exact hv k hk e
        · by_cases e : k = fr
          · simp only [if_pos e]; exact hb _ (by omega)
          · by_cases e2 : k = fr - g
            · simp only [if_neg e, if_pos e2]; exact hb _ (by omega)
            · simp only [if_neg e, if_neg e2]; exact hb k hk
        · simp only [if_neg (show ¬ fr - g = fr by omega), if_true]; exact hW
        · rw [cnE_swap (by omega) (by omega) (by omega)]; exact hcW x
        · obtain ⟨s1, s2⟩ := hsW g1
          by_cases ea : a = fr
          · by_cases eb : b = fr
            · simp only [if_pos ea, if_pos eb]; exact Nat.le_refl _
            · simp only [if_pos ea, if_neg eb, if_neg hb2]; exact s1 (fr - g) b (by omega) hbi (by omega) eb
          · by_cases eb : b = fr
            · simp only [if_neg ea, if_neg ha, if_pos eb]; exact s1 a (fr - g) (by omega) (by omega) ea (by omega)
            · simp only [if_neg ea, if_neg ha, if_neg eb, if_neg hb2]; exact s1 a b hab hbi ea eb
        · obtain ⟨s1, s2⟩ := hsW g1
          by_cases eb : b = fr
          · simp only [if_pos eb]; omega
          · simp only [if_neg eb, if_neg (show ¬ b = fr - g by omega)]; exact s2 b (by omega) h2
        · show (nI (fr - g)).toNatClampNeg < (nI fr).toNatClampNeg
          rw [nI_clamp (by omega), nI_clamp (by omega)]; omega
  · exact ⟨i, Z, rfl, rfl, Nat.le_refl i, fun k hk _ => (hA k hk).1, fun k hk => (hA k hk).2, rfl, hc, fun g1 => ⟨fun a b hab hbi ha hb => hs g1 a b hab (by omega), fun b h1 h2 => by omega⟩⟩
  · show (nI i).toNatClampNeg < N
    rw [nI_clamp (by omega)]
    have : (2 : Nat) ^ 20 = 1048576 := by decide
    omega
theorem order_out (N : Nat) (hN : 2 ^ 20 ≤ N) {t L g : Nat} {X : Nat → Nat} (htL : t ≤ L) (hL : L < 2 ^ 20) (hg : 1 ≤ g) (hgb : g < 2 ^ 20) (K : (Int32 × (Nat → Int64)) → Option (Nat → Int64)) (hK : ∀ A' Z', OrI t X A' Z' → (g = 1 → ∀ a b, a ≤ b → b < t → Z' a ≤ Z' b) → OrP t X (K (nI (g / 3), A'))) {A : Nat → Int64} {Z : Nat → Nat} (h : OrI t X A Z) : OrP t X (l_X11_putInOrder_11 N K (nI t) (nI g) L N (nI g, A)) := by
  unfold l_X11_putInOrder_11
  refine lp_post (I := fun (z : Int32 × (Nat → Int64)) => ∃ (i : Nat) (W : Nat → Nat), z.1 = nI i ∧ i < 2 ^ 20 ∧ g ≤ i ∧ OrI t X z.2 W ∧ (g = 1 → ∀ a b, a ≤ b → b < i → W a ≤ W b)) (μ := fun z => t - z.1.toNatClampNeg) (post := OrP t X) ?_ N _ ?_ ?_
  · intro z K2 hI hK2
    obtain ⟨z1, z2⟩ := z
    obtain ⟨i, W, e1, hib, hgi, hO, hs⟩ := hI
    simp only at e1 hO
    subst e1
    show OrP t X (s_X11_putInOrder_11 N K (nI t) (nI g) L K2 (nI i) z2)
    unfold s_X11_putInOrder_11
    by_cases hit : t ≤ i
    · rw [if_pos (L_le t i hit (by omega))]
      simp only [xl]
      rw [show (3 : Int32) = nI 3 from rfl, pk_div (by omega) (by decide) (by decide)]
      exact hK _ W hO (fun g1 a b hab hb => hs g1 a b hab (by omega))
    · rw [if_neg (L_nle t i (by omega) (by omega)), if_neg (L_nle L i (by omega) (by omega)), if_neg (L_in i L (by omega) (by omega))]
      simp only [xl]
      rw [nI_clamp (by omega)]
      refine order_in N hN htL hL hg hgb (by omega) K2 (fun A' Z' hO' hs' => ?_) hO hs
      refine hK2 _ ⟨i + 1, Z', rfl, by omega, by omega, hO', hs'⟩ ?_
      show t - (nI (i + 1)).toNatClampNeg < t - (nI i).toNatClampNeg
      rw [nI_clamp (by omega), nI_clamp (by omega)]; omega
  · exact ⟨g, Z, rfl, hgb, Nat.le_refl g, h, fun g1 a b hab hb => by rw [show a = 0 by omega, show b = 0 by omega]; exact Nat.le_refl _⟩
  · show t - (nI g).toNatClampNeg < N
    have : (2 : Nat) ^ 20 = 1048576 := by decide
    omega
theorem order_f (N : Nat) (hN : 2 ^ 20 ≤ N) {t L : Nat} (htL : t ≤ L) (hL : L < 2 ^ 20) {A : Nat → Int64} {X : Nat → Nat} (hA : ∀ k, k < t → A k = lN (X k) ∧ X k < 2 ^ 63) : OrP t X (f_X11_putInOrder N (nI t) L A) := by
  unfold f_X11_putInOrder l_X11_putInOrder_4
  refine lp_post (I := fun (z : Int32 × (Nat → Int64)) => ∃ (g : Nat) (W : Nat → Nat), z.1 = nI g ∧ (g = 1093 ∨ g = 364 ∨ g = 121 ∨ g = 40 ∨ g = 13 ∨ g = 4 ∨ g = 1 ∨ g = 0) ∧ OrI t X z.2 W ∧ (g = 0 → ∀ a b, a ≤ b → b < t → W a ≤ W b)) (μ := fun z => z.1.toNatClampNeg) (post := OrP t X) ?_ N _ ?_ ?_
  · intro z K hI hK
    obtain ⟨z1, z2⟩ := z
    obtain ⟨g, W, e1, hg, hO, hs⟩ := hI
    simp only at e1 hO
    subst e1
    show OrP t X (s_X11_putInOrder_4 N (nI t) L K (nI g) z2)
    unfold s_X11_putInOrder_4
    by_cases h0 : g = 0
    · rw [if_pos (L_lt g 1 (by omega) (by decide))]
      exact ⟨z2, W, rfl, hO, hs h0⟩
    · rw [if_neg (L_nlt g 1 (by omega) (by omega))]
      refine order_out N hN htL hL (by omega) (by omega) K (fun A' Z' hO' hs' => ?_) hO
      refine hK _ ⟨g / 3, Z', rfl, by omega, hO', fun h => hs' (by omega)⟩ ?_
      show (nI (g / 3)).toNatClampNeg < (nI g).toNatClampNeg
      rw [nI_clamp (by omega), nI_clamp (by omega)]; omega
  · exact ⟨1093, X, rfl, by omega, ⟨hA, fun _ => rfl⟩, fun h => by omega⟩
  · show (1093 : Int32).toNatClampNeg < N
    have : (2 : Nat) ^ 20 = 1048576 := by decide
    have : (1093 : Int32).toNatClampNeg = 1093 := rfl
    omega
theorem cn_two {Y : Nat → Nat} {t a b x : Nat} (hab : a < b) (hb : b < t) (ea : Y a = x) (eb : Y b = x) : 2 ≤ cnE Y t x := by
  unfold cnE
  have h1 := fb_ct_mono (fun i => decide (Y i = x)) (show b + 1 ≤ t by omega)
  have h2 := fb_ct_mono (fun i => decide (Y i = x)) (show a + 1 ≤ b by omega)
  rw [fb_ct_succ] at h1 h2
  simp only [ea, eb, decide_true, if_true] at h1 h2
  omega
theorem cn_mem {Y : Nat → Nat} {t x : Nat} : 0 < cnE Y t x ↔ ∃ i, i < t ∧ Y i = x := by
  unfold cnE
  rw [fb_ct_pos]
  constructor
  · intro ⟨k, h1, h2⟩; exact ⟨k, h1, of_decide_eq_true h2⟩
  · intro ⟨k, h1, h2⟩; exact ⟨k, h1, decide_eq_true h2⟩
/-- a row that rises and holds each number of p once: places are ranks -/
theorem sorted_rk {p : Nat → Bool} {Y : Nat → Nat} {t : Nat} (hc : ∀ x, cnE Y t x = if p x then 1 else 0) (hs : ∀ a b, a ≤ b → b < t → Y a ≤ Y b) : (∀ i, i < t → p (Y i) = true ∧ fb_ct p (Y i) = i) ∧ ∀ M, (∀ x, p x = true → x < M) → fb_ct p M = t := by
  have hin : ∀ i, i < t → p (Y i) = true := by
    intro i hi
    have h1 : 0 < cnE Y t (Y i) := cn_mem.mpr ⟨i, hi, rfl⟩
    rw [hc] at h1
    by_cases h : p (Y i) = true
    · exact h
    · rw [if_neg h] at h1; omega
  have hon : ∀ x, p x = true → ∃ i, i < t ∧ Y i = x := by
    intro x hx
    refine cn_mem.mp ?_
    rw [hc, if_pos hx]; exact Nat.one_pos
  have hst : ∀ a b, a < b → b < t → Y a < Y b := by
    intro a b hab hb
    have h1 := hs a b (by omega) hb
    rcases Nat.eq_or_lt_of_le h1 with e | e
    · exfalso
      have h2 := cn_two hab hb e rfl
      rw [hc, if_pos (hin b hb)] at h2
      omega
    · exact e
  have hbet : ∀ i, i < t → ∀ M, Y i + 1 ≤ M → (∀ j, i < j → j < t → M ≤ Y j) → fb_ct p M = fb_ct p (Y i) + 1 := by
    intro i hi M hM hj
    have h1 := fb_ct_split p (Y i + 1) (M - (Y i + 1))
    rw [show Y i + 1 + (M - (Y i + 1)) = M by omega] at h1
    have h2 : fb_ct (fun k => p (Y i + 1 + k)) (M - (Y i + 1)) = 0 := by
      rw [fb_ct_zero]
      intro k hk
      cases hp : p (Y i + 1 + k) with
      | false => rfl
      | true =>
        exfalso
        obtain ⟨j, hj1, hj2⟩ := hon _ hp
        rcases Nat.lt_or_ge i j with r | r
        · have := hj j r hj1; omega
        · have := hs j i r hi; omega
    rw [h1, h2, fb_ct_succ, if_pos (hin i hi)]
  have hrk : ∀ i, i < t → fb_ct p (Y i) = i := by
    intro i
    induction i with
    | zero =>
      intro hi
      rw [fb_ct_zero]
      intro k hk
      cases hp : p k with
      | false => rfl
      | true =>
        exfalso
        obtain ⟨j, hj1, hj2⟩ := hon _ hp
        have := hs 0 j (by omega) hj1
        omega
    | succ i ih =>
      intro hi
      have h1 := hst i (i + 1) (by omega) hi
      rw [hbet i (by omega) (Y (i + 1)) h1 (fun j h2 h3 => hs (i + 1) j h2 h3), ih (by omega)]
  refine ⟨fun i hi => ⟨hin i hi, hrk i hi⟩, fun M hM => ?_⟩
  rcases Nat.eq_zero_or_pos t with r | r
  · rw [r, fb_ct_zero]
    intro k hk
    cases hp : p k with
    | false => rfl
    | true =>
      exfalso
      obtain ⟨j, hj1, hj2⟩ := hon _ hp
      omega
  · rw [hbet (t - 1) (by omega) M (hM _ (hin _ (by omega))) (fun j h1 h2 => by omega), hrk (t - 1) (by omega)]
    omega
