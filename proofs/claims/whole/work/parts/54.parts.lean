/-! all parts of a number: how many at most, and the class's row of them -/
def mtE (q : Nat) (r : Nat → Nat) : Nat → Nat → Nat → Nat
  | 0, _, _ => 1
  | f + 1, e, B => if B < q then 1 else Nat.max ((e + 1) * r (B / q)) (mtE q r f (e + 1) (B / q))
def mt : List Nat → Nat → Nat
  | [] => fun _ => 1
  | q :: l => fun B => mtE q (mt l) 34 1 B
theorem mtE_pos (q : Nat) (r : Nat → Nat) : ∀ f e B, (∀ x, 1 ≤ r x) → 1 ≤ mtE q r f e B
  | 0, _, _, _ => Nat.le_refl 1
  | f + 1, e, B, h => by
    rw [mtE]
    split
    · exact Nat.le_refl 1
    · have h1 := h (B / q)
      have h2 : 1 ≤ (e + 1) * r (B / q) := Nat.mul_pos (by omega) h1
      exact Nat.le_trans h2 (Nat.le_max_left _ _)
theorem mt_pos : ∀ l B, 1 ≤ mt l B
  | [], _ => Nat.le_refl 1
  | q :: l, B => mtE_pos q (mt l) 34 1 B (mt_pos l)
theorem mtE_ge {q : Nat} (hq : 2 ≤ q) (r : Nat → Nat) : ∀ E f e B, 1 ≤ E → E ≤ f → q ^ E ≤ B → (e + E) * r (B / q ^ E) ≤ mtE q r f e B
  | 0, _, _, _, h, _, _ => by omega
  | E + 1, 0, _, _, _, h, _ => by omega
  | E + 1, f + 1, e, B, _, hf, hB => by
    have hqB : q ≤ B := by
      have : q ^ 1 ≤ q ^ (E + 1) := Nat.pow_le_pow_right (by omega) (by omega)
      rw [Nat.pow_one] at this
      omega
    rw [mtE, if_neg (by omega)]
    rcases Nat.eq_zero_or_pos E with r0 | r0
    · subst r0
      rw [Nat.zero_add, Nat.pow_one]
      exact Nat.le_max_left _ _
    · have h1 : q ^ E ≤ B / q := by
        rw [Nat.le_div_iff_mul_le (by omega), ← Nat.pow_succ]
        exact hB
      have h2 := mtE_ge hq r E f (e + 1) (B / q) r0 (by omega) h1
      rw [Nat.div_div_eq_div_mul, Nat.mul_comm q, ← Nat.pow_succ] at h2
      rw [show e + (E + 1) = e + 1 + E by omega]
      exact Nat.le_trans h2 (Nat.le_max_right _ _)
theorem mt_ge : ∀ (l : List Nat) (u : Nat) (P E : Nat → Nat) (B : Nat), u ≤ l.length → (∀ i, i < u → l.getD i 0 ≤ P i ∧ 2 ≤ l.getD i 0 ∧ 1 ≤ E i) → B ≤ 10000000000 → prodf (fun i => P i ^ E i) u ≤ B → prodf (fun i => E i + 1) u ≤ mt l B
  | l, 0, P, E, B, _, _, _, _ => mt_pos l B
  | [], u + 1, P, E, B, h, _, _, _ => by simp at h
  | q :: l, u + 1, P, E, B, hu, hv, hB, hp => by
    have h0 := hv 0 (by omega)
    simp only [List.getD_cons_zero] at h0
    rw [prodf_front] at hp ⊢
    have hpq : q ^ E 0 ≤ P 0 ^ E 0 := Nat.pow_le_pow_left h0.1 (E 0)
    have hrest1 : 1 ≤ prodf (fun i => P (i + 1) ^ E (i + 1)) u := prodf_pos (fun i hi => Nat.pow_pos (by
      have := hv (i + 1) (by omega)
      omega))
    have hq0 : 0 < q ^ E 0 := Nat.pow_pos (by omega)
    have h1 : q ^ E 0 * prodf (fun i => P (i + 1) ^ E (i + 1)) u ≤ B := Nat.le_trans (Nat.mul_le_mul_right _ hpq) hp
    have h2 : prodf (fun i => P (i + 1) ^ E (i + 1)) u ≤ B / q ^ E 0 := by
      rw [Nat.le_div_iff_mul_le hq0, Nat.mul_comm]; exact h1
    have h3 : q ^ E 0 ≤ B := Nat.le_trans (Nat.le_mul_of_pos_right _ hrest1) h1
    have hE : E 0 ≤ 34 := by
      rcases Nat.lt_or_ge 34 (E 0) with r | r
      · exfalso
        have a1 : 2 ^ 34 ≤ 2 ^ E 0 := Nat.pow_le_pow_right (by decide) (by omega)
        have a2 : 2 ^ E 0 ≤ q ^ E 0 := Nat.pow_le_pow_left h0.2.1 (E 0)
        have : (2 : Nat) ^ 34 = 17179869184 := by decide
        omega
      · exact r
    have ih := mt_ge l u (fun i => P (i + 1)) (fun i => E (i + 1)) (B / q ^ E 0) (by simp at hu; exact hu) (fun i hi => by
      have := hv (i + 1) (by omega)
      simp only [List.getD_cons_succ] at this
      exact this) (Nat.le_trans (Nat.div_le_self _ _) hB) h2
    have h4 := mtE_ge h0.2.1 (mt l) (E 0) 34 1 B h0.2.2 hE h3
    show (E 0 + 1) * prodf (fun i => E (i + 1) + 1) u ≤ mtE q (mt l) 34 1 B
    refine Nat.le_trans ?_ h4
    rw [Nat.add_comm 1 (E 0)]
    exact Nat.mul_le_mul_left _ ih
def p12 : List Nat := [2, 3, 5, 7, 11, 13, 17, 19, 23, 29, 31, 37]
theorem mt_top : mt p12 10000000000 ≤ 2304 := by decide +kernel
theorem p12_ct : ∀ i, i < 12 → fb_ct bp (p12.getD i 0) = i ∧ 2 ≤ p12.getD i 0 := by decide +kernel
theorem Fac.nth {u : Nat} {P E : Nat → Nat} {n : Nat} (h : Fac u P E n) (hu : u ≤ 12) : ∀ i, i < u → p12.getD i 0 ≤ P i := by
  intro i hi
  rcases Nat.lt_or_ge (P i) (p12.getD i 0) with r | r
  · exfalso
    have h1 := rise_ct (PL := P) (i + 1) (p12.getD i 0) (fun k hk => ⟨bp_of_pr (h.1 k (by omega)).1, by
      rcases Nat.eq_or_lt_of_le (Nat.le_of_lt_succ hk) with e | e
      · subst e; exact r
      · have := h.2.1 k i e hi; omega⟩) (fun a b hab hb => h.2.1 a b hab (by omega))
    rw [(p12_ct i (by omega)).1] at h1
    omega
  · exact r
theorem tau_le {n : Nat} (hn : 0 < n) (hb : n ≤ 10000000000) : tau n ≤ 2304 := by
  obtain ⟨u, P, E, hF⟩ := Fac_ex n hn
  have hu := hF.few hb
  rw [hF.tau]
  refine Nat.le_trans (mt_ge p12 u P E 10000000000 hu (fun i hi => ⟨hF.nth hu i hi, (p12_ct i (by omega)).2, (hF.1 i hi).2⟩) (Nat.le_refl _) ?_) mt_top
  rw [hF.2.2]; exact hb
/-! one prime more -/
theorem dvs {p m q x : Nat} (hp : pr p) (hm : ¬ p ∣ m) (hm0 : 0 < m) : (x ∣ m * p ^ (q + 1) ↔ (x ∣ m * p ^ q ∨ ∃ y, y ∣ m ∧ x = y * p ^ (q + 1))) ∧ ¬ (x ∣ m * p ^ q ∧ ∃ y, y ∣ m ∧ x = y * p ^ (q + 1)) := by
  have hp0 : 0 < p := by have := hp.1; omega
  constructor
  · constructor
    · intro h
      have hx0 : 0 < x := by
        rcases Nat.eq_zero_or_pos x with e | e
        · subst e
          have h0 := Nat.eq_zero_of_zero_dvd h
          have := Nat.mul_pos hm0 (Nat.pow_pos (n := q + 1) hp0)
          omega
        · exact e
      obtain ⟨a, y, e, hy, hy0⟩ := split_pow hp.1 hx0
      have hym : y ∣ m := by
        have h1 : y ∣ m * p ^ (q + 1) := Nat.dvd_trans (by rw [e]; exact Nat.dvd_mul_left y _) h
        exact (cop_pow hp hy (q + 1)).dvd_of_dvd_mul_right h1
      rcases Nat.lt_or_ge q a with r | r
      · -- then a = q + 1
        have ha : a = q + 1 := by
          rcases Nat.lt_or_ge (q + 1) a with r2 | r2
          · exfalso
            have h1 : p ^ (q + 2) ∣ m * p ^ (q + 1) := Nat.dvd_trans (Nat.dvd_trans (Nat.pow_dvd_pow p r2) (by rw [e]; exact Nat.dvd_mul_right _ y)) h
            rw [Nat.pow_succ p (q + 1), Nat.mul_comm m] at h1
            exact hm (Nat.dvd_of_mul_dvd_mul_left (Nat.pow_pos hp0) h1)
          · omega
        right
        exact ⟨y, hym, by rw [e, ha, Nat.mul_comm]⟩
      · left
        rw [e, Nat.mul_comm]
        exact Nat.mul_dvd_mul hym (Nat.pow_dvd_pow p r)
    · intro h
      rcases h with h | ⟨y, h1, h2⟩
      · rw [Nat.pow_succ, ← Nat.mul_assoc]
        exact Nat.dvd_trans h (Nat.dvd_mul_right _ p)
      · rw [h2]; exact Nat.mul_dvd_mul_right h1 _
  · intro ⟨h, y, h1, h2⟩
    rw [h2] at h
    have h3 : p ^ (q + 1) ∣ m * p ^ q := Nat.dvd_trans (Nat.dvd_mul_left _ y) h
    rw [Nat.pow_succ, Nat.mul_comm m] at h3
    exact hm (Nat.dvd_of_mul_dvd_mul_left (Nat.pow_pos hp0) h3)
def XB (X : Nat → Nat) (B p : Nat) : Nat → Nat := fun j => X (j % B) * p ^ (j / B)
theorem XB_ct {X : Nat → Nat} {B p m : Nat} (hB : 0 < B) (hp : pr p) (hm : ¬ p ∣ m) (hm0 : 0 < m) (hX : ∀ x, cnE X B x = if x ∣ m then 1 else 0) : ∀ q x, cnE (XB X B p) ((q + 1) * B) x = if x ∣ m * p ^ q then 1 else 0
  | 0, x => by
    rw [Nat.zero_add, Nat.one_mul, Nat.pow_zero, Nat.mul_one, ← hX x]
    unfold cnE
    refine fb_ct_cong (fun j hj => ?_)
    unfold XB
    rw [Nat.mod_eq_of_lt hj, Nat.div_eq_of_lt hj, Nat.pow_zero, Nat.mul_one]
  | q + 1, x => by
    have hp0 : 0 < p := by have := hp.1; omega
    obtain ⟨d1, d2⟩ := dvs (q := q) (x := x) hp hm hm0
    have ih := XB_ct hB hp hm hm0 hX q x
    have hsp : cnE (XB X B p) ((q + 1 + 1) * B) x = cnE (XB X B p) ((q + 1) * B) x + fb_ct (fun j => decide (X j * p ^ (q + 1) = x)) B := by
      unfold cnE
      rw [Nat.succ_mul, fb_ct_split]
      congr 1
      refine fb_ct_cong (fun j hj => ?_)
      unfold XB
      have e1 : ((q + 1) * B + j) % B = j := by rw [Nat.mul_comm, Nat.mul_add_mod]; exact Nat.mod_eq_of_lt hj
      have e2 : ((q + 1) * B + j) / B = q + 1 := by rw [Nat.mul_comm, Nat.mul_add_div hB, Nat.div_eq_of_lt hj, Nat.add_zero]
      rw [e1, e2]
    have hb1 : ∀ y, x = y * p ^ (q + 1) → fb_ct (fun j => decide (X j * p ^ (q + 1) = x)) B = if y ∣ m then 1 else 0 := by
      intro y hy
      subst hy
      rw [← hX y]
      unfold cnE
      refine fb_ct_cong (fun j hj => ?_)
      have : (X j * p ^ (q + 1) = y * p ^ (q + 1)) ↔ X j = y := ⟨fun h => Nat.eq_of_mul_eq_mul_right (Nat.pow_pos hp0) h, fun h => by rw [h]⟩
      simp only [this]
    have hb0 : (¬ ∃ y, x = y * p ^ (q + 1)) → fb_ct (fun j => decide (X j * p ^ (q + 1) = x)) B = 0 := by
      intro hy
      rw [fb_ct_zero]
      intro j _
      exact decide_eq_false (fun h => hy ⟨X j, h.symm⟩)
    rw [hsp, ih]
    by_cases h1 : x ∣ m * p ^ q
    · have h3 : fb_ct (fun j => decide (X j * p ^ (q + 1) = x)) B = 0 := by
        by_cases hy : ∃ y, x = y * p ^ (q + 1)
        · obtain ⟨y, hy⟩ := hy
          rw [hb1 y hy, if_neg (fun h => d2 ⟨h1, y, h, hy⟩)]
        · exact hb0 hy
      rw [if_pos h1, h3, if_pos (d1.mpr (Or.inl h1))]
    · by_cases h2 : ∃ y, y ∣ m ∧ x = y * p ^ (q + 1)
      · obtain ⟨y, hy1, hy2⟩ := h2
        rw [if_neg h1, hb1 y hy2, if_pos hy1, if_pos (d1.mpr (Or.inr ⟨y, hy1, hy2⟩))]
      · have h3 : fb_ct (fun j => decide (X j * p ^ (q + 1) = x)) B = 0 := by
          by_cases hy : ∃ y, x = y * p ^ (q + 1)
          · obtain ⟨y, hy⟩ := hy
            rw [hb1 y hy, if_neg (fun h => h2 ⟨y, h, hy⟩)]
          · exact hb0 hy
        rw [if_neg h1, h3, if_neg (fun h => by rcases d1.mp h with r | r; exact h1 r; exact h2 r)]
/-! the class's row of parts -/
theorem append_f (N : Nat) (hN : 2 ^ 20 ≤ N) {X : Nat → Nat} {B p e : Nat} (hB : 0 < B) (hb : (e + 2) * B ≤ 2304) {parts : Nat → Int64} (h : ∀ j, j < (e + 1) * B → parts j = lN (XB X B p j)) : ∃ parts', f_X6_appendMultiples N (nI (e * B)) (nI B) (lN p) (nI ((e + 1) * B)) parts = some (nI ((e + 2) * B), parts') ∧ ∀ j, j < (e + 2) * B → parts' j = lN (XB X B p j) := by
  have e1 : (e + 1) * B = e * B + B := Nat.succ_mul e B
  have e2 : (e + 2) * B = e * B + B + B := by rw [show e + 2 = e + 1 + 1 from rfl, Nat.succ_mul, e1]
  have h20 : (2 : Nat) ^ 20 = 1048576 := by decide
  unfold f_X6_appendMultiples
  have go : ∀ (d n r : Nat) (pa : Nat → Int64), r + d = B → d < n → (∀ j, j < (e + 1) * B + r → pa j = lN (XB X B p j)) → ∃ parts', l_X6_appendMultiples_3 N (nI (e * B)) (nI B) (lN p) n (nI (e * B + r), nI ((e + 1) * B + r), pa) = some (nI ((e + 2) * B), parts') ∧ ∀ j, j < (e + 2) * B → parts' j = lN (XB X B p j) := by
    intro d
    induction d with
    | zero =>
      intro n r pa h1 h2 h3
      obtain ⟨n, rfl⟩ : ∃ z, n = z + 1 := ⟨n - 1, by omega⟩
      have er : r = B := by omega
      subst er
      refine ⟨pa, ?_, fun j hj => h3 j (by omega)⟩
      show s_X6_appendMultiples_3 N (nI (e * r)) (nI r) (lN p) (l_X6_appendMultiples_3 N (nI (e * r)) (nI r) (lN p) n) (nI (e * r + r)) (nI ((e + 1) * r + r)) pa = _
      unfold s_X6_appendMultiples_3
      rw [nI_add, if_pos (L_le (e * r + r) (e * r + r) (Nat.le_refl _) (by omega)), e2, e1]
    | succ d ih =>
      intro n r pa h1 h2 h3
      obtain ⟨n, rfl⟩ : ∃ z, n = z + 1 := ⟨n - 1, by omega⟩
      show ∃ parts', s_X6_appendMultiples_3 N (nI (e * B)) (nI B) (lN p) (l_X6_appendMultiples_3 N (nI (e * B)) (nI B) (lN p) n) (nI (e * B + r)) (nI ((e + 1) * B + r)) pa = some (nI ((e + 2) * B), parts') ∧ ∀ j, j < (e + 2) * B → parts' j = lN (XB X B p j)
      unfold s_X6_appendMultiples_3
      rw [nI_add, if_neg (L_nle (e * B + B) (e * B + r) (by omega) (by omega)), if_neg (L_nle ((e + 1) * B + r) (e * B + r) (by omega) (by omega)), if_neg (L_nle 2304 ((e + 1) * B + r) (by omega) (by decide)), if_neg (L_in (e * B + r) 2304 (by omega) (by omega))]
      simp only [xl]
      rw [if_neg (L_in ((e + 1) * B + r) 2304 (by omega) (by omega)), nI_clamp (by omega), nI_clamp (by omega), show nI ((e + 1) * B + r) + (1 : Int32) = nI ((e + 1) * B + (r + 1)) from nI_1 _, show nI (e * B + r) + (1 : Int32) = nI (e * B + (r + 1)) from nI_1 _, h3 (e * B + r) (by omega), lN_mul]
      refine ih n (r + 1) _ (by omega) (by omega) (fun j hj => ?_)
      by_cases ej : j = (e + 1) * B + r
      · subst ej
        rw [pk_uLs]
        unfold XB
        have a1 : (e * B + r) % B = r := by rw [Nat.mul_comm, Nat.mul_add_mod]; exact Nat.mod_eq_of_lt (by omega)
        have a2 : (e * B + r) / B = e := by rw [Nat.mul_comm, Nat.mul_add_div hB, Nat.div_eq_of_lt (by omega), Nat.add_zero]
        have a3 : ((e + 1) * B + r) % B = r := by rw [Nat.mul_comm, Nat.mul_add_mod]; exact Nat.mod_eq_of_lt (by omega)
        have a4 : ((e + 1) * B + r) / B = e + 1 := by rw [Nat.mul_comm, Nat.mul_add_div hB, Nat.div_eq_of_lt (by omega), Nat.add_zero]
        rw [a1, a2, a3, a4, Nat.pow_succ, Nat.mul_assoc]
      · rw [pk_uLn ej]; exact h3 j (by omega)
  exact go B N 0 parts (by omega) (by omega) h
def PaA (m : Nat) (parts : Nat → Int64) : Prop := ∃ Y : Nat → Nat, (∀ k, k < tau m → parts k = lN (Y k) ∧ Y k < 2 ^ 63) ∧ (∀ x, cnE Y (tau m) x = if x ∣ m then 1 else 0) ∧ ∀ a b, a ≤ b → b < tau m → Y a ≤ Y b
def PaOK (pk : Int32) (pn : Int64) (parts : Nat → Int64) : Prop := pn = 0 ∨ ∃ m, 0 < m ∧ m ≤ 10000000000 ∧ pn = lN m ∧ pk = nI (tau m) ∧ PaA m parts
theorem prodf_mono {f : Nat → Nat} (h : ∀ i, 1 ≤ f i) {i : Nat} : ∀ u, i ≤ u → prodf f i ≤ prodf f u
  | 0, hi => by rw [show i = 0 by omega]; exact Nat.le_refl _
  | u + 1, hi => by
    rcases Nat.eq_or_lt_of_le hi with r | r
    · rw [r]; exact Nat.le_refl _
    · rw [prodf]; exact Nat.le_trans (prodf_mono h u (by omega)) (Nat.le_mul_of_pos_right _ (h u))
theorem listParts_l (N : Nat) (hN : 2 ^ 40 ≤ N) {uu n : Nat} (hu : uu ≤ 12) (h0 : 0 < n) (hn : n ≤ 10000000000) {P : Nat → Int64} {T : Nat → Int32} {PP EE : Nat → Nat} (hF : Fac uu PP EE n) (hv : ∀ i, i < uu → P i = lN (PP i) ∧ T i = nI (EE i)) : ∀ (d f i : Nat) (X : Nat → Nat) (pa : Nat → Int64), i + d = uu → d < f → (∀ j, j < prodf (fun i => EE i + 1) i → pa j = lN (X j)) → (∀ x, cnE X (prodf (fun i => EE i + 1) i) x = if x ∣ prodf (fun i => PP i ^ EE i) i then 1 else 0) → ∃ parts', l_X6_listParts_35 N (nI uu) (lN n) P T f (nI i, nI (prodf (fun i => EE i + 1) i), pa) = some (nI (tau n), lN n, parts') ∧ PaA n parts' := by
  have h40 : (2 : Nat) ^ 40 = 1099511627776 := by decide
  have ht := tau_le h0 hn
  intro d
  induction d with
  | zero =>
    intro f i X pa h1 h2 hpa hX
    obtain ⟨f, rfl⟩ : ∃ z, f = z + 1 := ⟨f - 1, by omega⟩
    have ei : i = uu := by omega
    subst ei
    rw [← hF.tau] at hpa hX ⊢
    rw [hF.2.2] at hX
    have hb : ∀ k, k < tau n → pa k = lN (X k) ∧ X k < 2 ^ 63 := fun k hk => by
      refine ⟨hpa k hk, ?_⟩
      have a1 : 0 < cnE X (tau n) (X k) := cn_mem.mpr ⟨k, hk, rfl⟩
      rw [hX] at a1
      by_cases a2 : X k ∣ n
      · have := Nat.le_of_dvd h0 a2; omega
      · rw [if_neg a2] at a1; omega
    obtain ⟨A', Y, e1, ⟨o1, o2⟩, o3⟩ := order_f N (by omega) (t := tau n) (L := 2304) ht (by decide) hb
    refine ⟨A', ?_, Y, o1, fun x => by rw [o2, hX], o3⟩
    show s_X6_listParts_35 N (nI i) (lN n) P T (l_X6_listParts_35 N (nI i) (lN n) P T f) (nI i) (nI (tau n)) pa = _
    unfold s_X6_listParts_35
    rw [if_pos (L_le i i (Nat.le_refl i) (by omega))]
    unfold j_X6_listParts_98
    rw [e1, ob]
  | succ d ih =>
    intro f i X pa h1 h2 hpa hX
    obtain ⟨f, rfl⟩ : ∃ z, f = z + 1 := ⟨f - 1, by omega⟩
    have hB : 0 < prodf (fun i => EE i + 1) i := prodf_pos (fun i _ => Nat.succ_pos _)
    have hpi := (hF.1 i (by omega)).1
    have hfr : ¬ PP i ∣ prodf (fun i => PP i ^ EE i) i := by
      have hdn : Fac i PP EE (prodf (fun i => PP i ^ EE i) i) := ⟨fun k hk => hF.1 k (by omega), fun a b h3 h4 => hF.2.1 a b h3 (by omega), rfl⟩
      exact hdn.free hpi (fun k hk => Nat.ne_of_lt (hF.2.1 k i hk (by omega)))
    have hm0 : 0 < prodf (fun i => PP i ^ EE i) i := prodf_pos (fun k hk => Nat.pow_pos (by have := (hF.1 k (by omega)).1.1; omega))
    have hlast : prodf (fun i => EE i + 1) (i + 1) ≤ 2304 := by
      refine Nat.le_trans (prodf_mono (fun i => Nat.succ_pos _) uu (by omega)) ?_
      rw [← hF.tau]; exact ht
    have hnext : prodf (fun i => EE i + 1) (i + 1) = (EE i + 1) * prodf (fun i => EE i + 1) i := by rw [prodf, Nat.mul_comm]
    show ∃ parts', s_X6_listParts_35 N (nI uu) (lN n) P T (l_X6_listParts_35 N (nI uu) (lN n) P T f) (nI i) (nI (prodf (fun i => EE i + 1) i)) pa = some (nI (tau n), lN n, parts') ∧ PaA n parts'
    unfold s_X6_listParts_35
    rw [if_neg (L_nle uu i (by omega) (by omega)), if_neg (L_nle 12 i (by omega) (by decide))]
    have ih2 := ih f (i + 1)
    rw [hnext] at ih2 hlast
    generalize prodf (fun i => EE i + 1) i = B at *
    have hEb : EE i < 63 := hF.exp (by omega) i (by omega)
    have inner : ∀ (g fu e : Nat) (pb : Nat → Int64), e + g = EE i → g < fu → (∀ j, j < (e + 1) * B → pb j = lN (XB X B (PP i) j)) → ∃ parts', l_X6_listParts_59 N (l_X6_listParts_35 N (nI uu) (lN n) P T f) (nI i) (nI B) P T fu (nI (e * B), nI e, nI ((e + 1) * B), pb) = some (nI (tau n), lN n, parts') ∧ PaA n parts' := by
      intro g
      induction g with
      | zero =>
        intro fu e pb g1 g2 hpb
        obtain ⟨fu, rfl⟩ : ∃ z, fu = z + 1 := ⟨fu - 1, by omega⟩
        have ee : e = EE i := by omega
        subst ee
        show ∃ parts', s_X6_listParts_59 N (l_X6_listParts_35 N (nI uu) (lN n) P T f) (nI i) (nI B) P T (l_X6_listParts_59 N (l_X6_listParts_35 N (nI uu) (lN n) P T f) (nI i) (nI B) P T fu) (nI (EE i * B)) (nI (EE i)) (nI ((EE i + 1) * B)) pb = some (nI (tau n), lN n, parts') ∧ PaA n parts'
        unfold s_X6_listParts_59
        rw [if_neg (L_in i 12 (by omega) (by omega)), nI_clamp (by omega), (hv i (by omega)).2, if_pos (L_le (EE i) (EE i) (Nat.le_refl _) (by omega))]
        simp only [xl]
        rw [show nI i + (1 : Int32) = nI (i + 1) from nI_1 i]
        refine ih2 (XB X B (PP i)) pb (by omega) (by omega) hpb (fun x => ?_)
        rw [XB_ct hB hpi hfr hm0 hX (EE i) x, prodf]
      | succ g ihg =>
        intro fu e pb g1 g2 hpb
        obtain ⟨fu, rfl⟩ : ∃ z, fu = z + 1 := ⟨fu - 1, by omega⟩
        show ∃ parts', s_X6_listParts_59 N (l_X6_listParts_35 N (nI uu) (lN n) P T f) (nI i) (nI B) P T (l_X6_listParts_59 N (l_X6_listParts_35 N (nI uu) (lN n) P T f) (nI i) (nI B) P T fu) (nI (e * B)) (nI e) (nI ((e + 1) * B)) pb = some (nI (tau n), lN n, parts') ∧ PaA n parts'
        unfold s_X6_listParts_59
        have hbig : (e + 2) * B ≤ 2304 := Nat.le_trans (Nat.mul_le_mul_right B (by omega)) hlast
        obtain ⟨pc, a1, a2⟩ := append_f N (by omega) (X := X) (p := PP i) (e := e) hB hbig hpb
        rw [if_neg (L_in i 12 (by omega) (by omega)), nI_clamp (by omega), (hv i (by omega)).2, if_neg (L_nle (EE i) e (by omega) (by omega)), (hv i (by omega)).1, a1, ob]
        simp only [xl]
        rw [nI_add, show nI e + (1 : Int32) = nI (e + 1) from nI_1 e, ← Nat.succ_mul]
        exact ihg fu (e + 1) pc (by omega) (by omega) a2
    have h3 := inner (EE i) N 0 pa (by omega) (by omega) (fun j hj => by
      rw [Nat.zero_add, Nat.one_mul] at hj
      rw [hpa j hj]
      unfold XB
      rw [Nat.mod_eq_of_lt hj, Nat.div_eq_of_lt hj, Nat.pow_zero, Nat.mul_one])
    rw [Nat.zero_mul, Nat.zero_add, Nat.one_mul] at h3
    exact h3
theorem listParts_f (N : Nat) (hN : 2 ^ 40 ≤ N) {uu n : Nat} (hu : uu ≤ 12) (h0 : 0 < n) (hn : n ≤ 10000000000) {P : Nat → Int64} {T : Nat → Int32} (hA : SpA uu n P T) {pk : Int32} {pn : Int64} {parts : Nat → Int64} (hP : PaOK pk pn parts) : ∃ parts', f_X6_listParts N (nI uu) (lN n) pk pn P T parts = some (nI (tau n), lN n, parts') ∧ PaA n parts' := by
  have h40 : (2 : Nat) ^ 40 = 1099511627776 := by decide
  obtain ⟨PP, EE, hF, hv⟩ := hA
  unfold f_X6_listParts
  by_cases he : pn = lN n
  · rw [if_pos he]
    rcases hP with rfl | ⟨m, m0, mb, e1, rfl, hA⟩
    · exact absurd he.symm (M_ne n 0 (by omega) (by omega) (by decide))
    · have : m = n := (pk_lEQ (by omega) (by omega)).mp (e1.symm.trans he)
      subst this
      rw [e1]
      exact ⟨parts, rfl, hA⟩
  · rw [if_neg he, if_neg (L_in 0 2304 (by decide) (by decide))]
    refine listParts_l N hN hu h0 hn hF hv uu N 0 (fun _ => 1) (vp_updL parts 0 (1 : Int64)) (by omega) (by omega) (fun j hj => ?_) (fun x => ?_)
    · have : j = 0 := by simp [prodf] at hj; exact hj
      subst this
      exact pk_uLs
    · show cnE (fun _ => 1) 1 x = if x ∣ 1 then 1 else 0
      unfold cnE
      rw [fb_ct_succ]
      by_cases e : x = 1
      · subst e; simp [fb_ct]
      · have : ¬ x ∣ 1 := fun h => e (Nat.eq_one_of_dvd_one h)
        rw [if_neg this]
        have e2 : ¬ (1 = x) := fun h => e h.symm
        simp [fb_ct, e2]
