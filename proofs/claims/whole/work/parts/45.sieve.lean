theorem pr_two : pr 2 := ⟨Nat.le_refl 2, fun d hd => by
  have h1 := Nat.le_of_dvd (by decide) hd
  have h0 : d ≠ 0 := fun e => by subst e; have := Nat.eq_zero_of_zero_dvd hd; omega
  omega⟩
/-! rows -/
theorem nI_row (n_row : Nat) (h : n_row = 0 ∨ n_row = 50001) : (nI n_row = 0) ↔ n_row = 0 := by
  rcases h with rfl | rfl
  · exact ⟨fun _ => rfl, fun _ => rfl⟩
  · constructor
    · intro e; exact absurd e (by decide)
    · intro e; omega
theorem fill_f (N : Nat) (hN : 2 ^ 20 ≤ N) (v : Int32) {n : Nat} (hn : n < 2 ^ 20) (a : Nat → Int32) : ∃ a', f_J7_fill_53178 N v n a = some a' ∧ ∀ k, k < n → a' k = v := by
  unfold f_J7_fill_53178 l_J7_fill_53178_5
  simp only [xl]
  refine lp_post (I := fun (z : Int32 × (Nat → Int32)) => ∃ i : Nat, z.1 = nI i ∧ i ≤ n ∧ ∀ k, k < i → z.2 k = v) (μ := fun z => n - z.1.toNatClampNeg) (post := fun (r : Option (Nat → Int32)) => ∃ a', r = some a' ∧ ∀ k, k < n → a' k = v) ?_ N _ ?_ ?_
  · intro z K hI hK
    obtain ⟨z1, z2⟩ := z
    obtain ⟨i, e1, hi, hz⟩ := hI
    simp only at e1 hz
    subst e1
    show ∃ a', s_J7_fill_53178_5 N v (nI n) n K (nI i) z2 = some a' ∧ ∀ k, k < n → a' k = v
    unfold s_J7_fill_53178_5
    by_cases h : i = n
    · rw [if_pos (L_le n i (by omega) (by omega))]
      exact ⟨z2, rfl, fun k hk => hz k (by omega)⟩
    · rw [if_neg (L_nle n i (by omega) (by omega)), if_neg (L_in i n (by omega) (by omega))]
      simp only [xl]
      rw [nI_clamp (by omega), show nI i + (1 : Int32) = nI (i + 1) from nI_1 i]
      refine hK _ ⟨i + 1, rfl, by omega, fun k hk => ?_⟩ ?_
      · show upd z2 i v k = v
        by_cases e : k = i
        · subst e; exact pk_us
        · rw [pk_un e]; exact hz k (by omega)
      · show n - (nI (i + 1)).toNatClampNeg < n - (nI i).toNatClampNeg
        rw [nI_clamp (by omega), nI_clamp (by omega)]; omega
  · exact ⟨0, rfl, by omega, fun k hk => by omega⟩
  · show n - (0 : Int32).toNatClampNeg < N
    omega
theorem borrowed_f (N : Nat) {MC MS n_row : Nat} (h : n_row = 0 ∨ n_row = 50001) (hC : (if n_row = 0 then 1 else 0) ≤ MC) (hS : (if n_row = 0 then 50001 else 0) ≤ MS) (a : Nat → Int32) : ∃ a', f_X4_borrowed N MC MS n_row a = some (50001, a') := by
  unfold f_X4_borrowed
  rcases h with rfl | rfl
  · rw [if_pos rfl] at hC hS
    rw [if_pos (show nI 0 = (0 : Int32) from rfl), if_pos ⟨by omega, by omega⟩, if_pos ⟨by omega, by omega⟩]
    exact ⟨_, rfl⟩
  · rw [if_neg (show ¬ nI 50001 = (0 : Int32) by decide), if_pos ⟨by omega, by omega⟩]
    exact ⟨_, rfl⟩
theorem rc_eq {n_row : Nat} (h : n_row = 0 ∨ n_row = 50001) : (if nI n_row = 0 then 1 else 0) = (if n_row = 0 then 1 else 0 : Nat) ∧ (if nI n_row = 0 then 50001 else 0) = (if n_row = 0 then 50001 else 0 : Nat) := by
  rcases h with rfl | rfl
  · exact ⟨rfl, rfl⟩
  · rw [if_neg (show ¬ nI 50001 = (0 : Int32) by decide), if_neg (show ¬ nI 50001 = (0 : Int32) by decide)]; exact ⟨rfl, rfl⟩
theorem cleared_f (N : Nat) (hN : 2 ^ 20 ≤ N) {MC MS n_row : Nat} (h : n_row = 0 ∨ n_row = 50001) (hC : (if n_row = 0 then 1 else 0) ≤ MC) (hS : (if n_row = 0 then 50001 else 0) ≤ MS) (a : Nat → Int32) : ∃ a', f_X4_cleared N MC MS n_row a = some (50001, a') ∧ ∀ k, k < 50001 → a' k = 0 := by
  unfold f_X4_cleared
  obtain ⟨e1, e2⟩ := rc_eq h
  rw [e1, e2]
  obtain ⟨a1, f1⟩ := borrowed_f N h (Nat.le_refl _) (Nat.le_refl _) a
  obtain ⟨a2, f2, f3⟩ := fill_f N hN 0 (n := 50001) (by decide) a1
  rw [if_pos ⟨by omega, by omega⟩, f1, ob, if_pos ⟨by omega, by omega⟩, f2, ob, if_pos ⟨by omega, by omega⟩]
  exact ⟨a2, rfl, f3⟩
/-! the sieve: place j stands for 2 j + 1 -/
def crs (q j : Nat) : Prop := ∃ t, 2 * j + 1 = q * (q + 2 * t)
theorem odd_half {p : Nat} (h : p % 2 = 1) : 2 * (p * p / 2) + 1 = p * p := by
  have h1 : p * p % 2 = 1 := by rw [Nat.mul_mod, h]
  omega
theorem cross_f (N : Nat) (hN : 2 ^ 20 ≤ N) {p : Nat} (hp3 : 3 ≤ p) (hpo : p % 2 = 1) (hpb : p < 100000) (a : Nat → Int32) : ∃ a', f_X3_crossMultiples N (nI p) 50001 a = some a' ∧ ∀ j, j < 50000 → (a' j = 0 ↔ a j = 0 ∧ (p ≤ 400 → ¬ crs p j)) := by
  unfold f_X3_crossMultiples
  rw [if_neg (L_nlt p 3 hp3 (by omega))]
  by_cases h4 : p ≤ 400
  · rw [if_pos (L_le p 400 h4 (by decide))]
    have hpp : p * p ≤ 160000 := Nat.le_trans (Nat.mul_le_mul h4 h4) (by decide)
    have hoh := odd_half hpo
    simp only [xl]
    rw [nI_m, show (2 : Int32) = nI 2 from rfl, pk_div (by omega) (by decide) (by decide)]
    unfold l_X3_crossMultiples_19
    refine lp_post (I := fun (z : Int32 × (Nat → Int32)) => ∃ t : Nat, z.1 = nI (p * p / 2 + t * p) ∧ p * p / 2 + t * p < 160000 ∧ ∀ j, j < 50000 → (z.2 j = 0 ↔ a j = 0 ∧ ¬ ∃ s, s < t ∧ 2 * j + 1 = p * (p + 2 * s))) (μ := fun z => 200000 - z.1.toNatClampNeg) (post := fun (r : Option (Nat → Int32)) => ∃ a', r = some a' ∧ ∀ j, j < 50000 → (a' j = 0 ↔ a j = 0 ∧ (p ≤ 400 → ¬ crs p j))) ?_ N _ ?_ ?_
    · intro z K hI hK
      obtain ⟨z1, z2⟩ := z
      obtain ⟨t, e1, hb, hz⟩ := hI
      simp only at e1 hz
      subst e1
      generalize hi : p * p / 2 + t * p = i at *
      have hi2 : 2 * i + 1 = p * (p + 2 * t) := by
        have : p * (p + 2 * t) = p * p + 2 * (t * p) := by rw [Nat.mul_add, Nat.mul_left_comm, Nat.mul_comm p t]
        omega
      show ∃ a', s_X3_crossMultiples_19 N (nI p) 50001 K (nI i) z2 = some a' ∧ ∀ j, j < 50000 → (a' j = 0 ↔ a j = 0 ∧ (p ≤ 400 → ¬ crs p j))
      unfold s_X3_crossMultiples_19
      by_cases he : 50000 ≤ i
      · rw [if_pos (L_le 50000 i he (by omega))]
        refine ⟨z2, rfl, fun j hj => ?_⟩
        rw [hz j hj]
        refine ⟨fun ⟨h1, h2⟩ => ⟨h1, fun _ h3 => ?_⟩, fun ⟨h1, h2⟩ => ⟨h1, fun ⟨s, _, hs⟩ => h2 h4 ⟨s, hs⟩⟩⟩
        obtain ⟨s, hs⟩ := h3
        refine h2 ⟨s, ?_, hs⟩
        rcases Nat.lt_or_ge s t with q | q
        · exact q
        · exfalso
          have : p * (p + 2 * t) ≤ p * (p + 2 * s) := Nat.mul_le_mul_left p (by omega)
          omega
      · rw [if_neg (L_nle 50000 i (by omega) (by decide)), if_neg (L_nle 50001 i (by omega) (by decide)), if_neg (L_in i 50001 (by omega) (by omega))]
        simp only [xl]
        rw [nI_clamp (by omega), nI_add]
        have hnext : p * p / 2 + (t + 1) * p = i + p := by rw [Nat.succ_mul]; omega
        refine hK _ ⟨t + 1, by rw [hnext], by omega, fun j hj => ?_⟩ ?_
        · show upd z2 i 1 j = 0 ↔ _
          by_cases e : j = i
          · subst e
            rw [pk_us]
            refine ⟨fun h => absurd h (by decide), fun ⟨_, h2⟩ => absurd ⟨t, by omega, hi2⟩ h2⟩
          · rw [pk_un e, hz j hj]
            refine ⟨fun ⟨h1, h2⟩ => ⟨h1, fun ⟨s, hs1, hs2⟩ => ?_⟩, fun ⟨h1, h2⟩ => ⟨h1, fun ⟨s, hs1, hs2⟩ => h2 ⟨s, by omega, hs2⟩⟩⟩
            rcases Nat.eq_or_lt_of_le (Nat.le_of_lt_succ hs1) with r | r
            · subst r; omega
            · exact h2 ⟨s, r, hs2⟩
        · show 200000 - (nI (i + p)).toNatClampNeg < 200000 - (nI i).toNatClampNeg
          rw [nI_clamp (by omega), nI_clamp (by omega)]; omega
    · exact ⟨0, by simp, by omega, fun j _ => ⟨fun h => ⟨h, fun ⟨s, hs, _⟩ => by omega⟩, fun h => h.1⟩⟩
    · show 200000 - (nI (p * p / 2)).toNatClampNeg < N
      omega
  · rw [if_neg (L_nle p 400 (by omega) (by omega))]
    exact ⟨a, rfl, fun j _ => ⟨fun h => ⟨h, fun q => absurd q h4⟩, fun h => h.1⟩⟩
/-- a place that no small prime crosses stands for a prime, and the other way -/
theorem crs_pr {i : Nat} (hi1 : 1 ≤ i) (hi : i < 50000) : (∀ q, pr q → 3 ≤ q → q ≤ 400 → q < 2 * i + 1 → ¬ crs q i) ↔ pr (2 * i + 1) := by
  constructor
  · intro h
    refine pr_root (by omega) (fun d hd hdd hdv => ?_)
    obtain ⟨q, hq, hqd, -⟩ := pr_has hd
    have hqn : q ∣ 2 * i + 1 := Nat.dvd_trans hqd hdv
    have hq2 := hq.1
    have hqle : q ≤ d := Nat.le_of_dvd (by omega) hqd
    have hqq : q * q ≤ 2 * i + 1 := Nat.le_trans (Nat.mul_le_mul hqle hqle) hdd
    have hq400 : q ≤ 400 := by
      rcases Nat.lt_or_ge 400 q with r | r
      · exfalso
        have : 401 * 401 ≤ q * q := Nat.mul_le_mul r r
        omega
      · exact r
    have hq3 : q ≠ 2 := fun e => by
      subst e
      omega
    obtain ⟨m, hm⟩ := hqn
    have hmq : q ≤ m := by
      rcases Nat.lt_or_ge m q with r | r
      · exfalso
        have : q * m < q * q := Nat.mul_lt_mul_of_pos_left r (by omega)
        omega
      · exact r
    have hmo : m % 2 = 1 := by
      rcases Nat.mod_two_eq_zero_or_one m with e | e
      · exfalso
        have : q * m % 2 = 0 := by rw [Nat.mul_mod, e]; simp
        omega
      · exact e
    have hqo : q % 2 = 1 := by
      rcases Nat.mod_two_eq_zero_or_one q with e | e
      · exfalso
        have : q * m % 2 = 0 := by rw [Nat.mul_mod, e]; simp
        omega
      · exact e
    have hlt : q < 2 * i + 1 := by
      have : q * 2 ≤ q * q := Nat.mul_le_mul_left q hq2
      omega
    refine h q hq (by omega) hq400 hlt ⟨(m - q) / 2, ?_⟩
    rw [hm, show q + 2 * ((m - q) / 2) = m by omega]
  · intro hp q hq hq3 _ hlt ⟨t, ht⟩
    rcases hp.2 q ⟨_, ht⟩ with e | e <;> omega
/-- prepare, from rows in their state: the table of primes stands -/
theorem primes_f (N : Nat) (hN : 2 ^ 20 ≤ N) {MC MS n_row n_list : Nat} (hr : n_row = 0 ∨ n_row = 50001) (hl : n_list = 0) (hC : 1 + (if n_row = 0 then 1 else 0) ≤ MC) (hS : 9592 + (if n_row = 0 then 50001 else 0) ≤ MS) (a_row a_list : Nat → Int32) : ∃ (a_row' a_list' : Nat → Int32), f_X3_prepare N MC MS n_row a_row n_list a_list = some (50001, a_row', 9592, a_list') ∧ PT 9592 a_list' := by
  subst hl
  unfold f_X3_prepare
  obtain ⟨e1, e2⟩ := rc_eq hr
  rw [e1, e2]
  obtain ⟨a1, f1, f2⟩ := cleared_f N hN hr (Nat.le_refl _) (Nat.le_refl _) a_row
  rw [if_pos (show nI 0 ≤ (0 : Int32) by decide), if_pos ⟨by omega, by omega⟩, if_pos ⟨by omega, by omega⟩, f1, ob, if_neg (L_in 0 9592 (by decide) (by decide))]
  simp only
  rw [show (0 : Int32).toNatClampNeg = 0 from rfl]
  have hgC : 0 + 1 + (if n_row = 0 then 1 else 0) ≤ MC := by omega
  have hgS : 0 + 9592 + (if n_row = 0 then 50001 else 0) ≤ MS := by omega
  generalize 0 + 1 + (if n_row = 0 then 1 else 0) = gc at *
  generalize 0 + 9592 + (if n_row = 0 then 50001 else 0) = gs at *
  unfold l_X3_prepare_37
  refine lp_post (I := fun (z : Int32 × Int32 × (Nat → Int32) × (Nat → Int32)) => ∃ (c i : Nat) (PL : Nat → Nat), z.1 = nI c ∧ z.2.1 = nI i ∧ c ≤ 9592 ∧ 1 ≤ i ∧ i ≤ 50000 ∧ (∀ j, j < 50000 → (z.2.2.1 j = 0 ↔ ∀ q, pr q → 3 ≤ q → q ≤ 400 → q < 2 * i + 1 → ¬ crs q j)) ∧ (∀ k, k < c → z.2.2.2 k = nI (PL k)) ∧ (∀ k, c ≤ k → k < 9592 → z.2.2.2 k = 0) ∧ (∀ k, k < c → pr (PL k) ∧ PL k < 2 * i + 1) ∧ (∀ i j, i < j → j < c → PL i < PL j) ∧ ∀ q, pr q → q < 2 * i + 1 → ∃ k, k < c ∧ PL k = q) (μ := fun z => 50001 - z.2.1.toNatClampNeg) (post := fun (r : Option (Nat × (Nat → Int32) × Nat × (Nat → Int32))) => ∃ (a_row' a_list' : Nat → Int32), r = some (50001, a_row', 9592, a_list') ∧ PT 9592 a_list') ?_ N _ ?_ ?_
  · intro z K hI hK
    obtain ⟨z1, z2, z3, z4⟩ := z
    obtain ⟨c, i, PL, g1, g2, hc, hi1, hi2, hcr, hPL, hz, hpr, hris, hall⟩ := hI
    simp only at g1 g2 hcr hPL hz
    subst g1; subst g2
    show ∃ a_row' a_list', s_X3_prepare_37 N MC MS 50001 9592 gc gs K (nI c) (nI i) z3 z4 = some (50001, a_row', 9592, a_list') ∧ PT 9592 a_list'
    -- the end, once all primes below 100000 are there
    have fin : (∀ q, pr q → q < 100000 → ∃ k, k < c ∧ PL k = q) → PT 9592 z4 := by
      intro hf
      refine ⟨by decide, fun k => if k < c then PL k else 0, c, fun k hk => ?_, hc, fun k hk => ?_, fun i j h1 h2 => ?_, fun k h1 h2 => ?_, fun q hq hqb => ?_⟩
      · by_cases e : k < c
        · simp only [if_pos e]; exact hPL k e
        · simp only [if_neg e]; exact hz k (by omega) hk
      · simp only [if_pos hk]
        refine ⟨(hpr k hk).1, ?_⟩
        have h1 := (hpr k hk).2
        have h2 : PL k ≠ 100000 := fun e => by
          have := (hpr k hk).1.2 2 (by rw [e]; decide)
          omega
        omega
      · simp only [if_pos h2, if_pos (show i < c by omega)]; exact hris i j h1 h2
      · simp only [if_neg (show ¬ k < c by omega)]
      · obtain ⟨k, h1, h2⟩ := hf q hq hqb
        exact ⟨k, h1, by simp only [if_pos h1]; exact h2⟩
    unfold s_X3_prepare_37
    by_cases hend : i = 50000
    · rw [if_pos (L_le 50000 i (by omega) (by omega)), if_pos ⟨hgC, hgS⟩]
      exact ⟨z3, z4, rfl, fin (fun q hq hqb => hall q hq (by omega))⟩
    rw [if_neg (L_nle 50000 i (by omega) (by decide)), if_neg (L_nle 50001 i (by omega) (by decide))]
    by_cases hfull : c = 9592
    · rw [if_pos (L_le 9592 c (by omega) (by omega)), if_pos ⟨hgC, hgS⟩]
      refine ⟨z3, z4, rfl, fin (fun q hq hqb => ?_)⟩
      rcases Nat.lt_or_ge q (2 * i + 1) with r | r
      · exact hall q hq r
      · exfalso
        have h1 := rise_ct (PL := fun k => if k < c then PL k else q) (c + 1) 100000 (fun k hk => by
          by_cases e : k < c
          · simp only [if_pos e]; exact ⟨bp_of_pr (hpr k e).1, by have := (hpr k e).2; omega⟩
          · simp only [if_neg e]; exact ⟨bp_of_pr hq, hqb⟩) (fun x y h2 h3 => by
          have e1 : x < c := by omega
          by_cases e2 : y < c
          · simp only [if_pos e1, if_pos e2]; exact hris x y h2 e2
          · simp only [if_pos e1, if_neg e2]; have := (hpr x e1).2; omega)
        have := bp_ct
        omega
    rw [if_neg (L_nle 9592 c (by omega) (by decide)), if_neg (L_in i 50001 (by omega) (by omega)), nI_clamp (by omega)]
    have hcrs := crs_pr hi1 (show i < 50000 by omega)
    by_cases hzero : z3 i = 0
    · have hp : pr (2 * i + 1) := hcrs.mp ((hcr i (by omega)).mp hzero)
      rw [if_pos hzero]
      simp only [xl]
      rw [show (2 : Int32) = nI 2 from rfl, nI_m, show nI (2 * i) + (1 : Int32) = nI (2 * i + 1) from nI_1 _, if_neg (L_in c 9592 (by omega) (by omega)), if_pos ⟨hgC, hgS⟩, nI_clamp (by omega), show nI c + (1 : Int32) = nI (c + 1) from nI_1 c, show nI i + (1 : Int32) = nI (i + 1) from nI_1 i]
      obtain ⟨a2, h1, h2⟩ := cross_f N hN (p := 2 * i + 1) (by omega) (by omega) (by omega) z3
      rw [h1, ob]
      refine hK _ ⟨c + 1, i + 1, fun k => if k = c then 2 * i + 1 else PL k, rfl, rfl, by omega, by omega, by omega, fun j hj => ?_, fun k hk => ?_, fun k h3 h4 => ?_, fun k hk => ?_, fun x y h3 h4 => ?_, fun q hq hqb => ?_⟩ ?_
      · show a2 j = 0 ↔ _
        rw [h2 j hj, hcr j hj]
        constructor
        · intro ⟨h3, h4⟩ q hq hq3 hq4 hql
          rcases Nat.lt_or_ge q (2 * i + 1) with r | r
          · exact h3 q hq hq3 hq4 r
          · have e : q = 2 * i + 1 := by
              have : q % 2 = 1 := by
                rcases Nat.mod_two_eq_zero_or_one q with e | e
                · rcases hq.2 2 (Nat.dvd_of_mod_eq_zero e) with x | x <;> omega
                · exact e
              omega
            subst e
            exact h4 hq4
        · intro h3
          exact ⟨fun q hq hq3 hq4 hql => h3 q hq hq3 hq4 (by omega), fun h4 => h3 (2 * i + 1) hp (by omega) h4 (by omega)⟩
      · show upd z4 c (nI (2 * i + 1)) k = _
        by_cases e : k = c
        · subst e; simp only [if_true]; exact pk_us
        · simp only [if_neg e]; rw [pk_un e]; exact hPL k (by omega)
      · show upd z4 c (nI (2 * i + 1)) k = 0
        rw [pk_un (by omega)]; exact hz k (by omega) h4
      · by_cases e : k = c
        · simp only [if_pos e]; exact ⟨hp, by omega⟩
        · simp only [if_neg e]; have := hpr k (by omega); exact ⟨this.1, by have := this.2; omega⟩
      · have e1 : x ≠ c := by omega
        by_cases e2 : y = c
        · simp only [if_neg e1, if_pos e2]; exact (hpr x (by omega)).2
        · simp only [if_neg e1, if_neg e2]; exact hris x y h3 (by omega)
      · rcases Nat.lt_or_ge q (2 * i + 1) with r | r
        · obtain ⟨k, h3, h4⟩ := hall q hq r
          exact ⟨k, by omega, by simp only [if_neg (Nat.ne_of_lt h3)]; exact h4⟩
        · have e : q = 2 * i + 1 := by
            have : q % 2 = 1 := by
              rcases Nat.mod_two_eq_zero_or_one q with e | e
              · rcases hq.2 2 (Nat.dvd_of_mod_eq_zero e) with x | x <;> omega
              · exact e
            omega
          exact ⟨c, by omega, by simp only [if_true]; exact e.symm⟩
      · show 50001 - (nI (i + 1)).toNatClampNeg < 50001 - (nI i).toNatClampNeg
        rw [nI_clamp (by omega), nI_clamp (by omega)]; omega
    · have hnp : ¬ pr (2 * i + 1) := fun hp => hzero ((hcr i (by omega)).mpr (hcrs.mpr hp))
      have hnx : ∀ q, pr q → q < 2 * (i + 1) + 1 → q < 2 * i + 1 := by
        intro q hq hqb
        rcases Nat.lt_or_ge q (2 * i + 1) with r | r
        · exact r
        · exfalso
          have e : q = 2 * i + 1 := by
            have : q % 2 = 1 := by
              rcases Nat.mod_two_eq_zero_or_one q with e | e
              · rcases hq.2 2 (Nat.dvd_of_mod_eq_zero e) with x | x <;> omega
              · exact e
            omega
          subst e
          exact hnp hq
      rw [if_neg hzero]
      simp only [xl]
      rw [show nI i + (1 : Int32) = nI (i + 1) from nI_1 i]
      refine hK _ ⟨c, i + 1, PL, rfl, rfl, hc, by omega, by omega, fun j hj => ?_, hPL, hz, fun k hk => ⟨(hpr k hk).1, by have := (hpr k hk).2; omega⟩, hris, fun q hq hqb => hall q hq (hnx q hq hqb)⟩ ?_
      · show z3 j = 0 ↔ _
        rw [hcr j hj]
        exact ⟨fun h q hq hq3 hq4 hql => h q hq hq3 hq4 (hnx q hq hql), fun h q hq hq3 hq4 hql => h q hq hq3 hq4 (by omega)⟩
      · show 50001 - (nI (i + 1)).toNatClampNeg < 50001 - (nI i).toNatClampNeg
        rw [nI_clamp (by omega), nI_clamp (by omega)]; omega
  · refine ⟨1, 1, fun _ => 2, rfl, rfl, by decide, by decide, by decide, fun j hj => ?_, fun k hk => ?_, fun k h1 h2 => ?_, fun k hk => ⟨pr_two, show 2 < 2 * 1 + 1 by decide⟩, fun x y h1 h2 => by omega, fun q hq hqb => ⟨0, by decide, ?_⟩⟩
    · show a1 j = 0 ↔ _
      rw [f2 j (by omega)]
      exact ⟨fun _ q hq hq3 _ hql => by omega, fun _ => rfl⟩
    · show upd (fun _ => 0) 0 (2 : Int32) k = _
      rw [show k = 0 by omega]; exact pk_us
    · show upd (fun _ => 0) 0 (2 : Int32) k = 0
      rw [pk_un (by omega)]
    · show 2 = q
      have := hq.1
      omega
  · show 50001 - (1 : Int32).toNatClampNeg < N
    omega
