/-! the tables of sums up to 50000: the class's -/
def LI (p : Nat) (a : Nat → Int32) : Prop := ∀ j, j < 50001 → (a j = 0 ∧ ∀ d, 2 ≤ d → d < p → d * d ≤ j → ¬ d ∣ j) ∨ (∃ d, a j = nI d ∧ 2 ≤ d ∧ d * d ≤ j ∧ d ∣ j ∧ ∀ e, 2 ≤ e → e ∣ j → d ≤ e)
theorem LI.z {p : Nat} {a : Nat → Int32} (h : LI p a) {j : Nat} (hj : j < 50001) : a j = 0 → ∀ d, 2 ≤ d → d < p → d * d ≤ j → ¬ d ∣ j := by
  intro h0
  rcases h j hj with ⟨_, h1⟩ | ⟨d, h1, h2, h3, _, _⟩
  · exact h1
  · exfalso
    rw [h1] at h0
    have hd : d < 2 ^ 31 := by
      have : d * 1 ≤ d * d := Nat.mul_le_mul_left d (by omega)
      omega
    exact absurd h0 (L_ne d 0 (by omega) hd (by decide))
theorem least_in (N : Nat) (hN : 2 ^ 20 ≤ N) {p : Nat} (hp2 : 2 ≤ p) (hpp : p * p < 50001) (K : (Int32 × (Nat → Int32)) → Option (Nat × (Nat → Int32))) (post : Option (Nat × (Nat → Int32)) → Prop) {a : Nat → Int32} (hK : ∀ b : Nat → Int32, (∀ i, i < 50001 → b i = if p ∣ i ∧ p * p ≤ i ∧ a i = 0 then nI p else a i) → post (K (nI (p + 1), b))) : post (l_X7_leastPrimes_31 N K (nI p) 50001 N (nI (p * p), a)) := by
  have h20 : (2 : Nat) ^ 20 = 1048576 := by decide
  have hpb : p < 50001 := by
    have : p * 1 ≤ p * p := Nat.mul_le_mul_left p (by omega)
    omega
  unfold l_X7_leastPrimes_31
  refine lp_post (I := fun (z : Int32 × (Nat → Int32)) => ∃ t : Nat, z.1 = nI (p * p + t * p) ∧ p * p + t * p < 200000 ∧ ∀ i, i < 50001 → z.2 i = if p ∣ i ∧ p * p ≤ i ∧ i < p * p + t * p ∧ a i = 0 then nI p else a i) (μ := fun z => 200000 - z.1.toNatClampNeg) (post := post) ?_ N _ ?_ ?_
  · intro z K2 hI hK2
    obtain ⟨z1, z2⟩ := z
    obtain ⟨t, e1, hb, hz⟩ := hI
    simp only at e1 hz
    subst e1
    generalize hi : p * p + t * p = i at *
    have hpi : p ∣ i := by rw [← hi]; exact Nat.dvd_add (Nat.dvd_mul_left p p) (Nat.dvd_mul_left p t)
    have hpi2 : p * p ≤ i := by omega
    show post (s_X7_leastPrimes_31 N K (nI p) 50001 K2 (nI i) z2)
    unfold s_X7_leastPrimes_31
    by_cases he : 50001 ≤ i
    · rw [if_pos (L_le 50001 i he (by omega))]
      simp only [xl]
      rw [show nI p + (1 : Int32) = nI (p + 1) from nI_1 p]
      refine hK _ (fun j hj => ?_)
      rw [hz j hj]
      by_cases c : p ∣ j ∧ p * p ≤ j ∧ a j = 0
      · rw [if_pos c, if_pos ⟨c.1, c.2.1, by omega, c.2.2⟩]
      · rw [if_neg c, if_neg (fun q => c ⟨q.1, q.2.1, q.2.2.2⟩)]
    · rw [if_neg (L_nle 50001 i (by omega) (by decide)), if_neg (L_in i 50001 (by omega) (by omega)), nI_clamp (by omega)]
      simp only [xl]
      rw [nI_add]
      have hnext : p * p + (t + 1) * p = i + p := by rw [Nat.succ_mul]; omega
      have hzi : z2 i = a i := by rw [hz i (by omega), if_neg (fun q => by omega)]
      have hμ : 200000 - (nI (i + p)).toNatClampNeg < 200000 - (nI i).toNatClampNeg := by rw [nI_clamp (by omega), nI_clamp (by omega)]; omega
      -- a multiple of p from i to i + p is i
      have hbt : ∀ j, p ∣ j → i < j → j < i + p → False := by
        intro j hj h1 h2
        have : p ∣ j - i := (Nat.dvd_sub hj hpi)
        have := Nat.le_of_dvd (by omega) this
        omega
      by_cases h0 : a i = 0
      · rw [hzi, if_pos h0]
        refine hK2 _ ⟨t + 1, by rw [hnext], by omega, fun j hj => ?_⟩ hμ
        show upd z2 i (nI p) j = _
        rw [hnext]
        by_cases ej : j = i
        · subst ej; rw [pk_us, if_pos ⟨hpi, hpi2, by omega, h0⟩]
        · rw [pk_un ej, hz j hj]
          by_cases c : p ∣ j ∧ p * p ≤ j ∧ j < i ∧ a j = 0
          · rw [if_pos c, if_pos ⟨c.1, c.2.1, by omega, c.2.2.2⟩]
          · rw [if_neg c, if_neg]
            intro q
            rcases Nat.lt_or_ge j i with r | r
            · exact c ⟨q.1, q.2.1, r, q.2.2.2⟩
            · exact hbt j q.1 (by omega) q.2.2.1
      · rw [hzi, if_neg h0]
        refine hK2 _ ⟨t + 1, by rw [hnext], by omega, fun j hj => ?_⟩ hμ
        show z2 j = _
        rw [hnext, hz j hj]
        by_cases c : p ∣ j ∧ p * p ≤ j ∧ j < i ∧ a j = 0
        · rw [if_pos c, if_pos ⟨c.1, c.2.1, by omega, c.2.2.2⟩]
        · rw [if_neg c, if_neg]
          intro q
          rcases Nat.lt_or_ge j i with r | r
          · exact c ⟨q.1, q.2.1, r, q.2.2.2⟩
          · rcases Nat.eq_or_lt_of_le r with r2 | r2
            · subst r2; exact h0 q.2.2.2
            · exact hbt j q.1 r2 q.2.2.1
  · exact ⟨0, by rw [Nat.zero_mul, Nat.add_zero], by omega, fun i hi => by rw [if_neg (fun q => by omega)]⟩
  · show 200000 - (nI (p * p)).toNatClampNeg < N
    omega
theorem least_f (N : Nat) (hN : 2 ^ 20 ≤ N) {MC MS n_row : Nat} (hr : n_row = 0 ∨ n_row = 50001) (hC : (if n_row = 0 then 1 else 0) ≤ MC) (hS : (if n_row = 0 then 50001 else 0) ≤ MS) (a_row : Nat → Int32) : ∃ a, f_X7_leastPrimes N MC MS n_row a_row = some (50001, a) ∧ LI 50001 a := by
  have h20 : (2 : Nat) ^ 20 = 1048576 := by decide
  unfold f_X7_leastPrimes
  obtain ⟨e1, e2⟩ := rc_eq hr
  rw [e1, e2]
  obtain ⟨a1, f1, f2⟩ := cleared_f N hN hr (Nat.le_refl _) (Nat.le_refl _) a_row
  have hbu : 0 + (if n_row = 0 then 1 else 0) ≤ MC ∧ 0 + (if n_row = 0 then 50001 else 0) ≤ MS := ⟨by omega, by omega⟩
  rw [if_pos hbu, f1, ob]
  simp only
  generalize 0 + (if n_row = 0 then 1 else 0) = gc at *
  generalize 0 + (if n_row = 0 then 50001 else 0) = gs at *
  unfold l_X7_leastPrimes_10
  refine lp_post (I := fun (z : Int32 × (Nat → Int32)) => ∃ p : Nat, z.1 = nI p ∧ 2 ≤ p ∧ p ≤ 224 ∧ LI p z.2) (μ := fun z => 300 - z.1.toNatClampNeg) (post := fun r => ∃ a, r = some (50001, a) ∧ LI 50001 a) ?_ N _ ?_ ?_
  · intro z K hI hK
    obtain ⟨z1, z2⟩ := z
    obtain ⟨p, g1, hp2, hpb, hLI⟩ := hI
    simp only at g1 hLI
    subst g1
    show ∃ a, s_X7_leastPrimes_10 N MC MS 50001 gc gs K (nI p) z2 = some (50001, a) ∧ LI 50001 a
    unfold s_X7_leastPrimes_10
    have hpp : p * p ≤ 224 * 224 := Nat.mul_le_mul hpb hpb
    rw [nI_m]
    by_cases hend : 50001 ≤ p * p
    · rw [if_pos (L_le 50001 (p * p) hend (by omega)), if_pos hbu]
      refine ⟨z2, rfl, fun j hj => ?_⟩
      rcases hLI j hj with ⟨h1, h2⟩ | h1
      · left
        refine ⟨h1, fun d hd1 hd2 hd3 => ?_⟩
        refine h2 d hd1 ?_ hd3
        rcases Nat.lt_or_ge d p with q | q
        · exact q
        · exfalso
          have : p * p ≤ d * d := Nat.mul_le_mul q q
          omega
      · exact Or.inr h1
    · have hp3 : p ≤ 223 := by
        rcases Nat.lt_or_ge 223 p with q | q
        · exfalso
          have : 224 * 224 ≤ p * p := Nat.mul_le_mul q q
          omega
        · exact q
      have hμ : 300 - (nI (p + 1)).toNatClampNeg < 300 - (nI p).toNatClampNeg := by rw [nI_clamp (by omega), nI_clamp (by omega)]; omega
      rw [if_neg (L_nle 50001 (p * p) (by omega) (by decide)), if_neg (L_in p 50001 (by omega) (by omega)), nI_clamp (by omega)]
      by_cases h0 : z2 p = 0
      · rw [if_pos h0]
        simp only [xl]
        refine least_in N hN hp2 (by omega) K (fun r => ∃ a, r = some (50001, a) ∧ LI 50001 a) (fun b hb => ?_)
        refine hK _ ⟨p + 1, rfl, by omega, by omega, fun j hj => ?_⟩ hμ
        show (b j = 0 ∧ (∀ d, 2 ≤ d → d < p + 1 → d * d ≤ j → ¬ d ∣ j)) ∨ (∃ d, b j = nI d ∧ 2 ≤ d ∧ d * d ≤ j ∧ d ∣ j ∧ ∀ e, 2 ≤ e → e ∣ j → d ≤ e)
        rw [hb j hj]
        rcases hLI j hj with ⟨h1, h2⟩ | ⟨d, h1, h2, h3, h4, h5⟩
        · by_cases c : p ∣ j ∧ p * p ≤ j
          · right
            rw [if_pos ⟨c.1, c.2, h1⟩]
            refine ⟨p, rfl, hp2, c.2, c.1, fun e he1 he2 => ?_⟩
            rcases Nat.lt_or_ge e p with q | q
            · exfalso
              have : e * e ≤ p * p := Nat.mul_le_mul (Nat.le_of_lt q) (Nat.le_of_lt q)
              exact h2 e he1 q (by omega) he2
            · exact q
          · left
            rw [if_neg (fun q => c ⟨q.1, q.2.1⟩)]
            refine ⟨h1, fun d hd1 hd2 hd3 hd4 => ?_⟩
            rcases Nat.eq_or_lt_of_le (Nat.le_of_lt_succ hd2) with q | q
            · subst q; exact c ⟨hd4, hd3⟩
            · exact h2 d hd1 q hd3 hd4
        · right
          have hne : ¬ z2 j = 0 := fun q => by
            rw [h1] at q
            have hd : d < 2 ^ 31 := by
              have : d * 1 ≤ d * d := Nat.mul_le_mul_left d (by omega)
              omega
            exact absurd q (L_ne d 0 (by omega) hd (by decide))
          rw [if_neg (fun q => hne q.2.2)]
          exact ⟨d, h1, h2, h3, h4, h5⟩
      · rw [if_neg h0]
        simp only [xl]
        rw [show nI p + (1 : Int32) = nI (p + 1) from nI_1 p]
        refine hK _ ⟨p + 1, rfl, by omega, by omega, fun j hj => ?_⟩ hμ
        rcases hLI j hj with ⟨h1, h2⟩ | h1
        · left
          refine ⟨h1, fun d hd1 hd2 hd3 hd4 => ?_⟩
          rcases Nat.eq_or_lt_of_le (Nat.le_of_lt_succ hd2) with q | q
          · subst q
            rcases hLI d (by omega) with ⟨q1, _⟩ | ⟨c, _, c2, c3, c4, _⟩
            · exact h0 q1
            · have hcd : c < d := by
                have : c * 2 ≤ c * c := Nat.mul_le_mul_left c c2
                omega
              have : c * c ≤ d * d := Nat.mul_le_mul (Nat.le_of_lt hcd) (Nat.le_of_lt hcd)
              exact h2 c c2 hcd (by omega) (Nat.dvd_trans c4 hd4)
          · exact h2 d hd1 q hd3 hd4
        · exact Or.inr h1
  · exact ⟨2, rfl, Nat.le_refl 2, by decide, fun j hj => Or.inl ⟨f2 j hj, fun d h1 h2 => by omega⟩⟩
  · show 300 - (2 : Int32).toNatClampNeg < N
    omega
def TT (a_all a_apart : Nat → Int32) : Prop := ∀ n, 1 ≤ n → n < 50001 → a_all n = nI (sg n) ∧ a_apart n = nI (un n)
theorem fillIn_in (N : Nat) (hN : 100 ≤ N) (K : (Int32 × (Nat → Int32) × (Nat → Int32)) → Option ((Nat → Int32) × (Nat → Int32))) (A B : Nat → Int32) {n p m : Nat} (hn : n < 50001) (hn2 : 2 ≤ n) (hp : pr p) (hpm : ¬ p ∣ m) (hm0 : 0 < m) : ∀ (g f e : Nat), n = p ^ (e + 1 + g) * m → g < f → e + g < 32 → l_X7_fillIn_71 N K (nI n) (nI p) 50001 A 50001 B f (nI (p ^ g * m), nI (p ^ (e + 1)), nI (gs p (e + 1)), nI e) = K (nI (n + 1), upd A n (A m * nI (gs p (e + 1 + g))), upd B n (B m * nI (p ^ (e + 1 + g) + 1))) := by
  have hp2 := hp.1
  have hpn : ∀ e g, n = p ^ (e + 1 + g) * m → p ≤ n := fun e g h => by
    rw [h]
    calc p = p ^ 1 * 1 := by simp
      _ ≤ p ^ (e + 1 + g) * m := Nat.mul_le_mul (Nat.pow_le_pow_right (by omega) (by omega)) hm0
  intro g
  induction g with
  | zero =>
    intro f e h1 h2 h3
    obtain ⟨f, rfl⟩ : ∃ z, f = z + 1 := ⟨f - 1, by omega⟩
    have hpn1 := hpn e 0 h1
    have hmn : m < n := by
      rw [h1]
      have a1 : 2 ≤ p ^ (e + 1 + 0) := by
        calc 2 ≤ p := hp2
          _ = p ^ 1 := (Nat.pow_one p).symm
          _ ≤ p ^ (e + 1 + 0) := Nat.pow_le_pow_right (by omega) (by omega)
      have a2 : 2 * m ≤ p ^ (e + 1 + 0) * m := Nat.mul_le_mul_right m a1
      omega
    show s_X7_fillIn_71 N K (nI n) (nI p) 50001 A 50001 B (l_X7_fillIn_71 N K (nI n) (nI p) 50001 A 50001 B f) (nI (p ^ 0 * m)) (nI (p ^ (e + 1))) (nI (gs p (e + 1))) (nI e) = _
    unfold s_X7_fillIn_71
    rw [if_neg (L_nle 32 e (by omega) (by decide)), if_neg (L_ne p 0 (by omega) (by omega) (by decide)), Nat.pow_zero, Nat.one_mul, if_neg (fun q => hpm (Nat.dvd_of_mod_eq_zero ((L_rem (by omega) (by omega) (by omega)).mp q)))]
    unfold j_X7_fillIn_110
    rw [if_neg (L_nlt m 1 (by omega) (by omega)), if_neg (L_nle n m (by omega) (by omega)), if_neg (L_in m 50001 (by omega) (by omega))]
    simp only [xl]
    rw [if_neg (L_in n 50001 hn (by omega)), if_neg (L_in m 50001 (by omega) (by omega)), if_neg (L_in n 50001 hn (by omega)), nI_clamp (by omega), nI_clamp (by omega), show nI n + (1 : Int32) = nI (n + 1) from nI_1 n, show nI (p ^ (e + 1)) + (1 : Int32) = nI (p ^ (e + 1) + 1) from nI_1 _]
  | succ g ih =>
    intro f e h1 h2 h3
    obtain ⟨f, rfl⟩ : ∃ z, f = z + 1 := ⟨f - 1, by omega⟩
    have hpn1 := hpn e (g + 1) h1
    have hle : p ^ (g + 1) * m ≤ n := by
      rw [h1]
      exact Nat.mul_le_mul_right m (Nat.pow_le_pow_right (by omega) (by omega))
    have hdiv : p ^ (g + 1) * m / p = p ^ g * m := by
      rw [Nat.pow_succ, Nat.mul_comm (p ^ g) p, Nat.mul_assoc]
      exact Nat.mul_div_cancel_left _ (by omega)
    show s_X7_fillIn_71 N K (nI n) (nI p) 50001 A 50001 B (l_X7_fillIn_71 N K (nI n) (nI p) 50001 A 50001 B f) (nI (p ^ (g + 1) * m)) (nI (p ^ (e + 1))) (nI (gs p (e + 1))) (nI e) = _
    unfold s_X7_fillIn_71
    rw [if_neg (L_nle 32 e (by omega) (by decide)), if_neg (L_ne p 0 (by omega) (by omega) (by decide)), if_pos ((L_rem (by omega) (by omega) (by omega)).mpr (Nat.mod_eq_zero_of_dvd (by rw [Nat.pow_succ, Nat.mul_comm (p ^ g) p, Nat.mul_assoc]; exact Nat.dvd_mul_right p _)))]
    simp only [xl]
    rw [pk_div (by omega) (by omega) (by omega), hdiv, nI_m, ← Nat.pow_succ, nI_add, ← gs_add, show nI e + (1 : Int32) = nI (e + 1) from nI_1 e]
    have h5 := ih f (e + 1) (by rw [h1, show e + 1 + (g + 1) = e + 1 + 1 + g by omega]) (by omega) (by omega)
    rw [show e + 1 + (g + 1) = e + 1 + 1 + g by omega]
    exact h5
theorem fillIn_f (N : Nat) (hN : 2 ^ 20 ≤ N) {a : Nat → Int32} (hLI : LI 50001 a) (A0 B0 : Nat → Int32) : ∃ A B, f_X7_fillIn N 50001 A0 50001 B0 50001 a = some (A, B) ∧ TT A B := by
  have h20 : (2 : Nat) ^ 20 = 1048576 := by decide
  unfold f_X7_fillIn
  rw [if_neg (L_in 1 50001 (by decide) (by decide)), if_neg (L_in 1 50001 (by decide) (by decide))]
  unfold l_X7_fillIn_16
  refine lp_post (I := fun (z : Int32 × (Nat → Int32) × (Nat → Int32)) => ∃ n : Nat, z.1 = nI n ∧ 2 ≤ n ∧ n ≤ 50001 ∧ ∀ i, 1 ≤ i → i < n → z.2.1 i = nI (sg i) ∧ z.2.2 i = nI (un i)) (μ := fun z => 50001 - z.1.toNatClampNeg) (post := fun r => ∃ A B, r = some (A, B) ∧ TT A B) ?_ N _ ?_ ?_
  · intro z K hI hK
    obtain ⟨z1, A, B⟩ := z
    obtain ⟨n, e1, hn2, hnb, hv⟩ := hI
    simp only at e1 hv
    subst e1
    show ∃ A' B', s_X7_fillIn_16 N 50001 50001 50001 a K (nI n) A B = some (A', B') ∧ TT A' B'
    unfold s_X7_fillIn_16
    by_cases hend : n = 50001
    · rw [if_pos (L_le 50001 n (by omega) (by omega))]
      exact ⟨A, B, rfl, fun i h1 h2 => hv i h1 (by omega)⟩
    · rw [if_neg (L_nle 50001 n (by omega) (by decide)), if_neg (L_nle 50001 n (by omega) (by decide)), if_neg (L_nle 50001 n (by omega) (by decide)), if_neg (L_in n 50001 (by omega) (by omega)), nI_clamp (by omega)]
      have go : ∀ p, pr p → p ∣ n → ∃ A' B', j_X7_fillIn_54 N K (nI n) (nI p) 50001 A 50001 B = some (A', B') ∧ TT A' B' := by
        intro p hp hpd
        have hp2 := hp.1
        have hpn := Nat.le_of_dvd (by omega) hpd
        obtain ⟨k, m, hk, hpm, hm0⟩ := split_pow hp2 (show 0 < n by omega)
        obtain ⟨g, rfl⟩ : ∃ g, k = g + 1 := ⟨k - 1, by
          rcases Nat.eq_zero_or_pos k with r | r
          · subst r; rw [Nat.pow_zero, Nat.one_mul] at hk; subst hk; exact absurd hpd hpm
          · omega⟩
        have hg : g < 31 := by
          rcases Nat.lt_or_ge g 31 with r | r
          · exact r
          · exfalso
            have a1 : 2 ^ 32 ≤ 2 ^ (g + 1) := Nat.pow_le_pow_right (by decide) (by omega)
            have a2 : 2 ^ (g + 1) ≤ p ^ (g + 1) := Nat.pow_le_pow_left hp2 _
            have a3 : p ^ (g + 1) ≤ p ^ (g + 1) * m := Nat.le_mul_of_pos_right _ hm0
            have : (2 : Nat) ^ 32 = 4294967296 := by decide
            omega
        have hdiv : n / p = p ^ g * m := by
          rw [hk, Nat.pow_succ, Nat.mul_comm (p ^ g) p, Nat.mul_assoc]
          exact Nat.mul_div_cancel_left _ (by omega)
        unfold j_X7_fillIn_54
        rw [if_neg (L_ne p 0 (by omega) (by omega) (by decide))]
        simp only [xl]
        rw [pk_div (by omega) (by omega) (by omega), hdiv, show (1 : Int32) = nI 1 from rfl, nI_add]
        have hl := fillIn_in N (by omega) K A B (show n < 50001 by omega) hn2 hp hpm hm0 g N 0 (by rw [hk, show 0 + 1 + g = g + 1 by omega]) (by omega) (by omega)
        have hmn : m < n := by
          rw [hk]
          have a1 : 2 ≤ p ^ (g + 1) := by
            calc 2 ≤ p := hp2
              _ = p ^ 1 := (Nat.pow_one p).symm
              _ ≤ p ^ (g + 1) := Nat.pow_le_pow_right (by omega) (by omega)
          have a2 : 2 * m ≤ p ^ (g + 1) * m := Nat.mul_le_mul_right m a1
          omega
        rw [show (0 + 1 : Nat) = 1 from rfl, Nat.pow_one, show gs p 1 = 1 + p by simp [gs]; omega, show 1 + g = g + 1 by omega, (hv m hm0 hmn).1, (hv m hm0 hmn).2, nI_m, nI_m] at hl
        rw [show (0 : Int32) = nI 0 from rfl, hl]
        have e1 : sg n = sg m * gs p (g + 1) := by rw [hk, sg_pow hp hpm hm0, Nat.mul_comm]
        have e2 : un n = un m * (p ^ (g + 1) + 1) := by rw [hk, un_pow hp hpm hm0, Nat.mul_comm]
        rw [← e1, ← e2]
        refine hK _ ⟨n + 1, rfl, by omega, by omega, fun i h1 h2 => ?_⟩ ?_
        · show upd A n (nI (sg n)) i = nI (sg i) ∧ upd B n (nI (un n)) i = nI (un i)
          by_cases ei : i = n
          · subst ei; exact ⟨pk_us, pk_us⟩
          · rw [pk_un ei, pk_un ei]; exact hv i h1 (by omega)
        · show 50001 - (nI (n + 1)).toNatClampNeg < 50001 - (nI n).toNatClampNeg
          rw [nI_clamp (by omega), nI_clamp (by omega)]; omega
      rcases hLI n (by omega) with ⟨h1, h2⟩ | ⟨d, h1, h2, h3, h4, h5⟩
      · rw [h1, if_neg (show ¬ (2 : Int32) ≤ 0 by decide)]
        refine go n (pr_root hn2 (fun d hd1 hd2 => h2 d hd1 ?_ hd2)) (Nat.dvd_refl n)
        have : d * 1 ≤ d * d := Nat.mul_le_mul_left d (by omega)
        omega
      · have hd : d ≤ n := Nat.le_of_dvd (by omega) h4
        rw [h1, if_pos (L_le 2 d h2 (by omega))]
        exact go d (pr_least h2 h4 h5) h4
  · refine ⟨2, rfl, Nat.le_refl 2, by decide, fun i h1 h2 => ?_⟩
    have : i = 1 := by omega
    subst this
    rw [sg_1, un_1]
    show upd A0 1 (1 : Int32) 1 = nI 1 ∧ upd B0 1 (1 : Int32) 1 = nI 1
    exact ⟨pk_us, pk_us⟩
  · show 50001 - (2 : Int32).toNatClampNeg < N
    omega
def TbOK (n_row n_all : Nat) (a_all : Nat → Int32) (n_apart : Nat) (a_apart : Nat → Int32) : Prop := (n_row = 0 ∨ n_row = 50001) ∧ ((n_all = 0 ∧ n_apart = 0) ∨ (n_all = 50001 ∧ n_apart = 50001 ∧ n_row = 50001 ∧ TT a_all a_apart))
def cC7 (n_row n_all : Nat) : Nat := if n_all = 0 then 2 + (if n_row = 0 then 1 else 0) else 0
def cS7 (n_row n_all : Nat) : Nat := if n_all = 0 then 100002 + (if n_row = 0 then 50001 else 0) else 0
theorem c7_eq {n_row n_all n_apart : Nat} {a_all a_apart : Nat → Int32} (h : TbOK n_row n_all a_all n_apart a_apart) : (if 0 < nI n_all then 0 else 2 + (if nI n_row = 0 then 1 else 0)) = cC7 n_row n_all ∧ (if 0 < nI n_all then 0 else 100002 + (if nI n_row = 0 then 50001 else 0)) = cS7 n_row n_all := by
  obtain ⟨hr, hl⟩ := h
  obtain ⟨e1, e2⟩ := rc_eq hr
  rw [e1, e2]
  unfold cC7 cS7
  rcases hl with ⟨rfl, -⟩ | ⟨rfl, -, -, -⟩
  · rw [if_neg (show ¬ (0 : Int32) < nI 0 by decide), if_neg (show ¬ (0 : Int32) < nI 0 by decide)]; exact ⟨rfl, rfl⟩
  · rw [if_pos (show (0 : Int32) < nI 50001 by decide), if_pos (show (0 : Int32) < nI 50001 by decide)]; exact ⟨rfl, rfl⟩
theorem c7_diff {n_row n_all n_apart : Nat} {a_all a_apart : Nat → Int32} (h : TbOK n_row n_all a_all n_apart a_apart) : (if 50001 = n_row then 0 else 1) + (if 50001 = n_all then 0 else 1) + (if 50001 = n_apart then 0 else 1) = cC7 n_row n_all ∧ (50001 - n_row) + (50001 - n_all) + (50001 - n_apart) = cS7 n_row n_all := by
  obtain ⟨hr, hl⟩ := h
  rcases hl with ⟨rfl, rfl⟩ | ⟨rfl, rfl, rfl, -⟩
  · rcases hr with rfl | rfl <;> exact ⟨rfl, rfl⟩
  · exact ⟨rfl, rfl⟩
theorem cC7_le (n_row n_all : Nat) : cC7 n_row n_all ≤ 3 ∧ cS7 n_row n_all ≤ 150003 := by
  unfold cC7 cS7
  by_cases h : n_all = 0 <;> by_cases h2 : n_row = 0 <;> simp [h, h2]
theorem prep7 (N : Nat) (hN : 2 ^ 20 ≤ N) {MC MS n_row n_all n_apart : Nat} {a_all a_apart : Nat → Int32} (h : TbOK n_row n_all a_all n_apart a_apart) (hC : cC7 n_row n_all ≤ MC) (hS : cS7 n_row n_all ≤ MS) (a_row : Nat → Int32) : ∃ a_row' A B, f_X7_prepare N MC MS n_row a_row n_all a_all n_apart a_apart = some (50001, a_row', 50001, A, 50001, B) ∧ TT A B := by
  obtain ⟨hr, hl⟩ := h
  unfold f_X7_prepare
  obtain ⟨e1, e2⟩ := rc_eq hr
  rw [e1, e2]
  rcases hl with ⟨rfl, rfl⟩ | ⟨rfl, rfl, rfl, hT⟩
  · obtain ⟨a, l1, l2⟩ := least_f N hN hr (Nat.le_refl _) (Nat.le_refl _) a_row
    obtain ⟨A, B, t1, t2⟩ := fillIn_f N hN l2 (fun _ => 0) (fun _ => 0)
    have hC2 : 2 + (if n_row = 0 then 1 else 0) ≤ MC := hC
    have hS2 : 100002 + (if n_row = 0 then 50001 else 0) ≤ MS := hS
    have hbu : 0 + 1 + 1 + (if n_row = 0 then 1 else 0) ≤ MC ∧ 0 + 50001 + 50001 + (if n_row = 0 then 50001 else 0) ≤ MS := ⟨by omega, by omega⟩
    rw [if_pos (show nI 0 ≤ (0 : Int32) by decide), if_pos ⟨by omega, by omega⟩, if_pos ⟨by omega, by omega⟩, if_pos hbu, l1, ob, if_pos hbu, t1, ob, if_pos hbu]
    exact ⟨a, A, B, rfl, t2⟩
  · rw [if_neg (show ¬ nI 50001 ≤ (0 : Int32) by decide), if_pos ⟨Nat.zero_le _, Nat.zero_le _⟩]
    exact ⟨a_row, a_all, a_apart, rfl, hT⟩
theorem TbOK.done {A B : Nat → Int32} (h : TT A B) : TbOK 50001 50001 A 50001 B := ⟨Or.inr rfl, Or.inr ⟨rfl, rfl, rfl, h⟩⟩
def tb (k n : Nat) : Nat := if k = 0 then sg n else sv k n
def tbv (k x : Nat) : Nat := if 1 ≤ x ∧ x ≤ 50000 then tb k x else 0
theorem tb_lt {k n : Nat} (hk : k ≤ 3) (h0 : 0 < n) (hn : n ≤ 50000) : tb k n < 2 ^ 28 := by
  have h1 := sg_le h0 (by omega)
  have h2 := un_le h0 (by omega)
  unfold tb sv
  split
  · omega
  · split
    · omega
    · split
      · omega
      · split <;> omega
theorem tbv_lt {k x : Nat} (hk : k ≤ 3) : tbv k x < 2 ^ 28 := by
  unfold tbv
  split
  · next h => exact tb_lt hk h.1 h.2
  · decide
theorem summed7 (N : Nat) {A B : Nat → Int32} (hT : TT A B) {k x : Nat} (hk : k ≤ 3) (hx : x < 2 ^ 31) : f_X7_summed N (nI k) (nI x) 50001 A 50001 B = some (nI (tbv k x)) := by
  unfold f_X7_summed tbv
  by_cases h1 : x < 1
  · rw [if_pos (L_lt x 1 h1 (by decide)), if_neg (fun h => by omega)]; rfl
  rw [if_neg (L_nlt x 1 (by omega) hx)]
  by_cases h2 : 50001 ≤ x
  · rw [if_pos (L_le 50001 x h2 hx), if_neg (fun h => by omega)]; rfl
  have hg := sg_ge (show 0 < x by omega)
  have hu := un_ge (show 0 < x by omega)
  obtain ⟨t1, t2⟩ := hT x (by omega) (by omega)
  rw [if_neg (L_nle 50001 x (by omega) (by decide)), if_pos (L_lt x 50001 (by omega) (by decide)), if_pos (show 1 ≤ x ∧ x ≤ 50000 from ⟨by omega, by omega⟩)]
  unfold tb sv
  rcases (show k = 0 ∨ k = 1 ∨ k = 2 ∨ k = 3 by omega) with rfl | rfl | rfl | rfl
  · rw [if_pos (show nI 0 = (0 : Int32) from rfl), if_neg (L_in x 50001 (by omega) hx), nI_clamp hx, t1, if_pos rfl]
  · rw [if_neg (L_ne 1 0 (by decide) (by decide) (by decide)), if_pos (show nI 1 = (1 : Int32) from rfl), if_neg (L_in x 50001 (by omega) hx), nI_clamp hx, t1, if_neg (by decide), if_pos rfl, pk_sub (by split at hg <;> omega)]
  · rw [if_neg (L_ne 2 0 (by decide) (by decide) (by decide)), if_neg (L_ne 2 1 (by decide) (by decide) (by decide)), if_pos (show nI 2 = (2 : Int32) from rfl), if_neg (L_in x 50001 (by omega) hx), nI_clamp hx, t2, if_neg (by decide), if_neg (by decide), if_pos rfl, pk_sub hu]
  · rw [if_neg (L_ne 3 0 (by decide) (by decide) (by decide)), if_neg (L_ne 3 1 (by decide) (by decide) (by decide)), if_neg (L_ne 3 2 (by decide) (by decide) (by decide)), if_neg (show ¬ (3 : Nat) = 0 by decide), if_neg (show ¬ (3 : Nat) = 1 by decide), if_neg (show ¬ (3 : Nat) = 2 by decide)]
    by_cases e : x = 1
    · rw [if_pos (by rw [e]; rfl), if_pos e]; rfl
    · rw [if_neg (L_ne x 1 e hx (by decide)), if_neg (L_in x 50001 (by omega) hx), nI_clamp hx, t1, if_neg e]
      rw [if_neg e] at hg
      rw [pk_sub (show x ≤ sg x by omega), show (1 : Int32) = nI 1 from rfl, pk_sub (show 1 ≤ sg x - x by omega)]
