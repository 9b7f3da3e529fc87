/-! the class's sums: a number is split into its primes; the sums are those over what divides it -/
/-- primes P, times E (u of them) make n: the first u places, rising -/
def prodf (f : Nat → Nat) : Nat → Nat
  | 0 => 1
  | u + 1 => prodf f u * f u
theorem prodf_cong {f g : Nat → Nat} : ∀ {u : Nat}, (∀ i, i < u → f i = g i) → prodf f u = prodf g u
  | 0, _ => rfl
  | u + 1, h => by rw [prodf, prodf, prodf_cong (fun i hi => h i (by omega)), h u (by omega)]
def Fac (u : Nat) (P E : Nat → Nat) (n : Nat) : Prop := (∀ i, i < u → pr (P i) ∧ 1 ≤ E i) ∧ (∀ i j, i < j → j < u → P i < P j) ∧ prodf (fun i => P i ^ E i) u = n
theorem Fac.down {u : Nat} {P E : Nat → Nat} {n : Nat} (h : Fac (u + 1) P E n) : Fac u P E (prodf (fun i => P i ^ E i) u) := ⟨fun i hi => h.1 i (by omega), fun i j h1 h2 => h.2.1 i j h1 (by omega), rfl⟩
theorem Fac.pos {u : Nat} {P E : Nat → Nat} {n : Nat} (h : Fac u P E n) : 0 < n := by
  induction u generalizing n with
  | zero => rw [← h.2.2]; exact Nat.one_pos
  | succ u ih =>
    rw [← h.2.2, prodf]
    exact Nat.mul_pos (ih h.down) (Nat.pow_pos (by have := (h.1 u (by omega)).1.1; omega))
theorem Fac.free {u : Nat} {P E : Nat → Nat} {n q : Nat} (h : Fac u P E n) (hq : pr q) (hn : ∀ i, i < u → P i ≠ q) : ¬ q ∣ n := by
  induction u generalizing n with
  | zero =>
    rw [← h.2.2]
    intro hd
    have h1 := Nat.le_of_dvd (show 0 < 1 from Nat.one_pos) (show q ∣ 1 from hd)
    have := hq.1
    omega
  | succ u ih =>
    rw [← h.2.2, prodf]
    intro hd
    rcases pr_mul hq hd with h1 | h1
    · exact ih h.down (fun i hi => hn i (by omega)) h1
    · exact hn u (by omega) (pr_eq hq (h.1 u (by omega)).1 (pr_pow hq _ h1)).symm
/-- the sums by the factors -/
theorem Fac.sg {u : Nat} {P E : Nat → Nat} {n : Nat} (h : Fac u P E n) : sg n = prodf (fun i => gs (P i) (E i)) u := by
  induction u generalizing n with
  | zero => rw [← h.2.2]; exact sg_1
  | succ u ih =>
    have hd := h.down
    have hf : ¬ P u ∣ prodf (fun i => P i ^ E i) u := hd.free (h.1 u (by omega)).1 (fun i hi => Nat.ne_of_lt (h.2.1 i u hi (by omega)))
    rw [← h.2.2, prodf, Nat.mul_comm, sg_pow (h.1 u (by omega)).1 hf hd.pos, ih hd, prodf, Nat.mul_comm]
theorem Fac.tau {u : Nat} {P E : Nat → Nat} {n : Nat} (h : Fac u P E n) : tau n = prodf (fun i => E i + 1) u := by
  induction u generalizing n with
  | zero => rw [← h.2.2]; exact tau_1
  | succ u ih =>
    have hd := h.down
    have hf : ¬ P u ∣ prodf (fun i => P i ^ E i) u := hd.free (h.1 u (by omega)).1 (fun i hi => Nat.ne_of_lt (h.2.1 i u hi (by omega)))
    rw [← h.2.2, prodf, Nat.mul_comm, tau_pow (h.1 u (by omega)).1 hf hd.pos, ih hd, prodf, Nat.mul_comm]
theorem Fac.un {u : Nat} {P E : Nat → Nat} {n : Nat} (h : Fac u P E n) : un n = prodf (fun i => P i ^ E i + 1) u := by
  induction u generalizing n with
  | zero => rw [← h.2.2]; exact un_1
  | succ u ih =>
    have hd := h.down
    have hf : ¬ P u ∣ prodf (fun i => P i ^ E i) u := hd.free (h.1 u (by omega)).1 (fun i hi => Nat.ne_of_lt (h.2.1 i u hi (by omega)))
    obtain ⟨k, hk⟩ : ∃ k, E u = k + 1 := ⟨E u - 1, by have := (h.1 u (by omega)).2; omega⟩
    have e1 := un_pow (k := k) (h.1 u (by omega)).1 hf hd.pos
    rw [← hk] at e1
    rw [← h.2.2, prodf, Nat.mul_comm, e1, ih hd, prodf, Nat.mul_comm]
/-- one more prime behind -/
theorem Fac.more {u : Nat} {P E : Nat → Nat} {n q k : Nat} (h : Fac u P E n) (hq : pr q) (hk : 1 ≤ k) (hl : ∀ i, i < u → P i < q) : Fac (u + 1) (fun i => if i = u then q else P i) (fun i => if i = u then k else E i) (n * q ^ k) := by
  refine ⟨fun i hi => ?_, fun i j h1 h2 => ?_, ?_⟩
  · by_cases e : i = u
    · subst e; simp; exact ⟨hq, hk⟩
    · simp only [if_neg e]; exact h.1 i (by omega)
  · have e : i ≠ u := by omega
    by_cases e2 : j = u
    · simp only [if_neg e, if_pos e2]; exact hl i (by omega)
    · simp only [if_neg e, if_neg e2]; exact h.2.1 i j h1 (by omega)
  · rw [prodf]
    show prodf _ u * ((if u = u then q else P u) ^ (if u = u then k else E u)) = n * q ^ k
    rw [if_pos rfl, if_pos rfl, ← h.2.2]
    congr 1
    exact prodf_cong (fun i hi => by simp only [if_neg (Nat.ne_of_lt hi)])
/-- at most 10 primes: their product is 2^u at least -/
theorem Fac.two {u : Nat} {P E : Nat → Nat} {n : Nat} (h : Fac u P E n) : 2 ^ u ≤ n := by
  induction u generalizing n with
  | zero => rw [← h.2.2]; exact Nat.le_refl 1
  | succ u ih =>
    rw [← h.2.2, prodf, Nat.pow_succ]
    refine Nat.mul_le_mul (ih h.down) ?_
    have h1 := (h.1 u (by omega)).1.1
    have h2 := (h.1 u (by omega)).2
    calc 2 ≤ P u := h1
      _ = P u ^ 1 := (Nat.pow_one _).symm
      _ ≤ P u ^ E u := Nat.pow_le_pow_right (by omega) h2
/-! takeOut -/
theorem takeOut_l (N : Nat) {pp : Nat} (hp2 : 2 ≤ pp) (hp : pp < 2 ^ 63) (u : Int32) (a_prime : Nat → Int64) (a_times : Nat → Int32) {m : Nat} (hm : ¬ pp ∣ m) : ∀ (k n rr o e : Nat), rr = pp ^ k * m → rr < 2 ^ 63 → k < n → e + k < 64 →
    l_X6_takeOut_9 N (lN pp) u a_prime a_times n (lN rr, nI o, nI e) = j_X6_takeOut_46 N (lN pp) (lN m) (nI (o + k)) u a_prime a_times := by
  intro k
  induction k with
  | zero =>
    intro n rr o e h1 h2 h3 h4
    obtain ⟨n, rfl⟩ : ∃ z, n = z + 1 := ⟨n - 1, by omega⟩
    have hrm : rr = m := by rw [h1]; simp
    subst hrm
    show s_X6_takeOut_9 N (lN pp) u a_prime a_times (l_X6_takeOut_9 N (lN pp) u a_prime a_times n) (lN rr) (nI o) (nI e) = _
    unfold s_X6_takeOut_9
    rw [if_neg (L_nle 64 e (by omega) (by decide)), if_neg (M_nle pp 1 (by omega) hp), if_neg (M_ne pp 0 (by omega) hp (by decide)), if_neg]
    · rfl
    · intro q
      have := (M_rem h2 (by omega) hp).mp q
      exact hm (Nat.dvd_of_mod_eq_zero this)
  | succ k ih =>
    intro n rr o e h1 h2 h3 h4
    obtain ⟨n, rfl⟩ : ∃ z, n = z + 1 := ⟨n - 1, by omega⟩
    have hdv : rr = pp * (pp ^ k * m) := by rw [h1, Nat.pow_succ, Nat.mul_comm (pp ^ k) pp, Nat.mul_assoc]
    have hdiv : rr / pp = pp ^ k * m := by rw [hdv]; exact Nat.mul_div_cancel_left _ (by omega)
    show s_X6_takeOut_9 N (lN pp) u a_prime a_times (l_X6_takeOut_9 N (lN pp) u a_prime a_times n) (lN rr) (nI o) (nI e) = _
    unfold s_X6_takeOut_9
    rw [if_neg (L_nle 64 e (by omega) (by decide)), if_neg (M_nle pp 1 (by omega) hp), if_neg (M_ne pp 0 (by omega) hp (by decide)), if_pos]
    · simp only [xl]
      rw [pk_lDiv h2 (by omega) hp, show nI o + (1 : Int32) = nI (o + 1) from nI_1 o, show nI e + (1 : Int32) = nI (e + 1) from nI_1 e, hdiv]
      have := ih n (pp ^ k * m) (o + 1) (e + 1) rfl (by rw [← hdiv]; exact Nat.lt_of_le_of_lt (Nat.div_le_self rr pp) h2) (by omega) (by omega)
      rw [this, show o + 1 + k = o + (k + 1) by omega]
    · exact (M_rem h2 (by omega) hp).mpr (Nat.mod_eq_zero_of_dvd ⟨_, hdv⟩)
theorem takeOut_f (N : Nat) {pp m k rr : Nat} (hp2 : 2 ≤ pp) (hp : pp < 2 ^ 63) (u : Int32) (a_prime : Nat → Int64) (a_times : Nat → Int32) (hm : ¬ pp ∣ m) (h1 : rr = pp ^ k * m) (h2 : rr < 2 ^ 63) (hN : 64 ≤ N) (hk : k < 64) : f_X6_takeOut N (lN pp) (lN rr) u a_prime a_times = j_X6_takeOut_46 N (lN pp) (lN m) (nI k) u a_prime a_times := by
  unfold f_X6_takeOut
  have := takeOut_l N hp2 hp u a_prime a_times hm k N rr 0 0 h1 h2 (by omega) (by omega)
  rw [show (0 : Int32) = nI 0 from rfl, this, Nat.zero_add]
/-- a power that divides a small number is small -/
theorem pow_lt64 {p k m : Nat} (hp : 2 ≤ p) (hm : 0 < m) (h : p ^ k * m < 2 ^ 63) : k < 63 := by
  rcases Nat.lt_or_ge k 63 with q | q
  · exact q
  · exfalso
    have h1 : 2 ^ 63 ≤ p ^ k := Nat.le_trans (Nat.pow_le_pow_right (by decide) q) (Nat.pow_le_pow_left hp k)
    have h2 : p ^ k ≤ p ^ k * m := Nat.le_mul_of_pos_right _ hm
    omega
theorem split_pow {p n : Nat} (hp : 2 ≤ p) (hn : 0 < n) : ∃ k m, n = p ^ k * m ∧ ¬ p ∣ m ∧ 0 < m := by
  induction n using Nat.strongRecOn with
  | _ n ih =>
    by_cases h : p ∣ n
    · obtain ⟨t, rfl⟩ := h
      have ht : 0 < t := Nat.pos_of_mul_pos_left hn |> fun _ => by
        rcases Nat.eq_zero_or_pos t with e | e
        · subst e; simp at hn
        · exact e
      obtain ⟨k, m, h1, h2, h3⟩ := ih t (by have : 2 * t ≤ p * t := Nat.mul_le_mul_right t hp; omega) ht
      refine ⟨k + 1, m, ?_, h2, h3⟩
      rw [Nat.pow_succ, Nat.mul_comm (p ^ k) p, Nat.mul_assoc, ← h1]
    · exact ⟨0, n, by simp, h, hn⟩
/-- what the split holds -/
def SpA (uu n : Nat) (P : Nat → Int64) (T : Nat → Int32) : Prop := ∃ PP EE : Nat → Nat, Fac uu PP EE n ∧ ∀ i, i < uu → P i = lN (PP i) ∧ T i = nI (EE i)
def fctl : Nat → Nat
  | 0 => 1
  | n + 1 => (n + 1) * fctl n
theorem Fac.rise {u : Nat} {P E : Nat → Nat} {n : Nat} (h : Fac u P E n) : ∀ i, i < u → i + 2 ≤ P i := by
  intro i
  induction i with
  | zero => intro hi; exact (h.1 0 hi).1.1
  | succ i ih =>
    intro hi
    have h1 := ih (by omega)
    have h2 := h.2.1 i (i + 1) (by omega) hi
    omega
theorem Fac.fct {u : Nat} {P E : Nat → Nat} {n : Nat} (h : Fac u P E n) : fctl (u + 1) ≤ n := by
  induction u generalizing n with
  | zero => rw [← h.2.2]; exact Nat.le_refl 1
  | succ u ih =>
    rw [← h.2.2, prodf]
    have h1 := ih h.down
    have h2 := h.rise u (by omega)
    have h3 : P u ≤ P u ^ E u := by
      calc P u = P u ^ 1 := (Nat.pow_one _).symm
        _ ≤ P u ^ E u := Nat.pow_le_pow_right (by omega) (h.1 u (by omega)).2
    show (u + 1 + 1) * fctl (u + 1) ≤ _
    rw [Nat.mul_comm]
    exact Nat.mul_le_mul h1 (by omega)
theorem Fac.few {u : Nat} {P E : Nat → Nat} {n : Nat} (h : Fac u P E n) (hn : n ≤ 10000000000) : u ≤ 12 := by
  rcases Nat.lt_or_ge 12 u with q | q
  · exfalso
    have h1 := h.fct
    have mono : ∀ k, 14 ≤ k → 87178291200 ≤ fctl k := by
      intro k hk
      induction k with
      | zero => omega
      | succ k ih =>
        rcases Nat.lt_or_ge k 14 with r | r
        · have : k = 13 := by omega
          subst this
          decide
        · show 87178291200 ≤ (k + 1) * fctl k
          exact Nat.le_trans (ih r) (Nat.le_mul_of_pos_left _ (by omega))
    have := mono (u + 1) (by omega)
    omega
  · exact q
/-- the table of primes -/
def PT (n_list : Nat) (a_list : Nat → Int32) : Prop := n_list < 2 ^ 20 ∧ ∃ (PL : Nat → Nat) (cnt : Nat), (∀ k, k < n_list → a_list k = nI (PL k)) ∧ cnt ≤ n_list ∧ (∀ k, k < cnt → pr (PL k) ∧ PL k < 100000) ∧ (∀ i j, i < j → j < cnt → PL i < PL j) ∧ (∀ k, cnt ≤ k → k < n_list → PL k = 0) ∧ ∀ q, pr q → q < 100000 → ∃ k, k < cnt ∧ PL k = q
theorem takeOut_46 (N : Nat) (x y : Int64) {uu k : Nat} (hu : uu < 12) (P : Nat → Int64) (T : Nat → Int32) : j_X6_takeOut_46 N x y (nI k) (nI uu) P T = some (y, nI (uu + 1), vp_updL P uu x, upd T uu (nI k)) := by
  unfold j_X6_takeOut_46
  rw [if_neg (L_nle 12 uu (by omega) (by decide)), if_neg (L_in uu 12 hu (by omega))]
  simp only [xl]
  rw [nI_clamp (by omega), show nI uu + (1 : Int32) = nI (uu + 1) from nI_1 uu]
theorem SpA.more {uu n : Nat} {P : Nat → Int64} {T : Nat → Int32} {PP EE : Nat → Nat} (hF : Fac uu PP EE n) (hv : ∀ i, i < uu → P i = lN (PP i) ∧ T i = nI (EE i)) {q k : Nat} (hq : pr q) (hk : 1 ≤ k) (hl : ∀ i, i < uu → PP i < q) : Fac (uu + 1) (fun i => if i = uu then q else PP i) (fun i => if i = uu then k else EE i) (n * q ^ k) ∧ ∀ i, i < uu + 1 → vp_updL P uu (lN q) i = lN ((fun i => if i = uu then q else PP i) i) ∧ upd T uu (nI k) i = nI ((fun i => if i = uu then k else EE i) i) := by
  refine ⟨hF.more hq hk hl, fun i hi => ?_⟩
  by_cases e : i = uu
  · subst e
    simp only [if_true]
    exact ⟨pk_uLs, pk_us⟩
  · simp only [if_neg e]
    rw [pk_uLn e, pk_un e]
    exact hv i (by omega)
/-- splitUp's end -/
theorem splitUp_97 (N : Nat) {rr uu dn n0 : Nat} (num : Int64) {P : Nat → Int64} {T : Nat → Int32} {PP EE : Nat → Nat} (hN : 64 ≤ N) (hF : Fac uu PP EE dn) (hv : ∀ i, i < uu → P i = lN (PP i) ∧ T i = nI (EE i)) (hd : dn * rr = n0) (hn0 : n0 ≤ 10000000000) (h0 : 0 < n0) (hr : rr = 1 ∨ (pr rr ∧ ∀ i, i < uu → PP i < rr)) : ∃ (w : Nat) (P' : Nat → Int64) (T' : Nat → Int32), j_X6_splitUp_97 N (lN rr) (nI uu) num P T = some (nI w, num, P', T') ∧ w ≤ 12 ∧ SpA w n0 P' T' := by
  unfold j_X6_splitUp_97
  rcases hr with rfl | ⟨hp, hl⟩
  · rw [if_pos (M_le 1 1 (by decide) (by decide))]
    rw [Nat.mul_one] at hd
    subst hd
    exact ⟨uu, P, T, rfl, hF.few hn0, PP, EE, hF, hv⟩
  · have h2 := hp.1
    have hrr : rr ≤ n0 := by rw [← hd]; exact Nat.le_mul_of_pos_left _ hF.pos
    rw [if_neg (M_nle rr 1 (by omega) (by omega)), takeOut_f N (k := 1) (m := 1) h2 (by omega) _ _ _ (fun h => by have := Nat.le_of_dvd (by decide) h; omega) (by simp) (by omega) hN (by decide)]
    obtain ⟨hF2, hv2⟩ := SpA.more hF hv hp (Nat.le_refl 1) hl
    rw [Nat.pow_one, hd] at hF2
    have hw := hF2.few hn0
    rw [takeOut_46 N _ _ (by omega)]
    exact ⟨uu + 1, _, _, rfl, hw, _, _, hF2, hv2⟩
/-- a number free of all primes below q, under q squared, is 1 or a prime -/
theorem one_or_pr {rr q : Nat} (h0 : 0 < rr) (hf : ∀ p, pr p → p ∣ rr → q ≤ p) (hq : rr < q * q) : rr = 1 ∨ pr rr := by
  rcases Nat.lt_or_ge rr 2 with h | h
  · left; omega
  right
  refine pr_root h (fun d hd hdd hdv => ?_)
  obtain ⟨p, hp, hpd, -⟩ := pr_has hd
  have h1 := hf p hp (Nat.dvd_trans hpd hdv)
  have h2 : p ≤ d := Nat.le_of_dvd (by omega) hpd
  have h3 : q * q ≤ d * d := Nat.mul_le_mul (Nat.le_trans h1 h2) (Nat.le_trans h1 h2)
  omega
theorem splitUp_l (N : Nat) {n_list : Nat} {a_list : Nat → Int32} (hT : PT n_list a_list) (num : Int64) {n0 : Nat} (h0 : 0 < n0) (hn0 : n0 ≤ 10000000000) (hN : 1048577 ≤ N) {P : Nat → Int64} {T : Nat → Int32} : ∃ (w : Nat) (P' : Nat → Int64) (T' : Nat → Int32), l_X6_splitUp_34 N num n_list a_list N (lN n0, (0 : Int32), (0 : Int32), P, T) = some (nI w, num, P', T') ∧ w ≤ 12 ∧ SpA w n0 P' T' := by
  obtain ⟨hnl, PL, cnt, hPL, hcnt, hpr, hris, hzer, hall⟩ := hT
  unfold l_X6_splitUp_34
  refine lp_post (I := fun z => ∃ (rr k uu dn : Nat) (PP EE : Nat → Nat), z.1 = lN rr ∧ z.2.1 = nI k ∧ z.2.2.1 = nI uu ∧ k ≤ n_list ∧ Fac uu PP EE dn ∧ (∀ i, i < uu → z.2.2.2.1 i = lN (PP i) ∧ z.2.2.2.2 i = nI (EE i)) ∧ dn * rr = n0 ∧ (∀ q, pr q → q ∣ rr → ∀ j, j < k → j < cnt → PL j ≠ q) ∧ (∀ i, i < uu → ∃ j, j < k ∧ j < cnt ∧ PP i = PL j) ∧ k ≤ cnt) (μ := fun z => n_list - z.2.1.toNatClampNeg) (post := fun r => ∃ (w : Nat) (P' : Nat → Int64) (T' : Nat → Int32), r = some (nI w, num, P', T') ∧ w ≤ 12 ∧ SpA w n0 P' T') ?_ N _ ?_ ?_
  · intro z K hI hK
    obtain ⟨z1, z2, z3, z4, z5⟩ := z
    obtain ⟨rr, k, uu, dn, PP, EE, e1, e2, e3, hk, hF, hv, hd, hfree, hin, hkc⟩ := hI
    simp only at e1 e2 e3 hv
    subst e1; subst e2; subst e3
    have hrr0 : 0 < rr := by
      rcases Nat.eq_zero_or_pos rr with e | e
      · subst e; simp at hd; omega
      · exact e
    have hrrn : rr ≤ n0 := by rw [← hd]; exact Nat.le_mul_of_pos_left _ hF.pos
    show ∃ w P' T', s_X6_splitUp_34 N num n_list a_list K (lN rr) (nI k) (nI uu) z4 z5 = some (nI w, num, P', T') ∧ w ≤ 12 ∧ SpA w n0 P' T'
    -- the end, where no prime below q divides what is left, and q squared is above it
    have fin : ∀ q, (∀ p, pr p → p ∣ rr → q ≤ p) → rr < q * q → (∀ j, j < k → j < cnt → PL j < q) → ∃ w P' T', j_X6_splitUp_97 N (lN rr) (nI uu) num z4 z5 = some (nI w, num, P', T') ∧ w ≤ 12 ∧ SpA w n0 P' T' := by
      intro q hq1 hq2 hq3
      refine splitUp_97 N num (by omega) hF hv hd hn0 h0 ?_
      rcases one_or_pr hrr0 hq1 hq2 with h | h
      · exact Or.inl h
      · refine Or.inr ⟨h, fun i hi => ?_⟩
        obtain ⟨j, hj1, hj2, hj3⟩ := hin i hi
        rw [hj3]
        exact Nat.lt_of_lt_of_le (hq3 j hj1 hj2) (hq1 rr h (Nat.dvd_refl rr))
    have big : k = cnt → ∀ p, pr p → p ∣ rr → 100000 ≤ p := by
      intro hkc2 p hp hpd
      rcases Nat.lt_or_ge p 100000 with q | q
      · obtain ⟨j, hj1, hj2⟩ := hall p hp q
        exact absurd hj2 (hfree p hp hpd j (by omega) hj1)
      · exact q
    have finBig : k = cnt → ∃ w P' T', j_X6_splitUp_97 N (lN rr) (nI uu) num z4 z5 = some (nI w, num, P', T') ∧ w ≤ 12 ∧ SpA w n0 P' T' := by
      intro hkc2
      refine fin 100001 (fun p hp hpd => ?_) (by omega) (fun j _ hj => by have := (hpr j hj).2; omega)
      have h1 := big hkc2 p hp hpd
      have h2 : p ≠ 100000 := by
        intro e
        subst e
        have := hp.2 2 (by decide)
        omega
      omega
    unfold s_X6_splitUp_34
    by_cases hkl : k = n_list
    · rw [if_pos (L_le n_list k (by omega) (by omega))]
      exact finBig (by omega)
    rw [if_neg (L_nle n_list k (by omega) (by omega)), if_neg (L_in k n_list (by omega) (by omega))]
    simp only [xl]
    rw [nI_clamp (by omega), hPL k (by omega)]
    by_cases hkc2 : k = cnt
    · rw [hzer k (by omega) (by omega), show (nI 0).toInt64 = lN 0 from rfl, if_pos (M_lt 0 2 (by decide) (by decide))]
      exact finBig hkc2
    have hpk := hpr k (by omega)
    have h2 := hpk.1.1
    rw [nI_i64 (by omega), if_neg (M_nlt (PL k) 2 (by omega) (by omega)), lN_mul]
    have hle : ∀ p, pr p → p ∣ rr → PL k ≤ p := by
      intro p hp hpd
      rcases Nat.lt_or_ge p (PL k) with q | q
      · obtain ⟨j, hj1, hj2⟩ := hall p hp (by omega)
        have hjk : j < k := by
          rcases Nat.lt_or_ge j k with r | r
          · exact r
          · rcases Nat.eq_or_lt_of_le r with r | r
            · subst r; omega
            · have := hris k j r hj1; omega
        exact absurd hj2 (hfree p hp hpd j hjk hj1)
      · exact q
    have hsq : PL k * PL k < 2 ^ 63 := Nat.lt_of_le_of_lt (Nat.mul_le_mul (Nat.le_of_lt hpk.2) (Nat.le_of_lt hpk.2)) (by decide)
    by_cases hs : PL k * PL k ≤ rr
    · rw [if_pos (M_le (PL k * PL k) rr hs (by omega)), if_neg (M_ne (PL k) 0 (by omega) (by omega) (by decide))]
      have e1 : nI k + (1 : Int32) = nI (k + 1) := nI_1 k
      by_cases hdv : rr % PL k = 0
      · rw [if_pos ((M_rem (by omega) (by omega) (by omega)).mpr hdv)]
        obtain ⟨t, m, ht1, ht2, ht3⟩ := split_pow h2 hrr0
        have ht64 : t < 63 := pow_lt64 h2 ht3 (by rw [← ht1]; omega)
        have ht0 : 1 ≤ t := by
          rcases Nat.eq_zero_or_pos t with e | e
          · subst e
            rw [Nat.pow_zero, Nat.one_mul] at ht1
            subst ht1
            exact absurd (Nat.dvd_of_mod_eq_zero hdv) ht2
          · exact e
        have hl : ∀ i, i < uu → PP i < PL k := fun i hi => by
          obtain ⟨j, hj1, hj2, hj3⟩ := hin i hi
          rw [hj3]
          exact hris j k hj1 (by omega)
        obtain ⟨hF2, hv2⟩ := SpA.more hF hv hpk.1 ht0 hl
        have hdn : dn * PL k ^ t * m = n0 := by rw [Nat.mul_assoc, ← ht1, hd]
        have hw : uu + 1 ≤ 12 := hF2.few (by rw [← hdn] at hn0; exact Nat.le_trans (Nat.le_mul_of_pos_right _ ht3) hn0)
        rw [takeOut_f N h2 (by omega) _ _ _ ht2 ht1 (by omega) (by omega) (by omega), takeOut_46 N _ _ (by omega), ob]
        simp only [e1]
        refine hK _ ⟨m, k + 1, uu + 1, dn * PL k ^ t, _, _, rfl, rfl, rfl, by omega, hF2, hv2, hdn, ?_, ?_, by omega⟩ ?_
        · intro q hq hqd j hj1 hj2 e
          rcases Nat.eq_or_lt_of_le (Nat.le_of_lt_succ hj1) with r | r
          · subst r
            rw [e] at ht2
            exact ht2 hqd
          · exact hfree q hq (by rw [ht1]; exact Nat.dvd_trans hqd (Nat.dvd_mul_left m _)) j r hj2 e
        · intro i hi
          by_cases e : i = uu
          · subst e
            simp only [if_true]
            exact ⟨k, by omega, by omega, rfl⟩
          · simp only [if_neg e]
            obtain ⟨j, hj1, hj2, hj3⟩ := hin i (by omega)
            exact ⟨j, by omega, hj2, hj3⟩
        · show n_list - (nI (k + 1)).toNatClampNeg < n_list - (nI k).toNatClampNeg
          rw [nI_clamp (by omega), nI_clamp (by omega)]
          omega
      · rw [if_neg (fun h => hdv ((M_rem (by omega) (by omega) (by omega)).mp h))]
        simp only [e1]
        refine hK _ ⟨rr, k + 1, uu, dn, PP, EE, rfl, rfl, rfl, by omega, hF, hv, hd, ?_, ?_, by omega⟩ ?_
        · intro q hq hqd j hj1 hj2 e
          rcases Nat.eq_or_lt_of_le (Nat.le_of_lt_succ hj1) with r | r
          · subst r
            rw [← e] at hqd
            exact hdv (Nat.mod_eq_zero_of_dvd hqd)
          · exact hfree q hq hqd j r hj2 e
        · intro i hi
          obtain ⟨j, hj1, hj2, hj3⟩ := hin i hi
          exact ⟨j, by omega, hj2, hj3⟩
        · show n_list - (nI (k + 1)).toNatClampNeg < n_list - (nI k).toNatClampNeg
          rw [nI_clamp (by omega), nI_clamp (by omega)]
          omega
    · rw [if_neg (M_nle (PL k * PL k) rr (by omega) hsq)]
      exact fin (PL k) hle (by omega) (fun j hj1 _ => hris j k hj1 (by omega))
  · exact ⟨n0, 0, 0, 1, fun _ => 0, fun _ => 0, rfl, rfl, rfl, by omega, ⟨fun i hi => by omega, fun i j _ h => by omega, rfl⟩, fun i hi => by omega, by omega, fun q _ _ j hj => by omega, fun i hi => by omega, by omega⟩
  · show n_list - (0 : Int32).toNatClampNeg < N
    omega
/-! the sums -/
theorem gsL (c : Nat) : ∀ k, lN (gs c k) * lN c + 1 = lN (gs c (k + 1)) := fun k => by
  rw [lN_mul, lN_1, gs, Nat.mul_comm]
theorem sumOfAll_i (N : Nat) (k4 : (Int64 × Int32) → Option Int64) (v1 : Int64) {i : Nat} (hi : i < 12) {P : Nat → Int64} {T : Nat → Int32} {p t : Nat} (hp : P i = lN p) (ht : T i = nI t) (h64 : t < 2 ^ 30) : ∀ (d n e : Nat), e + d = t → d < n → l_X6_sumOfAll_24 N k4 v1 (nI i) P T n (lN (gs p e), nI e) = k4 (v1 * lN (gs p t), nI (i + 1)) := by
  intro d
  induction d with
  | zero =>
    intro n e h1 h2
    obtain ⟨n, rfl⟩ : ∃ z, n = z + 1 := ⟨n - 1, by omega⟩
    show s_X6_sumOfAll_24 N k4 v1 (nI i) P T (l_X6_sumOfAll_24 N k4 v1 (nI i) P T n) (lN (gs p e)) (nI e) = _
    unfold s_X6_sumOfAll_24
    rw [if_neg (L_in i 12 hi (by omega)), nI_clamp (by omega), ht, if_pos (L_le t e (by omega) (by omega))]
    unfold j_X6_sumOfAll_54
    simp only [xl]
    rw [show nI i + (1 : Int32) = nI (i + 1) from nI_1 i, show e = t by omega]
  | succ d ih =>
    intro n e h1 h2
    obtain ⟨n, rfl⟩ : ∃ z, n = z + 1 := ⟨n - 1, by omega⟩
    show s_X6_sumOfAll_24 N k4 v1 (nI i) P T (l_X6_sumOfAll_24 N k4 v1 (nI i) P T n) (lN (gs p e)) (nI e) = _
    unfold s_X6_sumOfAll_24
    rw [if_neg (L_in i 12 hi (by omega)), nI_clamp (by omega), ht, if_neg (L_nle t e (by omega) (by omega)), hp]
    simp only [xl]
    rw [show lN (gs p e) * lN p + (1 : Int64) = lN (gs p (e + 1)) from gsL p e, show nI e + (1 : Int32) = nI (e + 1) from nI_1 e]
    exact ih n (e + 1) (by omega) (by omega)
theorem sumOfAll_o (N : Nat) (hN : 2 ^ 30 ≤ N) {uu : Nat} (hu : uu ≤ 12) {P : Nat → Int64} {T : Nat → Int32} {PP EE : Nat → Nat} (hv : ∀ i, i < uu → P i = lN (PP i) ∧ T i = nI (EE i)) (hE : ∀ i, i < uu → EE i < 2 ^ 30) : ∀ (d n i : Nat), i + d = uu → d < n → l_X6_sumOfAll_4 N (nI uu) P T n (lN (prodf (fun i => gs (PP i) (EE i)) i), nI i) = some (lN (prodf (fun i => gs (PP i) (EE i)) uu)) := by
  intro d
  induction d with
  | zero =>
    intro n i h1 h2
    obtain ⟨n, rfl⟩ : ∃ z, n = z + 1 := ⟨n - 1, by omega⟩
    show s_X6_sumOfAll_4 N (nI uu) P T (l_X6_sumOfAll_4 N (nI uu) P T n) (lN (prodf (fun i => gs (PP i) (EE i)) i)) (nI i) = _
    unfold s_X6_sumOfAll_4
    rw [if_pos (L_le uu i (by omega) (by omega)), show i = uu by omega]
  | succ d ih =>
    intro n i h1 h2
    obtain ⟨n, rfl⟩ : ∃ z, n = z + 1 := ⟨n - 1, by omega⟩
    show s_X6_sumOfAll_4 N (nI uu) P T (l_X6_sumOfAll_4 N (nI uu) P T n) (lN (prodf (fun i => gs (PP i) (EE i)) i)) (nI i) = _
    unfold s_X6_sumOfAll_4
    rw [if_neg (L_nle uu i (by omega) (by omega)), if_neg (L_nle 12 i (by omega) (by decide))]
    have h3 := sumOfAll_i N (l_X6_sumOfAll_4 N (nI uu) P T n) (lN (prodf (fun i => gs (PP i) (EE i)) i)) (i := i) (by omega) (hv i (by omega)).1 (hv i (by omega)).2 (hE i (by omega)) (EE i) N 0 (by omega) (by have := hE i (by omega); omega)
    rw [show (1 : Int64) = lN (gs (PP i) 0) from rfl, show (0 : Int32) = nI 0 from rfl]
    refine Eq.trans h3 ?_
    rw [lN_mul]
    exact ih n (i + 1) (by omega) (by omega)
theorem Fac.exp {u : Nat} {P E : Nat → Nat} {n : Nat} (h : Fac u P E n) (hn : n < 2 ^ 63) : ∀ i, i < u → E i < 63 := by
  induction u generalizing n with
  | zero => intro i hi; omega
  | succ u ih =>
    intro i hi
    have hd := h.down
    have hp := (h.1 u (by omega)).1.1
    have e := h.2.2
    rw [prodf] at e
    have h1 : prodf (fun i => P i ^ E i) u ≤ n := by rw [← e]; exact Nat.le_mul_of_pos_right _ (Nat.pow_pos (by omega))
    rcases Nat.eq_or_lt_of_le (Nat.le_of_lt_succ hi) with r | r
    · subst r
      exact pow_lt64 hp hd.pos (by rw [Nat.mul_comm, e]; exact hn)
    · exact ih hd (by omega) i r
theorem sumOfAll_f (N : Nat) (hN : 2 ^ 30 ≤ N) {uu n : Nat} (hu : uu ≤ 12) {P : Nat → Int64} {T : Nat → Int32} (h : SpA uu n P T) (hn : n < 2 ^ 63) : f_X6_sumOfAll N (nI uu) P T = some (lN (sg n)) := by
  obtain ⟨PP, EE, hF, hv⟩ := h
  unfold f_X6_sumOfAll
  have hE : ∀ i, i < uu → EE i < 2 ^ 30 := fun i hi => by have := hF.exp hn i hi; omega
  have := sumOfAll_o N hN hu hv hE uu N 0 (by omega) (by omega)
  rw [hF.sg, show (1 : Int64) = lN (prodf (fun i => gs (PP i) (EE i)) 0) from rfl, show (0 : Int32) = nI 0 from rfl]
  exact this
theorem sumOfApart_i (N : Nat) (k4 : (Int64 × Int32) → Option Int64) (v1 : Int64) {i : Nat} (hi : i < 12) {P : Nat → Int64} {T : Nat → Int32} {p t : Nat} (hp : P i = lN p) (ht : T i = nI t) (h64 : t < 2 ^ 30) : ∀ (d n e : Nat), e + d = t → d < n → l_X6_sumOfApart_24 N k4 v1 (nI i) P T n (lN (p ^ e), nI e) = k4 (v1 * lN (p ^ t + 1), nI (i + 1)) := by
  intro d
  induction d with
  | zero =>
    intro n e h1 h2
    obtain ⟨n, rfl⟩ : ∃ z, n = z + 1 := ⟨n - 1, by omega⟩
    show s_X6_sumOfApart_24 N k4 v1 (nI i) P T (l_X6_sumOfApart_24 N k4 v1 (nI i) P T n) (lN (p ^ e)) (nI e) = _
    unfold s_X6_sumOfApart_24
    rw [if_neg (L_in i 12 hi (by omega)), nI_clamp (by omega), ht, if_pos (L_le t e (by omega) (by omega))]
    unfold j_X6_sumOfApart_52
    simp only [xl]
    rw [show nI i + (1 : Int32) = nI (i + 1) from nI_1 i, show e = t by omega, show lN (p ^ t) + (1 : Int64) = lN (p ^ t + 1) from lN_1 _]
  | succ d ih =>
    intro n e h1 h2
    obtain ⟨n, rfl⟩ : ∃ z, n = z + 1 := ⟨n - 1, by omega⟩
    show s_X6_sumOfApart_24 N k4 v1 (nI i) P T (l_X6_sumOfApart_24 N k4 v1 (nI i) P T n) (lN (p ^ e)) (nI e) = _
    unfold s_X6_sumOfApart_24
    rw [if_neg (L_in i 12 hi (by omega)), nI_clamp (by omega), ht, if_neg (L_nle t e (by omega) (by omega)), hp]
    simp only [xl]
    rw [lN_mul, ← Nat.pow_succ, show nI e + (1 : Int32) = nI (e + 1) from nI_1 e]
    exact ih n (e + 1) (by omega) (by omega)
theorem sumOfApart_o (N : Nat) (hN : 2 ^ 30 ≤ N) {uu : Nat} (hu : uu ≤ 12) {P : Nat → Int64} {T : Nat → Int32} {PP EE : Nat → Nat} (hv : ∀ i, i < uu → P i = lN (PP i) ∧ T i = nI (EE i)) (hE : ∀ i, i < uu → EE i < 2 ^ 30) : ∀ (d n i : Nat), i + d = uu → d < n → l_X6_sumOfApart_4 N (nI uu) P T n (lN (prodf (fun i => PP i ^ EE i + 1) i), nI i) = some (lN (prodf (fun i => PP i ^ EE i + 1) uu)) := by
  intro d
  induction d with
  | zero =>
    intro n i h1 h2
    obtain ⟨n, rfl⟩ : ∃ z, n = z + 1 := ⟨n - 1, by omega⟩
    show s_X6_sumOfApart_4 N (nI uu) P T (l_X6_sumOfApart_4 N (nI uu) P T n) (lN (prodf (fun i => PP i ^ EE i + 1) i)) (nI i) = _
    unfold s_X6_sumOfApart_4
    rw [if_pos (L_le uu i (by omega) (by omega)), show i = uu by omega]
  | succ d ih =>
    intro n i h1 h2
    obtain ⟨n, rfl⟩ : ∃ z, n = z + 1 := ⟨n - 1, by omega⟩
    show s_X6_sumOfApart_4 N (nI uu) P T (l_X6_sumOfApart_4 N (nI uu) P T n) (lN (prodf (fun i => PP i ^ EE i + 1) i)) (nI i) = _
    unfold s_X6_sumOfApart_4
    rw [if_neg (L_nle uu i (by omega) (by omega)), if_neg (L_nle 12 i (by omega) (by decide))]
    have h3 := sumOfApart_i N (l_X6_sumOfApart_4 N (nI uu) P T n) (lN (prodf (fun i => PP i ^ EE i + 1) i)) (i := i) (by omega) (hv i (by omega)).1 (hv i (by omega)).2 (hE i (by omega)) (EE i) N 0 (by omega) (by have := hE i (by omega); omega)
    rw [show (1 : Int64) = lN (PP i ^ 0) from rfl, show (0 : Int32) = nI 0 from rfl]
    refine Eq.trans h3 ?_
    rw [lN_mul]
    exact ih n (i + 1) (by omega) (by omega)
theorem sumOfApart_f (N : Nat) (hN : 2 ^ 30 ≤ N) {uu n : Nat} (hu : uu ≤ 12) {P : Nat → Int64} {T : Nat → Int32} (h : SpA uu n P T) (hn : n < 2 ^ 63) : f_X6_sumOfApart N (nI uu) P T = some (lN (un n)) := by
  obtain ⟨PP, EE, hF, hv⟩ := h
  unfold f_X6_sumOfApart
  have hE : ∀ i, i < uu → EE i < 2 ^ 30 := fun i hi => by have := hF.exp hn i hi; omega
  have := sumOfApart_o N hN hu hv hE uu N 0 (by omega) (by omega)
  rw [hF.un, show (1 : Int64) = lN (prodf (fun i => PP i ^ EE i + 1) 0) from rfl, show (0 : Int32) = nI 0 from rfl]
  exact this
/-- the class's split, between calls -/
def SpOK (u : Int32) (num : Int64) (P : Nat → Int64) (T : Nat → Int32) : Prop := ∃ uu n : Nat, u = nI uu ∧ num = lN n ∧ uu ≤ 12 ∧ 0 < n ∧ n ≤ 10000000000 ∧ SpA uu n P T
/-- splitUp: the split is that of n -/
theorem splitUp_f (N : Nat) (hN : 2 ^ 30 ≤ N) {n_list : Nat} {a_list : Nat → Int32} (hT : PT n_list a_list) {u : Int32} {num : Int64} {P : Nat → Int64} {T : Nat → Int32} (hS : SpOK u num P T) {n : Nat} (h0 : 0 < n) (hn : n ≤ 10000000000) : ∃ (w : Nat) (P' : Nat → Int64) (T' : Nat → Int32), f_X6_splitUp N (lN n) u num n_list a_list P T = some (nI w, lN n, P', T') ∧ w ≤ 12 ∧ SpA w n P' T' := by
  unfold f_X6_splitUp
  obtain ⟨uu, n1, rfl, rfl, hu, h1, h2, hA⟩ := hS
  by_cases e : lN n = lN n1
  · rw [if_pos e, ← e]
    have : n = n1 := (pk_lEQ (by omega) (by omega)).mp e
    subst this
    exact ⟨uu, P, T, rfl, hu, hA⟩
  · rw [if_neg e]
    exact splitUp_l N hT (lN n) h0 hn (by omega)
/-- the answer of a sum by kind, as both sides give it -/
def smK (kind n : Nat) : Int64 := if kind = 0 then lN (sg n) else if kind = 1 then lN (sg n) - lN n else if kind = 2 then lN (un n) - lN n else if n = 1 then 0 else lN (sg n) - lN n - 1
theorem summed_f (N : Nat) (hN : 2 ^ 30 ≤ N) {n_list : Nat} {a_list : Nat → Int32} (hT : PT n_list a_list) {u : Int32} {num : Int64} {P : Nat → Int64} {T : Nat → Int32} (hS : SpOK u num P T) {n k : Nat} (h0 : 0 < n) (hn : n ≤ 10000000000) (hk : k ≤ 3) : ∃ (u' : Int32) (num' : Int64) (P' : Nat → Int64) (T' : Nat → Int32), f_X6_summed N (nI k) (lN n) u num n_list a_list P T = some (smK k n, u', num', P', T') ∧ SpOK u' num' P' T' := by
  obtain ⟨w, P', T', e, hw, hA⟩ := splitUp_f N hN hT hS h0 hn
  unfold f_X6_summed
  rw [e, ob]
  have hok : SpOK (nI w) (lN n) P' T' := ⟨w, n, rfl, rfl, hw, h0, hn, hA⟩
  have ha := sumOfAll_f N hN hw hA (by omega)
  have hu := sumOfApart_f N hN hw hA (by omega)
  simp only
  rcases (show k = 0 ∨ k = 1 ∨ k = 2 ∨ k = 3 by omega) with rfl | rfl | rfl | rfl
  · rw [if_pos (show nI 0 = (0 : Int32) from rfl), ha, ob]
    exact ⟨_, _, _, _, rfl, hok⟩
  · rw [if_neg (L_ne 1 0 (by decide) (by decide) (by decide)), if_pos (show nI 1 = (1 : Int32) from rfl), ha, ob]
    exact ⟨_, _, _, _, rfl, hok⟩
  · rw [if_neg (L_ne 2 0 (by decide) (by decide) (by decide)), if_neg (L_ne 2 1 (by decide) (by decide) (by decide)), if_pos (show nI 2 = (2 : Int32) from rfl), hu, ob]
    exact ⟨_, _, _, _, rfl, hok⟩
  · rw [if_neg (L_ne 3 0 (by decide) (by decide) (by decide)), if_neg (L_ne 3 1 (by decide) (by decide) (by decide)), if_neg (L_ne 3 2 (by decide) (by decide) (by decide))]
    by_cases h1 : n = 1
    · subst h1
      rw [if_pos (show lN 1 = (1 : Int64) from rfl)]
      exact ⟨_, _, _, _, rfl, hok⟩
    · rw [if_neg (M_ne n 1 h1 (by omega) (by decide)), ha, ob]
      refine ⟨_, _, _, _, ?_, hok⟩
      simp [smK, h1]
