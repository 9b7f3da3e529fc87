/-! the class's wholly: primes, powers -/
theorem isPrime_f (N : Nat) (hN : 2 ^ 40 ≤ N) {al : Nat → Int32} (hT : PT 9592 al) {n : Nat} (hn : n ≤ 1000000) : f_X9_isPrime N (lN n) 9592 al = some (if prB n = true then 1 else 0) := by
  have h40 : (2 : Nat) ^ 40 = 1099511627776 := by decide
  obtain ⟨_, PL, cnt, h1, h2, h3, h4, h5, h6⟩ := hT
  have fin : ∀ b : Bool, (2 ≤ n → prB n = true) → j_X9_isPrime_64 N (lN n) = some (if prB n = true then 1 else 0) := by
    intro _ h
    unfold j_X9_isPrime_64
    by_cases c : n ≤ 1
    · rw [if_pos (M_le n 1 c (by decide)), if_neg]
      intro w
      have := ((prB_iff n).mp w).1
      omega
    · rw [if_neg (M_nle n 1 (by omega) (by omega)), if_pos (h (by omega))]
  unfold f_X9_isPrime l_X9_isPrime_11
  refine lp_eq _ (I := fun (z : Int32) => ∃ k : Nat, z = nI k ∧ k ≤ 9592 ∧ ∀ j, j < k → j < cnt → ¬ PL j ∣ n) (μ := fun z => 10000 - z.toNatClampNeg) ?_ N _ ?_ ?_
  · intro z K hI hK
    obtain ⟨k, rfl, hk, hno⟩ := hI
    show s_X9_isPrime_11 N (lN n) 9592 al K (nI k) = _
    unfold s_X9_isPrime_11
    -- if no listed prime up to the root goes into n, n is prime
    have allp : (∀ q, pr q → q * q ≤ n → ¬ q ∣ n) → 2 ≤ n → prB n = true := by
      intro h hn2
      refine (prB_iff n).mpr (pr_root hn2 (fun d hd hdd hdn => ?_))
      obtain ⟨q, hq, hqd, _⟩ := pr_has hd
      have : q ≤ d := Nat.le_of_dvd (by omega) hqd
      have : q * q ≤ d * d := Nat.mul_le_mul this this
      exact h q hq (by omega) (Nat.dvd_trans hqd hdn)
    have small : ∀ q, q * q ≤ n → q < 100000 := by
      intro q hq
      rcases Nat.lt_or_ge q 100000 with w | w
      · exact w
      · exfalso
        have : 100000 * 100000 ≤ q * q := Nat.mul_le_mul w w
        omega
    by_cases c : 9592 ≤ k
    · rw [if_pos (L_le 9592 k c (by omega))]
      refine fin true (allp (fun q hq hqq hqn => ?_))
      obtain ⟨j, hj, e⟩ := h6 q hq (small q hqq)
      exact hno j (by omega) hj (by rw [e]; exact hqn)
    · rw [if_neg (L_nle 9592 k (by omega) (by decide)), if_neg (L_in k 9592 (by omega) (by omega)), nI_clamp (by omega), h1 k (by omega), xl]
      rcases Nat.lt_or_ge k cnt with w | w
      · obtain ⟨p1, p2⟩ := h3 k w
        have hp2 := p1.1
        rw [nI_i64 (by omega), if_neg (M_nlt (PL k) 2 hp2 (by omega)), lN_mul]
        have hpp : PL k * PL k < 2 ^ 63 := Nat.lt_of_le_of_lt (Nat.mul_le_mul (Nat.le_of_lt p2) (Nat.le_of_lt p2)) (by decide)
        by_cases c2 : PL k * PL k ≤ n
        · rw [if_pos (M_le _ n c2 (by omega)), if_neg (M_ne (PL k) 0 (by omega) (by omega) (by decide))]
          by_cases c3 : n % PL k = 0
          · rw [if_pos ((M_rem (by omega) (by omega) (by omega)).mpr c3), if_neg]
            intro v
            obtain ⟨_, v2⟩ := (prB_iff n).mp v
            rcases v2 (PL k) (Nat.dvd_of_mod_eq_zero c3) with e | e
            · omega
            · rw [e] at c2
              have : n * 2 ≤ n * n := Nat.mul_le_mul_left n (by omega)
              omega
          · rw [if_neg (fun v => c3 ((M_rem (by omega) (by omega) (by omega)).mp v)), xl, nI_1]
            refine hK _ ⟨k + 1, rfl, by omega, fun j hj hjc => ?_⟩ ?_
            · rcases Nat.lt_or_ge j k with v | v
              · exact hno j v hjc
              · have : j = k := by omega
                subst this
                exact fun v => c3 (Nat.mod_eq_zero_of_dvd v)
            · show 10000 - (nI (k + 1)).toNatClampNeg < 10000 - (nI k).toNatClampNeg
              rw [nI_clamp (by omega), nI_clamp (by omega)]; omega
        · rw [if_neg (M_nle (PL k * PL k) n (by omega) hpp)]
          refine fin true (allp (fun q hq hqq hqn => ?_))
          obtain ⟨j, hj, e⟩ := h6 q hq (small q hqq)
          rcases Nat.lt_or_ge j k with v | v
          · exact hno j v hj (by rw [e]; exact hqn)
          · have hle : PL k ≤ PL j := by
              rcases Nat.eq_or_lt_of_le v with x | x
              · rw [x]; exact Nat.le_refl _
              · exact Nat.le_of_lt (h4 k j x hj)
            rw [e] at hle
            have : PL k * PL k ≤ q * q := Nat.mul_le_mul hle hle
            omega
      · rw [h5 k w (by omega), show (nI 0).toInt64 = lN 0 from rfl, if_pos (M_lt 0 2 (by decide) (by decide))]
        refine fin true (allp (fun q hq hqq hqn => ?_))
        obtain ⟨j, hj, e⟩ := h6 q hq (small q hqq)
        exact hno j (by omega) hj (by rw [e]; exact hqn)
  · exact ⟨0, rfl, by decide, fun j hj => by omega⟩
  · show 10000 - _ < N
    omega
/-- the kept powers: bases, times -/
def PwR (m c : Nat) (B E : Nat → Nat) (ba po ps : Nat → Int64) : Prop := (∀ k, k < c → ba k = lN (B k) ∧ po k = lN (B k ^ E k) ∧ ps k = lN (gs (B k) (E k)) ∧ pr (B k) ∧ 1 ≤ E k ∧ gs (B k) (E k) ∣ m) ∧ ∀ j k, j ≤ k → k < c → gs (B j) (E j) ≤ gs (B k) (E k)
def cnP (B E : Nat → Nat) (c p e : Nat) : Nat := fb_ct (fun k => decide (B k = p ∧ E k = e)) c
theorem keepPower_f (N : Nat) (hN : 2 ^ 40 ≤ N) {m c : Nat} (hm0 : 0 < m) (hm : m ≤ 1000000) (hc : c < 400) {B E : Nat → Nat} {ba po ps : Nat → Int64} (hR : PwR m c B E ba po ps) {p e : Nat} (hp : pr p) (he : 1 ≤ e) (hd : gs p e ∣ m) : ∃ (B' E' : Nat → Nat) (ba' po' ps' : Nat → Int64), f_X9_keepPower N (lN p) (lN (p ^ e)) (lN (gs p e)) (nI c) ba po ps = some (nI (c + 1), ba', po', ps') ∧ PwR m (c + 1) B' E' ba' po' ps' ∧ ∀ x y, cnP B' E' (c + 1) x y = cnP B E c x y + (if x = p ∧ y = e then 1 else 0) := by
  have h40 : (2 : Nat) ^ 40 = 1099511627776 := by decide
  obtain ⟨hv, hso⟩ := hR
  have hgm : ∀ k, k < c → gs (B k) (E k) ≤ m := fun k hk => Nat.le_of_dvd hm0 (hv k hk).2.2.2.2.2
  have hgp : gs p e ≤ m := Nat.le_of_dvd hm0 hd
  unfold f_X9_keepPower
  rw [if_pos (L_lt c 400 hc (by decide)), xl]
  -- the insertion itself
  have ins : ∀ (x : Nat) (a1 a2 a3 : Nat → Int64), x ≤ c → (∀ k, k < x → gs (B k) (E k) ≤ gs p e) → (∀ k, x ≤ k → k < c → gs p e ≤ gs (B k) (E k)) → (∀ k, k < x → a1 k = ba k ∧ a2 k = po k ∧ a3 k = ps k) → (∀ k, x < k → k ≤ c → a1 k = ba (k - 1) ∧ a2 k = po (k - 1) ∧ a3 k = ps (k - 1)) → ∃ (B' E' : Nat → Nat) (ba' po' ps' : Nat → Int64), j_X9_keepPower_101 N (lN p) (lN (p ^ e)) (lN (gs p e)) (nI x) (nI c) a1 a2 a3 = some (nI (c + 1), ba', po', ps') ∧ PwR m (c + 1) B' E' ba' po' ps' ∧ ∀ u y, cnP B' E' (c + 1) u y = cnP B E c u y + (if u = p ∧ y = e then 1 else 0) := by
    intro x a1 a2 a3 hx hlo hhi hA hB
    unfold j_X9_keepPower_101
    rw [if_neg (L_in x 400 (by omega) (by omega)), nI_clamp (by omega), xl, nI_1]
    refine ⟨fun k => if k < x then B k else if k = x then p else B (k - 1), fun k => if k < x then E k else if k = x then e else E (k - 1), vp_updL a1 x (lN p), vp_updL a2 x (lN (p ^ e)), vp_updL a3 x (lN (gs p e)), rfl, ⟨fun k hk => ?_, fun j k hjk hk => ?_⟩, fun u y => ?_⟩
    · rcases Nat.lt_trichotomy k x with w | w | w
      · simp only [if_pos w]
        rw [pk_uLn (by omega), pk_uLn (by omega), pk_uLn (by omega)]
        obtain ⟨q1, q2, q3⟩ := hA k w
        rw [q1, q2, q3]
        exact hv k (by omega)
      · subst w
        simp only [if_neg (Nat.lt_irrefl k), if_true]
        rw [pk_uLs, pk_uLs, pk_uLs]
        exact ⟨rfl, rfl, rfl, hp, he, hd⟩
      · simp only [if_neg (show ¬ k < x by omega), if_neg (show ¬ k = x by omega)]
        rw [pk_uLn (by omega), pk_uLn (by omega), pk_uLn (by omega)]
        obtain ⟨q1, q2, q3⟩ := hB k w (by omega)
        rw [q1, q2, q3]
        exact hv (k - 1) (by omega)
    · rcases Nat.lt_trichotomy k x with w | w | w
      · simp only [if_pos w, if_pos (show j < x by omega)]
        exact hso j k hjk (by omega)
      · subst w
        simp only [if_neg (Nat.lt_irrefl k), if_true]
        rcases Nat.eq_or_lt_of_le hjk with v | v
        · subst v
          simp only [if_neg (Nat.lt_irrefl j), if_true]
          exact Nat.le_refl _
        · simp only [if_pos v]
          exact hlo j v
      · simp only [if_neg (show ¬ k < x by omega), if_neg (show ¬ k = x by omega)]
        rcases Nat.lt_trichotomy j x with v | v | v
        · simp only [if_pos v]
          exact hso j (k - 1) (by omega) (by omega)
        · subst v
          simp only [if_neg (Nat.lt_irrefl j), if_true]
          exact hhi (k - 1) (by omega) (by omega)
        · simp only [if_neg (show ¬ j < x by omega), if_neg (show ¬ j = x by omega)]
          exact hso (j - 1) (k - 1) (by omega) (by omega)
    · unfold cnP
      rw [show c + 1 = x + (1 + (c - x)) by omega, fb_ct_split, fb_ct_split]
      have e1 : fb_ct (fun k => decide ((if k < x then B k else if k = x then p else B (k - 1)) = u ∧ (if k < x then E k else if k = x then e else E (k - 1)) = y)) x = fb_ct (fun k => decide (B k = u ∧ E k = y)) x := fb_ct_cong (fun k hk => by simp only [if_pos hk])
      have e2 : fb_ct (fun k => (fun k => decide ((if k < x then B k else if k = x then p else B (k - 1)) = u ∧ (if k < x then E k else if k = x then e else E (k - 1)) = y)) (x + k)) 1 = if u = p ∧ y = e then 1 else 0 := by
        rw [fb_ct_succ]
        simp only [Nat.add_zero, if_neg (Nat.lt_irrefl x), if_true]
        have : (decide (p = u ∧ e = y) = true) ↔ (u = p ∧ y = e) := by
          rw [decide_eq_true_eq]
          constructor <;> (rintro ⟨a, b⟩; exact ⟨a.symm, b.symm⟩)
        by_cases w : u = p ∧ y = e
        · rw [if_pos (this.mpr w), if_pos w]; rfl
        · rw [if_neg (fun v => w (this.mp v)), if_neg w]; rfl
      have e3 : fb_ct (fun k => (fun k => (fun k => decide ((if k < x then B k else if k = x then p else B (k - 1)) = u ∧ (if k < x then E k else if k = x then e else E (k - 1)) = y)) (x + k)) (1 + k)) (c - x) = fb_ct (fun k => (fun k => decide (B k = u ∧ E k = y)) (x + k)) (c - x) := fb_ct_cong (fun k hk => by
        simp only [if_neg (show ¬ x + (1 + k) < x by omega), if_neg (show ¬ x + (1 + k) = x by omega), show x + (1 + k) - 1 = x + k by omega])
      have e4 : fb_ct (fun k => decide (B k = u ∧ E k = y)) c = fb_ct (fun k => decide (B k = u ∧ E k = y)) x + fb_ct (fun k => (fun k => decide (B k = u ∧ E k = y)) (x + k)) (c - x) := by
        rw [← fb_ct_split, show x + (c - x) = c by omega]
      rw [e1, e2, e3, e4]
      omega
  unfold l_X9_keepPower_25
  refine lp_post (I := fun (z : Int32 × Int32 × (Nat → Int64) × (Nat → Int64) × (Nat → Int64)) => ∃ x : Nat, x ≤ c ∧ z.1 = nI x ∧ z.2.1 = nI x - 1 ∧ (∀ k, x ≤ k → k < c → gs p e ≤ gs (B k) (E k)) ∧ (∀ k, k < x → z.2.2.1 k = ba k ∧ z.2.2.2.1 k = po k ∧ z.2.2.2.2 k = ps k) ∧ (∀ k, x < k → k ≤ c → z.2.2.1 k = ba (k - 1) ∧ z.2.2.2.1 k = po (k - 1) ∧ z.2.2.2.2 k = ps (k - 1))) (μ := fun z => z.1.toNatClampNeg) (post := fun r => ∃ (B' E' : Nat → Nat) (ba' po' ps' : Nat → Int64), r = some (nI (c + 1), ba', po', ps') ∧ PwR m (c + 1) B' E' ba' po' ps' ∧ ∀ x y, cnP B' E' (c + 1) x y = cnP B E c x y + (if x = p ∧ y = e then 1 else 0)) ?_ N _ ?_ ?_
  · intro z K hI hK
    obtain ⟨y1, y2, a1, a2, a3⟩ := z
    obtain ⟨x, hx, e1, e2, hhi, hA, hB⟩ := hI
    simp only at e1 e2 hA hB
    subst e1
    subst e2
    show ∃ (B' E' : Nat → Nat) (ba' po' ps' : Nat → Int64), s_X9_keepPower_25 N (lN p) (lN (p ^ e)) (lN (gs p e)) (nI c) K (nI x) (nI x - 1) a1 a2 a3 = some (nI (c + 1), ba', po', ps') ∧ PwR m (c + 1) B' E' ba' po' ps' ∧ ∀ x y, cnP B' E' (c + 1) x y = cnP B E c x y + (if x = p ∧ y = e then 1 else 0)
    unfold s_X9_keepPower_25
    rcases Nat.eq_zero_or_pos x with q | q
    · subst q
      rw [if_pos (show nI 0 - 1 < 0 by decide)]
      exact ins 0 a1 a2 a3 (by omega) (fun k hk => by omega) hhi hA hB
    · obtain ⟨j, rfl⟩ : ∃ j, x = j + 1 := ⟨x - 1, by omega⟩
      have hj := hv j (by omega)
      obtain ⟨q1, q2, q3⟩ := hA j (by omega)
      have hgj := hgm j (by omega)
      rw [nI_pred, if_neg (nI_pos (by omega)), if_neg (L_in j 400 (by omega) (by omega)), nI_1, nI_clamp (show j < 2 ^ 31 by omega), q1, q2, q3, hj.2.2.1]
      by_cases cc : gs (B j) (E j) ≤ gs p e
      · rw [if_pos (M_le _ _ cc (by omega))]
        exact ins (j + 1) a1 a2 a3 hx (fun k hk => Nat.le_trans (hso k j (by omega) (by omega)) cc) hhi hA hB
      · rw [if_neg (M_nle (gs (B j) (E j)) (gs p e) (by omega) (by omega)), xl, if_neg (L_in (j + 1) 400 (by omega) (by omega)), nI_clamp (show j + 1 < 2 ^ 31 by omega), xl, xl, xl]
        have em : nI j + (-1 : Int32) = nI j - 1 := by
          apply Int32.toBitVec_inj.1
          rw [Int32.toBitVec_add, Int32.toBitVec_sub, BitVec.sub_eq_add_neg]
          rfl
        rw [em, ← hj.2.2.1]
        refine hK _ ⟨j, by omega, rfl, rfl, fun k h1 h2 => ?_, fun k hk => ?_, fun k h1 h2 => ?_⟩ ?_
        · rcases Nat.eq_or_lt_of_le h1 with v | v
          · subst v; omega
          · exact hhi k (by omega) h2
        · show vp_updL a1 (j + 1) _ k = _ ∧ vp_updL a2 (j + 1) _ k = _ ∧ vp_updL a3 (j + 1) _ k = _
          rw [pk_uLn (by omega), pk_uLn (by omega), pk_uLn (by omega)]
          exact hA k (by omega)
        · show vp_updL a1 (j + 1) _ k = _ ∧ vp_updL a2 (j + 1) _ k = _ ∧ vp_updL a3 (j + 1) _ k = _
          by_cases v : k = j + 1
          · subst v
            rw [pk_uLs, pk_uLs, pk_uLs]
            exact ⟨rfl, rfl, rfl⟩
          · rw [pk_uLn v, pk_uLn v, pk_uLn v]
            exact hB k (by omega) h2
        · show (nI j).toNatClampNeg < (nI (j + 1)).toNatClampNeg
          rw [nI_clamp (by omega), nI_clamp (by omega)]; omega
  · refine ⟨c, Nat.le_refl c, rfl, rfl, fun k h1 h2 => by omega, fun k _ => ⟨rfl, rfl, rfl⟩, fun k h1 h2 => by omega⟩
  · show (nI c).toNatClampNeg < N
    rw [nI_clamp (by omega)]; omega
