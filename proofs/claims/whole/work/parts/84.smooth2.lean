/-! all of them are counted -/
theorem lpE_cong {M : Nat} {F G Lf Lg : Nat → Nat} (p t : Nat) (hF : ∀ u, F u ≤ G u) (hL : ∀ u, Lf u ≤ Lg u) : ∀ f s, lpE M F Lf p t f s ≤ lpE M G Lg p t f s
  | 0, _ => Nat.le_refl _
  | f + 1, s => by
    unfold lpE
    have h1 := lpE_cong (M := M) p t hF hL f (p * s + 1)
    have h2 := hF (t * s)
    have h3 := hL (t * s)
    split <;> omega
theorem goA_mono {M : Nat} {Lf Lg : Nat → Nat} (h : ∀ u, Lf u ≤ Lg u) : ∀ ps t, goA M Lf ps t ≤ goA M Lg ps t
  | [], _ => Nat.le_refl _
  | p :: ps, t => by
    unfold goA
    have h1 := goA_mono (M := M) h ps t
    have h2 := lpE_cong (M := M) p t (fun u => goA_mono (M := M) h ps u) h 20 (p + 1)
    split <;> omega
theorem lpE_add {M : Nat} {F G Lf Lg : Nat → Nat} (p t : Nat) : ∀ f s, lpE M (fun u => F u + G u) (fun u => Lf u + Lg u) p t f s = lpE M F Lf p t f s + lpE M G Lg p t f s
  | 0, _ => rfl
  | f + 1, s => by
    unfold lpE
    rw [lpE_add p t f (p * s + 1)]
    split <;> omega
theorem goA_add {M : Nat} (Lf Lg : Nat → Nat) : ∀ ps t, goA M (fun u => Lf u + Lg u) ps t = goA M Lf ps t + goA M Lg ps t
  | [], _ => rfl
  | p :: ps, t => by
    unfold goA
    have e : goA M (fun u => Lf u + Lg u) ps = fun u => goA M Lf ps u + goA M Lg ps u := funext (fun u => goA_add Lf Lg ps u)
    rw [e, lpE_add]
    dsimp only
    split <;> omega
theorem lpE_mul {M : Nat} {F Lf : Nat → Nat} (a p t : Nat) : ∀ f s, lpE M (fun u => F u * a) (fun u => Lf u * a) p t f s = lpE M F Lf p t f s * a
  | 0, _ => (Nat.zero_mul a).symm
  | f + 1, s => by
    unfold lpE
    rw [lpE_mul a p t f (p * s + 1)]
    split
    · rw [Nat.zero_mul]
    · rw [Nat.add_mul, Nat.add_mul]
theorem goA_mul {M : Nat} (Lf : Nat → Nat) (a : Nat) : ∀ ps t, goA M (fun u => Lf u * a) ps t = goA M Lf ps t * a
  | [], _ => (Nat.zero_mul a).symm
  | p :: ps, t => by
    unfold goA
    have e : goA M (fun u => Lf u * a) ps = fun u => goA M Lf ps u * a := funext (fun u => goA_mul Lf a ps u)
    rw [e, lpE_mul]
    split
    · rw [Nat.zero_mul]
    · rw [Nat.add_mul]
theorem lpE_0 {M : Nat} (p t : Nat) : ∀ f s, lpE M (fun _ => 0) (fun _ => 0) p t f s = 0
  | 0, _ => rfl
  | f + 1, s => by
    unfold lpE
    rw [lpE_0 p t f (p * s + 1)]
    split <;> rfl
theorem goA_0 {M : Nat} : ∀ ps t, goA M (fun _ => 0) ps t = 0
  | [], _ => rfl
  | p :: ps, t => by
    unfold goA
    have e : goA M (fun _ => 0) ps = fun _ => 0 := funext (fun u => goA_0 ps u)
    rw [e, lpE_0]
    split <;> rfl
theorem goA_sum {M : Nat} (L : Nat → Nat → Nat) (ps : List Nat) (t : Nat) : ∀ n, goA M (fun u => fb_sm (fun r => L r u) n) ps t = fb_sm (fun r => goA M (L r) ps t) n
  | 0 => goA_0 ps t
  | n + 1 => by
    show goA M (fun u => fb_sm (fun r => L r u) n + L n u) ps t = fb_sm (fun r => goA M (L r) ps t) n + goA M (L n) ps t
    rw [goA_add, goA_sum L ps t n]
def cR (r t : Nat) : Nat := if t % 2053 = r then 1 else 0
def cA (r : Nat) : Nat := cR r 1 + goA 1000000 (cR r) p46 1
theorem pk_leaf (t : Nat) : 2 ^ (17 * (t % 2053)) = fb_sm (fun r => cR r t * 2 ^ (17 * r)) 4096 := by
  have hm : t % 2053 < 4096 := Nat.lt_trans (Nat.mod_lt t (by decide)) (by decide)
  rw [fs_one (fun r => cR r t * 2 ^ (17 * r)) (t % 2053) 4096 hm (fun k _ hk => by
    unfold cR
    rw [if_neg (fun e => hk e.symm), Nat.zero_mul])]
  unfold cR
  rw [if_pos rfl, Nat.one_mul]
theorem pk_all : 2 ^ 17 + goA 1000000 (fun t => 2 ^ (17 * (t % 2053))) p46 1 = fb_sm (fun r => cA r * 2 ^ (17 * r)) 4096 := by
  have e1 : (fun t => 2 ^ (17 * (t % 2053))) = fun t => fb_sm (fun r => cR r t * 2 ^ (17 * r)) 4096 := funext pk_leaf
  rw [e1, goA_sum (fun r t => cR r t * 2 ^ (17 * r)) p46 1 4096]
  have e2 : fb_sm (fun r => goA 1000000 (fun t => cR r t * 2 ^ (17 * r)) p46 1) 4096 = fb_sm (fun r => goA 1000000 (cR r) p46 1 * 2 ^ (17 * r)) 4096 := fb_sm_cong (fun r _ => goA_mul (cR r) (2 ^ (17 * r)) p46 1)
  have e3 : (2 : Nat) ^ 17 = fb_sm (fun r => cR r 1 * 2 ^ (17 * r)) 4096 := pk_leaf 1
  rw [e2, e3, ← fb_sm_add]
  refine fb_sm_cong (fun r _ => ?_)
  unfold cA
  rw [Nat.add_mul]
theorem alle_ok (T : Nat) : ∀ d (c : Nat → Nat), (∀ r, c r < 2 ^ 17) → alle T d (fb_sm (fun r => c r * 2 ^ (17 * r)) (2 ^ d)) = true → ∀ r, r < 2 ^ d → c r ≤ T
  | 0, c, _, h, r, hr => by
    have : r = 0 := by
      have : (2 : Nat) ^ 0 = 1 := rfl
      omega
    subst this
    have h : decide (0 + c 0 * 2 ^ (17 * 0) ≤ T) = true := h
    have := of_decide_eq_true h
    simpa using this
  | d + 1, c, hc, h, r, hr => by
    have hpk : ∀ (c : Nat → Nat) (n : Nat), (∀ r, c r < 2 ^ 17) → fb_sm (fun r => c r * 2 ^ (17 * r)) n < 2 ^ (17 * n) := by
      intro c n hc
      induction n with
      | zero => exact Nat.one_pos
      | succ n ih =>
        rw [fb_sm_succ]
        have h1 : (c n + 1) * 2 ^ (17 * n) ≤ 2 ^ 17 * 2 ^ (17 * n) := Nat.mul_le_mul_right _ (hc n)
        rw [← Nat.pow_add, show 17 + 17 * n = 17 * (n + 1) by omega, Nat.succ_mul] at h1
        omega
    have e : fb_sm (fun r => c r * 2 ^ (17 * r)) (2 ^ (d + 1)) = fb_sm (fun r => c r * 2 ^ (17 * r)) (2 ^ d) + 2 ^ (17 * 2 ^ d) * fb_sm (fun r => c (2 ^ d + r) * 2 ^ (17 * r)) (2 ^ d) := by
      rw [show 2 ^ (d + 1) = 2 ^ d + 2 ^ d by rw [Nat.pow_succ]; omega, fb_sm_split]
      congr 1
      have : ∀ n, fb_sm (fun k => c (2 ^ d + k) * 2 ^ (17 * (2 ^ d + k))) n = 2 ^ (17 * 2 ^ d) * fb_sm (fun r => c (2 ^ d + r) * 2 ^ (17 * r)) n := by
        intro n
        induction n with
        | zero => rfl
        | succ n ih =>
          rw [fb_sm_succ, fb_sm_succ, ih, Nat.mul_add]
          congr 1
          rw [Nat.mul_add, Nat.pow_add, Nat.mul_left_comm]
      exact this (2 ^ d)
    unfold alle at h
    have hlo := hpk c (2 ^ d) hc
    rw [e, Nat.add_mul_mod_self_left, Nat.mod_eq_of_lt hlo, Nat.add_mul_div_left _ _ (Nat.pow_pos (by decide)), Nat.div_eq_of_lt hlo, Nat.zero_add, Bool.and_eq_true] at h
    rcases Nat.lt_or_ge r (2 ^ d) with w | w
    · exact alle_ok T d c hc h.1 r w
    · have := alle_ok T d (fun r => c (2 ^ d + r)) (fun r => hc _) h.2 (r - 2 ^ d) (by rw [Nat.pow_succ] at hr; omega)
      rw [show 2 ^ d + (r - 2 ^ d) = r by omega] at this
      exact this
theorem cA_le (r : Nat) (hr : r < 4096) : cA r ≤ 286 := by
  refine alle_ok 286 12 cA (fun r => ?_) (by rw [← smooth_mod, pk_all]) r hr
  have h1 := goA_mono (M := 1000000) (Lf := cR r) (Lg := fun _ => 1) (fun u => by unfold cR; split <;> omega) p46 1
  have h2 := smooth_all
  have h3 : cR r 1 ≤ 1 := by unfold cR; split <;> omega
  have h4 : (2 : Nat) ^ 17 = 131072 := by decide
  unfold cA
  omega
