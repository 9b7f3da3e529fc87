/-! loops and machine numbers -/
theorem lp_post {σ ρ : Type} {F : (σ → Option ρ) → σ → Option ρ} (I : σ → Prop) (μ : σ → Nat) (post : Option ρ → Prop) (step : ∀ (s : σ) (k : σ → Option ρ), I s → (∀ s', I s' → μ s' < μ s → post (k s')) → post (F k s)) : ∀ (n : Nat) (s : σ), I s → μ s < n → post (lp F n s)
  | 0, _, _, h => absurd h (Nat.not_lt_zero _)
  | n + 1, s, hI, h => step s (lp F n) hI (fun s' h1 h2 => lp_post I μ post step n s' h1 (by omega))
/-- a loop whose end is known: I keeps, μ falls, the answer is X -/
theorem lp_eq {σ ρ : Type} {F : (σ → Option ρ) → σ → Option ρ} (X : Option ρ) (I : σ → Prop) (μ : σ → Nat) (step : ∀ (s : σ) (k : σ → Option ρ), I s → (∀ s', I s' → μ s' < μ s → k s' = X) → F k s = X) (n : Nat) (s : σ) (hI : I s) (h : μ s < n) : lp F n s = X := lp_post I μ (fun r => r = X) step n s hI h
theorem lp_s {σ ρ : Type} (F : (σ → Option ρ) → σ → Option ρ) (n : Nat) (s : σ) : lp F (n + 1) s = F (lp F n) s := rfl
theorem ob {α β : Type} (a : α) (f : α → Option β) : Option.bind (some a) f = f a := rfl
theorem L_le (a b : Nat) {x y : Int32} (h : a ≤ b) (hb : b < 2 ^ 31) (hx : x = nI a := by rfl) (hy : y = nI b := by rfl) : x ≤ y := by subst hx; subst hy; exact nI_le h hb
theorem L_nle (a b : Nat) {x y : Int32} (h : b < a) (ha : a < 2 ^ 31) (hx : x = nI a := by rfl) (hy : y = nI b := by rfl) : ¬ x ≤ y := by subst hx; subst hy; exact nI_ge h ha
theorem L_lt (a b : Nat) {x y : Int32} (h : a < b) (hb : b < 2 ^ 31) (hx : x = nI a := by rfl) (hy : y = nI b := by rfl) : x < y := by subst hx; subst hy; exact nI_lt h hb
theorem L_nlt (a b : Nat) {x y : Int32} (h : b ≤ a) (ha : a < 2 ^ 31) (hx : x = nI a := by rfl) (hy : y = nI b := by rfl) : ¬ x < y := by subst hx; subst hy; exact nI_nlt h ha
theorem L_ne (a b : Nat) {x y : Int32} (h : a ≠ b) (ha : a < 2 ^ 31) (hb : b < 2 ^ 31) (hx : x = nI a := by rfl) (hy : y = nI b := by rfl) : ¬ x = y := by subst hx; subst hy; exact fun e => h ((nI_eq ha hb).mp e)
theorem L_in (k n : Nat) {x : Int32} (h : k < n) (hk : k < 2 ^ 31) (hx : x = nI k := by rfl) : ¬ (x < 0 ∨ n ≤ x.toNatClampNeg) := by
  subst hx
  rw [nI_clamp hk]
  intro q
  rcases q with q | q
  · exact nI_pos hk q
  · omega
theorem M_le (a b : Nat) {x y : Int64} (h : a ≤ b) (hb : b < 2 ^ 63) (hx : x = lN a := by rfl) (hy : y = lN b := by rfl) : x ≤ y := by subst hx; subst hy; exact (pk_lLE (by omega) hb).mpr h
theorem M_nle (a b : Nat) {x y : Int64} (h : b < a) (ha : a < 2 ^ 63) (hx : x = lN a := by rfl) (hy : y = lN b := by rfl) : ¬ x ≤ y := by subst hx; subst hy; exact fun q => by have := (pk_lLE ha (by omega)).mp q; omega
theorem M_lt (a b : Nat) {x y : Int64} (h : a < b) (hb : b < 2 ^ 63) (hx : x = lN a := by rfl) (hy : y = lN b := by rfl) : x < y := by subst hx; subst hy; exact (pk_lLT (by omega) hb).mpr h
theorem M_nlt (a b : Nat) {x y : Int64} (h : b ≤ a) (ha : a < 2 ^ 63) (hx : x = lN a := by rfl) (hy : y = lN b := by rfl) : ¬ x < y := by subst hx; subst hy; exact fun q => by have := (pk_lLT ha (Nat.lt_of_le_of_lt h ha)).mp q; omega
theorem M_eq (a b : Nat) {x y : Int64} (ha : a < 2 ^ 63) (hb : b < 2 ^ 63) (hx : x = lN a := by rfl) (hy : y = lN b := by rfl) : x = y ↔ a = b := by subst hx; subst hy; exact pk_lEQ ha hb
theorem M_ne (a b : Nat) {x y : Int64} (h : a ≠ b) (ha : a < 2 ^ 63) (hb : b < 2 ^ 63) (hx : x = lN a := by rfl) (hy : y = lN b := by rfl) : ¬ x = y := by subst hx; subst hy; exact fun e => h ((pk_lEQ ha hb).mp e)
theorem M_rem {a b : Nat} (ha : a < 2 ^ 63) (h0 : 0 < b) (hb : b < 2 ^ 63) : (lN a - lN a / lN b * lN b = 0) ↔ a % b = 0 := by
  rw [pk_lRem ha h0 hb]
  have h1 : a % b < 2 ^ 63 := Nat.lt_of_le_of_lt (Nat.mod_le a b) ha
  exact M_eq (a % b) 0 h1 (by decide)
theorem L_rem {a b : Nat} (ha : a < 2 ^ 31) (h0 : 0 < b) (hb : b < 2 ^ 31) : (nI a - nI a / nI b * nI b = 0) ↔ a % b = 0 := by
  rw [pk_rem ha h0 hb]
  have h1 : a % b < 2 ^ 31 := Nat.lt_of_le_of_lt (Nat.mod_le a b) ha
  exact nI_eq (b := 0) h1 (by decide)
theorem upd_s {f : Nat → Int32} {k : Nat} {x : Int32} : upd f k x k = x := pk_us
theorem nI_i64 {n : Nat} (h : n < 2 ^ 31) : (nI n).toInt64 = lN n := nI_l h
theorem nI_m (a b : Nat) : nI a * nI b = nI (a * b) := pk_mul a b
