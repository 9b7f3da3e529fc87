/-! chains -/
def sv (k n : Nat) : Nat := if k = 1 then sg n - n else if k = 2 then un n - n else if n = 1 then 0 else sg n - n - 1
theorem smK_sv {k n : Nat} (hk1 : 1 ≤ k) (hk3 : k ≤ 3) (h0 : 0 < n) (hn : n ≤ 10000000000) : smK k n = lN (sv k n) ∧ sv k n < 2 ^ 62 := by
  have h1 := sg_le h0 hn
  have h2 := un_le h0 hn
  have h3 := sg_ge h0
  have h4 := un_ge h0
  unfold smK sv
  rcases (show k = 1 ∨ k = 2 ∨ k = 3 by omega) with rfl | rfl | rfl
  · simp only [if_neg (show ¬ (1 : Nat) = 0 by decide), if_true]
    have : n ≤ sg n := by split at h3 <;> omega
    exact ⟨lN_sub this, by omega⟩
  · simp only [if_neg (show ¬ (2 : Nat) = 0 by decide), if_neg (show ¬ (2 : Nat) = 1 by decide), if_true]
    exact ⟨lN_sub h4, by omega⟩
  · simp only [if_neg (show ¬ (3 : Nat) = 0 by decide), if_neg (show ¬ (3 : Nat) = 1 by decide), if_neg (show ¬ (3 : Nat) = 2 by decide)]
    by_cases e : n = 1
    · rw [if_pos e, if_pos e]; exact ⟨rfl, by omega⟩
    · rw [if_neg e, if_neg e]
      rw [if_neg e] at h3
      rw [lN_sub (show n ≤ sg n by omega), show (1 : Int64) = lN 1 from rfl, lN_sub (show 1 ≤ sg n - n by omega)]
      exact ⟨rfl, by omega⟩
/-- the first place of x among the first c -/
def ffst (T : Nat → Nat) (x : Nat) : Nat → Nat
  | 0 => 0
  | c + 1 => if ffst T x c < c then ffst T x c else if T c = x then c else c + 1
theorem ffst_none {T : Nat → Nat} {x : Nat} : ∀ c, (∀ j, j < c → T j ≠ x) → ffst T x c = c
  | 0, _ => rfl
  | c + 1, h => by
    rw [ffst, ffst_none c (fun j hj => h j (by omega)), if_neg (Nat.lt_irrefl c), if_neg (h c (by omega))]
theorem ffst_at {T : Nat → Nat} {x i : Nat} : ∀ c, i < c → T i = x → (∀ j, j < i → T j ≠ x) → ffst T x c = i
  | 0, h, _, _ => absurd h (Nat.not_lt_zero i)
  | c + 1, h, h1, h2 => by
    rw [ffst]
    rcases Nat.eq_or_lt_of_le (Nat.le_of_lt_succ h) with r | r
    · subst r
      rw [ffst_none i h2, if_neg (Nat.lt_irrefl i), if_pos h1]
    · rw [ffst_at c r h1 h2, if_pos r]
theorem ffst_lt {T : Nat → Nat} {x c : Nat} (h : ffst T x c < c) : T (ffst T x c) = x := by
  induction c with
  | zero => exact absurd h (Nat.not_lt_zero _)
  | succ c ih =>
    rw [ffst] at h ⊢
    by_cases h1 : ffst T x c < c
    · rw [if_pos h1]; exact ih h1
    · rw [if_neg h1] at h ⊢
      by_cases h2 : T c = x
      · rw [if_pos h2]; exact h2
      · rw [if_neg h2] at h; omega
theorem ffst_ge {T : Nat → Nat} {x c : Nat} (h : ¬ ffst T x c < c) : ∀ j, j < c → T j ≠ x := by
  intro j hj e
  obtain ⟨i, ⟨hi, hx⟩, hm⟩ := pk_least (fun i => i < c ∧ T i = x) ⟨j, hj, e⟩
  have := ffst_at c hi hx (fun q hq he => hm q hq ⟨by omega, he⟩)
  omega
theorem ffst_le {T : Nat → Nat} {x : Nat} : ∀ c, ffst T x c ≤ c
  | 0 => Nat.le_refl 0
  | c + 1 => by
    have := ffst_le (T := T) (x := x) c
    rw [ffst]
    split
    · omega
    · split <;> omega
/-- the chain as both sides tell it: fuel, how many are told, they -> how many, they, fate, tail, round -/
def ce (k : Nat) : Nat → Nat → (Nat → Nat) → Nat × (Nat → Nat) × Nat × Nat × Nat
  | 0, c, T => (c, T, 2, c, 0)
  | f + 1, c, T => if sv k (T (c - 1)) = 0 then (c, T, 0, c, 0) else if 10000000000 < sv k (T (c - 1)) then (c, T, 2, c, 0) else if ffst T (sv k (T (c - 1))) c < c then (c, T, 1, ffst T (sv k (T (c - 1))) c, c - ffst T (sv k (T (c - 1))) c) else ce k f (c + 1) (fun i => if i = c then sv k (T (c - 1)) else T i)
theorem placeOf_f (N : Nat) (hN : 1000 ≤ N) {c x : Nat} (hc : c ≤ 201) (hx : x < 2 ^ 63) {a : Nat → Int64} {T : Nat → Nat} (hT : ∀ i, i < c → a i = lN (T i) ∧ T i < 2 ^ 63) : f_X0_placeOf N (lN x) (nI c) a = some (nI (ffst T x c)) := by
  unfold f_X0_placeOf l_X0_placeOf_2
  refine lp_eq _ (fun (z : Int32) => ∃ i : Nat, z = nI i ∧ i ≤ c ∧ ∀ j, j < i → T j ≠ x) (fun z => c - z.toNatClampNeg) ?_ N _ ?_ ?_
  · intro z K hI hK
    obtain ⟨i, rfl, hi, hno⟩ := hI
    show s_X0_placeOf_2 N (lN x) (nI c) a K (nI i) = _
    unfold s_X0_placeOf_2
    by_cases h : i = c
    · rw [if_pos (L_le c i (by omega) (by omega)), ffst_none c (by rw [← h]; exact hno)]
    · rw [if_neg (L_nle c i (by omega) (by omega)), if_neg (L_nle 201 i (by omega) (by decide)), if_neg (L_in i 201 (by omega) (by omega)), nI_clamp (by omega), (hT i (by omega)).1]
      by_cases e : T i = x
      · rw [if_pos (by rw [e]), ffst_at c (by omega) e hno]
      · rw [if_neg (M_ne (T i) x e (hT i (by omega)).2 hx)]
        simp only [xl]
        rw [show nI i + (1 : Int32) = nI (i + 1) from nI_1 i]
        refine hK _ ⟨i + 1, rfl, by omega, fun j hj => ?_⟩ ?_
        · rcases Nat.eq_or_lt_of_le (Nat.le_of_lt_succ hj) with r | r
          · subst r; exact e
          · exact hno j r
        · show c - (nI (i + 1)).toNatClampNeg < c - (nI i).toNatClampNeg
          rw [nI_clamp (by omega), nI_clamp (by omega)]; omega
  · exact ⟨0, rfl, by omega, fun j hj => by omega⟩
  · show c - (0 : Int32).toNatClampNeg < N
    omega
def gm (T : Nat → Nat) : Nat → Nat
  | 0 => 0
  | c + 1 => if T c < gm T c then gm T c else T c
theorem gm_cong {S T : Nat → Nat} : ∀ c, (∀ i, i < c → S i = T i) → gm S c = gm T c
  | 0, _ => rfl
  | c + 1, h => by rw [gm, gm, gm_cong c (fun i hi => h i (by omega)), h c (by omega)]
theorem gm_b {T : Nat → Nat} {b : Nat} : ∀ c, (∀ i, i < c → T i ≤ b) → gm T c ≤ b
  | 0, _ => Nat.zero_le b
  | c + 1, h => by
    have h1 := gm_b c (fun i hi => h i (by omega))
    have h2 := h c (by omega)
    rw [gm]
    split <;> omega
/-- goesOn, at many = c < 201 -/
theorem goesOn_f (N : Nat) (hN : 1000 ≤ N) {c x : Nat} (hc1 : 1 ≤ c) (hc : c < 201) (hx : x < 2 ^ 62) {a : Nat → Int64} {T : Nat → Nat} (hT : ∀ i, i < c → a i = lN (T i) ∧ 1 ≤ T i ∧ T i ≤ 10000000000) (en tl : Int32) : f_X0_goesOn N (lN x) (nI c) en tl (0 : Int32) (lN (gm T c)) a =
    if x = 0 then some ((0 : Int32), nI c, (0 : Int32), nI c, (0 : Int32), lN (gm T c), a) else if 10000000000 < x then some ((0 : Int32), nI c, (2 : Int32), nI c, (0 : Int32), lN (gm T c), a) else if ffst T x c < c then some ((0 : Int32), nI c, (1 : Int32), nI (ffst T x c), nI (c - ffst T x c), lN (gm T c), a) else some ((1 : Int32), nI (c + 1), en, tl, (0 : Int32), lN (gm (fun i => if i = c then x else T i) (c + 1)), vp_updL a c (lN x)) := by
  have hgb : gm T c ≤ 10000000000 := gm_b c (fun i hi => (hT i hi).2.2)
  unfold f_X0_goesOn
  by_cases h0 : x = 0
  · subst h0
    rw [if_pos (show lN 0 = (0 : Int64) from rfl), if_pos rfl]
    unfold j_X0_goesOn_24 j_X0_goesOn_36
    rw [if_pos (show lN 0 = (0 : Int64) from rfl)]
  · rw [if_neg (M_ne x 0 h0 (by omega) (by decide)), if_neg h0]
    by_cases h1 : 10000000000 < x
    · rw [if_pos (M_lt 10000000000 x h1 (by omega)), if_pos h1]
      unfold j_X0_goesOn_24 j_X0_goesOn_36
      rw [if_neg (M_ne x 0 h0 (by omega) (by decide))]
    · rw [if_neg (M_nlt 10000000000 x (by omega) (by decide)), if_neg h1, if_pos (L_lt c 201 hc (by decide)), placeOf_f N hN (by omega) (by omega) (fun i hi => ⟨(hT i hi).1, by have := (hT i hi).2.2; omega⟩), ob]
      have hf := ffst_le (T := T) (x := x) c
      by_cases h2 : ffst T x c < c
      · rw [if_neg (L_nle c (ffst T x c) h2 (by omega)), if_pos h2]
        simp only [xl]
        rw [pk_sub hf]
      · rw [if_pos (L_le c (ffst T x c) (by omega) (by omega)), if_neg (L_in c 201 hc (by omega)), if_neg h2]
        simp only [xl]
        rw [nI_clamp (by omega), show nI c + (1 : Int32) = nI (c + 1) from nI_1 c]
        have e : (if lN x < lN (gm T c) then lN (gm T c) else lN x) = lN (gm (fun i => if i = c then x else T i) (c + 1)) := by
          rw [gm, if_pos rfl, gm_cong (S := fun i => if i = c then x else T i) (T := T) c (fun i hi => by simp only [if_neg (Nat.ne_of_lt hi)])]
          by_cases h3 : x < gm T c
          · rw [if_pos h3, if_pos (M_lt x (gm T c) h3 (by omega))]
          · rw [if_neg h3, if_neg (M_nlt x (gm T c) (by omega) (by omega))]
        rw [e]
theorem follow_l (N : Nat) (hN : 2 ^ 40 ≤ N) {a_list : Nat → Int32} {n_list : Nat} (hPT : PT n_list a_list) {k : Nat} (hk1 : 1 ≤ k) (hk3 : k ≤ 3) : ∀ (f n c : Nat) (T : Nat → Nat) (a : Nat → Int64) (u : Int32) (num : Int64) (P : Nat → Int64) (Q : Nat → Int32) (en tl : Int32), c + f = 201 → 1 ≤ c → (∀ i, i < c → a i = lN (T i) ∧ 1 ≤ T i ∧ T i ≤ 10000000000) → SpOK u num P Q → f + 1 < n → ∃ (u' : Int32) (num' : Int64) (P' : Nat → Int64) (Q' : Nat → Int32) (a' : Nat → Int64), l_X0_follow_60 N (nI k) n_list a_list n ((1 : Int32), nI c, u, num, nI c, en, tl, (0 : Int32), lN (gm T c), P, Q, a) = some (u', num', nI (ce k f c T).1, nI k, nI (ce k f c T).2.2.1, nI (ce k f c T).2.2.2.1, nI (ce k f c T).2.2.2.2, lN (gm (ce k f c T).2.1 (ce k f c T).1), P', Q', a') ∧ SpOK u' num' P' Q' ∧ ∀ i, i < (ce k f c T).1 → a' i = lN ((ce k f c T).2.1 i) := by
  have h40 : (2 : Nat) ^ 40 = 1099511627776 := by decide
  have one : ¬ (1 : Int32) = 0 := by decide
  intro f
  induction f with
  | zero =>
    intro n c T a u num P Q en tl hc hc1 hT hS hn
    obtain ⟨n, rfl⟩ : ∃ z, n = z + 1 := ⟨n - 1, by omega⟩
    refine ⟨u, num, P, Q, a, ?_, hS, fun i hi => (hT i hi).1⟩
    show s_X0_follow_60 N (nI k) n_list a_list (l_X0_follow_60 N (nI k) n_list a_list n) (1 : Int32) (nI c) u num (nI c) en tl (0 : Int32) (lN (gm T c)) P Q a = _
    unfold s_X0_follow_60
    rw [if_neg one, if_pos (L_le 201 c (by omega) (by omega))]
    unfold j_X0_follow_105
    rw [if_neg one]
    rfl
  | succ f ih =>
    intro n c T a u num P Q en tl hc hc1 hT hS hn
    obtain ⟨n, rfl⟩ : ∃ z, n = z + 2 := ⟨n - 2, by omega⟩
    have hp := hT (c - 1) (by omega)
    obtain ⟨u1, num1, P1, Q1, s1, s2⟩ := summed_f N (by omega) hPT hS hp.2.1 hp.2.2 hk3
    obtain ⟨e1, e2⟩ := smK_sv hk1 hk3 hp.2.1 hp.2.2
    rw [e1] at s1
    have hg := goesOn_f N (by omega) hc1 (show c < 201 by omega) e2 hT en tl
    have hpre : ∀ w, s_X0_follow_60 N (nI k) n_list a_list w (1 : Int32) (nI c) u num (nI c) en tl (0 : Int32) (lN (gm T c)) P Q a = Option.bind (f_X0_goesOn N (lN (sv k (T (c - 1)))) (nI c) en tl (0 : Int32) (lN (gm T c)) a) (fun r => w (r.1, nI (c + 1), u1, num1, r.2.1, r.2.2.1, r.2.2.2.1, r.2.2.2.2.1, r.2.2.2.2.2.1, P1, Q1, r.2.2.2.2.2.2)) := by
      intro w
      unfold s_X0_follow_60
      rw [if_neg one, if_neg (L_nle 201 c (by omega) (by decide))]
      simp only [xl]
      rw [show nI c - (1 : Int32) = nI (c - 1) from pk_sub hc1, if_neg (L_in (c - 1) 201 (by omega) (by omega)), nI_clamp (by omega), hp.1, s1, ob, show nI c + (1 : Int32) = nI (c + 1) from nI_1 c]
    have stop : ∀ (en2 tl2 rd2 : Int32), l_X0_follow_60 N (nI k) n_list a_list (n + 1) ((0 : Int32), nI (c + 1), u1, num1, nI c, en2, tl2, rd2, lN (gm T c), P1, Q1, a) = some (u1, num1, nI c, nI k, en2, tl2, rd2, lN (gm T c), P1, Q1, a) := by
      intro en2 tl2 rd2
      show s_X0_follow_60 N (nI k) n_list a_list (l_X0_follow_60 N (nI k) n_list a_list n) (0 : Int32) (nI (c + 1)) u1 num1 (nI c) en2 tl2 rd2 (lN (gm T c)) P1 Q1 a = _
      unfold s_X0_follow_60
      rw [if_pos rfl]
      unfold j_X0_follow_105
      rw [if_pos rfl]
    have hstep : ∀ X, l_X0_follow_60 N (nI k) n_list a_list (n + 2) X = s_X0_follow_60 N (nI k) n_list a_list (l_X0_follow_60 N (nI k) n_list a_list (n + 1)) X.1 X.2.1 X.2.2.1 X.2.2.2.1 X.2.2.2.2.1 X.2.2.2.2.2.1 X.2.2.2.2.2.2.1 X.2.2.2.2.2.2.2.1 X.2.2.2.2.2.2.2.2.1 X.2.2.2.2.2.2.2.2.2.1 X.2.2.2.2.2.2.2.2.2.2.1 X.2.2.2.2.2.2.2.2.2.2.2 := fun X => rfl
    rw [hstep]
    simp only
    rw [hpre, hg]
    rw [ce]
    generalize hxe : sv k (T (c - 1)) = x at *
    by_cases h0 : x = 0
    · rw [if_pos h0, if_pos h0, ob]
      exact ⟨u1, num1, P1, Q1, a, stop _ _ _, s2, fun i hi => (hT i hi).1⟩
    · rw [if_neg h0, if_neg h0]
      by_cases h1 : 10000000000 < x
      · rw [if_pos h1, if_pos h1, ob]
        exact ⟨u1, num1, P1, Q1, a, stop _ _ _, s2, fun i hi => (hT i hi).1⟩
      · rw [if_neg h1, if_neg h1]
        by_cases h2 : ffst T x c < c
        · rw [if_pos h2, if_pos h2, ob]
          exact ⟨u1, num1, P1, Q1, a, stop _ _ _, s2, fun i hi => (hT i hi).1⟩
        · rw [if_neg h2, if_neg h2, ob]
          refine ih (n + 1) (c + 1) (fun i => if i = c then x else T i) (vp_updL a c (lN x)) u1 num1 P1 Q1 en tl (by omega) (by omega) (fun i hi => ?_) s2 (by omega)
          by_cases e : i = c
          · subst e
            simp only [if_true]
            exact ⟨pk_uLs, by omega, by omega⟩
          · simp only [if_neg e]
            rw [pk_uLn e]
            exact hT i (by omega)
