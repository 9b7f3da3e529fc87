/-! counting by a map that keeps things apart -/
theorem ct_inj {P Q : Nat → Bool} {M L : Nat} (f : Nat → Nat) (h1 : ∀ x, x < M → P x = true → f x < L ∧ Q (f x) = true) (h2 : ∀ x y, x < M → y < M → P x = true → P y = true → f x = f y → x = y) : fb_ct P M ≤ fb_ct Q L := by
  have hk : ∀ i, ∃ x, i < fb_ct P M → x < M ∧ P x = true ∧ fb_ct P x = i := by
    intro i
    by_cases c : i < fb_ct P M
    · obtain ⟨x, a, b, d⟩ := fb_ct_kth c
      exact ⟨x, fun _ => ⟨a, b, d⟩⟩
    · exact ⟨0, fun w => absurd w c⟩
  obtain ⟨g, hg⟩ := Classical.skolem.mp hk
  refine fb_holes _ _ (fun i => fb_ct Q (f (g i))) (fun i hi => ?_) (fun i j hij hj e => ?_)
  · obtain ⟨a, b, _⟩ := hg i hi
    obtain ⟨c1, c2⟩ := h1 (g i) a b
    have h3 := fb_ct_mono Q (show f (g i) + 1 ≤ L by omega)
    rw [fb_ct_succ, if_pos c2] at h3
    show fb_ct Q (f (g i)) < _
    omega
  · obtain ⟨a1, b1, d1⟩ := hg i (by omega)
    obtain ⟨a2, b2, d2⟩ := hg j hj
    have e : fb_ct Q (f (g i)) = fb_ct Q (f (g j)) := e
    have e2 := fb_ct_kth_one (h1 _ a1 b1).2 (h1 _ a2 b2).2 e
    have e3 := h2 _ _ a1 a2 b1 b2 e2
    rw [e3] at d1
    omega
/-- a sum over classes -/
theorem ct_cls {P : Nat → Bool} {Q : Nat → Nat → Bool} {M L : Nat} (hL : 0 < L) (E : Nat) (e f : Nat → Nat) (h1 : ∀ x, x < M → P x = true → e x < E ∧ f x < L ∧ Q (e x) (f x) = true) (h2 : ∀ x y, x < M → y < M → P x = true → P y = true → e x = e y → f x = f y → x = y) : fb_ct P M ≤ fb_sm (fun k => fb_ct (Q k) L) E := by
  have hs : ∀ E, fb_ct (fun i => Q (i / L) (i % L)) (E * L) = fb_sm (fun k => fb_ct (Q k) L) E := by
    intro E
    induction E with
    | zero => rw [Nat.zero_mul]; rfl
    | succ E ih =>
      rw [Nat.succ_mul, fb_ct_split, ih, fb_sm_succ]
      congr 1
      refine fb_ct_cong (fun k hk => ?_)
      have a : (E * L + k) / L = E := by
        rw [Nat.mul_comm, Nat.mul_add_div hL, Nat.div_eq_of_lt hk, Nat.add_zero]
      have b : (E * L + k) % L = k := by
        rw [Nat.mul_comm, Nat.mul_add_mod, Nat.mod_eq_of_lt hk]
      rw [a, b]
  rw [← hs E]
  refine ct_inj (fun x => e x * L + f x) (fun x hx hp => ?_) (fun x y hx hy hpx hpy ee => ?_)
  · obtain ⟨a, b, c⟩ := h1 x hx hp
    have d1 : (e x * L + f x) / L = e x := by
      rw [Nat.mul_comm, Nat.mul_add_div hL, Nat.div_eq_of_lt b, Nat.add_zero]
    have d2 : (e x * L + f x) % L = f x := by
      rw [Nat.mul_comm, Nat.mul_add_mod, Nat.mod_eq_of_lt b]
    refine ⟨?_, ?_⟩
    · have : (e x + 1) * L ≤ E * L := Nat.mul_le_mul_right L a
      rw [Nat.succ_mul] at this
      omega
    · show Q ((e x * L + f x) / L) ((e x * L + f x) % L) = true
      rw [d1, d2]; exact c
  · obtain ⟨_, b1, _⟩ := h1 x hx hpx
    obtain ⟨_, b2, _⟩ := h1 y hy hpy
    have ee : e x * L + f x = e y * L + f y := ee
    have q1 : e x = e y := by
      have d1 : (e x * L + f x) / L = e x := by rw [Nat.mul_comm, Nat.mul_add_div hL, Nat.div_eq_of_lt b1, Nat.add_zero]
      have d2 : (e y * L + f y) / L = e y := by rw [Nat.mul_comm, Nat.mul_add_div hL, Nat.div_eq_of_lt b2, Nat.add_zero]
      rw [← d1, ee, d2]
    refine h2 x y hx hy hpx hpy q1 ?_
    rw [q1] at ee
    omega
