/-! rings, bare, friends, reached, records -/
def rb (k b n : Nat) : Nat → Nat → Bool
  | 0, _ => false
  | d + 1, x => if tbv k x < n ∨ b < tbv k x then false else if tbv k x = n then decide (d = 0) else rb k b n d (tbv k x)
theorem beginsRing_f (N : Nat) {A B : Nat → Int32} (hT : TT A B) {k b n L : Nat} (hk : k ≤ 3) (hL : L < 2 ^ 20) (hb : b ≤ 50000) (hn : n ≤ 50000) : ∀ d x s f, s + d = L + 1 → d < f → x ≤ 50000 → l_X5_beginsRing_7 N (nI k) (nI L) (nI b) (nI n) 50001 A 50001 B f (nI x, nI s) = some (if rb k b n d x then 1 else 0)
  | 0, x, s, f + 1, hs, hf, hx => by
    show s_X5_beginsRing_7 N (nI k) (nI L) (nI b) (nI n) 50001 A 50001 B _ (nI x) (nI s) = _
    unfold s_X5_beginsRing_7 rb
    rw [if_pos (L_lt L s (by omega) (by omega))]
    rfl
  | d + 1, x, s, f + 1, hs, hf, hx => by
    show s_X5_beginsRing_7 N (nI k) (nI L) (nI b) (nI n) 50001 A 50001 B (l_X5_beginsRing_7 N (nI k) (nI L) (nI b) (nI n) 50001 A 50001 B f) (nI x) (nI s) = _
    unfold s_X5_beginsRing_7 rb
    have h28 := tbv_lt (x := x) hk
    rw [if_neg (L_nlt L s (by omega) (by omega)), summed7 N hT hk (by omega), ob]
    generalize hr : tbv k x = r at *
    by_cases c1 : r < n
    · rw [if_pos (L_lt r n c1 (by omega)), if_pos (Or.inl c1)]; rfl
    · rw [if_neg (L_nlt r n (by omega) (by omega))]
      by_cases c2 : b < r
      · rw [if_neg (L_nle r b c2 (by omega)), if_pos (Or.inr c2)]; rfl
      · rw [if_pos (L_le r b (by omega) (by omega)), if_neg (show ¬ (r < n ∨ b < r) from fun q => by omega)]
        by_cases c3 : r = n
        · rw [if_pos (show nI r = nI n by rw [c3]), if_pos c3]
          unfold j_X5_beginsRing_47
          by_cases c4 : d = 0
          · rw [if_pos (by rw [show s = L by omega]), c4]; rfl
          · rw [if_neg (L_ne s L (by omega) (by omega) (by omega))]
            simp [c4]
        · rw [if_neg (L_ne r n c3 (by omega) (by omega)), if_neg c3]
          simp only [xl, nI_1]
          exact beginsRing_f N hT hk hL hb hn d r (s + 1) f (by omega) (by omega) (by omega)
theorem begins_f (N : Nat) {t : Nat → Int32} {k b n L : Nat} (hk : k ≤ 3) (hT : MT k t) (hL : L < 2 ^ 20) (hb : b ≤ 50000) (hn : n ≤ 50000) : ∀ d x s f, s + d = L + 1 → d + 1 < f → x ≤ 50000 → (d = 0 → x ≠ n) → l_X12_begins_6 N (nI n) (nI L) (nI b) t f (nI x, nI s) = some (if rb k b n d x then 1 else 0)
  | 0, x, s, f + 1, hs, hf, hx, h0 => by
    show s_X12_begins_6 N (nI n) (nI L) (nI b) t _ (nI x) (nI s) = _
    unfold s_X12_begins_6 rb j_X12_begins_53
    rw [if_pos (L_lt L s (by omega) (by omega)), if_neg (L_ne x n (h0 rfl) (by omega) (by omega))]
    rfl
  | d + 1, x, s, f + 1, hs, hf, hx, h0 => by
    show s_X12_begins_6 N (nI n) (nI L) (nI b) t (l_X12_begins_6 N (nI n) (nI L) (nI b) t f) (nI x) (nI s) = _
    unfold s_X12_begins_6 rb
    have h28 := tbv_lt (x := x) hk
    rw [if_neg (L_nlt L s (by omega) (by omega)), if_neg (L_in x 50001 (by omega) (by omega)), nI_clamp (by omega), hT x hx]
    simp only [xl, nI_1]
    generalize hr : tbv k x = r at *
    by_cases c1 : r < n
    · rw [if_pos (L_lt r n c1 (by omega)), if_pos (Or.inl c1)]; rfl
    · rw [if_neg (L_nlt r n (by omega) (by omega))]
      by_cases c2 : b < r
      · rw [if_pos (L_lt b r c2 (by omega)), if_pos (Or.inr c2)]; rfl
      · rw [if_neg (L_nlt b r (by omega) (by omega)), if_neg (show ¬ (r < n ∨ b < r) from fun q => by omega)]
        by_cases c3 : r = n
        · rw [if_pos (show nI r = nI n by rw [c3]), if_pos c3]
          by_cases c4 : d = 0
          · rw [if_pos (L_le L s (by omega) (by omega))]
            match f, hf with
            | f + 1, hf =>
              show s_X12_begins_6 N (nI n) (nI L) (nI b) t _ (nI r) (nI (s + 1)) = _
              unfold s_X12_begins_6 j_X12_begins_53
              rw [if_pos (L_lt L (s + 1) (by omega) (by omega)), if_pos (by rw [c3]), c4]; rfl
          · rw [if_neg (L_nle L s (by omega) (by omega))]
            simp [c4]
        · rw [if_neg (L_ne r n c3 (by omega) (by omega)), if_neg c3]
          exact begins_f N hk hT hL hb hn d r (s + 1) f (by omega) (by omega) (by omega) (fun _ => c3)
theorem ite01 (c : Prop) [Decidable c] : ((if c then (1 : Int32) else 0) = 0) ↔ ¬ c := by
  by_cases h : c
  · simp [h]
  · simp [h]
theorem ring_c (N : Nat) (hN : 2 ^ 40 ≤ N) {A B : Nat → Int32} (hT : TT A B) {k L b : Nat} (hk : k ≤ 3) (hL : L ≤ 9) (hb : b ≤ 50000) (i pw ps : Int32) : ∃ w s, f_X5_ringAt N (nI k) (nI L) (nI b) i pw ps 50001 A 50001 B = some (pkA (fun n => rb k b n L n) i b 1 0, w, s) := by
  have h40 : (2 : Nat) ^ 40 = 1099511627776 := by decide
  unfold f_X5_ringAt f_X2_begin
  rw [ob]
  unfold l_X5_ringAt_12
  refine pick_g (fun n c z => z = (nI n, nI c)) (fun n => rb k b n L n) i b (fun r a => ∃ w s, r = some (a, w, s)) ?_ ?_ b 1 0 _ N (by omega) (by omega) (by omega) (by omega) rfl
  · rintro c z K hc rfl
    show ∃ w s, s_X5_ringAt_12 N (nI k) (nI L) (nI b) i 50001 A 50001 B K (nI (b + 1)) (nI c) = _
    unfold s_X5_ringAt_12 j_X5_ringAt_49
    rw [if_pos (L_lt b (b + 1) (by omega) (by omega)), notFound_f, ob]
    exact ⟨_, _, rfl⟩
  · rintro n c z K h1 h2 h3 rfl
    have e : s_X5_ringAt_12 N (nI k) (nI L) (nI b) i 50001 A 50001 B K (nI n) (nI c) = (if rb k b n L n = true then (if nI c = i then some (nI n, i, nI (c + 1)) else K (nI (n + 1), nI (c + 1))) else K (nI (n + 1), nI c)) := by
      unfold s_X5_ringAt_12 f_X5_beginsRing
      rw [if_neg (L_nlt b n h2 (by omega)), show ((nI n, (1 : Int32)) : Int32 × Int32) = (nI n, nI 1) from rfl, beginsRing_f N hT hk (by omega) hb (by omega) L n 1 N (by omega) (by omega) (by omega), ob, isNext_f, ob]
      simp only [xl, nI_1, ite01]
      by_cases hr : rb k b n L n = true
      · simp [hr]
      · simp [hr]
    show (_ → (_ → ∃ w s, s_X5_ringAt_12 N (nI k) (nI L) (nI b) i 50001 A 50001 B K (nI n) (nI c) = _) ∧ (_ → ∃ z', _ ∧ s_X5_ringAt_12 N (nI k) (nI L) (nI b) i 50001 A 50001 B K (nI n) (nI c) = _)) ∧ (_ → ∃ z', _ ∧ s_X5_ringAt_12 N (nI k) (nI L) (nI b) i 50001 A 50001 B K (nI n) (nI c) = _)
    rw [e]
    refine ⟨fun hp => ⟨fun hi => ?_, fun hi => ⟨_, rfl, ?_⟩⟩, fun hp => ⟨_, rfl, ?_⟩⟩
    · rw [if_pos hp, if_pos hi]; exact ⟨_, _, rfl⟩
    · rw [if_pos hp, if_neg hi]
    · rw [if_neg (by rw [hp]; decide)]
theorem ring_m (N : Nat) (hN : 2 ^ 40 ≤ N) {t : Nat → Int32} {k L b : Nat} (hk : k ≤ 3) (hL1 : 1 ≤ L) (hL : L ≤ 9) (hb : b ≤ 50000) (hT : MT k t) {i : Int32} (hv : (-1 : Int32) ≤ i) (pm tk : Int32) (ps : Nat → Int64) : l_X12_rings_50 N (nI L) (nI b) i pm tk ps t N ((0 : Int32), (1 : Int32)) = some (pkA (fun n => rb k b n L n) i b 1 0, pm, tk, ps, t) := by
  have h40 : (2 : Nat) ^ 40 = 1099511627776 := by decide
  unfold l_X12_rings_50
  refine pick_g (fun n c z => z = (nI c, nI n)) (fun n => rb k b n L n) i b (fun r a => r = some (a, pm, tk, ps, t)) ?_ ?_ b 1 0 _ N (by omega) (by omega) (by omega) (by omega) rfl
  · rintro c z K hc rfl
    show s_X12_rings_50 N (nI L) (nI b) i pm tk ps t K (nI c) (nI (b + 1)) = _
    unfold s_X12_rings_50 j_X12_rings_86
    rw [if_pos (L_lt b (b + 1) (by omega) (by omega))]
    by_cases hi : i = -1
    · rw [if_neg (fun q => (mend hv).mp q hi), if_pos hi]
    · rw [if_pos ((mend hv).mpr hi), if_neg hi]
  · rintro n c z K h1 h2 h3 rfl
    have e : s_X12_rings_50 N (nI L) (nI b) i pm tk ps t K (nI c) (nI n) = (if rb k b n L n = true then (if nI c = i then some (nI n, pm, tk, ps, t) else K (nI (c + 1), nI (n + 1))) else K (nI c, nI (n + 1))) := by
      unfold s_X12_rings_50 f_X12_begins
      rw [if_neg (L_nlt b n h2 (by omega)), show ((nI n, (1 : Int32)) : Int32 × Int32) = (nI n, nI 1) from rfl, begins_f N hk hT (by omega) hb (by omega) L n 1 N (by omega) (by omega) (by omega) (fun q => by omega), ob]
      simp only [xl, nI_1, ite01]
      by_cases hr : rb k b n L n = true
      · simp [hr]
      · simp [hr]
    show (_ → (_ → s_X12_rings_50 N (nI L) (nI b) i pm tk ps t K (nI c) (nI n) = _) ∧ (_ → ∃ z', _ ∧ s_X12_rings_50 N (nI L) (nI b) i pm tk ps t K (nI c) (nI n) = _)) ∧ (_ → ∃ z', _ ∧ s_X12_rings_50 N (nI L) (nI b) i pm tk ps t K (nI c) (nI n) = _)
    rw [e]
    refine ⟨fun hp => ⟨fun hi => ?_, fun hi => ⟨_, rfl, ?_⟩⟩, fun hp => ⟨_, rfl, ?_⟩⟩
    · rw [if_pos hp, if_pos hi]
    · rw [if_pos hp, if_neg hi]
    · rw [if_neg (by rw [hp]; decide)]
theorem rings_eq (N : Nat) (hN : 2 ^ 40 ≤ N) (v1 v2 v3 v4 pw ps : Int32) {n_row n_all n_apart : Nat} {a_row a_all a_apart : Nat → Int32} (hT : TbOK n_row n_all a_all n_apart a_apart) : TRes (fun MC MS => f_X11_rings N MC MS v1 v2 v3 v4 pw ps n_row a_row n_all a_all n_apart a_apart) (fun pm tk mp mt => f_X12_rings N v1 v2 v3 v4 pm tk mp mt) n_row n_all n_apart := by
  rcases with_f N v1 1 3 (by decide) (by decide) with ⟨k, _, hk, rfl, w1, w2⟩ | ⟨w1, w2⟩
  · have w1 : f_X11_within N (nI k) (1 : Int32) (3 : Int32) = some 1 := w1
    have w2 : f_X12_in N (nI k).toInt64 (1 : Int64) (3 : Int64) = some 1 := w2
    rcases with_f N v2 1 9 (by decide) (by decide) with ⟨m, hm1, hm, rfl, x1, x2⟩ | ⟨x1, x2⟩
    · have x1 : f_X11_within N (nI m) (1 : Int32) (9 : Int32) = some 1 := x1
      have x2 : f_X12_in N (nI m).toInt64 (1 : Int64) (9 : Int64) = some 1 := x2
      rcases bnd_f N v3 with ⟨b, hb1, hb, rfl, y1, y2, _⟩ | ⟨y1, y2, _⟩
      · by_cases hv : (-1 : Int32) ≤ v4
        · refine TRes.good N hN (a_row := a_row) hT (pkA (fun n => rb k b n m n) v4 b 1 0) (fun MC MS ar A B p1 p2 hbu hz => ?_) (fun pm tk mp mt hM => ?_)
          · obtain ⟨eC, eS⟩ := c7_eq hT
            obtain ⟨w, s, e⟩ := ring_c N hN p2 hk hm hb v4 pw ps
            refine ⟨w, s, ar, ?_⟩
            unfold f_X11_rings
            simp only [eC, eS, w1, x1, y1, ob, if_neg one0, if_pos (z2 MC MS), if_pos hv, if_pos hbu, p1, e]
          · obtain ⟨pm', mp', t, l1, l2⟩ := layTable_f N hN hk hM pm mp
            refine ⟨pm', nI k, mp', t, ?_, MtOK.done hk l2⟩
            show f_X12_rings N (nI k) (nI m) (nI b) v4 pm tk mp mt = _
            unfold f_X12_rings
            simp only [w2, x2, y2, ob, if_neg one0, if_pos hv, l1, ring_m N hN hk hm1 hm hb l2 hv]
        · refine TRes.bad (a_row := a_row) hT (pw := pw) (ps := ps) (fun MC MS => ?_) (fun pm tk mp mt => ?_)
          · unfold f_X11_rings
            simp only [w1, x1, y1, ob, if_neg one0, if_pos (z2 MC MS), if_neg hv]
          · unfold f_X12_rings
            simp only [w2, x2, y2, ob, if_neg one0, if_neg hv]
      · refine TRes.bad (a_row := a_row) hT (pw := pw) (ps := ps) (fun MC MS => ?_) (fun pm tk mp mt => ?_)
        · unfold f_X11_rings
          simp only [w1, x1, y1, ob, if_neg one0, if_pos (z2 MC MS), if_true]
        · unfold f_X12_rings
          simp only [w2, x2, y2, ob, if_neg one0, if_true]
    · have x1 : f_X11_within N v2 (1 : Int32) (9 : Int32) = some 0 := x1
      have x2 : f_X12_in N v2.toInt64 (1 : Int64) (9 : Int64) = some 0 := x2
      refine TRes.bad (a_row := a_row) hT (pw := pw) (ps := ps) (fun MC MS => ?_) (fun pm tk mp mt => ?_)
      · unfold f_X11_rings
        simp only [w1, x1, ob, if_neg one0, if_pos (z2 MC MS), if_true]
      · unfold f_X12_rings
        simp only [w2, x2, ob, if_neg one0, if_true]
  · have w1 : f_X11_within N v1 (1 : Int32) (3 : Int32) = some 0 := w1
    have w2 : f_X12_in N v1.toInt64 (1 : Int64) (3 : Int64) = some 0 := w2
    refine TRes.bad (a_row := a_row) hT (pw := pw) (ps := ps) (fun MC MS => ?_) (fun pm tk mp mt => ?_)
    · unfold f_X11_rings
      simp only [w1, ob, if_pos (z2 MC MS), if_true]
    · unfold f_X12_rings
      simp only [w2, ob, if_true]
/-! friends -/
def fE (n v : Nat) : Bool := decide ((nI (tbv 0 v)).toInt64 * (nI n).toInt64 = (nI (tbv 0 n)).toInt64 * (nI v).toInt64)
theorem fr_c (N : Nat) (hN : 2 ^ 40 ≤ N) {A B : Nat → Int32} (hT : TT A B) {x b : Nat} (hx : x ≤ 50000) (hb : b ≤ 50000) (i pw ps : Int32) : ∃ w s, f_X5_friendAt N (nI x) (nI b) i pw ps 50001 A 50001 B = some (pkA (fun n => decide (n ≠ x) && fE x n) i b 1 0, w, s) := by
  have h40 : (2 : Nat) ^ 40 = 1099511627776 := by decide
  unfold f_X5_friendAt f_X2_begin
  have s0 : ∀ n, n ≤ 50000 → f_X7_summed N (0 : Int32) (nI n) 50001 A 50001 B = some (nI (tbv 0 n)) := fun n hn => summed7 N hT (k := 0) (by decide) (by omega)
  rw [s0 x hx, ob]
  simp only [xl]
  rw [ob]
  unfold l_X5_friendAt_23
  refine pick_g (fun n c z => z = (nI n, nI c)) (fun n => decide (n ≠ x) && fE x n) i b (fun r a => ∃ w s, r = some (a, w, s)) ?_ ?_ b 1 0 _ N (by omega) (by omega) (by omega) (by omega) rfl
  · rintro c z K hc rfl
    show ∃ w s, s_X5_friendAt_23 N (nI x) (nI b) (nI (tbv 0 x)).toInt64 i 50001 A 50001 B K (nI (b + 1)) (nI c) = _
    unfold s_X5_friendAt_23 j_X5_friendAt_90
    rw [if_pos (L_lt b (b + 1) (by omega) (by omega)), notFound_f, ob]
    exact ⟨_, _, rfl⟩
  · rintro n c z K h1 h2 h3 rfl
    have e : s_X5_friendAt_23 N (nI x) (nI b) (nI (tbv 0 x)).toInt64 i 50001 A 50001 B K (nI n) (nI c) = (if (decide (n ≠ x) && fE x n) = true then (if nI c = i then some (nI n, i, nI (c + 1)) else K (nI (n + 1), nI (c + 1))) else K (nI (n + 1), nI c)) := by
      unfold s_X5_friendAt_23 j_X5_friendAt_58
      rw [if_neg (L_nlt b n h2 (by omega)), s0 n (by omega), ob, isNext_f, ob]
      simp only [xl, nI_1, ite01, if_neg one0, if_true]
      have hq : (nI n = nI x) ↔ n = x := nI_eq (by omega) (by omega)
      by_cases c1 : n = x
      · simp [c1]
      · have c1' : ¬ nI n = nI x := fun q => c1 (hq.mp q)
        by_cases c2 : (nI (tbv 0 n)).toInt64 * (nI x).toInt64 = (nI (tbv 0 x)).toInt64 * (nI n).toInt64
        · simp [c1, c1', c2, fE]
        · simp [c1, c1', c2, fE]
    show (_ → (_ → ∃ w s, s_X5_friendAt_23 N (nI x) (nI b) (nI (tbv 0 x)).toInt64 i 50001 A 50001 B K (nI n) (nI c) = _) ∧ (_ → ∃ z', _ ∧ s_X5_friendAt_23 N (nI x) (nI b) (nI (tbv 0 x)).toInt64 i 50001 A 50001 B K (nI n) (nI c) = _)) ∧ (_ → ∃ z', _ ∧ s_X5_friendAt_23 N (nI x) (nI b) (nI (tbv 0 x)).toInt64 i 50001 A 50001 B K (nI n) (nI c) = _)
    rw [e]
    refine ⟨fun hp => ⟨fun hi => ?_, fun hi => ⟨_, rfl, ?_⟩⟩, fun hp => ⟨_, rfl, ?_⟩⟩
    · rw [if_pos hp, if_pos hi]; exact ⟨_, _, rfl⟩
    · rw [if_pos hp, if_neg hi]
    · rw [if_neg (by rw [hp]; decide)]
theorem fr_m (N : Nat) (hN : 2 ^ 40 ≤ N) {t : Nat → Int32} {x b : Nat} (hx : x ≤ 50000) (hb : b ≤ 50000) (hT : MT 0 t) {i : Int32} (hv : (-1 : Int32) ≤ i) (pm tk : Int32) (ps : Nat → Int64) : l_X12_friends_37 N (nI x) (nI b) i pm tk ps t N ((0 : Int32), (1 : Int32)) = some (pkA (fun n => decide (n ≠ x) && fE x n) i b 1 0, pm, tk, ps, t) := by
  have h40 : (2 : Nat) ^ 40 = 1099511627776 := by decide
  unfold l_X12_friends_37
  refine pick_g (fun n c z => z = (nI c, nI n)) (fun n => decide (n ≠ x) && fE x n) i b (fun r a => r = some (a, pm, tk, ps, t)) ?_ ?_ b 1 0 _ N (by omega) (by omega) (by omega) (by omega) rfl
  · rintro c z K hc rfl
    show s_X12_friends_37 N (nI x) (nI b) i pm tk ps t K (nI c) (nI (b + 1)) = _
    unfold s_X12_friends_37 j_X12_friends_93
    rw [if_pos (L_lt b (b + 1) (by omega) (by omega))]
    by_cases hi : i = -1
    · rw [if_neg (fun q => (mend hv).mp q hi), if_pos hi]
    · rw [if_pos ((mend hv).mpr hi), if_neg hi]
  · rintro n c z K h1 h2 h3 rfl
    have e : s_X12_friends_37 N (nI x) (nI b) i pm tk ps t K (nI c) (nI n) = (if (decide (n ≠ x) && fE x n) = true then (if nI c = i then some (nI n, pm, tk, ps, t) else K (nI (c + 1), nI (n + 1))) else K (nI c, nI (n + 1))) := by
      unfold s_X12_friends_37
      have hq : (nI n = nI x) ↔ n = x := nI_eq (by omega) (by omega)
      rw [if_neg (L_nlt b n h2 (by omega)), if_neg (L_in n 50001 (by omega) (by omega)), if_neg (L_in x 50001 (by omega) (by omega)), nI_clamp (by omega), nI_clamp (by omega), hT n (by omega), hT x (by omega)]
      simp only [xl, nI_1]
      by_cases c1 : n = x
      · simp [c1]
      · have c1' : ¬ nI n = nI x := fun q => c1 (hq.mp q)
        by_cases c2 : (nI (tbv 0 n)).toInt64 * (nI x).toInt64 = (nI (tbv 0 x)).toInt64 * (nI n).toInt64
        · simp [c1, c1', c2, fE]
        · simp [c1, c1', c2, fE]
    show (_ → (_ → s_X12_friends_37 N (nI x) (nI b) i pm tk ps t K (nI c) (nI n) = _) ∧ (_ → ∃ z', _ ∧ s_X12_friends_37 N (nI x) (nI b) i pm tk ps t K (nI c) (nI n) = _)) ∧ (_ → ∃ z', _ ∧ s_X12_friends_37 N (nI x) (nI b) i pm tk ps t K (nI c) (nI n) = _)
    rw [e]
    refine ⟨fun hp => ⟨fun hi => ?_, fun hi => ⟨_, rfl, ?_⟩⟩, fun hp => ⟨_, rfl, ?_⟩⟩
    · rw [if_pos hp, if_pos hi]
    · rw [if_pos hp, if_neg hi]
    · rw [if_neg (by rw [hp]; decide)]
theorem friends_eq (N : Nat) (hN : 2 ^ 40 ≤ N) (v1 v2 v3 pw ps : Int32) {n_row n_all n_apart : Nat} {a_row a_all a_apart : Nat → Int32} (hT : TbOK n_row n_all a_all n_apart a_apart) : TRes (fun MC MS => f_X11_friends N MC MS v1 v2 v3 pw ps n_row a_row n_all a_all n_apart a_apart) (fun pm tk mp mt => f_X12_friends N v1 v2 v3 pm tk mp mt) n_row n_all n_apart := by
  rcases bnd_f N v1 with ⟨x, hx1, hx, rfl, w1, _, w2⟩ | ⟨w1, _, w2⟩
  · rcases bnd_f N v2 with ⟨b, hb1, hb, rfl, y1, y2, _⟩ | ⟨y1, y2, _⟩
    · by_cases hv : (-1 : Int32) ≤ v3
      · refine TRes.good N hN (a_row := a_row) hT (pkA (fun n => decide (n ≠ x) && fE x n) v3 b 1 0) (fun MC MS ar A B p1 p2 hbu hz => ?_) (fun pm tk mp mt hM => ?_)
        · obtain ⟨eC, eS⟩ := c7_eq hT
          obtain ⟨w, s, e⟩ := fr_c N hN p2 hx hb v3 pw ps
          refine ⟨w, s, ar, ?_⟩
          unfold f_X11_friends
          simp only [eC, eS, w1, y1, ob, if_neg one0, if_pos (z2 MC MS), if_pos hv, if_pos hbu, p1, e]
        · obtain ⟨pm', mp', t, l1, l2⟩ := layTable_f N hN (show 0 ≤ 3 by decide) hM pm mp
          have l1 : f_X12_layTable N (0 : Int32) pm tk mp mt = some (pm', nI 0, mp', t) := l1
          refine ⟨pm', nI 0, mp', t, ?_, MtOK.done (by decide) l2⟩
          show f_X12_friends N (nI x) (nI b) v3 pm tk mp mt = _
          unfold f_X12_friends
          simp only [w2, y2, ob, if_neg one0, if_pos hv, l1, fr_m N hN hx hb l2 hv]
      · refine TRes.bad (a_row := a_row) hT (pw := pw) (ps := ps) (fun MC MS => ?_) (fun pm tk mp mt => ?_)
        · unfold f_X11_friends
          simp only [w1, y1, ob, if_neg one0, if_pos (z2 MC MS), if_neg hv]
        · unfold f_X12_friends
          simp only [w2, y2, ob, if_neg one0, if_neg hv]
    · refine TRes.bad (a_row := a_row) hT (pw := pw) (ps := ps) (fun MC MS => ?_) (fun pm tk mp mt => ?_)
      · unfold f_X11_friends
        simp only [w1, y1, ob, if_neg one0, if_pos (z2 MC MS), if_true]
      · unfold f_X12_friends
        simp only [w2, y2, ob, if_neg one0, if_true]
  · refine TRes.bad (a_row := a_row) hT (pw := pw) (ps := ps) (fun MC MS => ?_) (fun pm tk mp mt => ?_)
    · unfold f_X11_friends
      simp only [w1, ob, if_pos (z2 MC MS), if_true]
    · unfold f_X12_friends
      simp only [w2, ob, if_true]
