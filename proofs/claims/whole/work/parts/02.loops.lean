theorem tx_room7 (p m n : Nat) (f : Int32) (A B : Nat → Int32) (hn : n + m ≤ 64) : ∀ (d : Nat) (L S : Nat → Int32), p + d ≤ n → ∃ (f' : Int32) (L' S' : Nat → Int32), (∀ post : SX → Prop, post (nI (n + m), f', L', S', A, B) → wX_makeRoom_7 post (nI p) (nI m) (nI n) f (d + 1) (nI (p + d) + (-1)) L S A B) ∧ (∀ post : SY → Prop, post (nI (n + m), f', L', S', A, B) → wY_open_7 post (nI p) (nI m) (nI n) f (d + 1) (nI (p + d) + (-1)) L S A B) := by
  intro d
  induction d with
  | zero =>
    intro L S h
    have hl : nI (p + 0) + (-1) < nI p := tx_predlt p (by omega)
    by_cases hf : f ≤ nI p
    · exact ⟨f, L, S, fun post hp => br_t hl (nm_r (nI_add n m) (br_t hf hp)), fun post hp => br_t hl (nm_r (nI_add n m) (br_t hf hp))⟩
    · exact ⟨f + nI m, L, S, fun post hp => br_t hl (nm_r (nI_add n m) (br_f hf (nm_e hp))), fun post hp => br_t hl (nm_r (nI_add n m) (br_f hf (nm_e hp)))⟩
  | succ d ih =>
    intro L S h
    have e : nI (p + (d + 1)) + (-1) = nI (p + d) := pk_m1 (p + d)
    have hi : vp_in (nI (p + d)) 64 := vp_in_nI (by omega) (by omega)
    have hj : vp_in (nI (p + d) + nI m) 64 := pk_in (p + d + m) 64 (by omega) (nI_add _ _)
    have hl : ¬ nI (p + d) < nI p := nI_nlt (by omega) (by omega)
    obtain ⟨f', L', S', hX, hY⟩ := ih (upd L (nI (p + d) + nI m).toNatClampNeg (L (nI (p + d)).toNatClampNeg)) (upd S (nI (p + d) + nI m).toNatClampNeg (S (nI (p + d)).toNatClampNeg)) (by omega)
    refine ⟨f', L', S', fun post hp => ?_, fun post hp => ?_⟩
    · rw [e]
      exact br_f hl ⟨hi, hj, nm_e ⟨hi, hj, nm_e (nm_e (hX post hp))⟩⟩
    · rw [e]
      exact br_f hl ⟨hi, hj, nm_e ⟨hi, hj, nm_e (nm_e (hY post hp))⟩⟩
theorem tx_room (p m n : Nat) (x f : Int32) (L S A B : Nat → Int32) (hp : p ≤ n) (hn : n + m ≤ 64) (hx : x = nI m) : ∃ (f' : Int32) (L' S' : Nat → Int32), (∀ post : SX → Prop, post (nI (n + m), f', L', S', A, B) → wpX_makeRoom post (nI n, f, L, S, A, B) (nI p) x) ∧ (∀ post : SY → Prop, post (nI (n + m), f', L', S', A, B) → wpY_open post (nI n, f, L, S, A, B) (nI p) x) := by
  subst hx
  obtain ⟨d, rfl⟩ : ∃ d, n = p + d := ⟨n - p, by omega⟩
  obtain ⟨f', L', S', hX, hY⟩ := tx_room7 p m (p + d) f A B hn d L S (Nat.le_refl _)
  exact ⟨f', L', S', fun post hp => nm_r (tx_sub1 _) ⟨d + 1, hX post hp⟩, fun post hp => nm_r (tx_sub1 _) ⟨d + 1, hY post hp⟩⟩
theorem tx_out7 (i j n : Nat) (f : Int32) (A B : Nat → Int32) (hij : i ≤ j) (hn : n ≤ 64) : ∀ (d t : Nat) (L S : Nat → Int32), t + d = n → j ≤ t → ∃ (f' : Int32) (L' S' : Nat → Int32), (∀ post : SX → Prop, post (nI (n - (j - i)), f', L', S', A, B) → wX_takeOut_7 post (nI i) (nI j) (nI j - nI i) (nI n) f (d + 1) (nI t) L S A B) ∧ (∀ post : Int32 → SY → Prop, post (nI (n - (j - i))) (nI (n - (j - i)), f', L', S', A, B) → wY_remove_13 post (nI i) (nI j) (nI n) f (d + 1) (nI t) L S A B) := by
  intro d
  induction d with
  | zero =>
    intro t L S h ht
    have hl : nI n ≤ nI t := nI_le (by omega) (by omega)
    have en : nI n - (nI j - nI i) = nI (n - (j - i)) := by rw [pk_sub hij, pk_sub (by omega)]
    by_cases h1 : f < nI j
    · by_cases h2 : f ≤ nI i
      · exact ⟨f, L, S, fun post hp => br_t hl (nm_r en (br_t h1 (br_t h2 hp))), fun post hp => br_t hl (nm_r en (br_t h1 (br_t h2 hp)))⟩
      · exact ⟨nI i, L, S, fun post hp => br_t hl (nm_r en (br_t h1 (br_f h2 hp))), fun post hp => br_t hl (nm_r en (br_t h1 (br_f h2 hp)))⟩
    · exact ⟨f - (nI j - nI i), L, S, fun post hp => br_t hl (nm_r en (br_f h1 (nm_e hp))), fun post hp => br_t hl (nm_r en (br_f h1 (nm_e hp)))⟩
  | succ d ih =>
    intro t L S h ht
    have hi : vp_in (nI t) 64 := vp_in_nI (by omega) (by omega)
    have hj : vp_in (nI t - (nI j - nI i)) 64 := pk_in (t - (j - i)) 64 (by omega) (by rw [pk_sub hij, pk_sub (by omega)])
    have hl : ¬ nI n ≤ nI t := nI_ge (by omega) (by omega)
    obtain ⟨f', L', S', hX, hY⟩ := ih (t + 1) (upd L (nI t - (nI j - nI i)).toNatClampNeg (L (nI t).toNatClampNeg)) (upd S (nI t - (nI j - nI i)).toNatClampNeg (S (nI t).toNatClampNeg)) (by omega) (by omega)
    exact ⟨f', L', S', fun post hp => br_f hl ⟨hi, hj, nm_e ⟨hi, hj, nm_e (nm_r (nI_1 t) (hX post hp))⟩⟩, fun post hp => br_f hl ⟨hi, hj, nm_e ⟨hi, hj, nm_e (nm_r (nI_1 t) (hY post hp))⟩⟩⟩
theorem tx_hold2 (i j : Nat) (c f : Int32) (L S : Nat → Int32) (hj : j ≤ 64) : ∀ (d t : Nat) (A B : Nat → Int32), t + d = j → i ≤ t → ∃ (A' B' : Nat → Int32), (∀ post : SX → Prop, post (c, f, L, S, A', B') → wX_hold_2 post (nI i) (nI j) c f (d + 1) (nI t) L S A B) ∧ (∀ post : SY → Prop, post (c, f, L, S, A', B') → wY_keep_2 post (nI i) (nI j) c f (d + 1) (nI t) L S A B) := by
  intro d
  induction d with
  | zero =>
    intro t A B h ht
    have hl : nI j ≤ nI t := nI_le (by omega) (by omega)
    exact ⟨A, B, fun post hp => br_t hl hp, fun post hp => br_t hl hp⟩
  | succ d ih =>
    intro t A B h ht
    have hi : vp_in (nI t) 64 := vp_in_nI (by omega) (by omega)
    have hk : vp_in (nI t - nI i) 64 := pk_in (t - i) 64 (by omega) (pk_sub ht)
    have hl : ¬ nI j ≤ nI t := nI_ge (by omega) (by omega)
    obtain ⟨A', B', hX, hY⟩ := ih (t + 1) (upd A (nI t - nI i).toNatClampNeg (L (nI t).toNatClampNeg)) (upd B (nI t - nI i).toNatClampNeg (S (nI t).toNatClampNeg)) (by omega) (by omega)
    exact ⟨A', B', fun post hp => br_f hl ⟨hi, hk, nm_e ⟨hi, hk, nm_e (nm_r (nI_1 t) (hX post hp))⟩⟩, fun post hp => br_f hl ⟨hi, hk, nm_e ⟨hi, hk, nm_e (nm_r (nI_1 t) (hY post hp))⟩⟩⟩
theorem tx_hold (i j : Nat) (c f : Int32) (L S A B : Nat → Int32) (hij : i ≤ j) (hj : j ≤ 64) : ∃ (A' B' : Nat → Int32), (∀ post : SX → Prop, post (c, f, L, S, A', B') → wpX_hold post (c, f, L, S, A, B) (nI i) (nI j)) ∧ (∀ post : SY → Prop, post (c, f, L, S, A', B') → wpY_keep post (c, f, L, S, A, B) (nI i) (nI j)) := by
  obtain ⟨A', B', hX, hY⟩ := tx_hold2 i j c f L S hj (j - i) i A B (by omega) (Nat.le_refl _)
  exact ⟨A', B', fun post hp => ⟨_, hX post hp⟩, fun post hp => ⟨_, hY post hp⟩⟩
theorem tx_held8 (p m : Nat) (c f : Int32) (A B : Nat → Int32) (hm : p + m ≤ 64) : ∀ (d t : Nat) (L S : Nat → Int32), t + d = m → ∃ (L' S' : Nat → Int32), (∀ post : SX → Prop, post (c, f, L', S', A, B) → wX_putHeld_8 post (nI p) (nI m) c f (d + 1) (nI t) L S A B) ∧ (∀ post : SY → Prop, post (c, f, L', S', A, B) → wY_putKept_8 post (nI p) (nI m) c f (d + 1) (nI t) L S A B) := by
  intro d
  induction d with
  | zero =>
    intro t L S h
    have hl : nI m ≤ nI t := nI_le (by omega) (by omega)
    exact ⟨L, S, fun post hp => br_t hl hp, fun post hp => br_t hl hp⟩
  | succ d ih =>
    intro t L S h
    have hi : vp_in (nI t) 64 := vp_in_nI (by omega) (by omega)
    have hk : vp_in (nI p + nI t) 64 := pk_in (p + t) 64 (by omega) (nI_add _ _)
    have hl : ¬ nI m ≤ nI t := nI_ge (by omega) (by omega)
    obtain ⟨L', S', hX, hY⟩ := ih (t + 1) (upd L (nI p + nI t).toNatClampNeg (A (nI t).toNatClampNeg)) (upd S (nI p + nI t).toNatClampNeg (B (nI t).toNatClampNeg)) (by omega)
    exact ⟨L', S', fun post hp => br_f hl ⟨hi, hk, nm_e ⟨hi, hk, nm_e (nm_r (nI_1 t) (hX post hp))⟩⟩, fun post hp => br_f hl ⟨hi, hk, nm_e ⟨hi, hk, nm_e (nm_r (nI_1 t) (hY post hp))⟩⟩⟩
theorem tx_held (p m n : Nat) (x f : Int32) (L S A B : Nat → Int32) (hp : p ≤ n) (hn : n + m ≤ 64) (hx : x = nI m) : ∃ (f' : Int32) (L' S' : Nat → Int32), (∀ post : SX → Prop, post (nI (n + m), f', L', S', A, B) → wpX_putHeld post (nI n, f, L, S, A, B) (nI p) x) ∧ (∀ post : SY → Prop, post (nI (n + m), f', L', S', A, B) → wpY_putKept post (nI n, f, L, S, A, B) (nI p) x) := by
  subst hx
  obtain ⟨f', L1, S1, hX, hY⟩ := tx_room p m n _ f L S A B hp hn rfl
  obtain ⟨L', S', kX, kY⟩ := tx_held8 p m (nI (n + m)) f' A B (by omega) m 0 L1 S1 (by omega)
  rw [nI_0] at kX kY
  refine ⟨f', L', S', fun post hp => ?_, fun post hp => ?_⟩
  · unfold wpX_putHeld
    exact hX _ ⟨_, kX post hp⟩
  · unfold wpY_putKept
    exact hY _ ⟨_, kY post hp⟩
theorem tx_put57 (p k : Nat) (c s n f : Int32) (A B : Nat → Int32) (hk : p + k ≤ 64) : ∀ (d t : Nat) (L S : Nat → Int32), t + d = k → ∃ (L' S' : Nat → Int32), (∀ post : Int32 → SX → Prop, post n (n, f, L', S', A, B) → wX_put_57 post (nI p) c (nI k) s n f (d + 1) (nI (p + t)) L S A B) ∧ (∀ post : Int32 → SY → Prop, post n (n, f, L', S', A, B) → wY_put_67 post (nI p) c (nI k) s n f (d + 1) (nI t) L S A B) := by
  intro d
  induction d with
  | zero =>
    intro t L S h
    have hl : nI p + nI k ≤ nI (p + t) := by rw [nI_add]; exact nI_le (by omega) (by omega)
    have hm : nI k ≤ nI t := nI_le (by omega) (by omega)
    exact ⟨L, S, fun post hp => br_t hl hp, fun post hp => br_t hm hp⟩
  | succ d ih =>
    intro t L S h
    have hi : vp_in (nI (p + t)) 64 := vp_in_nI (by omega) (by omega)
    have e : nI p + nI t = nI (p + t) := nI_add _ _
    have hj : vp_in (nI p + nI t) 64 := by rw [e]; exact hi
    have hl : ¬ nI p + nI k ≤ nI (p + t) := by rw [nI_add]; exact nI_ge (by omega) (by omega)
    have hm : ¬ nI k ≤ nI t := nI_ge (by omega) (by omega)
    obtain ⟨L', S', hX, hY⟩ := ih (t + 1) (upd L (nI (p + t)).toNatClampNeg c) (upd S (nI (p + t)).toNatClampNeg s) (by omega)
    exact ⟨L', S', fun post hp => br_f hl ⟨hi, nm_e ⟨hi, nm_e (nm_r (nI_1 (p + t)) (hX post hp))⟩⟩, fun post hp => br_f hm ⟨hj, nm_r (by rw [e]) ⟨hj, nm_r (by rw [e]) (nm_r (nI_1 t) (hY post hp))⟩⟩⟩
