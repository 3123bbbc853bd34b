section
theorem pk_sub {a b : Nat} (h : b ≤ a) : nI a - nI b = nI (a - b) := by
  obtain ⟨c, rfl⟩ : ∃ c, a = c + b := ⟨a - b, by omega⟩
  rw [← nI_add, Int32.add_sub_cancel, Nat.add_sub_cancel]
theorem pk_m1 (n : Nat) : nI (n + 1) + (-1) = nI n := by
  rw [← nI_1, Int32.add_assoc, show (1 : Int32) + (-1) = 0 from rfl, Int32.add_zero]
theorem pk_in {x : Int32} (n N : Nat) (h : n < N) (hx : x = nI n := by rfl) (hN : N < 2 ^ 31 := by omega) : vp_in x N := by
  subst hx
  exact vp_in_nI h hN
theorem pk_cl {x : Int32} (n : Nat) (hx : x = nI n := by rfl) (h : n < 2 ^ 31 := by omega) : x.toNatClampNeg = n := by
  subst hx
  exact nI_clamp h
def bt (x : Int32) (i : Nat) : Bool := x.toBitVec.getLsbD i
theorem b_ext {x y : Int32} (h : ∀ i, i < 32 → bt x i = bt y i) : x = y := Int32.toBitVec_inj.mp (BitVec.eq_of_getLsbD_eq (fun i hi => h i hi))
theorem b_or (x y : Int32) (i : Nat) : bt (x ||| y) i = (bt x i || bt y i) := by unfold bt; rw [Int32.toBitVec_or, BitVec.getLsbD_or]
theorem b_and (x y : Int32) (i : Nat) : bt (x &&& y) i = (bt x i && bt y i) := by unfold bt; rw [Int32.toBitVec_and, BitVec.getLsbD_and]
theorem b_xor (x y : Int32) (i : Nat) : bt (x ^^^ y) i = (bt x i ^^ bt y i) := by unfold bt; rw [Int32.toBitVec_xor, BitVec.getLsbD_xor]
theorem b_m1 : ∀ i, i < 32 → bt (-1) i = true := by decide +kernel
theorem b_0 (i : Nat) : bt 0 i = false := BitVec.getLsbD_zero
theorem tx_give (s b : Int32) : (s &&& (b ^^^ (-1))) ||| (b &&& b) = s ||| b :=
  b_ext fun i hi => by
    rw [b_or, b_or, b_and, b_and, b_xor, b_m1 i hi]
    cases bt s i <;> cases bt b i <;> rfl
theorem tx_take (s b : Int32) : (s &&& (b ^^^ (-1))) ||| (0 &&& b) = s &&& (b ^^^ (-1)) :=
  b_ext fun i hi => by
    rw [b_or, b_and, b_and, b_xor, b_m1 i hi, b_0]
    cases bt s i <;> cases bt b i <;> rfl
theorem tx_mask : ∀ m, m < 16 → ((nI m &&& 8 = 0 ∧ ¬ 8 ≤ nI m ∧ nI m &&& 7 = nI m) ∨ (¬ nI m &&& 8 = 0 ∧ 8 ≤ nI m ∧ (nI m &&& 7) ||| 56 = (nI m &&& 7) + 56)) := by decide +kernel
theorem tx_same (a : Nat → Int32) (k : Nat) (x : Int32) (h : x = a k) : upd a k x = a := by
  funext j
  unfold upd
  by_cases e : j = k
  · rw [if_pos e, h, e]
  · rw [if_neg e]
theorem tx_sub1 (x : Int32) : x - 1 = x + (-1) := Int32.sub_eq_add_neg x 1
theorem tx_predlt (p : Nat) (h : p ≤ 64) : nI p + (-1) < nI p := by
  cases p with
  | zero => decide
  | succ p => rw [pk_m1]; exact nI_lt (by omega) (by omega)
theorem tx_pm (x : Int32) : x + 1 - 1 = x - 1 + 1 := by
  rw [Int32.add_sub_cancel, Int32.sub_add_cancel]
def tx_ok (u : SX) : Prop := ∃ (n : Nat) (f : Int32) (L S A B : Nat → Int32), n ≤ 64 ∧ u = (nI n, f, L, S, A, B)
end
section
theorem tx_room7 (p m n : Nat) (f : Int32) (A B : Nat → Int32) (hn : n + m ≤ 64) : ∀ (d : Nat) (L S : Nat → Int32), p + d ≤ n → ∃ (f' : Int32) (L' S' : Nat → Int32), (∀ post : SX → Prop, post (nI (n + m), f', L', S', A, B) → wX_makeRoom_7 post (nI p) (nI m) (nI n) f (d + 1) (nI (p + d) + (-1)) L S A B) ∧ (∀ post : SY → Prop, post (nI (n + m), f', L', S', A, B) → wY_open_7 post (nI p) (nI m) (nI n) f (d + 1) (nI (p + d) + (-1)) L S A B) := by
  intro d
  induction d with
  | zero =>
    intro L S h
    have hl : nI (p + 0) + (-1) < nI p := tx_predlt p (by omega)
    by_cases hf : f ≤ nI p
    · exact ⟨f, L, S, fun post hp => br_t hl (nm_r (nI_add n m) (br_t hf hp)), fun post hp => br_t hl (nm_r (nI_add n m) (br_t hf hp))⟩
    · exact ⟨f + nI m, L, S, fun post hp => br_t hl (nm_r (nI_add n m) (br_f hf (nm_e hp))), fun post hp => br_t hl (nm_r (nI_add n m) (br_f hf (nm_e hp)))⟩
  | succ d ih =>
    intro L S h
    have e : nI (p + (d + 1)) + (-1) = nI (p + d) := pk_m1 (p + d)
    have hi : vp_in (nI (p + d)) 64 := vp_in_nI (by omega) (by omega)
    have hj : vp_in (nI (p + d) + nI m) 64 := pk_in (p + d + m) 64 (by omega) (nI_add _ _)
    have hl : ¬ nI (p + d) < nI p := nI_nlt (by omega) (by omega)
    obtain ⟨f', L', S', hX, hY⟩ := ih (upd L (nI (p + d) + nI m).toNatClampNeg (L (nI (p + d)).toNatClampNeg)) (upd S (nI (p + d) + nI m).toNatClampNeg (S (nI (p + d)).toNatClampNeg)) (by omega)
    refine ⟨f', L', S', fun post hp => ?_, fun post hp => ?_⟩
    · rw [e]
      exact br_f hl ⟨hi, hj, nm_e ⟨hi, hj, nm_e (nm_e (hX post hp))⟩⟩
    · rw [e]
      exact br_f hl ⟨hi, hj, nm_e ⟨hi, hj, nm_e (nm_e (hY post hp))⟩⟩
theorem tx_room (p m n : Nat) (x f : Int32) (L S A B : Nat → Int32) (hp : p ≤ n) (hn : n + m ≤ 64) (hx : x = nI m) : ∃ (f' : Int32) (L' S' : Nat → Int32), (∀ post : SX → Prop, post (nI (n + m), f', L', S', A, B) → wpX_makeRoom post (nI n, f, L, S, A, B) (nI p) x) ∧ (∀ post : SY → Prop, post (nI (n + m), f', L', S', A, B) → wpY_open post (nI n, f, L, S, A, B) (nI p) x) := by
  subst hx
  obtain ⟨d, rfl⟩ : ∃ d, n = p + d := ⟨n - p, by omega⟩
  obtain ⟨f', L', S', hX, hY⟩ := tx_room7 p m (p + d) f A B hn d L S (Nat.le_refl _)
  exact ⟨f', L', S', fun post hp => nm_r (tx_sub1 _) ⟨d + 1, hX post hp⟩, fun post hp => nm_r (tx_sub1 _) ⟨d + 1, hY post hp⟩⟩
theorem tx_out7 (i j n : Nat) (f : Int32) (A B : Nat → Int32) (hij : i ≤ j) (hn : n ≤ 64) : ∀ (d t : Nat) (L S : Nat → Int32), t + d = n → j ≤ t → ∃ (f' : Int32) (L' S' : Nat → Int32), (∀ post : SX → Prop, post (nI (n - (j - i)), f', L', S', A, B) → wX_takeOut_7 post (nI i) (nI j) (nI j - nI i) (nI n) f (d + 1) (nI t) L S A B) ∧ (∀ post : Int32 → SY → Prop, post (nI (n - (j - i))) (nI (n - (j - i)), f', L', S', A, B) → wY_remove_13 post (nI i) (nI j) (nI n) f (d + 1) (nI t) L S A B) := by
  intro d
  induction d with
  | zero =>
    intro t L S h ht
    have hl : nI n ≤ nI t := nI_le (by omega) (by omega)
    have en : nI n - (nI j - nI i) = nI (n - (j - i)) := by rw [pk_sub hij, pk_sub (by omega)]
    by_cases h1 : f < nI j
    · by_cases h2 : f ≤ nI i
      · exact ⟨f, L, S, fun post hp => br_t hl (nm_r en (br_t h1 (br_t h2 hp))), fun post hp => br_t hl (nm_r en (br_t h1 (br_t h2 hp)))⟩
      · exact ⟨nI i, L, S, fun post hp => br_t hl (nm_r en (br_t h1 (br_f h2 hp))), fun post hp => br_t hl (nm_r en (br_t h1 (br_f h2 hp)))⟩
    · exact ⟨f - (nI j - nI i), L, S, fun post hp => br_t hl (nm_r en (br_f h1 (nm_e hp))), fun post hp => br_t hl (nm_r en (br_f h1 (nm_e hp)))⟩
  | succ d ih =>
    intro t L S h ht
    have hi : vp_in (nI t) 64 := vp_in_nI (by omega) (by omega)
    have hj : vp_in (nI t - (nI j - nI i)) 64 := pk_in (t - (j - i)) 64 (by omega) (by rw [pk_sub hij, pk_sub (by omega)])
    have hl : ¬ nI n ≤ nI t := nI_ge (by omega) (by omega)
    obtain ⟨f', L', S', hX, hY⟩ := ih (t + 1) (upd L (nI t - (nI j - nI i)).toNatClampNeg (L (nI t).toNatClampNeg)) (upd S (nI t - (nI j - nI i)).toNatClampNeg (S (nI t).toNatClampNeg)) (by omega) (by omega)
    exact ⟨f', L', S', fun post hp => br_f hl ⟨hi, hj, nm_e ⟨hi, hj, nm_e (nm_r (nI_1 t) (hX post hp))⟩⟩, fun post hp => br_f hl ⟨hi, hj, nm_e ⟨hi, hj, nm_e (nm_r (nI_1 t) (hY post hp))⟩⟩⟩
theorem tx_hold2 (i j : Nat) (c f : Int32) (L S : Nat → Int32) (hj : j ≤ 64) : ∀ (d t : Nat) (A B : Nat → Int32), t + d = j → i ≤ t → ∃ (A' B' : Nat → Int32), (∀ post : SX → Prop, post (c, f, L, S, A', B') → wX_hold_2 post (nI i) (nI j) c f (d + 1) (nI t) L S A B) ∧ (∀ post : SY → Prop, post (c, f, L, S, A', B') → wY_keep_2 post (nI i) (nI j) c f (d + 1) (nI t) L S A B) := by
  intro d
  induction d with
  | zero =>
    intro t A B h ht
    have hl : nI j ≤ nI t := nI_le (by omega) (by omega)
    exact ⟨A, B, fun post hp => br_t hl hp, fun post hp => br_t hl hp⟩
  | succ d ih =>
    intro t A B h ht
    have hi : vp_in (nI t) 64 := vp_in_nI (by omega) (by omega)
    have hk : vp_in (nI t - nI i) 64 := pk_in (t - i) 64 (by omega) (pk_sub ht)
    have hl : ¬ nI j ≤ nI t := nI_ge (by omega) (by omega)
    obtain ⟨A', B', hX, hY⟩ := ih (t + 1) (upd A (nI t - nI i).toNatClampNeg (L (nI t).toNatClampNeg)) (upd B (nI t - nI i).toNatClampNeg (S (nI t).toNatClampNeg)) (by omega) (by omega)
    exact ⟨A', B', fun post hp => br_f hl ⟨hi, hk, nm_e ⟨hi, hk, nm_e (nm_r (nI_1 t) (hX post hp))⟩⟩, fun post hp => br_f hl ⟨hi, hk, nm_e ⟨hi, hk, nm_e (nm_r (nI_1 t) (hY post hp))⟩⟩⟩
theorem tx_hold (i j : Nat) (c f : Int32) (L S A B : Nat → Int32) (hij : i ≤ j) (hj : j ≤ 64) : ∃ (A' B' : Nat → Int32), (∀ post : SX → Prop, post (c, f, L, S, A', B') → wpX_hold post (c, f, L, S, A, B) (nI i) (nI j)) ∧ (∀ post : SY → Prop, post (c, f, L, S, A', B') → wpY_keep post (c, f, L, S, A, B) (nI i) (nI j)) := by
  obtain ⟨A', B', hX, hY⟩ := tx_hold2 i j c f L S hj (j - i) i A B (by omega) (Nat.le_refl _)
  exact ⟨A', B', fun post hp => ⟨_, hX post hp⟩, fun post hp => ⟨_, hY post hp⟩⟩
theorem tx_held8 (p m : Nat) (c f : Int32) (A B : Nat → Int32) (hm : p + m ≤ 64) : ∀ (d t : Nat) (L S : Nat → Int32), t + d = m → ∃ (L' S' : Nat → Int32), (∀ post : SX → Prop, post (c, f, L', S', A, B) → wX_putHeld_8 post (nI p) (nI m) c f (d + 1) (nI t) L S A B) ∧ (∀ post : SY → Prop, post (c, f, L', S', A, B) → wY_putKept_8 post (nI p) (nI m) c f (d + 1) (nI t) L S A B) := by
  intro d
  induction d with
  | zero =>
    intro t L S h
    have hl : nI m ≤ nI t := nI_le (by omega) (by omega)
    exact ⟨L, S, fun post hp => br_t hl hp, fun post hp => br_t hl hp⟩
  | succ d ih =>
    intro t L S h
    have hi : vp_in (nI t) 64 := vp_in_nI (by omega) (by omega)
    have hk : vp_in (nI p + nI t) 64 := pk_in (p + t) 64 (by omega) (nI_add _ _)
    have hl : ¬ nI m ≤ nI t := nI_ge (by omega) (by omega)
    obtain ⟨L', S', hX, hY⟩ := ih (t + 1) (upd L (nI p + nI t).toNatClampNeg (A (nI t).toNatClampNeg)) (upd S (nI p + nI t).toNatClampNeg (B (nI t).toNatClampNeg)) (by omega)
    exact ⟨L', S', fun post hp => br_f hl ⟨hi, hk, nm_e ⟨hi, hk, nm_e (nm_r (nI_1 t) (hX post hp))⟩⟩, fun post hp => br_f hl ⟨hi, hk, nm_e ⟨hi, hk, nm_e (nm_r (nI_1 t) (hY post hp))⟩⟩⟩
theorem tx_held (p m n : Nat) (x f : Int32) (L S A B : Nat → Int32) (hp : p ≤ n) (hn : n + m ≤ 64) (hx : x = nI m) : ∃ (f' : Int32) (L' S' : Nat → Int32), (∀ post : SX → Prop, post (nI (n + m), f', L', S', A, B) → wpX_putHeld post (nI n, f, L, S, A, B) (nI p) x) ∧ (∀ post : SY → Prop, post (nI (n + m), f', L', S', A, B) → wpY_putKept post (nI n, f, L, S, A, B) (nI p) x) := by
  subst hx
  obtain ⟨f', L1, S1, hX, hY⟩ := tx_room p m n _ f L S A B hp hn rfl
  obtain ⟨L', S', kX, kY⟩ := tx_held8 p m (nI (n + m)) f' A B (by omega) m 0 L1 S1 (by omega)
  rw [nI_0] at kX kY
  refine ⟨f', L', S', fun post hp => ?_, fun post hp => ?_⟩
  · unfold wpX_putHeld
    exact hX _ ⟨_, kX post hp⟩
  · unfold wpY_putKept
    exact hY _ ⟨_, kY post hp⟩
theorem tx_put57 (p k : Nat) (c s n f : Int32) (A B : Nat → Int32) (hk : p + k ≤ 64) : ∀ (d t : Nat) (L S : Nat → Int32), t + d = k → ∃ (L' S' : Nat → Int32), (∀ post : Int32 → SX → Prop, post n (n, f, L', S', A, B) → wX_put_57 post (nI p) c (nI k) s n f (d + 1) (nI (p + t)) L S A B) ∧ (∀ post : Int32 → SY → Prop, post n (n, f, L', S', A, B) → wY_put_67 post (nI p) c (nI k) s n f (d + 1) (nI t) L S A B) := by
  intro d
  induction d with
  | zero =>
    intro t L S h
    have hl : nI p + nI k ≤ nI (p + t) := by rw [nI_add]; exact nI_le (by omega) (by omega)
    have hm : nI k ≤ nI t := nI_le (by omega) (by omega)
    exact ⟨L, S, fun post hp => br_t hl hp, fun post hp => br_t hm hp⟩
  | succ d ih =>
    intro t L S h
    have hi : vp_in (nI (p + t)) 64 := vp_in_nI (by omega) (by omega)
    have e : nI p + nI t = nI (p + t) := nI_add _ _
    have hj : vp_in (nI p + nI t) 64 := by rw [e]; exact hi
    have hl : ¬ nI p + nI k ≤ nI (p + t) := by rw [nI_add]; exact nI_ge (by omega) (by omega)
    have hm : ¬ nI k ≤ nI t := nI_ge (by omega) (by omega)
    obtain ⟨L', S', hX, hY⟩ := ih (t + 1) (upd L (nI (p + t)).toNatClampNeg c) (upd S (nI (p + t)).toNatClampNeg s) (by omega)
    exact ⟨L', S', fun post hp => br_f hl ⟨hi, nm_e ⟨hi, nm_e (nm_r (nI_1 (p + t)) (hX post hp))⟩⟩, fun post hp => br_f hm ⟨hj, nm_r (by rw [e]) ⟨hj, nm_r (by rw [e]) (nm_r (nI_1 t) (hY post hp))⟩⟩⟩
end
section
theorem tx_style43 (j : Nat) (s b c f : Int32) (L A B : Nat → Int32) (hj : j ≤ 64) : ∀ (d t : Nat) (x : Int32) (S : Nat → Int32), t + d = j → ∃ (r : Int32) (S' : Nat → Int32), (∀ post : Int32 → SX → Prop, post r (c, f, L, S', A, B) → wX_style_43 post (nI j) s b c f (d + 1) x (nI t) L S A B) ∧ (∀ post : Int32 → SY → Prop, post r (c, f, L, S', A, B) → wY_setParts_6 post (nI j) b s c f (d + 1) x (nI t) L S A B) := by
  intro d
  induction d with
  | zero =>
    intro t x S h
    have hl : nI j ≤ nI t := nI_le (by omega) (by omega)
    exact ⟨x, S, fun post hp => br_t hl hp, fun post hp => br_t hl hp⟩
  | succ d ih =>
    intro t x S h
    have hi : vp_in (nI t) 64 := vp_in_nI (by omega) (by omega)
    have hl : ¬ nI j ≤ nI t := nI_ge (by omega) (by omega)
    by_cases z : ((S (nI t).toNatClampNeg) &&& (b ^^^ (-1))) ||| (s &&& b) = S (nI t).toNatClampNeg
    · obtain ⟨r, S', hX, hY⟩ := ih (t + 1) x S (by omega)
      exact ⟨r, S', fun post hp => br_f hl ⟨hi, nm_e ⟨hi, br_t z (nm_r (nI_1 t) (hX post hp))⟩⟩, fun post hp => br_f hl ⟨hi, nm_e ⟨hi, br_t z ⟨hi, nm_r (tx_same _ _ _ z) (nm_r (nI_1 t) (hY post hp))⟩⟩⟩⟩
    · obtain ⟨r, S', hX, hY⟩ := ih (t + 1) (x + 1) (upd S (nI t).toNatClampNeg (((S (nI t).toNatClampNeg) &&& (b ^^^ (-1))) ||| (s &&& b))) (by omega)
      exact ⟨r, S', fun post hp => br_f hl ⟨hi, nm_e ⟨hi, br_f z ⟨hi, nm_e (nm_e (nm_r (nI_1 t) (hX post hp)))⟩⟩⟩, fun post hp => br_f hl ⟨hi, nm_e ⟨hi, br_f z ⟨hi, nm_e (nm_r (nI_1 t) (hY post hp))⟩⟩⟩⟩
theorem tx_tog0 (j : Nat) (b c f : Int32) (L A B : Nat → Int32) (hj : j ≤ 64) : ∀ (d t : Nat) (x : Int32) (S : Nat → Int32), t + d = j → ∃ (r : Int32) (S' : Nat → Int32), (∀ post : Int32 → SX → Prop, post 0 (c, f, L, S', A, B) → wX_toggle_39 post (nI j) b 0 c f (d + 1) (nI t) L S A B) ∧ (∀ post : Int32 → SY → Prop, post r (c, f, L, S', A, B) → wY_setParts_6 post (nI j) b 0 c f (d + 1) x (nI t) L S A B) := by
  intro d
  induction d with
  | zero =>
    intro t x S h
    have hl : nI j ≤ nI t := nI_le (by omega) (by omega)
    exact ⟨x, S, fun post hp => br_t hl (br_t rfl hp), fun post hp => br_t hl hp⟩
  | succ d ih =>
    intro t x S h
    have hi : vp_in (nI t) 64 := vp_in_nI (by omega) (by omega)
    have hl : ¬ nI j ≤ nI t := nI_ge (by omega) (by omega)
    have e := tx_take (S (nI t).toNatClampNeg) b
    by_cases z : (S (nI t).toNatClampNeg) &&& (b ^^^ (-1)) = S (nI t).toNatClampNeg
    · obtain ⟨r, S', hX, hY⟩ := ih (t + 1) x (upd S (nI t).toNatClampNeg ((S (nI t).toNatClampNeg) &&& (b ^^^ (-1)))) (by omega)
      exact ⟨r, S', fun post hp => br_f hl (br_t rfl ⟨hi, hi, nm_e (nm_r (nI_1 t) (hX post hp))⟩), fun post hp => br_f hl ⟨hi, nm_r e ⟨hi, br_t z ⟨hi, nm_e (nm_r (nI_1 t) (hY post hp))⟩⟩⟩⟩
    · obtain ⟨r, S', hX, hY⟩ := ih (t + 1) (x + 1) (upd S (nI t).toNatClampNeg ((S (nI t).toNatClampNeg) &&& (b ^^^ (-1)))) (by omega)
      exact ⟨r, S', fun post hp => br_f hl (br_t rfl ⟨hi, hi, nm_e (nm_r (nI_1 t) (hX post hp))⟩), fun post hp => br_f hl ⟨hi, nm_r e ⟨hi, br_f z ⟨hi, nm_e (nm_r (nI_1 t) (hY post hp))⟩⟩⟩⟩
theorem tx_10 : ¬ (1 : Int32) = 0 := by decide
theorem tx_tog1 (j : Nat) (b c f : Int32) (L A B : Nat → Int32) (hj : j ≤ 64) : ∀ (d t : Nat) (x : Int32) (S : Nat → Int32), t + d = j → ∃ (r : Int32) (S' : Nat → Int32), (∀ post : Int32 → SX → Prop, post 1 (c, f, L, S', A, B) → wX_toggle_39 post (nI j) b 1 c f (d + 1) (nI t) L S A B) ∧ (∀ post : Int32 → SY → Prop, post r (c, f, L, S', A, B) → wY_setParts_6 post (nI j) b b c f (d + 1) x (nI t) L S A B) := by
  intro d
  induction d with
  | zero =>
    intro t x S h
    have hl : nI j ≤ nI t := nI_le (by omega) (by omega)
    exact ⟨x, S, fun post hp => br_t hl (br_f tx_10 hp), fun post hp => br_t hl hp⟩
  | succ d ih =>
    intro t x S h
    have hi : vp_in (nI t) 64 := vp_in_nI (by omega) (by omega)
    have hl : ¬ nI j ≤ nI t := nI_ge (by omega) (by omega)
    have e := tx_give (S (nI t).toNatClampNeg) b
    by_cases z : (S (nI t).toNatClampNeg) ||| b = S (nI t).toNatClampNeg
    · obtain ⟨r, S', hX, hY⟩ := ih (t + 1) x (upd S (nI t).toNatClampNeg ((S (nI t).toNatClampNeg) ||| b)) (by omega)
      exact ⟨r, S', fun post hp => br_f hl (br_f tx_10 ⟨hi, hi, nm_e (nm_r (nI_1 t) (hX post hp))⟩), fun post hp => br_f hl ⟨hi, nm_r e ⟨hi, br_t z ⟨hi, nm_e (nm_r (nI_1 t) (hY post hp))⟩⟩⟩⟩
    · obtain ⟨r, S', hX, hY⟩ := ih (t + 1) (x + 1) (upd S (nI t).toNatClampNeg ((S (nI t).toNatClampNeg) ||| b)) (by omega)
      exact ⟨r, S', fun post hp => br_f hl (br_f tx_10 ⟨hi, hi, nm_e (nm_r (nI_1 t) (hX post hp))⟩), fun post hp => br_f hl ⟨hi, nm_r e ⟨hi, br_f z ⟨hi, nm_e (nm_r (nI_1 t) (hY post hp))⟩⟩⟩⟩
theorem tx_all0 (x1 : Int32) (j : Nat) (b c f : Int32) (L S A B : Nat → Int32) (hj : j ≤ 64) (post : Int32 → SY → Prop) (hp : wY_toggle_82 post 0 b b (nI j) x1 c f L S A B) : ∀ (d t : Nat), t + d = j → wY_toggle_32 post x1 (nI j) b c f L S A B (d + 1) 0 (nI t) := by
  intro d
  induction d with
  | zero =>
    intro t h
    have hl : nI j ≤ nI t := nI_le (by omega) (by omega)
    exact br_t hl (br_t rfl hp)
  | succ d ih =>
    intro t h
    have hl : ¬ nI j ≤ nI t := nI_ge (by omega) (by omega)
    exact br_f hl (br_t rfl (nm_r (nI_1 t) (ih (t + 1) (by omega))))
theorem tx_all (x1 : Int32) (j : Nat) (b c f : Int32) (L S A B : Nat → Int32) (hj : j ≤ 64) : ∀ (d t : Nat), t + d = j → ((∀ post : Int32 → Prop, post 0 → wX_allHave_3 post (nI j) b c f L S A B (d + 1) (nI t)) ∧ (∀ post : Int32 → SY → Prop, wY_toggle_82 post 0 b b (nI j) x1 c f L S A B → wY_toggle_32 post x1 (nI j) b c f L S A B (d + 1) 1 (nI t))) ∨ ((∀ post : Int32 → Prop, post 1 → wX_allHave_3 post (nI j) b c f L S A B (d + 1) (nI t)) ∧ (∀ post : Int32 → SY → Prop, wY_toggle_82 post 1 0 b (nI j) x1 c f L S A B → wY_toggle_32 post x1 (nI j) b c f L S A B (d + 1) 1 (nI t))) := by
  intro d
  induction d with
  | zero =>
    intro t h
    have hl : nI j ≤ nI t := nI_le (by omega) (by omega)
    exact Or.inr ⟨fun post hp => br_t hl hp, fun post hp => br_t hl (br_f tx_10 hp)⟩
  | succ d ih =>
    intro t h
    have hi : vp_in (nI t) 64 := vp_in_nI (by omega) (by omega)
    have hl : ¬ nI j ≤ nI t := nI_ge (by omega) (by omega)
    by_cases z : (S (nI t).toNatClampNeg) &&& b = 0
    · exact Or.inl ⟨fun post hp => br_f hl ⟨hi, br_t z hp⟩, fun post hp => br_f hl (br_f tx_10 ⟨hi, br_t z (nm_r (nI_1 t) (tx_all0 x1 j b c f L S A B hj post hp d (t + 1) (by omega)))⟩)⟩
    · rcases ih (t + 1) (by omega) with ⟨hX, hY⟩ | ⟨hX, hY⟩
      · exact Or.inl ⟨fun post hp => br_f hl ⟨hi, br_f z (nm_r (nI_1 t) (hX post hp))⟩, fun post hp => br_f hl (br_f tx_10 ⟨hi, br_f z (nm_r (nI_1 t) (hY post hp))⟩)⟩
      · exact Or.inr ⟨fun post hp => br_f hl ⟨hi, br_f z (nm_r (nI_1 t) (hX post hp))⟩, fun post hp => br_f hl (br_f tx_10 ⟨hi, br_f z (nm_r (nI_1 t) (hY post hp))⟩)⟩
theorem tx_repl (x1 x2 : Int32) (n : Nat) (f : Int32) (S A B : Nat → Int32) (hn : n ≤ 64) : ∀ (d t : Nat) (x : Int32) (L : Nat → Int32), t + d = n → ∃ (r : Int32) (L' : Nat → Int32), (∀ post : Int32 → SX → Prop, post r (nI n, f, L', S, A, B) → wX_replace_23 post x1 x2 (nI n) f (d + 1) x (nI t) L S A B) ∧ (∀ post : Int32 → SY → Prop, post r (nI n, f, L', S, A, B) → wY_replace_23 post x1 x2 (nI n) f (d + 1) x (nI t) L S A B) := by
  intro d
  induction d with
  | zero =>
    intro t x L h
    have hl : nI n ≤ nI t := nI_le (by omega) (by omega)
    exact ⟨x, L, fun post hp => br_t hl hp, fun post hp => br_t hl hp⟩
  | succ d ih =>
    intro t x L h
    have hi : vp_in (nI t) 64 := vp_in_nI (by omega) (by omega)
    have hl : ¬ nI n ≤ nI t := nI_ge (by omega) (by omega)
    by_cases z : L (nI t).toNatClampNeg = x1
    · obtain ⟨r, L', hX, hY⟩ := ih (t + 1) (x + 1) (upd L (nI t).toNatClampNeg x2) (by omega)
      exact ⟨r, L', fun post hp => br_f hl ⟨hi, br_t z ⟨hi, nm_e (nm_e (nm_r (nI_1 t) (hX post hp)))⟩⟩, fun post hp => br_f hl ⟨hi, br_t z ⟨hi, nm_e (nm_e (nm_r (nI_1 t) (hY post hp)))⟩⟩⟩
    · obtain ⟨r, L', hX, hY⟩ := ih (t + 1) x L (by omega)
      exact ⟨r, L', fun post hp => br_f hl ⟨hi, br_f z (nm_r (nI_1 t) (hX post hp))⟩, fun post hp => br_f hl ⟨hi, br_f z (nm_r (nI_1 t) (hY post hp))⟩⟩
theorem tx_begin (t : Nat) (c f : Int32) (L S A B : Nat → Int32) (ht : t < 64) : ((∀ post : Int32 → Prop, post 0 → wpX_beginsRun post (c, f, L, S, A, B) (nI t)) ∧ (∀ post : Int32 → Prop, post 0 → wpY_isBegin post (c, f, L, S, A, B) (nI t))) ∨ ((∀ post : Int32 → Prop, post 1 → wpX_beginsRun post (c, f, L, S, A, B) (nI t)) ∧ (∀ post : Int32 → Prop, post 1 → wpY_isBegin post (c, f, L, S, A, B) (nI t))) := by
  cases t with
  | zero => exact Or.inr ⟨fun _ hp => br_t nI_0 hp, fun _ hp => br_t nI_0 hp⟩
  | succ t =>
    have h0 : ¬ nI (t + 1) = 0 := nI_ne0 (by omega) (by omega)
    have hi : vp_in (nI (t + 1)) 64 := vp_in_nI ht (by omega)
    have hj : vp_in (nI (t + 1) - 1) 64 := pk_in t 64 (by omega) (nI_pred t)
    by_cases z : S (nI (t + 1)).toNatClampNeg = S (nI (t + 1) - 1).toNatClampNeg
    · exact Or.inl ⟨fun _ hp => br_f h0 ⟨hi, hj, br_t z hp⟩, fun _ hp => br_f h0 ⟨hi, hj, br_t z hp⟩⟩
    · exact Or.inr ⟨fun _ hp => br_f h0 ⟨hi, hj, br_f z hp⟩, fun _ hp => br_f h0 ⟨hi, hj, br_f z hp⟩⟩
theorem tx_runs (n : Nat) (f : Int32) (L S A B : Nat → Int32) (hn : n ≤ 64) : ∀ (d t : Nat) (x : Int32), t + d = n → ∃ r : Int32, (∀ post : Int32 → Prop, post r → wX_runsBegunBefore_4 post (nI n) (nI n) f L S A B (d + 1) x (nI t)) ∧ (∀ post : Int32 → Prop, post r → wY_runs_4 post (nI n) f L S A B (d + 1) x (nI t)) := by
  intro d
  induction d with
  | zero =>
    intro t x h
    have hl : nI n ≤ nI t := nI_le (by omega) (by omega)
    exact ⟨x, fun post hp => br_t hl hp, fun post hp => br_t hl hp⟩
  | succ d ih =>
    intro t x h
    have hl : ¬ nI n ≤ nI t := nI_ge (by omega) (by omega)
    rcases tx_begin t (nI n) f L S A B (by omega) with ⟨bX, bY⟩ | ⟨bX, bY⟩
    · obtain ⟨r, hX, hY⟩ := ih (t + 1) x (by omega)
      exact ⟨r, fun post hp => br_f hl (bX _ (br_t rfl (nm_r (nI_1 t) (hX post hp)))), fun post hp => br_f hl (bY _ (br_t rfl (nm_r (nI_1 t) (hY post hp))))⟩
    · obtain ⟨r, hX, hY⟩ := ih (t + 1) (x + 1) (by omega)
      exact ⟨r, fun post hp => br_f hl (bX _ (br_f tx_10 (nm_e (nm_r (nI_1 t) (hX post hp))))), fun post hp => br_f hl (bY _ (br_f tx_10 (nm_e (nm_r (nI_1 t) (hY post hp)))))⟩
theorem tx_runOf (e n : Nat) (f : Int32) (L S A B : Nat → Int32) (he : e < 64) : ∀ (d t : Nat) (x : Int32), t + d = e + 1 → ∃ r : Int32, (∀ post : Int32 → Prop, post r → wX_runsBegunBefore_4 post (nI (e + 1)) (nI n) f L S A B (d + 1) x (nI t)) ∧ (∀ post : Int32 → Prop, post (r - 1) → wY_runOf_19 post (nI e) (nI n) f L S A B (d + 1) (x - 1) (nI t)) := by
  intro d
  induction d with
  | zero =>
    intro t x h
    have hl : nI (e + 1) ≤ nI t := nI_le (by omega) (by omega)
    have hm : nI e < nI t := nI_lt (by omega) (by omega)
    exact ⟨x, fun post hp => br_t hl hp, fun post hp => br_t hm hp⟩
  | succ d ih =>
    intro t x h
    have hl : ¬ nI (e + 1) ≤ nI t := nI_ge (by omega) (by omega)
    have hm : ¬ nI e < nI t := nI_nlt (by omega) (by omega)
    rcases tx_begin t (nI n) f L S A B (by omega) with ⟨bX, bY⟩ | ⟨bX, bY⟩
    · obtain ⟨r, hX, hY⟩ := ih (t + 1) x (by omega)
      exact ⟨r, fun post hp => br_f hl (bX _ (br_t rfl (nm_r (nI_1 t) (hX post hp)))), fun post hp => br_f hm (bY _ (br_t rfl (nm_r (nI_1 t) (hY post hp))))⟩
    · obtain ⟨r, hX, hY⟩ := ih (t + 1) (x + 1) (by omega)
      exact ⟨r, fun post hp => br_f hl (bX _ (br_f tx_10 (nm_e (nm_r (nI_1 t) (hX post hp))))), fun post hp => br_f hm (bY _ (br_f tx_10 (nm_r (tx_pm x).symm (nm_r (nI_1 t) (hY post hp)))))⟩
theorem tx_place (x1 : Int32) (n : Nat) (f : Int32) (L S A B : Nat → Int32) (hn : n ≤ 64) : ∀ (d t : Nat) (x : Int32), t + d = n → ∃ r : Int32, (r = -4 ∨ ∃ q : Nat, q < n ∧ r = nI q) ∧ (∀ post : Int32 → Prop, post r → wX_placeOfRun_4 post x1 (nI n) f L S A B (d + 1) x (nI t)) ∧ (∀ post : Int32 → Prop, post r → wY_runBegin_4 post x1 (nI n) f L S A B (d + 1) x (nI t)) := by
  intro d
  induction d with
  | zero =>
    intro t x h
    have hl : nI n ≤ nI t := nI_le (by omega) (by omega)
    exact ⟨-4, Or.inl rfl, fun post hp => br_t hl hp, fun post hp => br_t hl hp⟩
  | succ d ih =>
    intro t x h
    have hl : ¬ nI n ≤ nI t := nI_ge (by omega) (by omega)
    rcases tx_begin t (nI n) f L S A B (by omega) with ⟨bX, bY⟩ | ⟨bX, bY⟩
    · obtain ⟨r, hr, hX, hY⟩ := ih (t + 1) x (by omega)
      exact ⟨r, hr, fun post hp => br_f hl (bX _ (br_t rfl (nm_r (nI_1 t) (hX post hp)))), fun post hp => br_f hl (bY _ (br_t rfl (nm_r (nI_1 t) (hY post hp))))⟩
    · by_cases z : x = x1
      · exact ⟨nI t, Or.inr ⟨t, by omega, rfl⟩, fun post hp => br_f hl (bX _ (br_f tx_10 (br_t z hp))), fun post hp => br_f hl (bY _ (br_f tx_10 (br_t z hp)))⟩
      · obtain ⟨r, hr, hX, hY⟩ := ih (t + 1) (x + 1) (by omega)
        exact ⟨r, hr, fun post hp => br_f hl (bX _ (br_f tx_10 (br_f z (nm_e (nm_r (nI_1 t) (hX post hp)))))), fun post hp => br_f hl (bY _ (br_f tx_10 (br_f z (nm_e (nm_r (nI_1 t) (hY post hp))))))⟩
theorem tx_having (x1 : Int32) (n : Nat) (f : Int32) (L S A B : Nat → Int32) (hn : n ≤ 64) : ∀ (d t : Nat) (x : Int32), t + d = n → ∃ r : Int32, (∀ post : Int32 → Prop, post r → wX_having_16 post x1 (nI n) f L S A B (d + 1) x (nI t)) ∧ (∀ post : Int32 → Prop, post r → wY_having_16 post x1 (nI n) f L S A B (d + 1) x (nI t)) := by
  intro d
  induction d with
  | zero =>
    intro t x h
    have hl : nI n ≤ nI t := nI_le (by omega) (by omega)
    exact ⟨x, fun post hp => br_t hl hp, fun post hp => br_t hl hp⟩
  | succ d ih =>
    intro t x h
    have hi : vp_in (nI t) 64 := vp_in_nI (by omega) (by omega)
    have hl : ¬ nI n ≤ nI t := nI_ge (by omega) (by omega)
    by_cases z : (S (nI t).toNatClampNeg) &&& x1 = x1
    · obtain ⟨r, hX, hY⟩ := ih (t + 1) (x + 1) (by omega)
      exact ⟨r, fun post hp => br_f hl ⟨hi, br_t z (nm_e (nm_r (nI_1 t) (hX post hp)))⟩, fun post hp => br_f hl ⟨hi, br_t z (nm_e (nm_r (nI_1 t) (hY post hp)))⟩⟩
    · obtain ⟨r, hX, hY⟩ := ih (t + 1) x (by omega)
      exact ⟨r, fun post hp => br_f hl ⟨hi, br_f z (nm_r (nI_1 t) (hX post hp))⟩, fun post hp => br_f hl ⟨hi, br_f z (nm_r (nI_1 t) (hY post hp))⟩⟩
theorem tx_digest (n : Nat) (f : Int32) (L S A B : Nat → Int32) (hn : n ≤ 64) : ∀ (d t : Nat) (x : Int32), t + d = n → ∃ r : Int32, (∀ post : Int32 → Prop, post r → wX_digest_4 post (nI n) f L S A B (d + 1) x (nI t)) ∧ (∀ post : Int32 → Prop, post r → wY_digest_4 post (nI n) f L S A B (d + 1) x (nI t)) := by
  intro d
  induction d with
  | zero =>
    intro t x h
    have hl : nI n ≤ nI t := nI_le (by omega) (by omega)
    exact ⟨x, fun post hp => br_t hl hp, fun post hp => br_t hl hp⟩
  | succ d ih =>
    intro t x h
    have hi : vp_in (nI t) 64 := vp_in_nI (by omega) (by omega)
    have hl : ¬ nI n ≤ nI t := nI_ge (by omega) (by omega)
    obtain ⟨r, hX, hY⟩ := ih (t + 1) (x + ((nI t + 1) * ((64 * (L (nI t).toNatClampNeg)) + (S (nI t).toNatClampNeg)))) (by omega)
    exact ⟨r, fun post hp => br_f hl ⟨hi, hi, nm_e (nm_r (nI_1 t) (hX post hp))⟩, fun post hp => br_f hl ⟨hi, hi, nm_e (nm_r (nI_1 t) (hY post hp))⟩⟩
end
section
theorem tx_mk {n : Nat} (h : n ≤ 64) (f : Int32) (L S A B : Nat → Int32) : tx_ok (nI n, f, L, S, A, B) := ⟨n, f, L, S, A, B, h, rfl⟩
theorem tx_letter (c f : Int32) (L S A B : Nat → Int32) (x : Int32) : ((∀ post : Int32 → Prop, post 0 → wpX_isLetter post (c, f, L, S, A, B) x) ∧ (∀ post : Int32 → Prop, post 0 → wpY_isLetter post (c, f, L, S, A, B) x)) ∨ ((∀ post : Int32 → Prop, post 1 → wpX_isLetter post (c, f, L, S, A, B) x) ∧ (∀ post : Int32 → Prop, post 1 → wpY_isLetter post (c, f, L, S, A, B) x)) := by
  by_cases h0 : x < 0
  · exact Or.inl ⟨fun _ hp => br_t h0 hp, fun _ hp => br_t h0 hp⟩
  · obtain ⟨j, hj, rfl⟩ := nI_of h0
    by_cases h : 26 ≤ j
    · exact Or.inl ⟨fun _ hp => br_f h0 (br_t (nI_le (a := 26) h hj) hp), fun _ hp => br_f h0 (br_t (nI_lt (a := 25) h hj) hp)⟩
    · exact Or.inr ⟨fun _ hp => br_f h0 (br_f (nI_ge (b := 26) (by omega) (by decide)) hp), fun _ hp => br_f h0 (br_f (nI_nlt (a := 25) (by omega) (by decide)) hp)⟩
theorem tx_gap (n : Nat) (f : Int32) (L S A B : Nat → Int32) (hn : n ≤ 64) (x : Int32) : (x < 0 ∧ (∀ post : Int32 → Prop, post 0 → wpX_isGap post (nI n, f, L, S, A, B) x)) ∨ (¬ x < 0 ∧ nI n < x ∧ (∀ post : Int32 → Prop, post 0 → wpX_isGap post (nI n, f, L, S, A, B) x)) ∨ (∃ p : Nat, p ≤ n ∧ x = nI p ∧ (∀ post : Int32 → Prop, post 1 → wpX_isGap post (nI n, f, L, S, A, B) x)) := by
  by_cases h0 : x < 0
  · exact Or.inl ⟨h0, fun _ hp => br_t h0 hp⟩
  · by_cases h1 : nI n < x
    · exact Or.inr (Or.inl ⟨h0, h1, fun _ hp => br_f h0 (br_t h1 hp)⟩)
    · obtain ⟨p, hp, rfl⟩ := nI_of h0
      have h2 : p ≤ n := by
        rw [nI_ltI (by omega) hp] at h1
        omega
      exact Or.inr (Or.inr ⟨p, h2, rfl, fun _ hq => br_f h0 (br_f h1 hq)⟩)
theorem tx_stretch (n : Nat) (f : Int32) (L S A B : Nat → Int32) (hn : n ≤ 64) (x y : Int32) : ((∀ post : Int32 → Prop, post 0 → wpX_isStretch post (nI n, f, L, S, A, B) x y) ∧ (∀ post : Int32 → Prop, post 0 → wpY_isStretch post (nI n, f, L, S, A, B) x y)) ∨ (∃ i j : Nat, i ≤ j ∧ j ≤ n ∧ x = nI i ∧ y = nI j ∧ (∀ post : Int32 → Prop, post 1 → wpX_isStretch post (nI n, f, L, S, A, B) x y) ∧ (∀ post : Int32 → Prop, post 1 → wpY_isStretch post (nI n, f, L, S, A, B) x y)) := by
  by_cases h0 : x < 0
  · exact Or.inl ⟨fun _ hp => br_t h0 hp, fun _ hp => br_t h0 hp⟩
  · by_cases h1 : y < x
    · exact Or.inl ⟨fun _ hp => br_f h0 (br_t h1 hp), fun _ hp => br_f h0 (br_t h1 hp)⟩
    · by_cases h2 : nI n < y
      · exact Or.inl ⟨fun _ hp => br_f h0 (br_f h1 (br_t h2 hp)), fun _ hp => br_f h0 (br_f h1 (br_t h2 hp))⟩
      · have h3 : ¬ y < 0 := Int32.not_lt.mpr (Int32.le_trans (Int32.not_lt.mp h0) (Int32.not_lt.mp h1))
        obtain ⟨i, hi, rfl⟩ := nI_of h0
        obtain ⟨j, hj, rfl⟩ := nI_of h3
        have h4 : i ≤ j := by
          have h := h1
          rw [nI_ltI hj hi] at h
          omega
        have h5 : j ≤ n := by
          have h := h2
          rw [nI_ltI (by omega) hj] at h
          omega
        exact Or.inr ⟨i, j, h4, h5, rfl, rfl, fun _ hp => br_f h0 (br_f h1 (br_f h2 hp)), fun _ hp => br_f h0 (br_f h1 (br_f h2 hp))⟩
theorem tx_place1 (n : Nat) (f : Int32) (L S A B : Nat → Int32) (hn : n ≤ 64) (x : Int32) : (x < 0 ∧ (∀ post : Int32 → Prop, post 0 → wpX_isPlace post (nI n, f, L, S, A, B) x)) ∨ (¬ x < 0 ∧ nI n ≤ x ∧ (∀ post : Int32 → Prop, post 0 → wpX_isPlace post (nI n, f, L, S, A, B) x)) ∨ (∃ p : Nat, p < n ∧ x = nI p ∧ (∀ post : Int32 → Prop, post 1 → wpX_isPlace post (nI n, f, L, S, A, B) x)) := by
  by_cases h0 : x < 0
  · exact Or.inl ⟨h0, fun _ hp => br_t h0 hp⟩
  · by_cases h1 : nI n ≤ x
    · exact Or.inr (Or.inl ⟨h0, h1, fun _ hp => br_f h0 (br_t h1 hp)⟩)
    · obtain ⟨p, hp, rfl⟩ := nI_of h0
      have h2 : p < n := by
        have h := h1
        rw [nI_leI (by omega) hp] at h
        omega
      exact Or.inr (Or.inr ⟨p, h2, rfl, fun _ hq => br_f h0 (br_f h1 hq)⟩)
/-- one answer and one state, for which every post gives both walks -/
def tx_two (WX : (Int32 → SX → Prop) → Prop) (WY : (Int32 → SY → Prop) → Prop) : Prop := ∃ (r : Int32) (u : SX), (∀ post : Int32 → SX → Prop, post r u → WX post) ∧ (∀ post : Int32 → SY → Prop, post r u → WY post) ∧ tx_ok u
def tx_one (WX : (Int32 → Prop) → Prop) (WY : (Int32 → Prop) → Prop) : Prop := ∃ r : Int32, (∀ post : Int32 → Prop, post r → WX post) ∧ (∀ post : Int32 → Prop, post r → WY post)
theorem tx_nle {x : Int32} {n : Nat} (h : nI n < x) : ¬ x ≤ nI n := fun z => absurd h (Int32.not_lt.mpr z)
theorem tx_type (n : Nat) (f : Int32) (L S A B : Nat → Int32) (hn : n ≤ 64) (v1 v2 : Int32) : tx_two (fun post => wpX_type post (nI n, f, L, S, A, B) v1 v2) (fun post => wpY_type post (nI n, f, L, S, A, B) v1 v2) := by
  unfold wpX_type wpY_type
  rcases tx_letter (nI n) f L S A B v2 with ⟨aX, aY⟩ | ⟨aX, aY⟩
  · exact ⟨-1, _, fun post hp => aX _ (br_t rfl hp), fun post hp => aY _ (br_t rfl hp), tx_mk hn f L S A B⟩
  · rcases tx_gap n f L S A B hn v1 with ⟨h0, gX⟩ | ⟨h0, h1, gX⟩ | ⟨p, hpn, rfl, gX⟩
    · exact ⟨-1, _, fun post hp => aX _ (br_f tx_10 (gX _ (br_t rfl hp))), fun post hp => aY _ (br_f tx_10 (br_t h0 hp)), tx_mk hn f L S A B⟩
    · exact ⟨-1, _, fun post hp => aX _ (br_f tx_10 (gX _ (br_t rfl hp))), fun post hp => aY _ (br_f tx_10 (br_f h0 (br_f (tx_nle h1) hp))), tx_mk hn f L S A B⟩
    · have g0 : ¬ nI p < 0 := nI_pos (by omega)
      have g1 : nI p ≤ nI n := nI_le hpn (by omega)
      have e64 : (64 : Int32) - nI n = nI (64 - n) := pk_sub (a := 64) hn
      by_cases hf : n = 64
      · subst hf
        have c : (64 - nI 64) < (1 : Int32) := by decide
        exact ⟨-2, _, fun post hp => aX _ (br_f tx_10 (gX _ (br_f tx_10 (br_t c (br_t rfl hp))))), fun post hp => aY _ (br_f tx_10 (br_f g0 (br_t g1 (br_t rfl hp)))), tx_mk hn f L S A B⟩
      · have c : ¬ (64 - nI n) < (1 : Int32) := by rw [e64]; exact nI_nlt (b := 1) (by omega) (by omega)
        have cY : ¬ nI n = 64 := fun z => hf ((nI_eq (b := 64) (by omega) (by decide)).mp z)
        have hi : vp_in (nI p) 64 := vp_in_nI (by omega) (by omega)
        obtain ⟨f', L', S', rX, rY⟩ := tx_room p 1 n 1 f L S A B hpn (by omega) rfl
        by_cases hz : n = 0
        · have hz' : nI n = 0 := by rw [hz]; exact nI_0
          exact ⟨nI (n + 1), _, fun post hp => aX _ (br_f tx_10 (gX _ (br_f tx_10 (br_f c (br_f tx_10 (br_t hz' (rX _ ⟨hi, nm_e ⟨hi, nm_e hp⟩⟩))))))), fun post hp => aY _ (br_f tx_10 (br_f g0 (br_t g1 (br_f cY (br_t hz' (rY _ ⟨hi, nm_e ⟨hi, nm_e hp⟩⟩)))))), tx_mk (by omega) f' _ _ A B⟩
        · have hz' : ¬ nI n = 0 := nI_ne0 (by omega) (by omega)
          by_cases hq : nI p = 0
          · exact ⟨nI (n + 1), _, fun post hp => aX _ (br_f tx_10 (gX _ (br_f tx_10 (br_f c (br_f tx_10 (br_f hz' (br_t hq (rX _ ⟨hi, nm_e ⟨hi, nm_e hp⟩⟩)))))))), fun post hp => aY _ (br_f tx_10 (br_f g0 (br_t g1 (br_f cY (br_f hz' (br_t hq (rY _ ⟨hi, nm_e ⟨hi, nm_e hp⟩⟩))))))), tx_mk (by omega) f' _ _ A B⟩
          · have hj : vp_in (nI p - 1) 64 := by
              cases p with
              | zero => exact absurd nI_0 hq
              | succ p => exact pk_in p 64 (by omega) (nI_pred p)
            exact ⟨nI (n + 1), _, fun post hp => aX _ (br_f tx_10 (gX _ (br_f tx_10 (br_f c (br_f tx_10 (br_f hz' (br_f hq ⟨hj, (rX _ ⟨hi, nm_e ⟨hi, nm_e hp⟩⟩)⟩))))))), fun post hp => aY _ (br_f tx_10 (br_f g0 (br_t g1 (br_f cY (br_f hz' (br_f hq ⟨hj, (rY _ ⟨hi, nm_e ⟨hi, nm_e hp⟩⟩)⟩)))))), tx_mk (by omega) f' _ _ A B⟩
theorem tx_style0 (x : Int32) (c f : Int32) (L S A B : Nat → Int32) : (x < 0 ∧ (∀ post : Int32 → Prop, post 0 → wpX_isStyle post (c, f, L, S, A, B) x)) ∨ (¬ x < 0 ∧ ¬ x ≤ 63 ∧ (∀ post : Int32 → Prop, post 0 → wpX_isStyle post (c, f, L, S, A, B) x)) ∨ (¬ x < 0 ∧ x ≤ 63 ∧ (∀ post : Int32 → Prop, post 1 → wpX_isStyle post (c, f, L, S, A, B) x)) := by
  by_cases h0 : x < 0
  · exact Or.inl ⟨h0, fun _ hp => br_t h0 hp⟩
  · obtain ⟨j, hj, rfl⟩ := nI_of h0
    by_cases h : 64 ≤ j
    · exact Or.inr (Or.inl ⟨h0, nI_ge (a := 63) h hj, fun _ hp => br_f h0 (br_t (nI_le (a := 64) h hj) hp)⟩)
    · exact Or.inr (Or.inr ⟨h0, nI_le (b := 63) (by omega) (by decide), fun _ hp => br_f h0 (br_f (nI_ge (b := 64) (by omega) (by decide)) hp)⟩)
theorem tx_put (n : Nat) (f : Int32) (L S A B : Nat → Int32) (hn : n ≤ 64) (v1 v2 v3 v4 : Int32) : tx_two (fun post => wpX_put post (nI n, f, L, S, A, B) v1 v2 v3 v4) (fun post => wpY_put post (nI n, f, L, S, A, B) v1 v2 v3 v4) := by
  unfold wpX_put wpY_put
  rcases tx_letter (nI n) f L S A B v2 with ⟨aX, aY⟩ | ⟨aX, aY⟩
  · exact ⟨-1, _, fun post hp => aX _ (br_t rfl hp), fun post hp => aY _ (br_t rfl hp), tx_mk hn f L S A B⟩
  · rcases tx_gap n f L S A B hn v1 with ⟨h0, gX⟩ | ⟨h0, h1, gX⟩ | ⟨p, hpn, rfl, gX⟩
    · exact ⟨-1, _, fun post hp => aX _ (br_f tx_10 (gX _ (br_t rfl hp))), fun post hp => aY _ (br_f tx_10 (br_t h0 hp)), tx_mk hn f L S A B⟩
    · exact ⟨-1, _, fun post hp => aX _ (br_f tx_10 (gX _ (br_t rfl hp))), fun post hp => aY _ (br_f tx_10 (br_f h0 (br_t h1 hp))), tx_mk hn f L S A B⟩
    · have g0 : ¬ nI p < 0 := nI_pos (by omega)
      have g1 : ¬ nI n < nI p := nI_nlt hpn (by omega)
      by_cases k0 : v3 < 0
      · exact ⟨-1, _, fun post hp => aX _ (br_f tx_10 (gX _ (br_f tx_10 (br_t k0 hp)))), fun post hp => aY _ (br_f tx_10 (br_f g0 (br_f g1 (br_t k0 hp)))), tx_mk hn f L S A B⟩
      · by_cases k1 : 64 < v3
        · exact ⟨-1, _, fun post hp => aX _ (br_f tx_10 (gX _ (br_f tx_10 (br_f k0 (br_t k1 hp))))), fun post hp => aY _ (br_f tx_10 (br_f g0 (br_f g1 (br_f k0 (br_t k1 hp))))), tx_mk hn f L S A B⟩
        · rcases tx_style0 v4 (nI n) f L S A B with ⟨s0, sX⟩ | ⟨s0, s1, sX⟩ | ⟨s0, s1, sX⟩
          · exact ⟨-1, _, fun post hp => aX _ (br_f tx_10 (gX _ (br_f tx_10 (br_f k0 (br_f k1 (sX _ (br_t rfl hp))))))), fun post hp => aY _ (br_f tx_10 (br_f g0 (br_f g1 (br_f k0 (br_f k1 (br_t s0 hp)))))), tx_mk hn f L S A B⟩
          · exact ⟨-1, _, fun post hp => aX _ (br_f tx_10 (gX _ (br_f tx_10 (br_f k0 (br_f k1 (sX _ (br_t rfl hp))))))), fun post hp => aY _ (br_f tx_10 (br_f g0 (br_f g1 (br_f k0 (br_f k1 (br_f s0 (br_f s1 hp))))))), tx_mk hn f L S A B⟩
          · obtain ⟨k, hk, rfl⟩ := nI_of k0
            have hk64 : k ≤ 64 := by
              have h : ¬ nI 64 < nI k := k1
              rw [nI_ltI (by decide) hk] at h
              omega
            have e64 : (64 : Int32) - nI n = nI (64 - n) := pk_sub (a := 64) hn
            by_cases hf : n + k ≤ 64
            · have c : ¬ (64 - nI n) < nI k := by rw [e64]; exact nI_nlt (by omega) (by omega)
              have cY : nI n + nI k ≤ 64 := by rw [nI_add]; exact nI_le (b := 64) hf (by decide)
              obtain ⟨f', L1, S1, rX, rY⟩ := tx_room p k n _ f L S A B hpn hf rfl
              obtain ⟨L', S', lX, lY⟩ := tx_put57 p k v2 v4 (nI (n + k)) f' A B (by omega) k 0 L1 S1 (by omega)
              rw [nI_0] at lY
              exact ⟨nI (n + k), _, fun post hp => aX _ (br_f tx_10 (gX _ (br_f tx_10 (br_f k0 (br_f k1 (sX _ (br_f tx_10 (br_f c (br_f tx_10 (rX _ ⟨_, lX post hp⟩)))))))))), fun post hp => aY _ (br_f tx_10 (br_f g0 (br_f g1 (br_f k0 (br_f k1 (br_f s0 (br_t s1 (br_t cY (rY _ ⟨_, lY post hp⟩))))))))), tx_mk hf f' L' S' A B⟩
            · have c : (64 - nI n) < nI k := by rw [e64]; exact nI_lt (by omega) (by omega)
              have cY : ¬ nI n + nI k ≤ 64 := by rw [nI_add]; exact nI_ge (a := 64) (by omega) (by omega)
              exact ⟨-2, _, fun post hp => aX _ (br_f tx_10 (gX _ (br_f tx_10 (br_f k0 (br_f k1 (sX _ (br_f tx_10 (br_t c (br_t rfl hp))))))))), fun post hp => aY _ (br_f tx_10 (br_f g0 (br_f g1 (br_f k0 (br_f k1 (br_f s0 (br_t s1 (br_f cY hp)))))))), tx_mk hn f L S A B⟩
end
section
theorem tx_out (i j n : Nat) (f : Int32) (L S A B : Nat → Int32) (hij : i ≤ j) (hj : j ≤ n) (hn : n ≤ 64) : ∃ (f' : Int32) (L' S' : Nat → Int32), (∀ post : SX → Prop, post (nI (n - (j - i)), f', L', S', A, B) → wpX_takeOut post (nI n, f, L, S, A, B) (nI i) (nI j)) ∧ (∀ post : Int32 → SY → Prop, post (nI (n - (j - i))) (nI (n - (j - i)), f', L', S', A, B) → wpY_remove post (nI n, f, L, S, A, B) (nI i) (nI j)) := by
  obtain ⟨f', L', S', hX, hY⟩ := tx_out7 i j n f A B hij hn (n - j) j L S (by omega) (Nat.le_refl _)
  have h0 : ¬ nI i < 0 := nI_pos (by omega)
  have h1 : ¬ nI j < nI i := nI_nlt hij (by omega)
  have h2 : ¬ nI n < nI j := nI_nlt hj (by omega)
  refine ⟨f', L', S', fun post hp => nm_e ⟨_, hX post hp⟩, fun post hp => ?_⟩
  unfold wpY_remove
  exact br_f h0 (br_f h1 (br_f h2 (br_f tx_10 ⟨_, hY post hp⟩)))
theorem tx_remove (n : Nat) (f : Int32) (L S A B : Nat → Int32) (hn : n ≤ 64) (v1 v2 : Int32) : tx_two (fun post => wpX_remove post (nI n, f, L, S, A, B) v1 v2) (fun post => wpY_remove post (nI n, f, L, S, A, B) v1 v2) := by
  rcases tx_stretch n f L S A B hn v1 v2 with ⟨aX, aY⟩ | ⟨i, j, hij, hj, rfl, rfl, aX, aY⟩
  · unfold wpX_remove wpY_remove
    exact ⟨-1, _, fun post hp => aX _ (br_t rfl hp), fun post hp => aY _ (br_t rfl hp), tx_mk hn f L S A B⟩
  · obtain ⟨f', L', S', hX, hY⟩ := tx_out i j n f L S A B hij hj hn
    unfold wpX_remove
    exact ⟨nI (n - (j - i)), _, fun post hp => aX _ (br_f tx_10 (hX _ hp)), hY, tx_mk (by omega) f' L' S' A B⟩
theorem tx_move (n : Nat) (f : Int32) (L S A B : Nat → Int32) (hn : n ≤ 64) (v1 v2 v3 : Int32) : tx_two (fun post => wpX_move post (nI n, f, L, S, A, B) v1 v2 v3) (fun post => wpY_move post (nI n, f, L, S, A, B) v1 v2 v3) := by
  unfold wpX_move wpY_move
  rcases tx_stretch n f L S A B hn v1 v2 with ⟨aX, aY⟩ | ⟨i, j, hij, hj, rfl, rfl, aX, aY⟩
  · exact ⟨-1, _, fun post hp => aX _ (br_t rfl hp), fun post hp => aY _ (br_t rfl hp), tx_mk hn f L S A B⟩
  · by_cases h0 : v3 < 0
    · exact ⟨-1, _, fun post hp => aX _ (br_f tx_10 (br_t h0 hp)), fun post hp => aY _ (br_f tx_10 (br_t h0 hp)), tx_mk hn f L S A B⟩
    · by_cases h1 : v3 ≤ nI n - (nI j - nI i)
      · obtain ⟨p, hp, rfl⟩ := nI_of h0
        have em : nI j - nI i = nI (j - i) := pk_sub hij
        have hp' : p ≤ n - (j - i) := by
          have h := h1
          rw [em, pk_sub (by omega), nI_leI hp (by omega)] at h
          exact h
        obtain ⟨A', B', kX, kY⟩ := tx_hold i j (nI n) f L S A B hij (by omega)
        obtain ⟨f1, L1, S1, oX, oY⟩ := tx_out i j n f L S A' B' hij hj hn
        obtain ⟨f2, L2, S2, hX, hY⟩ := tx_held p (j - i) (n - (j - i)) _ f1 L1 S1 A' B' hp' (by omega) em
        exact ⟨0, _, fun post hp => aX _ (br_f tx_10 (br_f h0 (br_t h1 (kX _ (oX _ (hX _ hp)))))), fun post hp => aY _ (br_f tx_10 (br_f h0 (br_t h1 (kY _ (oY _ (hY _ hp)))))), tx_mk (by omega) f2 L2 S2 A' B'⟩
      · exact ⟨-1, _, fun post hp => aX _ (br_f tx_10 (br_f h0 (br_f h1 hp))), fun post hp => aY _ (br_f tx_10 (br_f h0 (br_f h1 hp))), tx_mk hn f L S A B⟩
theorem tx_copy (n : Nat) (f : Int32) (L S A B : Nat → Int32) (hn : n ≤ 64) (v1 v2 v3 : Int32) : tx_two (fun post => wpX_copy post (nI n, f, L, S, A, B) v1 v2 v3) (fun post => wpY_copy post (nI n, f, L, S, A, B) v1 v2 v3) := by
  unfold wpX_copy wpY_copy
  rcases tx_stretch n f L S A B hn v1 v2 with ⟨aX, aY⟩ | ⟨i, j, hij, hj, rfl, rfl, aX, aY⟩
  · exact ⟨-1, _, fun post hp => aX _ (br_t rfl hp), fun post hp => aY _ (br_t rfl hp), tx_mk hn f L S A B⟩
  · rcases tx_gap n f L S A B hn v3 with ⟨h0, gX⟩ | ⟨h0, h1, gX⟩ | ⟨p, hpn, rfl, gX⟩
    · exact ⟨-1, _, fun post hp => aX _ (br_f tx_10 (gX _ (br_t rfl hp))), fun post hp => aY _ (br_f tx_10 (br_t h0 hp)), tx_mk hn f L S A B⟩
    · exact ⟨-1, _, fun post hp => aX _ (br_f tx_10 (gX _ (br_t rfl hp))), fun post hp => aY _ (br_f tx_10 (br_f h0 (br_f (tx_nle h1) hp))), tx_mk hn f L S A B⟩
    · have g0 : ¬ nI p < 0 := nI_pos (by omega)
      have g1 : nI p ≤ nI n := nI_le hpn (by omega)
      have em : nI j - nI i = nI (j - i) := pk_sub hij
      have e64 : (64 : Int32) - nI n = nI (64 - n) := pk_sub (a := 64) hn
      have es : nI n + nI j - nI i = nI (n + j - i) := by rw [nI_add, pk_sub (by omega)]
      by_cases hf : n + (j - i) ≤ 64
      · have c : ¬ (64 - nI n) < nI j - nI i := by rw [e64, em]; exact nI_nlt (by omega) (by omega)
        have cY : nI n + nI j - nI i ≤ 64 := by rw [es]; exact nI_le (b := 64) (by omega) (by decide)
        obtain ⟨A', B', kX, kY⟩ := tx_hold i j (nI n) f L S A B hij (by omega)
        obtain ⟨f2, L2, S2, hX, hY⟩ := tx_held p (j - i) n _ f L S A' B' hpn hf em
        exact ⟨nI (n + (j - i)), _, fun post hp => aX _ (br_f tx_10 (gX _ (br_f tx_10 (br_f c (br_f tx_10 (kX _ (hX _ hp))))))), fun post hp => aY _ (br_f tx_10 (br_f g0 (br_t g1 (br_t cY (kY _ (hY _ hp)))))), tx_mk hf f2 L2 S2 A' B'⟩
      · have c : (64 - nI n) < nI j - nI i := by rw [e64, em]; exact nI_lt (by omega) (by omega)
        have cY : ¬ nI n + nI j - nI i ≤ 64 := by rw [es]; exact nI_ge (a := 64) (by omega) (by omega)
        exact ⟨-2, _, fun post hp => aX _ (br_f tx_10 (gX _ (br_f tx_10 (br_t c (br_t rfl hp))))), fun post hp => aY _ (br_f tx_10 (br_f g0 (br_t g1 (br_f cY hp)))), tx_mk hn f L S A B⟩
theorem tx_style (n : Nat) (f : Int32) (L S A B : Nat → Int32) (hn : n ≤ 64) (v1 v2 v3 v4 : Int32) : tx_two (fun post => wpX_style post (nI n, f, L, S, A, B) v1 v2 v3 v4) (fun post => wpY_style post (nI n, f, L, S, A, B) v1 v2 v3 v4) := by
  unfold wpX_style wpY_style
  rcases tx_stretch n f L S A B hn v1 v2 with ⟨aX, aY⟩ | ⟨i, j, hij, hj, rfl, rfl, aX, aY⟩
  · exact ⟨-1, _, fun post hp => aX _ (br_t rfl hp), fun post hp => aY _ (br_t rfl hp), tx_mk hn f L S A B⟩
  · by_cases h0 : v3 < 0
    · exact ⟨-1, _, fun post hp => aX _ (br_f tx_10 (br_t h0 hp)), fun post hp => aY _ (br_f tx_10 (br_t h0 hp)), tx_mk hn f L S A B⟩
    · obtain ⟨m, hm, rfl⟩ := nI_of h0
      by_cases h : 16 ≤ m
      · have c : (16 : Int32) ≤ nI m := nI_le (a := 16) h hm
        have cY : (15 : Int32) < nI m := nI_lt (a := 15) h hm
        exact ⟨-1, _, fun post hp => aX _ (br_f tx_10 (br_f h0 (br_t c hp))), fun post hp => aY _ (br_f tx_10 (br_f h0 (br_t cY hp))), tx_mk hn f L S A B⟩
      · have c : ¬ (16 : Int32) ≤ nI m := nI_ge (b := 16) (by omega) (by decide)
        have cY : ¬ (15 : Int32) < nI m := nI_nlt (a := 15) (by omega) (by decide)
        rcases tx_style0 v4 (nI n) f L S A B with ⟨s0, sX⟩ | ⟨s0, s1, sX⟩ | ⟨s0, s1, sX⟩
        · exact ⟨-1, _, fun post hp => aX _ (br_f tx_10 (br_f h0 (br_f c (sX _ (br_t rfl hp))))), fun post hp => aY _ (br_f tx_10 (br_f h0 (br_f cY (br_t s0 hp)))), tx_mk hn f L S A B⟩
        · exact ⟨-1, _, fun post hp => aX _ (br_f tx_10 (br_f h0 (br_f c (sX _ (br_t rfl hp))))), fun post hp => aY _ (br_f tx_10 (br_f h0 (br_f cY (br_f s0 (br_f s1 hp))))), tx_mk hn f L S A B⟩
        · rcases tx_mask m (by omega) with ⟨m1, m2, m3⟩ | ⟨m1, m2, m3⟩
          · obtain ⟨r, S', lX, lY⟩ := tx_style43 j v4 (nI m) (nI n) f L A B (by omega) (j - i) i 0 S (by omega)
            exact ⟨r, _, fun post hp => aX _ (br_f tx_10 (br_f h0 (br_f c (sX _ (br_f tx_10 (nm_r m3 (br_t m1 ⟨_, lX post hp⟩))))))), fun post hp => aY _ (br_f tx_10 (br_f h0 (br_f cY (br_f s0 (br_t s1 (br_f m2 ⟨_, lY _ hp⟩)))))), tx_mk hn f L S' A B⟩
          · obtain ⟨r, S', lX, lY⟩ := tx_style43 j v4 ((nI m &&& 7) + 56) (nI n) f L A B (by omega) (j - i) i 0 S (by omega)
            refine ⟨r, _, fun post hp => aX _ (br_f tx_10 (br_f h0 (br_f c (sX _ (br_f tx_10 (nm_e (br_f m1 ⟨j - i + 1, ?_⟩))))))), fun post hp => aY _ (br_f tx_10 (br_f h0 (br_f cY (br_f s0 (br_t s1 (br_t m2 ⟨_, lY _ hp⟩)))))), tx_mk hn f L S' A B⟩
            rw [m3]
            exact lX post hp
theorem tx_toggle (n : Nat) (f : Int32) (L S A B : Nat → Int32) (hn : n ≤ 64) (v1 v2 v3 : Int32) : tx_two (fun post => wpX_toggle post (nI n, f, L, S, A, B) v1 v2 v3) (fun post => wpY_toggle post (nI n, f, L, S, A, B) v1 v2 v3) := by
  unfold wpX_toggle wpY_toggle
  rcases tx_stretch n f L S A B hn v1 v2 with ⟨aX, aY⟩ | ⟨i, j, hij, hj, rfl, rfl, aX, aY⟩
  · exact ⟨-1, _, fun post hp => aX _ (br_t rfl hp), fun post hp => aY _ (br_t rfl hp), tx_mk hn f L S A B⟩
  · have main : ((∃ S' : Nat → Int32, (∀ post : Int32 → SX → Prop, post 1 (nI n, f, L, S', A, B) → ∃ k, wX_toggle_39 post (nI j) v3 1 (nI n) f k (nI i) L S A B) ∧ (∀ post : Int32 → SY → Prop, post 1 (nI n, f, L, S', A, B) → ∃ k, wY_toggle_32 post (nI i) (nI j) v3 (nI n) f L S A B k 1 (nI i))) ∧ (∀ post : Int32 → Prop, post 0 → wpX_allHave post (nI n, f, L, S, A, B) (nI i) (nI j) v3)) ∨ ((∃ S' : Nat → Int32, (∀ post : Int32 → SX → Prop, post 0 (nI n, f, L, S', A, B) → ∃ k, wX_toggle_39 post (nI j) v3 0 (nI n) f k (nI i) L S A B) ∧ (∀ post : Int32 → SY → Prop, post 0 (nI n, f, L, S', A, B) → ∃ k, wY_toggle_32 post (nI i) (nI j) v3 (nI n) f L S A B k 1 (nI i))) ∧ (∀ post : Int32 → Prop, post 1 → wpX_allHave post (nI n, f, L, S, A, B) (nI i) (nI j) v3)) := by
      rcases tx_all (nI i) j v3 (nI n) f L S A B (by omega) (j - i) i (by omega) with ⟨wX, wY⟩ | ⟨wX, wY⟩
      · obtain ⟨r, S', lX, lY⟩ := tx_tog1 j v3 (nI n) f L A B (by omega) (j - i) i 0 S (by omega)
        exact Or.inl ⟨⟨S', fun post hp => ⟨_, lX post hp⟩, fun post hp => ⟨_, wY post ⟨_, lY _ (br_t rfl hp)⟩⟩⟩, fun post hp => ⟨_, wX post hp⟩⟩
      · obtain ⟨r, S', lX, lY⟩ := tx_tog0 j v3 (nI n) f L A B (by omega) (j - i) i 0 S (by omega)
        exact Or.inr ⟨⟨S', fun post hp => ⟨_, lX post hp⟩, fun post hp => ⟨_, wY post ⟨_, lY _ (br_f tx_10 hp)⟩⟩⟩, fun post hp => ⟨_, wX post hp⟩⟩
    have mark : (¬ v3 = 1 ∧ ¬ v3 = 2 ∧ ¬ v3 = 4 ∧ (∀ post : Int32 → Prop, post 0 → wpX_isMark post (nI n, f, L, S, A, B) v3)) ∨ ((∀ post : Int32 → Prop, post 1 → wpX_isMark post (nI n, f, L, S, A, B) v3) ∧ (∀ P Q : Prop, P → ((v3 = 1 → P) ∧ (¬ v3 = 1 → ((v3 = 2 → P) ∧ (¬ v3 = 2 → ((v3 = 4 → P) ∧ (¬ v3 = 4 → Q))))))) ) := by
      by_cases b1 : v3 = 1
      · exact Or.inr ⟨fun _ hp => br_t b1 hp, fun _ _ hp => br_t b1 hp⟩
      · by_cases b2 : v3 = 2
        · exact Or.inr ⟨fun _ hp => br_f b1 (br_t b2 hp), fun _ _ hp => br_f b1 (br_t b2 hp)⟩
        · by_cases b4 : v3 = 4
          · exact Or.inr ⟨fun _ hp => br_f b1 (br_f b2 (br_t b4 hp)), fun _ _ hp => br_f b1 (br_f b2 (br_t b4 hp))⟩
          · exact Or.inl ⟨b1, b2, b4, fun _ hp => br_f b1 (br_f b2 (br_f b4 hp))⟩
    rcases mark with ⟨b1, b2, b4, mX⟩ | ⟨mX, mY⟩
    · exact ⟨-1, _, fun post hp => aX _ (br_f tx_10 (mX _ (br_t rfl hp))), fun post hp => aY _ (br_f tx_10 (br_f b1 (br_f b2 (br_f b4 hp)))), tx_mk hn f L S A B⟩
    · rcases main with ⟨⟨S', lX, lY⟩, wX⟩ | ⟨⟨S', lX, lY⟩, wX⟩
      · exact ⟨1, _, fun post hp => aX _ (br_f tx_10 (mX _ (br_f tx_10 (wX _ (br_t rfl (lX post hp)))))), fun post hp => aY _ (br_f tx_10 (mY _ _ (lY post hp))), tx_mk hn f L S' A B⟩
      · exact ⟨0, _, fun post hp => aX _ (br_f tx_10 (mX _ (br_f tx_10 (wX _ (br_f tx_10 (lX post hp)))))), fun post hp => aY _ (br_f tx_10 (mY _ _ (lY post hp))), tx_mk hn f L S' A B⟩
theorem tx_replace (n : Nat) (f : Int32) (L S A B : Nat → Int32) (hn : n ≤ 64) (v1 v2 : Int32) : tx_two (fun post => wpX_replace post (nI n, f, L, S, A, B) v1 v2) (fun post => wpY_replace post (nI n, f, L, S, A, B) v1 v2) := by
  unfold wpX_replace wpY_replace
  rcases tx_letter (nI n) f L S A B v1 with ⟨aX, aY⟩ | ⟨aX, aY⟩
  · exact ⟨-1, _, fun post hp => aX _ (br_t rfl hp), fun post hp => aY _ (br_t rfl hp), tx_mk hn f L S A B⟩
  · rcases tx_letter (nI n) f L S A B v2 with ⟨bX, bY⟩ | ⟨bX, bY⟩
    · exact ⟨-1, _, fun post hp => aX _ (br_f tx_10 (bX _ (br_t rfl hp))), fun post hp => aY _ (br_f tx_10 (bY _ (br_t rfl hp))), tx_mk hn f L S A B⟩
    · obtain ⟨r, L', lX, lY⟩ := tx_repl v1 v2 n f S A B hn n 0 0 L (by omega)
      rw [nI_0] at lX lY
      exact ⟨r, _, fun post hp => aX _ (br_f tx_10 (bX _ (br_f tx_10 ⟨_, lX post hp⟩))), fun post hp => aY _ (br_f tx_10 (bY _ (br_f tx_10 ⟨_, lY post hp⟩))), tx_mk hn f L' S A B⟩
theorem tx_setFlag (n : Nat) (f : Int32) (L S A B : Nat → Int32) (hn : n ≤ 64) (v1 : Int32) : tx_two (fun post => wpX_setFlag post (nI n, f, L, S, A, B) v1) (fun post => wpY_setFlag post (nI n, f, L, S, A, B) v1) := by
  unfold wpX_setFlag wpY_setFlag
  rcases tx_gap n f L S A B hn v1 with ⟨h0, gX⟩ | ⟨h0, h1, gX⟩ | ⟨p, hpn, rfl, gX⟩
  · exact ⟨-1, _, fun post hp => gX _ (br_t rfl hp), fun post hp => br_t h0 hp, tx_mk hn f L S A B⟩
  · exact ⟨-1, _, fun post hp => gX _ (br_t rfl hp), fun post hp => br_f h0 (br_f (tx_nle h1) hp), tx_mk hn f L S A B⟩
  · exact ⟨f, _, fun post hp => gX _ (br_f tx_10 hp), fun post hp => br_f (nI_pos (by omega)) (br_t (nI_le hpn (by omega)) hp), tx_mk hn (nI p) L S A B⟩
end
section
theorem tx_ltr (n : Nat) (f : Int32) (L S A B : Nat → Int32) (hn : n ≤ 64) (v1 : Int32) : tx_one (fun post => wpX_letter post (nI n, f, L, S, A, B) v1) (fun post => wpY_letter post (nI n, f, L, S, A, B) v1) := by
  unfold wpX_letter wpY_letter
  rcases tx_place1 n f L S A B hn v1 with ⟨h0, gX⟩ | ⟨h0, h1, gX⟩ | ⟨p, hpn, rfl, gX⟩
  · exact ⟨-4, fun post hp => gX _ (br_t rfl hp), fun post hp => br_t h0 hp⟩
  · exact ⟨-4, fun post hp => gX _ (br_t rfl hp), fun post hp => br_f h0 (br_t h1 hp)⟩
  · have hi : vp_in (nI p) 64 := vp_in_nI (by omega) (by omega)
    exact ⟨L (nI p).toNatClampNeg, fun post hp => gX _ (br_f tx_10 ⟨hi, hp⟩), fun post hp => br_f (nI_pos (by omega)) (br_f (nI_ge hpn (by omega)) ⟨hi, hp⟩)⟩
theorem tx_stl (n : Nat) (f : Int32) (L S A B : Nat → Int32) (hn : n ≤ 64) (v1 : Int32) : tx_one (fun post => wpX_styleAt post (nI n, f, L, S, A, B) v1) (fun post => wpY_styleAt post (nI n, f, L, S, A, B) v1) := by
  unfold wpX_styleAt wpY_styleAt
  rcases tx_place1 n f L S A B hn v1 with ⟨h0, gX⟩ | ⟨h0, h1, gX⟩ | ⟨p, hpn, rfl, gX⟩
  · exact ⟨-4, fun post hp => gX _ (br_t rfl hp), fun post hp => br_t h0 hp⟩
  · exact ⟨-4, fun post hp => gX _ (br_t rfl hp), fun post hp => br_f h0 (br_t h1 hp)⟩
  · have hi : vp_in (nI p) 64 := vp_in_nI (by omega) (by omega)
    exact ⟨S (nI p).toNatClampNeg, fun post hp => gX _ (br_f tx_10 ⟨hi, hp⟩), fun post hp => br_f (nI_pos (by omega)) (br_f (nI_ge hpn (by omega)) ⟨hi, hp⟩)⟩
theorem tx_rns (n : Nat) (f : Int32) (L S A B : Nat → Int32) (hn : n ≤ 64) : tx_one (fun post => wpX_runs post (nI n, f, L, S, A, B)) (fun post => wpY_runs post (nI n, f, L, S, A, B)) := by
  unfold wpX_runs wpY_runs
  obtain ⟨r, hX, hY⟩ := tx_runs n f L S A B hn n 0 0 (by omega)
  rw [nI_0] at hX hY
  exact ⟨r, fun post hp => ⟨_, hX _ hp⟩, fun post hp => ⟨_, hY _ hp⟩⟩
theorem tx_rbg (n : Nat) (f : Int32) (L S A B : Nat → Int32) (hn : n ≤ 64) (v1 : Int32) : tx_one (fun post => wpX_runBegin post (nI n, f, L, S, A, B) v1) (fun post => wpY_runBegin post (nI n, f, L, S, A, B) v1) := by
  unfold wpX_runBegin wpY_runBegin
  obtain ⟨r, _, hX, hY⟩ := tx_place v1 n f L S A B hn n 0 0 (by omega)
  rw [nI_0] at hX hY
  exact ⟨r, fun post hp => ⟨_, hX _ hp⟩, fun post hp => ⟨_, hY _ hp⟩⟩
theorem tx_m4 : (-4 : Int32) < 0 := by decide
theorem tx_m4' : ¬ (0 : Int32) ≤ -4 := by decide
theorem tx_rst (n : Nat) (f : Int32) (L S A B : Nat → Int32) (hn : n ≤ 64) (v1 : Int32) : tx_one (fun post => wpX_runStyle post (nI n, f, L, S, A, B) v1) (fun post => wpY_runStyle post (nI n, f, L, S, A, B) v1) := by
  unfold wpX_runStyle wpY_runStyle
  obtain ⟨r, hr, hX, hY⟩ := tx_place v1 n f L S A B hn n 0 0 (by omega)
  rw [nI_0] at hX hY
  rcases hr with rfl | ⟨q, hq, rfl⟩
  · exact ⟨-4, fun post hp => ⟨_, hX _ (br_t tx_m4 (br_t rfl hp))⟩, fun post hp => ⟨_, hY _ (br_f tx_m4' hp)⟩⟩
  · have hi : vp_in (nI q) 64 := vp_in_nI (by omega) (by omega)
    have h0 : ¬ nI q < 0 := nI_pos (by omega)
    have h1 : ¬ nI n ≤ nI q := nI_ge hq (by omega)
    have h2 : 0 ≤ nI q := nI_pos' (by omega)
    exact ⟨S (nI q).toNatClampNeg, fun post hp => ⟨_, hX _ (br_f h0 (br_f h1 (br_f tx_10 ⟨hi, hp⟩)))⟩, fun post hp => ⟨_, hY _ (br_t h2 ⟨hi, hp⟩)⟩⟩
theorem tx_rof (n : Nat) (f : Int32) (L S A B : Nat → Int32) (hn : n ≤ 64) (v1 : Int32) : tx_one (fun post => wpX_runOf post (nI n, f, L, S, A, B) v1) (fun post => wpY_runOf post (nI n, f, L, S, A, B) v1) := by
  unfold wpX_runOf wpY_runOf
  rcases tx_place1 n f L S A B hn v1 with ⟨h0, gX⟩ | ⟨h0, h1, gX⟩ | ⟨p, hpn, rfl, gX⟩
  · exact ⟨-4, fun post hp => gX _ (br_t rfl hp), fun post hp => br_t h0 hp⟩
  · exact ⟨-4, fun post hp => gX _ (br_t rfl hp), fun post hp => br_f h0 (br_f (Int32.not_lt.mpr h1) hp)⟩
  · obtain ⟨r, hX, hY⟩ := tx_runOf p n f L S A B (by omega) (p + 1) 0 0 (by omega)
    rw [nI_0] at hX hY
    refine ⟨r - 1, fun post hp => gX _ (br_f tx_10 ?_), fun post hp => br_f (nI_pos (by omega)) (br_t (nI_lt hpn (by omega)) ⟨_, hY _ hp⟩)⟩
    rw [nI_1 p]
    exact ⟨_, hX _ hp⟩
theorem tx_hav (n : Nat) (f : Int32) (L S A B : Nat → Int32) (hn : n ≤ 64) (v1 : Int32) : tx_one (fun post => wpX_having post (nI n, f, L, S, A, B) v1) (fun post => wpY_having post (nI n, f, L, S, A, B) v1) := by
  unfold wpX_having wpY_having
  obtain ⟨r, hX, hY⟩ := tx_having v1 n f L S A B hn n 0 0 (by omega)
  rw [nI_0] at hX hY
  by_cases h0 : v1 < 0
  · exact ⟨-1, fun post hp => br_t h0 hp, fun post hp => br_t h0 hp⟩
  · by_cases h1 : v1 ≤ 7
    · exact ⟨r, fun post hp => br_f h0 (br_t h1 ⟨_, hX _ hp⟩), fun post hp => br_f h0 (br_t h1 ⟨_, hY _ hp⟩)⟩
    · exact ⟨-1, fun post hp => br_f h0 (br_f h1 hp), fun post hp => br_f h0 (br_f h1 hp)⟩
theorem tx_dig (n : Nat) (f : Int32) (L S A B : Nat → Int32) (hn : n ≤ 64) : tx_one (fun post => wpX_digest post (nI n, f, L, S, A, B)) (fun post => wpY_digest post (nI n, f, L, S, A, B)) := by
  unfold wpX_digest wpY_digest
  obtain ⟨r, hX, hY⟩ := tx_digest n f L S A B hn n 0 0 (by omega)
  rw [nI_0] at hX hY
  exact ⟨r, fun post hp => ⟨_, hX _ hp⟩, fun post hp => ⟨_, hY _ hp⟩⟩
end
section
/-- the two states are the same, and the count lies between 0 and 64 -/
def i_Rel (_ : Nat) (u : SX) (v : SY) : Prop := v = u ∧ tx_ok u
theorem i_up {k : Nat} {u : SX} {v : SY} (h : i_Rel k u v) : i_Rel (k + 5) u v := h
theorem i_vc0 : wpX_init (fun u => wpY_init (fun v => i_Rel 0 u v)) := ⟨rfl, tx_mk (n := 0) (by omega) 0 _ _ _ _⟩
theorem i_vc_type {k : Nat} {u : SX} {v : SY} (I : i_Rel k u v) (hk : k + 5 ≤ 2560) (v1 : Int32) (v2 : Int32) : wpX_type (fun r u' => wpY_type (fun r' v' => r' = r ∧ i_Rel (k + 5) u' v') v v1 v2) u v1 v2 := by
  obtain ⟨rfl, n, f, L, S, A, B, hn, rfl⟩ := I
  obtain ⟨r, u, hX, hY, ok⟩ := tx_type n f L S A B hn v1 v2
  exact hX _ (hY _ ⟨rfl, rfl, ok⟩)
theorem i_vc_put {k : Nat} {u : SX} {v : SY} (I : i_Rel k u v) (hk : k + 5 ≤ 2560) (v1 : Int32) (v2 : Int32) (v3 : Int32) (v4 : Int32) : wpX_put (fun r u' => wpY_put (fun r' v' => r' = r ∧ i_Rel (k + 5) u' v') v v1 v2 v3 v4) u v1 v2 v3 v4 := by
  obtain ⟨rfl, n, f, L, S, A, B, hn, rfl⟩ := I
  obtain ⟨r, u, hX, hY, ok⟩ := tx_put n f L S A B hn v1 v2 v3 v4
  exact hX _ (hY _ ⟨rfl, rfl, ok⟩)
theorem i_vc_remove {k : Nat} {u : SX} {v : SY} (I : i_Rel k u v) (hk : k + 5 ≤ 2560) (v1 : Int32) (v2 : Int32) : wpX_remove (fun r u' => wpY_remove (fun r' v' => r' = r ∧ i_Rel (k + 5) u' v') v v1 v2) u v1 v2 := by
  obtain ⟨rfl, n, f, L, S, A, B, hn, rfl⟩ := I
  obtain ⟨r, u, hX, hY, ok⟩ := tx_remove n f L S A B hn v1 v2
  exact hX _ (hY _ ⟨rfl, rfl, ok⟩)
theorem i_vc_move {k : Nat} {u : SX} {v : SY} (I : i_Rel k u v) (hk : k + 5 ≤ 2560) (v1 : Int32) (v2 : Int32) (v3 : Int32) : wpX_move (fun r u' => wpY_move (fun r' v' => r' = r ∧ i_Rel (k + 5) u' v') v v1 v2 v3) u v1 v2 v3 := by
  obtain ⟨rfl, n, f, L, S, A, B, hn, rfl⟩ := I
  obtain ⟨r, u, hX, hY, ok⟩ := tx_move n f L S A B hn v1 v2 v3
  exact hX _ (hY _ ⟨rfl, rfl, ok⟩)
theorem i_vc_copy {k : Nat} {u : SX} {v : SY} (I : i_Rel k u v) (hk : k + 5 ≤ 2560) (v1 : Int32) (v2 : Int32) (v3 : Int32) : wpX_copy (fun r u' => wpY_copy (fun r' v' => r' = r ∧ i_Rel (k + 5) u' v') v v1 v2 v3) u v1 v2 v3 := by
  obtain ⟨rfl, n, f, L, S, A, B, hn, rfl⟩ := I
  obtain ⟨r, u, hX, hY, ok⟩ := tx_copy n f L S A B hn v1 v2 v3
  exact hX _ (hY _ ⟨rfl, rfl, ok⟩)
theorem i_vc_style {k : Nat} {u : SX} {v : SY} (I : i_Rel k u v) (hk : k + 5 ≤ 2560) (v1 : Int32) (v2 : Int32) (v3 : Int32) (v4 : Int32) : wpX_style (fun r u' => wpY_style (fun r' v' => r' = r ∧ i_Rel (k + 5) u' v') v v1 v2 v3 v4) u v1 v2 v3 v4 := by
  obtain ⟨rfl, n, f, L, S, A, B, hn, rfl⟩ := I
  obtain ⟨r, u, hX, hY, ok⟩ := tx_style n f L S A B hn v1 v2 v3 v4
  exact hX _ (hY _ ⟨rfl, rfl, ok⟩)
theorem i_vc_toggle {k : Nat} {u : SX} {v : SY} (I : i_Rel k u v) (hk : k + 5 ≤ 2560) (v1 : Int32) (v2 : Int32) (v3 : Int32) : wpX_toggle (fun r u' => wpY_toggle (fun r' v' => r' = r ∧ i_Rel (k + 5) u' v') v v1 v2 v3) u v1 v2 v3 := by
  obtain ⟨rfl, n, f, L, S, A, B, hn, rfl⟩ := I
  obtain ⟨r, u, hX, hY, ok⟩ := tx_toggle n f L S A B hn v1 v2 v3
  exact hX _ (hY _ ⟨rfl, rfl, ok⟩)
theorem i_vc_replace {k : Nat} {u : SX} {v : SY} (I : i_Rel k u v) (hk : k + 5 ≤ 2560) (v1 : Int32) (v2 : Int32) : wpX_replace (fun r u' => wpY_replace (fun r' v' => r' = r ∧ i_Rel (k + 5) u' v') v v1 v2) u v1 v2 := by
  obtain ⟨rfl, n, f, L, S, A, B, hn, rfl⟩ := I
  obtain ⟨r, u, hX, hY, ok⟩ := tx_replace n f L S A B hn v1 v2
  exact hX _ (hY _ ⟨rfl, rfl, ok⟩)
theorem i_vc_length {k : Nat} {u : SX} {v : SY} (I : i_Rel k u v) (hk : k + 5 ≤ 2560) : wpX_length (fun r => wpY_length (fun r' => r' = r ∧ i_Rel (k + 5) u v) v) u := by
  obtain ⟨rfl, n, f, L, S, A, B, hn, rfl⟩ := I
  exact ⟨rfl, rfl, tx_mk hn f L S A B⟩
theorem i_vc_letter {k : Nat} {u : SX} {v : SY} (I : i_Rel k u v) (hk : k + 5 ≤ 2560) (v1 : Int32) : wpX_letter (fun r => wpY_letter (fun r' => r' = r ∧ i_Rel (k + 5) u v) v v1) u v1 := by
  obtain ⟨rfl, n, f, L, S, A, B, hn, rfl⟩ := I
  obtain ⟨r, hX, hY⟩ := tx_ltr n f L S A B hn v1
  exact hX _ (hY _ ⟨rfl, rfl, tx_mk hn f L S A B⟩)
theorem i_vc_styleAt {k : Nat} {u : SX} {v : SY} (I : i_Rel k u v) (hk : k + 5 ≤ 2560) (v1 : Int32) : wpX_styleAt (fun r => wpY_styleAt (fun r' => r' = r ∧ i_Rel (k + 5) u v) v v1) u v1 := by
  obtain ⟨rfl, n, f, L, S, A, B, hn, rfl⟩ := I
  obtain ⟨r, hX, hY⟩ := tx_stl n f L S A B hn v1
  exact hX _ (hY _ ⟨rfl, rfl, tx_mk hn f L S A B⟩)
theorem i_vc_runs {k : Nat} {u : SX} {v : SY} (I : i_Rel k u v) (hk : k + 5 ≤ 2560) : wpX_runs (fun r => wpY_runs (fun r' => r' = r ∧ i_Rel (k + 5) u v) v) u := by
  obtain ⟨rfl, n, f, L, S, A, B, hn, rfl⟩ := I
  obtain ⟨r, hX, hY⟩ := tx_rns n f L S A B hn
  exact hX _ (hY _ ⟨rfl, rfl, tx_mk hn f L S A B⟩)
theorem i_vc_runBegin {k : Nat} {u : SX} {v : SY} (I : i_Rel k u v) (hk : k + 5 ≤ 2560) (v1 : Int32) : wpX_runBegin (fun r => wpY_runBegin (fun r' => r' = r ∧ i_Rel (k + 5) u v) v v1) u v1 := by
  obtain ⟨rfl, n, f, L, S, A, B, hn, rfl⟩ := I
  obtain ⟨r, hX, hY⟩ := tx_rbg n f L S A B hn v1
  exact hX _ (hY _ ⟨rfl, rfl, tx_mk hn f L S A B⟩)
theorem i_vc_runStyle {k : Nat} {u : SX} {v : SY} (I : i_Rel k u v) (hk : k + 5 ≤ 2560) (v1 : Int32) : wpX_runStyle (fun r => wpY_runStyle (fun r' => r' = r ∧ i_Rel (k + 5) u v) v v1) u v1 := by
  obtain ⟨rfl, n, f, L, S, A, B, hn, rfl⟩ := I
  obtain ⟨r, hX, hY⟩ := tx_rst n f L S A B hn v1
  exact hX _ (hY _ ⟨rfl, rfl, tx_mk hn f L S A B⟩)
theorem i_vc_runOf {k : Nat} {u : SX} {v : SY} (I : i_Rel k u v) (hk : k + 5 ≤ 2560) (v1 : Int32) : wpX_runOf (fun r => wpY_runOf (fun r' => r' = r ∧ i_Rel (k + 5) u v) v v1) u v1 := by
  obtain ⟨rfl, n, f, L, S, A, B, hn, rfl⟩ := I
  obtain ⟨r, hX, hY⟩ := tx_rof n f L S A B hn v1
  exact hX _ (hY _ ⟨rfl, rfl, tx_mk hn f L S A B⟩)
theorem i_vc_having {k : Nat} {u : SX} {v : SY} (I : i_Rel k u v) (hk : k + 5 ≤ 2560) (v1 : Int32) : wpX_having (fun r => wpY_having (fun r' => r' = r ∧ i_Rel (k + 5) u v) v v1) u v1 := by
  obtain ⟨rfl, n, f, L, S, A, B, hn, rfl⟩ := I
  obtain ⟨r, hX, hY⟩ := tx_hav n f L S A B hn v1
  exact hX _ (hY _ ⟨rfl, rfl, tx_mk hn f L S A B⟩)
theorem i_vc_setFlag {k : Nat} {u : SX} {v : SY} (I : i_Rel k u v) (hk : k + 5 ≤ 2560) (v1 : Int32) : wpX_setFlag (fun r u' => wpY_setFlag (fun r' v' => r' = r ∧ i_Rel (k + 5) u' v') v v1) u v1 := by
  obtain ⟨rfl, n, f, L, S, A, B, hn, rfl⟩ := I
  obtain ⟨r, u, hX, hY, ok⟩ := tx_setFlag n f L S A B hn v1
  exact hX _ (hY _ ⟨rfl, rfl, ok⟩)
theorem i_vc_flag {k : Nat} {u : SX} {v : SY} (I : i_Rel k u v) (hk : k + 5 ≤ 2560) : wpX_flag (fun r => wpY_flag (fun r' => r' = r ∧ i_Rel (k + 5) u v) v) u := by
  obtain ⟨rfl, n, f, L, S, A, B, hn, rfl⟩ := I
  exact ⟨rfl, rfl, tx_mk hn f L S A B⟩
theorem i_vc_digest {k : Nat} {u : SX} {v : SY} (I : i_Rel k u v) (hk : k + 5 ≤ 2560) : wpX_digest (fun r => wpY_digest (fun r' => r' = r ∧ i_Rel (k + 5) u v) v) u := by
  obtain ⟨rfl, n, f, L, S, A, B, hn, rfl⟩ := I
  obtain ⟨r, hX, hY⟩ := tx_dig n f L S A B hn
  exact hX _ (hY _ ⟨rfl, rfl, tx_mk hn f L S A B⟩)
end
