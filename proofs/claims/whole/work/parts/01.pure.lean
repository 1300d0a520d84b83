section
/-! pk_ rows: taken from kit/rows/PURE-ROWS -/
theorem pk_us {f : Nat → Int32} {k : Nat} {x : Int32} : upd f k x k = x := if_pos rfl
theorem pk_un {f : Nat → Int32} {k j : Nat} {x : Int32} (h : j ≠ k) : upd f k x j = f j := if_neg h
theorem pk_m1 (n : Nat) : nI (n + 1) + (-1) = nI n := by
  rw [← nI_1, Int32.add_assoc, show (1 : Int32) + (-1) = 0 from rfl, Int32.add_zero]
theorem pk_mul (a b : Nat) : nI a * nI b = nI (a * b) := (Int32.ofNat_mul a b).symm
theorem pk_div {a d : Nat} (ha : a < 2 ^ 31) (h0 : 0 < d) (hd : d < 2 ^ 31) : nI a / nI d = nI (a / d) := by
  apply Int32.toInt_inj.mp
  rw [lg_idiv_nonneg (by rw [nI_toInt ha]; omega) (by rw [nI_toInt hd]; omega), nI_toInt ha, nI_toInt hd, nI_toInt (Nat.lt_of_le_of_lt (Nat.div_le_self a d) ha)]
  first | rfl | exact (Int.natCast_ediv _ _).symm
theorem pk_le {x y : Int32} {A B : Prop} (a b : Nat) (f : a ≤ b → A) (g : b < a → B) (hx : x = nI a := by rfl) (hy : y = nI b := by rfl) (ha : a < 2 ^ 31 := by omega) (hb : b < 2 ^ 31 := by omega) : (x ≤ y → A) ∧ (¬ x ≤ y → B) := by
  subst hx hy
  rw [nI_leI ha hb]
  exact ⟨f, fun z => g (by omega)⟩
theorem pk_lt {x y : Int32} {A B : Prop} (a b : Nat) (f : a < b → A) (g : b ≤ a → B) (hx : x = nI a := by rfl) (hy : y = nI b := by rfl) (ha : a < 2 ^ 31 := by omega) (hb : b < 2 ^ 31 := by omega) : (x < y → A) ∧ (¬ x < y → B) := by
  subst hx hy
  rw [nI_ltI ha hb]
  exact ⟨f, fun z => g (by omega)⟩
theorem pk_eq {x y : Int32} {A B : Prop} (a b : Nat) (f : a = b → A) (g : a ≠ b → B) (hx : x = nI a := by rfl) (hy : y = nI b := by rfl) (ha : a < 2 ^ 31 := by omega) (hb : b < 2 ^ 31 := by omega) : (x = y → A) ∧ (¬ x = y → B) := by
  subst hx hy
  rw [nI_eq ha hb]
  exact ⟨f, g⟩
theorem pk_in {x : Int32} (n N : Nat) (h : n < N) (hx : x = nI n := by rfl) (hN : N < 2 ^ 31 := by omega) : vp_in x N := by
  subst hx
  exact vp_in_nI h hN
theorem pk_cl {x : Int32} (n : Nat) (hx : x = nI n := by rfl) (h : n < 2 ^ 31 := by omega) : x.toNatClampNeg = n := by
  subst hx
  exact nI_clamp h
/-! numbers -/
theorem oh_m1 {j : Nat} (h : j < 2147483648) : nI j ≠ -1 := by
  intro e
  have h1 := congrArg Int32.toInt e
  rw [nI_toInt (by omega)] at h1
  have h2 : (-1 : Int32).toInt = -1 := by decide
  omega
theorem oh_inj {a b : Nat} (e : nI a = nI b) (ha : a < 2147483648) (hb : b < 2147483648) : a = b :=
  (nI_eq (by omega) (by omega)).mp e
theorem oh_neg1 : (-1 : Int32) < 0 := by decide
theorem oh_24 : nI 24 = 24 := by decide
theorem oh_8 : nI 8 = 8 := by decide
theorem oh_3 : nI 3 = 3 := by decide
theorem oh_1000 : nI 1000 = 1000 := by decide
/-- the index of a field -/
theorem oh_ix (a t : Nat) : nI a * 3 + nI t = nI (a * 3 + t) := by
  rw [← oh_3, pk_mul, nI_add]
/-- an int is a root number or not -/
theorem oh_root (r : Int32) (n : Nat) (hn : n < 2147483648) : (r < 0) ∨ (¬ r < 0 ∧ nI n ≤ r ∧ ¬ r < nI n) ∨ ∃ j : Nat, j < n ∧ r = nI j := by
  by_cases h : r < 0
  · exact Or.inl h
  · obtain ⟨j, hj, rfl⟩ := nI_of h
    by_cases h2 : j < n
    · exact Or.inr (Or.inr ⟨j, h2, rfl⟩)
    · exact Or.inr (Or.inl ⟨h, nI_le (by omega) hj, nI_nlt (by omega) hj⟩)
/-! counting -/
def oh_cnt (p : Nat → Bool) : Nat → Nat
  | 0 => 0
  | n + 1 => oh_cnt p n + (if p n = true then 1 else 0)
theorem oh_cnt_le (p : Nat → Bool) (n : Nat) : oh_cnt p n ≤ n := by
  induction n with
  | zero => exact Nat.le_refl _
  | succ n ih =>
    simp only [oh_cnt]
    split <;> omega
theorem oh_cnt_lt {p : Nat → Bool} {i : Nat} (hp : p i = false) : ∀ n, i < n → oh_cnt p n < n := by
  intro n
  induction n with
  | zero => intro h; omega
  | succ n ih =>
    intro h
    simp only [oh_cnt]
    by_cases e : i = n
    · subst e
      have := oh_cnt_le p i
      rw [hp]
      simp
      omega
    · have := ih (by omega)
      split <;> omega
theorem oh_cnt_congr {p q : Nat → Bool} : ∀ n, (∀ i, i < n → q i = p i) → oh_cnt q n = oh_cnt p n := by
  intro n
  induction n with
  | zero => intro _; rfl
  | succ n ih =>
    intro h
    simp only [oh_cnt]
    rw [ih (fun i hi => h i (by omega)), h n (by omega)]
theorem oh_cnt_add {p q : Nat → Bool} {t : Nat} (h0 : p t = false) (h1 : q t = true) : ∀ n, t < n → (∀ i, i < n → i ≠ t → q i = p i) → oh_cnt q n = oh_cnt p n + 1 := by
  intro n
  induction n with
  | zero => intro h _; omega
  | succ n ih =>
    intro ht hs
    simp only [oh_cnt]
    by_cases e : t = n
    · subst e
      rw [oh_cnt_congr t (fun i hi => hs i (by omega) (by omega)), h0, h1]
      simp
    · rw [ih (by omega) (fun i hi hn => hs i (by omega) hn), hs n (by omega) (by omega)]
      omega
theorem oh_cnt_full {p : Nat → Bool} {n : Nat} (h : oh_cnt p n = n) : ∀ i, i < n → p i = true := by
  intro i hi
  cases e : p i with
  | true => rfl
  | false =>
    have := oh_cnt_lt e n hi
    omega
theorem oh_cnt_all {p : Nat → Bool} : ∀ n, (∀ i, i < n → p i = true) → oh_cnt p n = n := by
  intro n
  induction n with
  | zero => intro _; rfl
  | succ n ih =>
    intro h
    simp only [oh_cnt]
    rw [ih (fun i hi => h i (by omega)), h n (by omega)]
    simp
/-! sums -/
def oh_S (p : Nat → Bool) (w : Nat → Int32) : Nat → Int32
  | 0 => 0
  | n + 1 => if p n = true then oh_S p w n + w n else oh_S p w n
theorem oh_S_t {p : Nat → Bool} {w : Nat → Int32} {n : Nat} (h : p n = true) : oh_S p w (n + 1) = oh_S p w n + w n := by
  simp only [oh_S]; rw [if_pos h]
theorem oh_S_f {p : Nat → Bool} {w : Nat → Int32} {n : Nat} (h : p n = false) : oh_S p w (n + 1) = oh_S p w n := by
  simp only [oh_S]; rw [if_neg (by rw [h]; decide)]
theorem oh_S_congr {p q : Nat → Bool} {w w' : Nat → Int32} : ∀ n, (∀ i, i < n → q i = p i) → (∀ i, i < n → p i = true → w' i = w i) → oh_S q w' n = oh_S p w n := by
  intro n
  induction n with
  | zero => intro _ _; rfl
  | succ n ih =>
    intro h h2
    have e1 := ih (fun i hi => h i (by omega)) (fun i hi => h2 i (by omega))
    cases e : p n with
    | true => rw [oh_S_t e, oh_S_t ((h n (by omega)).trans e), e1, h2 n (by omega) e]
    | false => rw [oh_S_f e, oh_S_f ((h n (by omega)).trans e), e1]
theorem oh_S_cnt (p : Nat → Bool) (n : Nat) : oh_S p (fun _ => 1) n = nI (oh_cnt p n) := by
  induction n with
  | zero => rfl
  | succ n ih =>
    cases e : p n with
    | true =>
      rw [oh_S_t e, ih, nI_1]
      simp only [oh_cnt]
      rw [e]; rfl
    | false =>
      rw [oh_S_f e, ih]
      simp only [oh_cnt]
      rw [e]; rfl
theorem oh_S_zero {p : Nat → Bool} {w : Nat → Int32} : ∀ n, (∀ i, i < n → p i = false) → oh_S p w n = 0 := by
  intro n
  induction n with
  | zero => intro _; rfl
  | succ n ih =>
    intro h
    rw [oh_S_f (h n (by omega))]
    exact ih (fun i hi => h i (by omega))
def oh_rm (p : Nat → Bool) (j : Nat) : Nat → Bool := fun i => p i && !(i == j)
theorem oh_rm_j (p : Nat → Bool) (j : Nat) : oh_rm p j j = false := by simp [oh_rm]
theorem oh_rm_n {p : Nat → Bool} {j i : Nat} (h : i ≠ j) : oh_rm p j i = p i := by simp [oh_rm, h]
theorem oh_S_rm {p : Nat → Bool} {w : Nat → Int32} {j : Nat} (hp : p j = true) : ∀ m, j < m → oh_S p w m = oh_S (oh_rm p j) w m + w j := by
  intro m
  induction m with
  | zero => intro h; omega
  | succ m ih =>
    intro h
    by_cases e : j = m
    · subst e
      rw [oh_S_t hp, oh_S_f (oh_rm_j p j), oh_S_congr (p := p) (q := oh_rm p j) (w := w) (w' := w) j (fun i hi => oh_rm_n (by omega)) (fun _ _ _ => rfl)]
    · have e1 := ih (by omega)
      cases ep : p m with
      | true =>
        rw [oh_S_t ep, oh_S_t ((oh_rm_n (by omega)).trans ep), e1, Int32.add_assoc, Int32.add_assoc, Int32.add_comm (w j)]
      | false => rw [oh_S_f ep, oh_S_f ((oh_rm_n (by omega)).trans ep), e1]
theorem oh_S_bij {w w' : Nat → Int32} {m : Nat} {B : Nat → Nat → Prop} (hf : ∀ a b b', B a b → B a b' → b = b') (hi : ∀ a a' b, B a b → B a' b → a = a') (hw : ∀ a b, B a b → w a = w' b) : ∀ (n : Nat) (p q : Nat → Bool), (∀ a, a < n → p a = true → ∃ b, b < m ∧ B a b ∧ q b = true) → (∀ b, b < m → q b = true → ∃ a, a < n ∧ B a b ∧ p a = true) → oh_S p w n = oh_S q w' m := by
  intro n
  induction n with
  | zero =>
    intro p q _ h2
    rw [oh_S_zero (p := q) m]
    · rfl
    · intro i him
      cases e : q i with
      | false => rfl
      | true =>
        obtain ⟨a, ha, _⟩ := h2 i him e
        omega
  | succ n ih =>
    intro p q h1 h2
    cases ep : p n with
    | false =>
      rw [oh_S_f ep]
      refine ih p q (fun a ha hp => h1 a (by omega) hp) (fun b hb hq => ?_)
      obtain ⟨a, ha, hB, hp⟩ := h2 b hb hq
      refine ⟨a, ?_, hB, hp⟩
      by_cases e : a = n
      · subst e
        rw [ep] at hp
        exact absurd hp (by decide)
      · omega
    | true =>
      obtain ⟨b0, hb0, hB0, hq0⟩ := h1 n (by omega) ep
      rw [oh_S_t ep, oh_S_rm hq0 m hb0, hw n b0 hB0]
      refine congrArg (fun z => z + w' b0) ?_
      refine ih p (oh_rm q b0) (fun a ha hp => ?_) (fun b hb hq => ?_)
      · obtain ⟨b, hb, hB, hq⟩ := h1 a (by omega) hp
        refine ⟨b, hb, hB, ?_⟩
        rw [oh_rm_n]
        · exact hq
        · intro e
          subst e
          have := hi a n b hB hB0
          omega
      · have hne : b ≠ b0 := by
          intro e
          subst e
          rw [oh_rm_j] at hq
          exact absurd hq (by decide)
        rw [oh_rm_n hne] at hq
        obtain ⟨a, ha, hB, hp⟩ := h2 b hb hq
        refine ⟨a, ?_, hB, hp⟩
        by_cases e : a = n
        · subst e
          exact absurd (hf a b b0 hB hB0) hne
        · omega
end
