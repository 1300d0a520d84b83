section
section
/-! pk_ rows: taken from kit/rows/PURE-ROWS -/
theorem pk_us {f : Nat → Int32} {k : Nat} {x : Int32} : upd f k x k = x := if_pos rfl
theorem pk_un {f : Nat → Int32} {k j : Nat} {x : Int32} (h : j ≠ k) : upd f k x j = f j := if_neg h
theorem pk_m1 (n : Nat) : nI (n + 1) + (-1) = nI n := by
  rw [← nI_1, Int32.add_assoc, show (1 : Int32) + (-1) = 0 from rfl, Int32.add_zero]
theorem pk_mul (a b : Nat) : nI a * nI b = nI (a * b) := (Int32.ofNat_mul a b).symm
theorem pk_div {a d : Nat} (ha : a < 2 ^ 31) (h0 : 0 < d) (hd : d < 2 ^ 31) : nI a / nI d = nI (a / d) := by
  apply Int32.toInt_inj.mp
  rw [lg_idiv_nonneg (by rw [nI_toInt ha]; omega) (by rw [nI_toInt hd]; omega), nI_toInt ha, nI_toInt hd, nI_toInt (Nat.lt_of_le_of_lt (Nat.div_le_self a d) ha)]
  first | rfl | exact (Int.natCast_ediv _ _).symm
theorem pk_le {x y : Int32} {A B : Prop} (a b : Nat) (f : a ≤ b → A) (g : b < a → B) (hx : x = nI a := by rfl) (hy : y = nI b := by rfl) (ha : a < 2 ^ 31 := by omega) (hb : b < 2 ^ 31 := by omega) : (x ≤ y → A) ∧ (¬ x ≤ y → B) := by
  subst hx hy
  rw [nI_leI ha hb]
  exact ⟨f, fun z => g (by omega)⟩
theorem pk_lt {x y : Int32} {A B : Prop} (a b : Nat) (f : a < b → A) (g : b ≤ a → B) (hx : x = nI a := by rfl) (hy : y = nI b := by rfl) (ha : a < 2 ^ 31 := by omega) (hb : b < 2 ^ 31 := by omega) : (x < y → A) ∧ (¬ x < y → B) := by
  subst hx hy
  rw [nI_ltI ha hb]
  exact ⟨f, fun z => g (by omega)⟩
theorem pk_eq {x y : Int32} {A B : Prop} (a b : Nat) (f : a = b → A) (g : a ≠ b → B) (hx : x = nI a := by rfl) (hy : y = nI b := by rfl) (ha : a < 2 ^ 31 := by omega) (hb : b < 2 ^ 31 := by omega) : (x = y → A) ∧ (¬ x = y → B) := by
  subst hx hy
  rw [nI_eq ha hb]
  exact ⟨f, g⟩
theorem pk_in {x : Int32} (n N : Nat) (h : n < N) (hx : x = nI n := by rfl) (hN : N < 2 ^ 31 := by omega) : vp_in x N := by
  subst hx
  exact vp_in_nI h hN
theorem pk_cl {x : Int32} (n : Nat) (hx : x = nI n := by rfl) (h : n < 2 ^ 31 := by omega) : x.toNatClampNeg = n := by
  subst hx
  exact nI_clamp h
/-! numbers -/
theorem oh_m1 {j : Nat} (h : j < 2147483648) : nI j ≠ -1 := by
  intro e
  have h1 := congrArg Int32.toInt e
  rw [nI_toInt (by omega)] at h1
  have h2 : (-1 : Int32).toInt = -1 := by decide
  omega
theorem oh_inj {a b : Nat} (e : nI a = nI b) (ha : a < 2147483648) (hb : b < 2147483648) : a = b :=
  (nI_eq (by omega) (by omega)).mp e
theorem oh_neg1 : (-1 : Int32) < 0 := by decide
theorem oh_24 : nI 24 = 24 := by decide
theorem oh_8 : nI 8 = 8 := by decide
theorem oh_3 : nI 3 = 3 := by decide
theorem oh_1000 : nI 1000 = 1000 := by decide
/-- the index of a field -/
theorem oh_ix (a t : Nat) : nI a * 3 + nI t = nI (a * 3 + t) := by
  rw [← oh_3, pk_mul, nI_add]
/-- an int is a root number or not -/
theorem oh_root (r : Int32) (n : Nat) (hn : n < 2147483648) : (r < 0) ∨ (¬ r < 0 ∧ nI n ≤ r ∧ ¬ r < nI n) ∨ ∃ j : Nat, j < n ∧ r = nI j := by
  by_cases h : r < 0
  · exact Or.inl h
  · obtain ⟨j, hj, rfl⟩ := nI_of h
    by_cases h2 : j < n
    · exact Or.inr (Or.inr ⟨j, h2, rfl⟩)
    · exact Or.inr (Or.inl ⟨h, nI_le (by omega) hj, nI_nlt (by omega) hj⟩)
/-! counting -/
def oh_cnt (p : Nat → Bool) : Nat → Nat
  | 0 => 0
  | n + 1 => oh_cnt p n + (if p n = true then 1 else 0)
theorem oh_cnt_le (p : Nat → Bool) (n : Nat) : oh_cnt p n ≤ n := by
  induction n with
  | zero => exact Nat.le_refl _
  | succ n ih =>
    simp only [oh_cnt]
    split <;> omega
theorem oh_cnt_lt {p : Nat → Bool} {i : Nat} (hp : p i = false) : ∀ n, i < n → oh_cnt p n < n := by
  intro n
  induction n with
  | zero => intro h; omega
  | succ n ih =>
    intro h
    simp only [oh_cnt]
    by_cases e : i = n
    · subst e
      have := oh_cnt_le p i
      rw [hp]
      simp
      omega
    · have := ih (by omega)
      split <;> omega
theorem oh_cnt_congr {p q : Nat → Bool} : ∀ n, (∀ i, i < n → q i = p i) → oh_cnt q n = oh_cnt p n := by
  intro n
  induction n with
  | zero => intro _; rfl
  | succ n ih =>
    intro h
    simp only [oh_cnt]
    rw [ih (fun i hi => h i (by omega)), h n (by omega)]
theorem oh_cnt_add {p q : Nat → Bool} {t : Nat} (h0 : p t = false) (h1 : q t = true) : ∀ n, t < n → (∀ i, i < n → i ≠ t → q i = p i) → oh_cnt q n = oh_cnt p n + 1 := by
  intro n
  induction n with
  | zero => intro h _; omega
  | succ n ih =>
    intro ht hs
    simp only [oh_cnt]
    by_cases e : t = n
    · subst e
      rw [oh_cnt_congr t (fun i hi => hs i (by omega) (by omega)), h0, h1]
      simp
    · rw [ih (by omega) (fun i hi hn => hs i (by omega) hn), hs n (by omega) (by omega)]
      omega
theorem oh_cnt_full {p : Nat → Bool} {n : Nat} (h : oh_cnt p n = n) : ∀ i, i < n → p i = true := by
  intro i hi
  cases e : p i with
  | true => rfl
  | false =>
    have := oh_cnt_lt e n hi
    omega
theorem oh_cnt_all {p : Nat → Bool} : ∀ n, (∀ i, i < n → p i = true) → oh_cnt p n = n := by
  intro n
  induction n with
  | zero => intro _; rfl
  | succ n ih =>
    intro h
    simp only [oh_cnt]
    rw [ih (fun i hi => h i (by omega)), h n (by omega)]
    simp
/-! sums -/
def oh_S (p : Nat → Bool) (w : Nat → Int32) : Nat → Int32
  | 0 => 0
  | n + 1 => if p n = true then oh_S p w n + w n else oh_S p w n
theorem oh_S_t {p : Nat → Bool} {w : Nat → Int32} {n : Nat} (h : p n = true) : oh_S p w (n + 1) = oh_S p w n + w n := by
  simp only [oh_S]; rw [if_pos h]
theorem oh_S_f {p : Nat → Bool} {w : Nat → Int32} {n : Nat} (h : p n = false) : oh_S p w (n + 1) = oh_S p w n := by
  simp only [oh_S]; rw [if_neg (by rw [h]; decide)]
theorem oh_S_congr {p q : Nat → Bool} {w w' : Nat → Int32} : ∀ n, (∀ i, i < n → q i = p i) → (∀ i, i < n → p i = true → w' i = w i) → oh_S q w' n = oh_S p w n := by
  intro n
  induction n with
  | zero => intro _ _; rfl
  | succ n ih =>
    intro h h2
    have e1 := ih (fun i hi => h i (by omega)) (fun i hi => h2 i (by omega))
    cases e : p n with
    | true => rw [oh_S_t e, oh_S_t ((h n (by omega)).trans e), e1, h2 n (by omega) e]
    | false => rw [oh_S_f e, oh_S_f ((h n (by omega)).trans e), e1]
theorem oh_S_cnt (p : Nat → Bool) (n : Nat) : oh_S p (fun _ => 1) n = nI (oh_cnt p n) := by
  induction n with
  | zero => rfl
  | succ n ih =>
    cases e : p n with
    | true =>
      rw [oh_S_t e, ih, nI_1]
      simp only [oh_cnt]
      rw [e]; rfl
    | false =>
      rw [oh_S_f e, ih]
      simp only [oh_cnt]
      rw [e]; rfl
theorem oh_S_zero {p : Nat → Bool} {w : Nat → Int32} : ∀ n, (∀ i, i < n → p i = false) → oh_S p w n = 0 := by
  intro n
  induction n with
  | zero => intro _; rfl
  | succ n ih =>
    intro h
    rw [oh_S_f (h n (by omega))]
    exact ih (fun i hi => h i (by omega))
def oh_rm (p : Nat → Bool) (j : Nat) : Nat → Bool := fun i => p i && !(i == j)
theorem oh_rm_j (p : Nat → Bool) (j : Nat) : oh_rm p j j = false := by simp [oh_rm]
theorem oh_rm_n {p : Nat → Bool} {j i : Nat} (h : i ≠ j) : oh_rm p j i = p i := by simp [oh_rm, h]
theorem oh_S_rm {p : Nat → Bool} {w : Nat → Int32} {j : Nat} (hp : p j = true) : ∀ m, j < m → oh_S p w m = oh_S (oh_rm p j) w m + w j := by
  intro m
  induction m with
  | zero => intro h; omega
  | succ m ih =>
    intro h
    by_cases e : j = m
    · subst e
      rw [oh_S_t hp, oh_S_f (oh_rm_j p j), oh_S_congr (p := p) (q := oh_rm p j) (w := w) (w' := w) j (fun i hi => oh_rm_n (by omega)) (fun _ _ _ => rfl)]
    · have e1 := ih (by omega)
      cases ep : p m with
      | true =>
        rw [oh_S_t ep, oh_S_t ((oh_rm_n (by omega)).trans ep), e1, Int32.add_assoc, Int32.add_assoc, Int32.add_comm (w j)]
      | false => rw [oh_S_f ep, oh_S_f ((oh_rm_n (by omega)).trans ep), e1]
theorem oh_S_bij {w w' : Nat → Int32} {m : Nat} {B : Nat → Nat → Prop} (hf : ∀ a b b', B a b → B a b' → b = b') (hi : ∀ a a' b, B a b → B a' b → a = a') (hw : ∀ a b, B a b → w a = w' b) : ∀ (n : Nat) (p q : Nat → Bool), (∀ a, a < n → p a = true → ∃ b, b < m ∧ B a b ∧ q b = true) → (∀ b, b < m → q b = true → ∃ a, a < n ∧ B a b ∧ p a = true) → oh_S p w n = oh_S q w' m := by
  intro n
  induction n with
  | zero =>
    intro p q _ h2
    rw [oh_S_zero (p := q) m]
    · rfl
    · intro i him
      cases e : q i with
      | false => rfl
      | true =>
        obtain ⟨a, ha, _⟩ := h2 i him e
        omega
  | succ n ih =>
    intro p q h1 h2
    cases ep : p n with
    | false =>
      rw [oh_S_f ep]
      refine ih p q (fun a ha hp => h1 a (by omega) hp) (fun b hb hq => ?_)
      obtain ⟨a, ha, hB, hp⟩ := h2 b hb hq
      refine ⟨a, ?_, hB, hp⟩
      by_cases e : a = n
      · subst e
        rw [ep] at hp
        exact absurd hp (by decide)
      · omega
    | true =>
      obtain ⟨b0, hb0, hB0, hq0⟩ := h1 n (by omega) ep
      rw [oh_S_t ep, oh_S_rm hq0 m hb0, hw n b0 hB0]
      refine congrArg (fun z => z + w' b0) ?_
      refine ih p (oh_rm q b0) (fun a ha hp => ?_) (fun b hb hq => ?_)
      · obtain ⟨b, hb, hB, hq⟩ := h1 a (by omega) hp
        refine ⟨b, hb, hB, ?_⟩
        rw [oh_rm_n]
        · exact hq
        · intro e
          subst e
          have := hi a n b hB hB0
          omega
      · have hne : b ≠ b0 := by
          intro e
          subst e
          rw [oh_rm_j] at hq
          exact absurd hq (by decide)
        rw [oh_rm_n hne] at hq
        obtain ⟨a, ha, hB, hp⟩ := h2 b hb hq
        refine ⟨a, ?_, hB, hp⟩
        by_cases e : a = n
        · subst e
          exact absurd (hf a b b0 hB hB0) hne
        · omega
end
end
section
section
/-- there is a way of n fields from a source to place j -/
def oh_P (src : Nat → Prop) (f : Nat → Int32) : Nat → Nat → Prop
  | 0 => fun j => j < 24 ∧ src j
  | n + 1 => fun j => j < 24 ∧ ∃ i t, i < 24 ∧ t < 3 ∧ oh_P src f n i ∧ f (i * 3 + t) = nI j
theorem oh_P_lt {src : Nat → Prop} {f : Nat → Int32} {n j : Nat} (h : oh_P src f n j) : j < 24 := by
  cases n with
  | zero => exact h.1
  | succ n => exact h.1
theorem oh_P_e {src : Nat → Prop} {f : Nat → Int32} {n i t j : Nat} (h : oh_P src f n i) (hi : i < 24) (ht : t < 3) (hj : j < 24) (e : f (i * 3 + t) = nI j) : oh_P src f (n + 1) j :=
  ⟨hj, i, t, hi, ht, h, e⟩
def oh_val (x : Int32) : Prop := x = -1 ∨ ∃ j, j < 24 ∧ x = nI j
def oh_xd : Nat → Int32
  | 0 => -1
  | n + 1 => nI n
theorem oh_xd_m1 {n : Nat} (h : n ≤ 24) : oh_xd n = -1 ↔ n = 0 := by
  cases n with
  | zero => exact ⟨fun _ => rfl, fun _ => rfl⟩
  | succ n => exact ⟨fun e => absurd e (oh_m1 (by omega)), fun e => by omega⟩
def oh_u (f : Nat → Nat) (k x : Nat) : Nat → Nat := fun j => if j = k then x else f j
theorem oh_u_s {f : Nat → Nat} {k x : Nat} : oh_u f k x k = x := if_pos rfl
theorem oh_u_n {f : Nat → Nat} {k x j : Nat} (h : j ≠ k) : oh_u f k x j = f j := if_neg h
/-- what a walk has seen so far: sg the order, dl the distance plus one (0: unseen) -/
def oh_C (P : Nat → Nat → Prop) (c : Nat) (s d : Nat → Int32) (sg dl : Nat → Nat) : Prop :=
  (∀ j, j < 24 → d j = oh_xd (dl j)) ∧ (∀ j n, j < 24 → dl j = n + 1 → P n j) ∧
  (∀ k, k < c → s k = nI (sg k) ∧ sg k < 24 ∧ 1 ≤ dl (sg k) ∧ dl (sg k) ≤ k + 1) ∧
  (∀ j, j < 24 → dl j ≠ 0 → ∃ k, k < c ∧ sg k = j) ∧
  (∀ k k', k < k' → k' < c → sg k ≠ sg k' ∧ dl (sg k) ≤ dl (sg k')) ∧
  c = oh_cnt (fun j => decide (dl j ≠ 0)) 24
theorem oh_C_24 {P : Nat → Nat → Prop} {c : Nat} {s d : Nat → Int32} {sg dl : Nat → Nat} (h : oh_C P c s d sg dl) : c ≤ 24 := by
  rw [h.2.2.2.2.2]
  exact oh_cnt_le _ _
theorem oh_C_dl {P : Nat → Nat → Prop} {c : Nat} {s d : Nat → Int32} {sg dl : Nat → Nat} (h : oh_C P c s d sg dl) {j : Nat} (hj : j < 24) : dl j ≤ c := by
  by_cases e : dl j = 0
  · omega
  · obtain ⟨k, hk, ek⟩ := h.2.2.2.1 j hj e
    have h1 := (h.2.2.1 k hk).2.2.2
    rw [ek] at h1
    omega
theorem oh_C_0 (P : Nat → Nat → Prop) (s d : Nat → Int32) (hd : ∀ j, j < 24 → d j = -1) : oh_C P 0 s d (fun _ => 0) (fun _ => 0) := by
  refine ⟨fun j hj => hd j hj, fun j n _ e => ?_, fun k hk => ?_, fun j _ e => ?_, fun k k' _ hk => ?_, ?_⟩
  · exact absurd e (by simp)
  · omega
  · exact absurd rfl e
  · omega
  · first | rfl | decide | simp [oh_cnt]
theorem oh_C_add {P : Nat → Nat → Prop} {c : Nat} {s d : Nat → Int32} {sg dl : Nat → Nat} (h : oh_C P c s d sg dl) {t n : Nat} (ht : t < 24) (h0 : dl t = 0) (hP : P n t) (hn : n ≤ c) (hk : ∀ k, k < c → dl (sg k) ≤ n + 1) : c < 24 ∧ oh_C P (c + 1) (upd s c (nI t)) (upd d t (nI n)) (oh_u sg c t) (oh_u dl t (n + 1)) := by
  obtain ⟨h1, h2, h3, h4, h5, h6⟩ := h
  have hc : c < 24 := by
    have := oh_cnt_lt (p := fun j => decide (dl j ≠ 0)) (i := t) (by simp [h0]) 24 ht
    omega
  have hsg : ∀ k, k < c → sg k ≠ t := fun k hk e => by
    have := (h3 k hk).2.2.1
    rw [e, h0] at this
    omega
  have hd : ∀ k, k < c → oh_u dl t (n + 1) (oh_u sg c t k) = dl (sg k) := fun k hk => by
    rw [oh_u_n (show k ≠ c by omega), oh_u_n (hsg k hk)]
  have hd' : oh_u dl t (n + 1) (oh_u sg c t c) = n + 1 := by rw [oh_u_s, oh_u_s]
  refine ⟨hc, ?_, ?_, ?_, ?_, ?_, ?_⟩
  · intro j hj
    by_cases e : j = t
    · simp only [e, pk_us, oh_u_s, oh_xd]
    · rw [pk_un e, oh_u_n e]
      exact h1 j hj
  · intro j m hj hm
    by_cases e : j = t
    · rw [e, oh_u_s] at hm
      have : m = n := by omega
      rw [e, this]
      exact hP
    · rw [oh_u_n e] at hm
      exact h2 j m hj hm
  · intro k hk'
    by_cases e : k = c
    · rw [e, hd', pk_us, oh_u_s]
      exact ⟨rfl, ht, by omega, by omega⟩
    · have hk2 : k < c := by omega
      rw [hd k hk2, pk_un e, oh_u_n e]
      exact h3 k hk2
  · intro j hj hne
    by_cases e : j = t
    · exact ⟨c, by omega, by rw [oh_u_s, e]⟩
    · rw [oh_u_n e] at hne
      obtain ⟨k, hk', ek⟩ := h4 j hj hne
      exact ⟨k, by omega, by rw [oh_u_n (show k ≠ c by omega)]; exact ek⟩
  · intro k k' hkk hk'
    by_cases e : k' = c
    · have hk2 : k < c := by omega
      rw [e, hd', hd k hk2, oh_u_s, oh_u_n (show k ≠ c by omega)]
      exact ⟨hsg k hk2, hk k hk2⟩
    · have hk2 : k < c := by omega
      have hk3 : k' < c := by omega
      rw [hd k hk2, hd k' hk3, oh_u_n (show k ≠ c by omega), oh_u_n (show k' ≠ c by omega)]
      exact h5 k k' hkk hk3
  · have := oh_cnt_add (p := fun j => decide (dl j ≠ 0)) (q := fun j => decide (oh_u dl t (n + 1) j ≠ 0)) (t := t) (by simp [h0]) (by simp [oh_u_s]) 24 ht (fun i _ hne => by simp only [oh_u_n hne])
    rw [this, ← h6]
/-- what one look at x, at distance n, leaves -/
def oh_Nx (P : Nat → Nat → Prop) (c : Nat) (sg dl : Nat → Nat) (x : Int32) (n : Nat) (c' : Nat) (s' d' : Nat → Int32) : Prop :=
  ∃ sg' dl' : Nat → Nat, oh_C P c' s' d' sg' dl' ∧ c ≤ c' ∧ (∀ k, k < c → sg' k = sg k) ∧ (∀ j, dl j ≠ 0 → dl' j = dl j) ∧ (∀ k, c ≤ k → k < c' → dl' (sg' k) = n + 1) ∧ (∀ t, t < 24 → x = nI t → dl' t ≠ 0 ∧ dl' t ≤ n + 1)
theorem oh_Nx_same {P : Nat → Nat → Prop} {c : Nat} {s d : Nat → Int32} {sg dl : Nat → Nat} {x : Int32} {n : Nat} (h : oh_C P c s d sg dl) (hk : ∀ k, k < c → dl (sg k) ≤ n + 1) (hx : x = -1 ∨ ∃ t, t < 24 ∧ x = nI t ∧ dl t ≠ 0) : oh_Nx P c sg dl x n c s d := by
  refine ⟨sg, dl, h, Nat.le_refl _, fun _ _ => rfl, fun _ _ => rfl, fun k h1 h2 => by omega, fun t ht e => ?_⟩
  rcases hx with hx | ⟨t', ht', hx, hne⟩
  · exact absurd (e.symm.trans hx) (oh_m1 (by omega))
  · have e2 : t = t' := oh_inj (e.symm.trans hx) (by omega) (by omega)
    rw [e2]
    obtain ⟨k, hk', ek⟩ := h.2.2.2.1 t' ht' hne
    have := hk k hk'
    rw [ek] at this
    exact ⟨hne, this⟩
theorem oh_Nx_add {P : Nat → Nat → Prop} {c : Nat} {s d : Nat → Int32} {sg dl : Nat → Nat} {t n : Nat} (h : oh_C P c s d sg dl) (ht : t < 24) (h0 : dl t = 0) (hP : P n t) (hn : n ≤ c) (hk : ∀ k, k < c → dl (sg k) ≤ n + 1) : c < 24 ∧ oh_Nx P c sg dl (nI t) n (c + 1) (upd s c (nI t)) (upd d t (nI n)) := by
  obtain ⟨hc, hC⟩ := oh_C_add h ht h0 hP hn hk
  refine ⟨hc, oh_u sg c t, oh_u dl t (n + 1), hC, by omega, fun k hk' => oh_u_n (by omega), fun j hj => oh_u_n (fun e => hj (by rw [e]; exact h0)), fun k h1 h2 => ?_, fun t' ht' e => ?_⟩
  · have e : k = c := by omega
    rw [e, oh_u_s, oh_u_s]
  · have e2 : t = t' := oh_inj e (by omega) (by omega)
    rw [← e2, oh_u_s]
    exact ⟨by omega, by omega⟩
/-- the look itself, free of the ghosts -/
def oh_See (c : Nat) (s d : Nat → Int32) (x : Int32) (n : Nat) (Q : Nat → (Nat → Int32) → (Nat → Int32) → Prop) : Prop :=
  (x = -1 ∧ Q c s d) ∨ (∃ t, t < 24 ∧ x = nI t ∧ d t ≠ -1 ∧ Q c s d) ∨ (∃ t, t < 24 ∧ x = nI t ∧ d t = -1 ∧ c < 24 ∧ Q (c + 1) (upd s c (nI t)) (upd d t (nI n)))
theorem oh_see {P : Nat → Nat → Prop} {c : Nat} {s d : Nat → Int32} {sg dl : Nat → Nat} {x : Int32} {n : Nat} {Q : Nat → (Nat → Int32) → (Nat → Int32) → Prop} (h : oh_C P c s d sg dl) (hv : oh_val x) (hP : ∀ t, t < 24 → x = nI t → P n t) (hn : n ≤ c) (hk : ∀ k, k < c → dl (sg k) ≤ n + 1) (hQ : ∀ c' s' d', oh_Nx P c sg dl x n c' s' d' → Q c' s' d') : oh_See c s d x n Q := by
  rcases hv with hx | ⟨t, ht, hx⟩
  · exact Or.inl ⟨hx, hQ _ _ _ (oh_Nx_same h hk (Or.inl hx))⟩
  · have h24 := oh_C_24 h
    have hdl := oh_C_dl h ht
    have e1 := h.1 t ht
    by_cases e : dl t = 0
    · refine Or.inr (Or.inr ⟨t, ht, hx, ?_, ?_⟩)
      · rw [e1, e]; rfl
      · have h2 := oh_Nx_add h ht e (hP t ht hx) hn hk
        rw [← hx] at h2
        rw [← hx]
        exact ⟨h2.1, hQ _ _ _ h2.2⟩
    · refine Or.inr (Or.inl ⟨t, ht, hx, ?_, hQ _ _ _ (oh_Nx_same h hk (Or.inr ⟨t, ht, hx, e⟩))⟩)
      rw [e1]
      intro e2
      exact e ((oh_xd_m1 (by omega)).mp e2)
def oh_src (xr : Nat → Int32) (R : Nat) : Nat → Prop := fun j => ∃ q, q < R ∧ xr q = nI j
/-- the roots' loop -/
def oh_RI (P : Nat → Nat → Prop) (xr : Nat → Int32) (r c : Nat) (s d : Nat → Int32) : Prop :=
  ∃ sg dl : Nat → Nat, oh_C P c s d sg dl ∧ (∀ k, k < c → dl (sg k) = 1) ∧ (∀ q j, q < r → j < 24 → xr q = nI j → dl j = 1)
theorem oh_RI_0 (P : Nat → Nat → Prop) (xr : Nat → Int32) (s d : Nat → Int32) (hd : ∀ j, j < 24 → d j = -1) : oh_RI P xr 0 0 s d :=
  ⟨_, _, oh_C_0 P s d hd, fun k hk => by omega, fun q j hq => by omega⟩
theorem oh_RI_s {xr : Nat → Int32} {f : Nat → Int32} {R r c : Nat} {s d : Nat → Int32} (h : oh_RI (oh_P (oh_src xr R) f) xr r c s d) (hr : r < R) (hv : oh_val (xr r)) : oh_See c s d (xr r) 0 (fun c' s' d' => oh_RI (oh_P (oh_src xr R) f) xr (r + 1) c' s' d') := by
  obtain ⟨sg, dl, hC, h1, h2⟩ := h
  refine oh_see hC hv (fun t ht e => ⟨ht, r, hr, e⟩) (Nat.zero_le _) (fun k hk => by have := h1 k hk; omega) ?_
  intro c' s' d' hN
  obtain ⟨sg', dl', hC', hcc, hsg, hdl, hnew, hx⟩ := hN
  refine ⟨sg', dl', hC', fun k hk => ?_, fun q j hq hj e => ?_⟩
  · by_cases hk2 : k < c
    · have := h1 k hk2
      rw [hsg k hk2, hdl _ (by omega)]
      exact this
    · exact hnew k (by omega) hk
  · by_cases hq2 : q < r
    · have := h2 q j hq2 hj e
      rw [hdl j (by omega)]
      exact this
    · have e2 : q = r := by omega
      rw [e2] at e
      have := hx j hj e
      omega
/-- the queue's loop -/
def oh_G (f : Nat → Int32) (i : Nat) (sg dl : Nat → Nat) : Prop :=
  ∀ k t j, k < i → t < 3 → j < 24 → f (sg k * 3 + t) = nI j → dl j ≠ 0 ∧ dl j ≤ dl (sg k) + 1
def oh_OI (src : Nat → Prop) (f : Nat → Int32) (i c : Nat) (s d : Nat → Int32) : Prop :=
  ∃ sg dl : Nat → Nat, oh_C (oh_P src f) c s d sg dl ∧ i ≤ c ∧ (∀ j, j < 24 → src j → dl j = 1) ∧ oh_G f i sg dl ∧ (i < c → ∀ k, k < c → dl (sg k) ≤ dl (sg i) + 1)
def oh_II (src : Nat → Prop) (f : Nat → Int32) (i ob nx t c : Nat) (s d : Nat → Int32) : Prop :=
  ∃ sg dl : Nat → Nat, oh_C (oh_P src f) c s d sg dl ∧ i < c ∧ (∀ j, j < 24 → src j → dl j = 1) ∧ oh_G f i sg dl ∧ sg i = ob ∧ dl ob = nx ∧ (∀ k, k < c → dl (sg k) ≤ nx + 1) ∧ (∀ q j, q < t → j < 24 → f (ob * 3 + q) = nI j → dl j ≠ 0 ∧ dl j ≤ nx + 1)
theorem oh_RI_OI {xr f : Nat → Int32} {R c : Nat} {s d : Nat → Int32} (h : oh_RI (oh_P (oh_src xr R) f) xr R c s d) : oh_OI (oh_src xr R) f 0 c s d := by
  obtain ⟨sg, dl, hC, h1, h2⟩ := h
  refine ⟨sg, dl, hC, Nat.zero_le _, fun j hj hs => ?_, fun k t j hk => by omega, fun h0 k hk => ?_⟩
  · obtain ⟨q, hq, e⟩ := hs
    exact h2 q j hq hj e
  · have := h1 k hk
    omega
theorem oh_OI_c {src : Nat → Prop} {f : Nat → Int32} {i c : Nat} {s d : Nat → Int32} (h : oh_OI src f i c s d) : i ≤ c ∧ c ≤ 24 := by
  obtain ⟨sg, dl, hC, hi, _⟩ := h
  exact ⟨hi, oh_C_24 hC⟩
theorem oh_OI_II {src : Nat → Prop} {f : Nat → Int32} {i c : Nat} {s d : Nat → Int32} (h : oh_OI src f i c s d) (hi : i < c) : ∃ ob nx, ob < 24 ∧ s i = nI ob ∧ d ob + 1 = nI nx ∧ oh_II src f i ob nx 0 c s d := by
  obtain ⟨sg, dl, hC, _, hs, hG, hm⟩ := h
  obtain ⟨e1, hlt, hpos, _⟩ := hC.2.2.1 i hi
  refine ⟨sg i, dl (sg i), hlt, e1, ?_, sg, dl, hC, hi, hs, hG, rfl, rfl, hm hi, fun q j hq => by omega⟩
  rw [hC.1 (sg i) hlt]
  obtain ⟨m, em⟩ : ∃ m, dl (sg i) = m + 1 := ⟨dl (sg i) - 1, by omega⟩
  rw [em, oh_xd, nI_1]
theorem oh_II_c {src : Nat → Prop} {f : Nat → Int32} {i ob nx t c : Nat} {s d : Nat → Int32} (h : oh_II src f i ob nx t c s d) : i < c ∧ c ≤ 24 := by
  obtain ⟨sg, dl, hC, hi, _⟩ := h
  exact ⟨hi, oh_C_24 hC⟩
theorem oh_II_OI {src : Nat → Prop} {f : Nat → Int32} {i ob nx c : Nat} {s d : Nat → Int32} (h : oh_II src f i ob nx 3 c s d) : oh_OI src f (i + 1) c s d := by
  obtain ⟨sg, dl, hC, hi, hs, hG, eo, en, hm, hf⟩ := h
  refine ⟨sg, dl, hC, hi, hs, fun k t j hk ht hj e => ?_, fun h1 k hk => ?_⟩
  · by_cases hk2 : k < i
    · exact hG k t j hk2 ht hj e
    · have e2 : k = i := by omega
      rw [e2, eo] at e
      have := hf t j ht hj e
      rw [e2, eo, en]
      exact this
  · have h2 := (hC.2.2.2.2.1 i (i + 1) (by omega) h1).2
    have h3 := hm k hk
    rw [eo, en] at h2
    omega
theorem oh_II_s {src : Nat → Prop} {f : Nat → Int32} {i ob nx t c : Nat} {s d : Nat → Int32} (h : oh_II src f i ob nx t c s d) (ht : t < 3) (hv : oh_val (f (ob * 3 + t))) : oh_See c s d (f (ob * 3 + t)) nx (fun c' s' d' => oh_II src f i ob nx (t + 1) c' s' d') := by
  obtain ⟨sg, dl, hC, hi, hs, hG, eo, en, hm, hf⟩ := h
  obtain ⟨_, hlt, hpos, hle⟩ := hC.2.2.1 i hi
  rw [eo] at hlt
  rw [eo, en] at hpos hle
  refine oh_see hC hv (fun j hj e => ?_) (by omega) hm ?_
  · obtain ⟨m, em⟩ : ∃ m, nx = m + 1 := ⟨nx - 1, by omega⟩
    rw [em]
    exact oh_P_e (hC.2.1 ob m hlt (by omega)) hlt ht hj e
  · intro c' s' d' hN
    obtain ⟨sg', dl', hC', hcc, hsg, hdl, hnew, hx⟩ := hN
    have hob : dl' ob = nx := by
      rw [hdl ob (by omega)]
      exact en
    refine ⟨sg', dl', hC', by omega, fun j hj h1 => ?_, fun k q j hk hq hj e => ?_, ?_, hob, fun k hk => ?_, fun q j hq hj e => ?_⟩
    · have := hs j hj h1
      rw [hdl j (by omega)]
      exact this
    · have h3 := hC.2.2.1 k (by omega)
      rw [hsg k (by omega)] at e
      have h4 := hG k q j hk hq hj e
      rw [hsg k (by omega), hdl j h4.1, hdl (sg k) (by omega)]
      exact h4
    · rw [hsg i hi]
      exact eo
    · by_cases hk2 : k < c
      · have h3 := hC.2.2.1 k hk2
        rw [hsg k hk2, hdl (sg k) (by omega)]
        exact hm k hk2
      · rw [hnew k (by omega) hk]
        exact Nat.le_refl _
    · by_cases hq2 : q < t
      · have h4 := hf q j hq2 hj e
        rw [hdl j h4.1]
        exact h4
      · have e2 : q = t := by omega
        rw [e2] at e
        exact hx j hj e
/-- a whole walk of the class -/
def oh_Xd (P : Nat → Nat → Prop) (c : Nat) (s d : Nat → Int32) : Prop :=
  ∃ sg dl : Nat → Nat, oh_C P c s d sg dl ∧ ∀ n j, P n j → dl j ≠ 0 ∧ dl j ≤ n + 1
theorem oh_OI_Xd {src : Nat → Prop} {f : Nat → Int32} {c : Nat} {s d : Nat → Int32} (h : oh_OI src f c c s d) : oh_Xd (oh_P src f) c s d := by
  obtain ⟨sg, dl, hC, _, hs, hG, _⟩ := h
  refine ⟨sg, dl, hC, fun n => ?_⟩
  induction n with
  | zero =>
    intro j hj
    have := hs j hj.1 hj.2
    omega
  | succ n ih =>
    intro j hj
    obtain ⟨hj24, i, t, hi, ht, hp, e⟩ := hj
    have h1 := ih i hp
    obtain ⟨k, hk, ek⟩ := hC.2.2.2.1 i hi h1.1
    have h2 := hG k t j hk ht hj24 (by rw [ek]; exact e)
    rw [ek] at h2
    omega
end
end
section
section
/-- the reference's sources for spread(a) -/
def oh_ysrc (yr : Nat → Int32) (a : Int32) : Nat → Prop := fun j => ∃ q, q < 8 ∧ (a < 0 ∨ a = nI q) ∧ yr q = nI j
def oh_YR (yr : Nat → Int32) (a : Int32) (r : Nat) (w : Nat → Int32) : Prop :=
  ∃ om : Nat → Nat, (∀ j, j < 24 → w j = nI (om j) ∧ ((om j = 0 ∧ oh_ysrc yr a j) ∨ om j = 1000)) ∧ ∀ q j, q < r → j < 24 → (a < 0 ∨ a = nI q) → yr q = nI j → om j = 0
theorem oh_YR_0 (yr : Nat → Int32) (a : Int32) (w : Nat → Int32) (h : ∀ j, j < 24 → w j = 1000) : oh_YR yr a 0 w :=
  ⟨fun _ => 1000, fun j hj => ⟨(h j hj).trans oh_1000.symm, Or.inr rfl⟩, fun q j hq => by omega⟩
theorem oh_YR_n {yr : Nat → Int32} {a : Int32} {r : Nat} {w : Nat → Int32} (h : oh_YR yr a r w) (hn : ¬ (a < 0 ∨ a = nI r) ∨ yr r = -1) : oh_YR yr a (r + 1) w := by
  obtain ⟨om, h1, h2⟩ := h
  refine ⟨om, h1, fun q j hq hj hs e => ?_⟩
  by_cases hq2 : q < r
  · exact h2 q j hq2 hj hs e
  · have e2 : q = r := by omega
    rw [e2] at hs e
    rcases hn with hn | hn
    · exact absurd hs hn
    · exact absurd (e.symm.trans hn) (oh_m1 (by omega))
theorem oh_YR_s {yr : Nat → Int32} {a : Int32} {r t : Nat} {w : Nat → Int32} (h : oh_YR yr a r w) (hr : r < 8) (ht : t < 24) (hs : a < 0 ∨ a = nI r) (e : yr r = nI t) : oh_YR yr a (r + 1) (upd w t 0) := by
  obtain ⟨om, h1, h2⟩ := h
  refine ⟨oh_u om t 0, fun j hj => ?_, fun q j hq hj hs' e' => ?_⟩
  · by_cases ej : j = t
    · rw [ej, pk_us, oh_u_s]
      exact ⟨rfl, Or.inl ⟨rfl, r, hr, hs, e⟩⟩
    · rw [pk_un ej, oh_u_n ej]
      exact h1 j hj
  · by_cases ej : j = t
    · rw [ej, oh_u_s]
    · rw [oh_u_n ej]
      by_cases hq2 : q < r
      · exact h2 q j hq2 hj hs' e'
      · have e2 : q = r := by omega
        rw [e2] at e'
        exact absurd (oh_inj (e'.symm.trans e) (by omega) (by omega)) ej
def oh_YI (P : Nat → Nat → Prop) (f : Nat → Int32) (T i : Nat) (w : Nat → Int32) : Prop :=
  ∃ om : Nat → Nat, (∀ j, j < 24 → w j = nI (om j) ∧ om j ≤ 1000 ∧ (om j < 1000 → P (om j) j)) ∧ (∀ m j, m ≤ T → P m j → om j ≤ m) ∧ (∀ e j m, e < i → j < 24 → f e = nI j → m ≤ T → P m (e / 3) → om j ≤ m + 1)
theorem oh_YR_YI {yr f : Nat → Int32} {a : Int32} {w : Nat → Int32} (h : oh_YR yr a 8 w) : oh_YI (oh_P (oh_ysrc yr a) f) f 0 0 w := by
  obtain ⟨om, h1, h2⟩ := h
  refine ⟨om, fun j hj => ⟨(h1 j hj).1, ?_, fun hlt => ?_⟩, fun m j hm hp => ?_, fun e j m he => by omega⟩
  · rcases (h1 j hj).2 with h3 | h3 <;> omega
  · rcases (h1 j hj).2 with h3 | h3
    · rw [h3.1]
      exact ⟨hj, h3.2⟩
    · omega
  · have e0 : m = 0 := by omega
    rw [e0] at hp
    obtain ⟨hj, q, hq, hs, e⟩ := hp
    have := h2 q j hq hj hs e
    omega
/-- one field of one round -/
theorem oh_YI_s {src : Nat → Prop} {f : Nat → Int32} {T i : Nat} {w : Nat → Int32} (h : oh_YI (oh_P src f) f T i w) (hi : i < 72) (hT : T < 24) : ∃ vo, vo ≤ 1000 ∧ w (i / 3) = nI vo ∧ (vo = 1000 → oh_YI (oh_P src f) f T (i + 1) w) ∧ (f i = -1 → oh_YI (oh_P src f) f T (i + 1) w) ∧ ∀ t, t < 24 → f i = nI t → ∃ vj, vj ≤ 1000 ∧ w t = nI vj ∧ (vj ≤ vo + 1 → oh_YI (oh_P src f) f T (i + 1) w) ∧ (vo < 1000 → vo + 1 < vj → oh_YI (oh_P src f) f T (i + 1) (upd w t (nI (vo + 1)))) := by
  obtain ⟨om, h1, h2, h3⟩ := h
  have ho : i / 3 < 24 := by omega
  have hlast : ∀ (v : Nat → Nat) (w' : Nat → Int32), (∀ j, j < 24 → w' j = nI (v j) ∧ v j ≤ 1000 ∧ (v j < 1000 → oh_P src f (v j) j)) → (∀ j, v j ≤ om j) → (∀ j m, j < 24 → f i = nI j → m ≤ T → oh_P src f m (i / 3) → v j ≤ m + 1) → oh_YI (oh_P src f) f T (i + 1) w' := by
    intro v w' g1 g2 g3
    refine ⟨v, g1, fun m j hm hp => Nat.le_trans (g2 j) (h2 m j hm hp), fun e j m he hj ef hm hp => ?_⟩
    by_cases he2 : e < i
    · exact Nat.le_trans (g2 j) (h3 e j m he2 hj ef hm hp)
    · have e2 : e = i := by omega
      rw [e2] at ef hp
      exact g3 j m hj ef hm hp
  refine ⟨om (i / 3), (h1 _ ho).2.1, (h1 _ ho).1, fun hv => ?_, fun ef => ?_, fun t ht ef => ⟨om t, (h1 t ht).2.1, (h1 t ht).1, fun hle => ?_, fun hlt hle => ?_⟩⟩
  · refine hlast om w h1 (fun j => Nat.le_refl _) (fun j m _ _ hm hp => ?_)
    have := h2 m (i / 3) hm hp
    omega
  · refine hlast om w h1 (fun j => Nat.le_refl _) (fun j m hj e _ _ => ?_)
    exact absurd (e.symm.trans ef) (oh_m1 (by omega))
  · refine hlast om w h1 (fun j => Nat.le_refl _) (fun j m hj e hm hp => ?_)
    have ej : j = t := oh_inj (e.symm.trans ef) (by omega) (by omega)
    rw [ej]
    have := h2 m (i / 3) hm hp
    omega
  · have e3 : i / 3 * 3 + i % 3 = i := by omega
    refine hlast (oh_u om t (om (i / 3) + 1)) _ (fun j hj => ?_) (fun j => ?_) (fun j m hj e hm hp => ?_)
    · by_cases ej : j = t
      · rw [ej, pk_us, oh_u_s]
        refine ⟨rfl, by omega, fun _ => ?_⟩
        exact oh_P_e (t := i % 3) ((h1 _ ho).2.2 hlt) ho (by omega) ht (by rw [e3]; exact ef)
      · rw [pk_un ej, oh_u_n ej]
        exact h1 j hj
    · by_cases ej : j = t
      · rw [ej, oh_u_s]
        omega
      · rw [oh_u_n ej]
        exact Nat.le_refl _
    · have ej : j = t := oh_inj (e.symm.trans ef) (by omega) (by omega)
      rw [ej, oh_u_s]
      have := h2 m (i / 3) hm hp
      omega
theorem oh_YI_n {src : Nat → Prop} {f : Nat → Int32} {T : Nat} {w : Nat → Int32} (h : oh_YI (oh_P src f) f T 72 w) : oh_YI (oh_P src f) f (T + 1) 0 w := by
  obtain ⟨om, h1, h2, h3⟩ := h
  refine ⟨om, h1, fun m j hm hp => ?_, fun e j m he => by omega⟩
  cases m with
  | zero => exact h2 0 j (Nat.zero_le _) hp
  | succ m =>
    obtain ⟨hj, i, t, hi, ht, hp', e⟩ := hp
    exact h3 (i * 3 + t) j m (by omega) hj e (by omega) (by rw [show (i * 3 + t) / 3 = i by omega]; exact hp')
def oh_Yd (P : Nat → Nat → Prop) (w : Nat → Int32) : Prop :=
  ∃ om : Nat → Nat, (∀ j, j < 24 → w j = nI (om j) ∧ om j ≤ 1000 ∧ (om j < 1000 → P (om j) j)) ∧ ∀ n j, n ≤ 24 → P n j → om j ≤ n
theorem oh_YI_Yd {P : Nat → Nat → Prop} {f : Nat → Int32} {w : Nat → Int32} (h : oh_YI P f 24 0 w) : oh_Yd P w := by
  obtain ⟨om, h1, h2, _⟩ := h
  exact ⟨om, h1, h2⟩
theorem oh_Yd_v {P : Nat → Nat → Prop} {w : Nat → Int32} (h : oh_Yd P w) {j : Nat} (hj : j < 24) : ∃ m, m ≤ 1000 ∧ w j = nI m ∧ (m < 1000 → P m j) := by
  obtain ⟨om, h1, _⟩ := h
  exact ⟨om j, (h1 j hj).2.1, (h1 j hj).1, (h1 j hj).2.2⟩
/-! the two graphs -/
def oh_Bh (B : Nat → Nat → Prop) (x y : Int32) : Prop := (x = -1 ∧ y = -1) ∨ ∃ a b, x = nI a ∧ y = nI b ∧ B a b
def oh_Bi (B : Nat → Nat → Prop) (xt xp xf yp yf : Nat → Int32) : Prop :=
  (∀ a b, B a b → a < 24 ∧ b < 24 ∧ xt a ≠ 0 ∧ xp a = yp b) ∧ (∀ a b t, B a b → t < 3 → oh_Bh B (xf (a * 3 + t)) (yf (b * 3 + t))) ∧ (∀ a b b', B a b → B a b' → b = b') ∧ (∀ a a' b, B a b → B a' b → a = a')
def oh_Sr (B : Nat → Nat → Prop) (xs ys : Nat → Prop) : Prop :=
  (∀ a, a < 24 → xs a → ∃ b, B a b ∧ ys b) ∧ (∀ b, b < 24 → ys b → ∃ a, B a b ∧ xs a)
theorem oh_fw {B : Nat → Nat → Prop} {xf yf : Nat → Int32} {xs ys : Nat → Prop} (hb : ∀ a b, B a b → a < 24 ∧ b < 24) (he : ∀ a b t, B a b → t < 3 → oh_Bh B (xf (a * 3 + t)) (yf (b * 3 + t))) (hs : ∀ a, a < 24 → xs a → ∃ b, B a b ∧ ys b) : ∀ n a, oh_P xs xf n a → ∃ b, B a b ∧ oh_P ys yf n b := by
  intro n
  induction n with
  | zero =>
    intro a h
    obtain ⟨b, hB, hy⟩ := hs a h.1 h.2
    exact ⟨b, hB, (hb a b hB).2, hy⟩
  | succ n ih =>
    intro a h
    obtain ⟨ha, i, t, hi, ht, hp, e⟩ := h
    obtain ⟨b, hB, hq⟩ := ih i hp
    rcases he i b t hB ht with ⟨e1, _⟩ | ⟨a', b', e1, e2, hB'⟩
    · exact absurd (e.symm.trans e1) (oh_m1 (by omega))
    · have h1 := hb a' b' hB'
      have e3 : a = a' := oh_inj (e.symm.trans e1) (by omega) (by omega)
      rw [e3]
      exact ⟨b', hB', oh_P_e hq (hb i b hB).2 ht h1.2 e2⟩
theorem oh_Bh_flip {B : Nat → Nat → Prop} {x y : Int32} (h : oh_Bh B x y) : oh_Bh (fun b a => B a b) y x := by
  rcases h with ⟨e1, e2⟩ | ⟨a, b, e1, e2, hB⟩
  · exact Or.inl ⟨e2, e1⟩
  · exact Or.inr ⟨b, a, e2, e1, hB⟩
section
variable {B : Nat → Nat → Prop} {xt xp xf yp yf : Nat → Int32} {xs ys : Nat → Prop}
theorem oh_fwd (h : oh_Bi B xt xp xf yp yf) (hs : oh_Sr B xs ys) : ∀ n a, oh_P xs xf n a → ∃ b, B a b ∧ oh_P ys yf n b :=
  oh_fw (fun a b hB => ⟨(h.1 a b hB).1, (h.1 a b hB).2.1⟩) h.2.1 hs.1
theorem oh_bwd (h : oh_Bi B xt xp xf yp yf) (hs : oh_Sr B xs ys) : ∀ n b, oh_P ys yf n b → ∃ a, B a b ∧ oh_P xs xf n a :=
  oh_fw (B := fun b a => B a b) (fun b a hB => ⟨(h.1 a b hB).2.1, (h.1 a b hB).1⟩) (fun b a t hB ht => oh_Bh_flip (h.2.1 a b t hB ht)) hs.2
theorem oh_iff (h : oh_Bi B xt xp xf yp yf) (hs : oh_Sr B xs ys) {a b : Nat} (hB : B a b) (n : Nat) : oh_P xs xf n a ↔ oh_P ys yf n b := by
  constructor
  · intro h1
    obtain ⟨b', hB', h2⟩ := oh_fwd h hs n a h1
    rw [h.2.2.1 a b b' hB hB']
    exact h2
  · intro h1
    obtain ⟨a', hB', h2⟩ := oh_bwd h hs n b h1
    rw [h.2.2.2 a a' b hB hB']
    exact h2
end
theorem oh_join {PX PY : Nat → Nat → Prop} {c : Nat} {s d w : Nat → Int32} {a b : Nat} (hX : oh_Xd PX c s d) (hY : oh_Yd PY w) (h : ∀ n, PX n a ↔ PY n b) (ha : a < 24) (hb : b < 24) : (d a = -1 ∧ w b = nI 1000 ∧ ∀ n, ¬ PX n a) ∨ ∃ n, n < 24 ∧ d a = nI n ∧ w b = nI n ∧ PX n a := by
  obtain ⟨sg, dl, hC, hm⟩ := hX
  obtain ⟨om, h1, h2⟩ := hY
  obtain ⟨ew, hle, hp⟩ := h1 b hb
  have h24 := oh_C_24 hC
  have hdl := oh_C_dl hC ha
  have ed := hC.1 a ha
  by_cases e : dl a = 0
  · have hn : ∀ n, ¬ PX n a := fun n hn => (hm n a hn).1 e
    refine Or.inl ⟨by rw [ed, e]; rfl, ?_, hn⟩
    by_cases h3 : om b < 1000
    · exact absurd ((h _).mpr (hp h3)) (hn _)
    · rw [ew, show om b = 1000 by omega]
  · obtain ⟨n, en⟩ : ∃ n, dl a = n + 1 := ⟨dl a - 1, by omega⟩
    have hpx := hC.2.1 a n ha en
    have h3 := h2 n b (by omega) ((h n).mp hpx)
    have h4 := (hm _ a ((h _).mpr (hp (by omega)))).2
    have e5 : om b = n := by omega
    refine Or.inr ⟨n, by omega, ?_, ?_, hpx⟩
    · rw [ed, en]; rfl
    · rw [ew, e5]
theorem oh_Xd_r {P : Nat → Nat → Prop} {c : Nat} {s d : Nat → Int32} (hX : oh_Xd P c s d) {a : Nat} (ha : a < 24) (hd : d a ≠ -1) : ∃ n, P n a := by
  obtain ⟨sg, dl, hC, _⟩ := hX
  have ed := hC.1 a ha
  cases e : dl a with
  | zero => exact absurd (by rw [ed, e]; rfl) hd
  | succ n => exact ⟨n, hC.2.1 a n ha e⟩
theorem oh_Xd_n {P : Nat → Nat → Prop} {c : Nat} {s d : Nat → Int32} (hX : oh_Xd P c s d) {a n : Nat} (ha : a < 24) (hp : P n a) : d a ≠ -1 := by
  obtain ⟨sg, dl, hC, hm⟩ := hX
  have h24 := oh_C_24 hC
  have hdl := oh_C_dl hC ha
  rw [hC.1 a ha]
  intro e
  exact (hm n a hp).1 ((oh_xd_m1 (by omega)).mp e)
theorem oh_lt1000 {n : Nat} (h : n ≤ 1000) : nI n < 1000 ↔ n < 1000 := by
  rw [← oh_1000]
  exact nI_ltI (by omega) (by omega)
theorem oh_sums {B : Nat → Nat → Prop} {xt xp xf yp yf : Nat → Int32} {xs ys : Nat → Prop} {c : Nat} {s d w wx wy : Nat → Int32} (h : oh_Bi B xt xp xf yp yf) (hs : oh_Sr B xs ys) (hX : oh_Xd (oh_P xs xf) c s d) (hY : oh_Yd (oh_P ys yf) w) (hw : ∀ a b, B a b → wx a = wy b) : oh_S (fun a => decide (d a ≠ -1)) wx 24 = oh_S (fun b => decide (w b < 1000)) wy 24 := by
  refine oh_S_bij h.2.2.1 h.2.2.2 hw 24 _ _ (fun a ha hp => ?_) (fun b hb hq => ?_)
  · have hd : d a ≠ -1 := of_decide_eq_true hp
    obtain ⟨n, hn⟩ := oh_Xd_r hX ha hd
    obtain ⟨b, hB, _⟩ := oh_fwd h hs n a hn
    have hb := (h.1 a b hB).2.1
    refine ⟨b, hb, hB, decide_eq_true ?_⟩
    rcases oh_join hX hY (oh_iff h hs hB) ha hb with ⟨e, _⟩ | ⟨m, hm, _, e, _⟩
    · exact absurd e hd
    · rw [e]
      exact (oh_lt1000 (by omega)).mpr (by omega)
  · have hd : w b < 1000 := of_decide_eq_true hq
    obtain ⟨m, hm, e, hp⟩ := oh_Yd_v hY hb
    rw [e] at hd
    have h2 := hp ((oh_lt1000 hm).mp hd)
    obtain ⟨a, hB, hpx⟩ := oh_bwd h hs m b h2
    have ha := (h.1 a b hB).1
    exact ⟨a, ha, hB, decide_eq_true (oh_Xd_n hX ha hpx)⟩
theorem oh_Xd_c {P : Nat → Nat → Prop} {c : Nat} {s d : Nat → Int32} (hX : oh_Xd P c s d) : c = oh_cnt (fun a => decide (d a ≠ -1)) 24 := by
  obtain ⟨sg, dl, hC, hm⟩ := hX
  have h24 := oh_C_24 hC
  refine hC.2.2.2.2.2.trans (oh_cnt_congr 24 (fun i hi => ?_))
  have hdl := oh_C_dl hC hi
  have ed := hC.1 i hi
  refine decide_eq_decide.mpr ?_
  rw [ed]
  exact not_congr (oh_xd_m1 (by omega)).symm
theorem oh_Xd_1 {P : Nat → Nat → Prop} {c : Nat} {s d : Nat → Int32} (hX : oh_Xd P c s d) : nI c = oh_S (fun a => decide (d a ≠ -1)) (fun _ => 1) 24 := by
  rw [oh_S_cnt, ← oh_Xd_c hX]
theorem oh_Xd_le {P : Nat → Nat → Prop} {c : Nat} {s d : Nat → Int32} (hX : oh_Xd P c s d) : c ≤ 24 := by
  obtain ⟨sg, dl, hC, hm⟩ := hX
  exact oh_C_24 hC
theorem oh_Xd_s {P : Nat → Nat → Prop} {c : Nat} {s d : Nat → Int32} (hX : oh_Xd P c s d) {i : Nat} (hi : i < c) : ∃ j, j < 24 ∧ s i = nI j := by
  obtain ⟨sg, dl, hC, hm⟩ := hX
  exact ⟨sg i, (hC.2.2.1 i hi).2.1, (hC.2.2.1 i hi).1⟩
theorem oh_Xd_sum {P : Nat → Nat → Prop} {c : Nat} {s d : Nat → Int32} (hX : oh_Xd P c s d) (wx : Nat → Int32) : oh_S (fun _ => true) (fun i => wx (s i).toNatClampNeg) c = oh_S (fun a => decide (d a ≠ -1)) wx 24 := by
  obtain ⟨sg, dl, hC, hm⟩ := hX
  have h24 := oh_C_24 hC
  refine oh_S_bij (B := fun i j => i < c ∧ j = sg i) (fun a b b' h1 h2 => h1.2.trans h2.2.symm) (fun a a' b h1 h2 => ?_) (fun a b h1 => ?_) c _ _ (fun a ha _ => ?_) (fun b hb hq => ?_)
  · have e : sg a = sg a' := h1.2.symm.trans h2.2
    by_cases hlt : a < a'
    · exact absurd e (hC.2.2.2.2.1 a a' hlt h2.1).1
    · by_cases hgt : a' < a
      · exact absurd e.symm (hC.2.2.2.2.1 a' a hgt h1.1).1
      · omega
  · obtain ⟨e, hlt, _⟩ := hC.2.2.1 a h1.1
    show wx (s a).toNatClampNeg = wx b
    rw [e, nI_clamp (by omega), h1.2]
  · obtain ⟨e, hlt, hpos, _⟩ := hC.2.2.1 a ha
    refine ⟨sg a, hlt, ⟨ha, rfl⟩, decide_eq_true ?_⟩
    have hdl := oh_C_dl hC hlt
    rw [hC.1 _ hlt]
    intro e2
    have := (oh_xd_m1 (by omega)).mp e2
    omega
  · have hd : d b ≠ -1 := of_decide_eq_true hq
    have hne : dl b ≠ 0 := fun e => hd (by rw [hC.1 b hb, e]; rfl)
    obtain ⟨k, hk, ek⟩ := hC.2.2.2.1 b hb hne
    exact ⟨k, hk, ⟨hk, ek.symm⟩, rfl⟩
end
end
section
section
def oh_Rt (B : Nat → Nat → Prop) (xr yr : Nat → Int32) : Prop := ∀ r, r < 8 → oh_Bh B (xr r) (yr r)
/-- the two heaps, seen from the roots, are the same -/
def oh_R (xr xt xp xf yr yf yp : Nat → Int32) : Prop :=
  (∀ k, k < 72 → oh_val (xf k)) ∧ (∀ k, k < 72 → oh_val (yf k)) ∧ ∃ B : Nat → Nat → Prop, oh_Bi B xt xp xf yp yf ∧ oh_Rt B xr yr
def oh_W (ws wz : Int32) : Prop := (∃ z, z < 24 ∧ ws = nI z) ∧ ∃ z, 1 ≤ z ∧ z ≤ 8 ∧ wz = nI z
section
variable {B : Nat → Nat → Prop} {xr xt xp xf yr yf yp : Nat → Int32}
theorem oh_Bh_x {x y : Int32} (h : oh_Bi B xt xp xf yp yf) (hb : oh_Bh B x y) : oh_val x := by
  rcases hb with ⟨e, _⟩ | ⟨a, b, e, _, hB⟩
  · exact Or.inl e
  · exact Or.inr ⟨a, (h.1 a b hB).1, e⟩
theorem oh_Bh_y {x y : Int32} (h : oh_Bi B xt xp xf yp yf) (hb : oh_Bh B x y) : oh_val y := by
  rcases hb with ⟨_, e⟩ | ⟨a, b, _, e, hB⟩
  · exact Or.inl e
  · exact Or.inr ⟨b, (h.1 a b hB).2.1, e⟩
theorem oh_R_x (h : oh_R xr xt xp xf yr yf yp) {r : Nat} (hr : r < 8) : oh_val (xr r) := by
  obtain ⟨_, _, B, hB, hR⟩ := h
  exact oh_Bh_x hB (hR r hr)
theorem oh_R_y (h : oh_R xr xt xp xf yr yf yp) {r : Nat} (hr : r < 8) : oh_val (yr r) := by
  obtain ⟨_, _, B, hB, hR⟩ := h
  exact oh_Bh_y hB (hR r hr)
theorem oh_Rt_u {q : Nat} {x y : Int32} (h : oh_Rt B xr yr) (hx : oh_Bh B x y) : oh_Rt B (upd xr q x) (upd yr q y) := by
  intro r hr
  by_cases e : r = q
  · rw [e, pk_us, pk_us]
    exact hx
  · rw [pk_un e, pk_un e]
    exact h r hr
theorem oh_val_u {f : Nat → Int32} {k : Nat} {x : Int32} (h : ∀ k, k < 72 → oh_val (f k)) (hx : oh_val x) : ∀ j, j < 72 → oh_val (upd f k x j) := by
  intro j hj
  by_cases e : j = k
  · rw [e, pk_us]
    exact hx
  · rw [pk_un e]
    exact h j hj
/-- a root of both, as the calls see it -/
theorem oh_R_cases (h : oh_R xr xt xp xf yr yf yp) {r : Nat} (hr : r < 8) : (xr r = -1 ∧ yr r = -1) ∨ ∃ a b, a < 24 ∧ b < 24 ∧ xr r = nI a ∧ yr r = nI b ∧ xp a = yp b := by
  obtain ⟨_, _, B, hB, hR⟩ := h
  rcases hR r hr with h1 | ⟨a, b, e1, e2, hab⟩
  · exact Or.inl h1
  · have := hB.1 a b hab
    exact Or.inr ⟨a, b, this.1, this.2.1, e1, e2, this.2.2.2⟩
theorem oh_R_eq (h : oh_R xr xt xp xf yr yf yp) {r q : Nat} (hr : r < 8) (hq : q < 8) : xr r = xr q ↔ yr r = yr q := by
  obtain ⟨_, _, B, hB, hR⟩ := h
  rcases hR r hr with ⟨e1, e2⟩ | ⟨a, b, e1, e2, hab⟩
  · rcases hR q hq with ⟨e3, e4⟩ | ⟨a', b', e3, e4, hab'⟩
    · exact ⟨fun _ => e2.trans e4.symm, fun _ => e1.trans e3.symm⟩
    · have := hB.1 a' b' hab'
      exact ⟨fun e => absurd (e3.symm.trans (e.symm.trans e1)) (oh_m1 (by omega)), fun e => absurd (e4.symm.trans (e.symm.trans e2)) (oh_m1 (by omega))⟩
  · have h1 := hB.1 a b hab
    rcases hR q hq with ⟨e3, e4⟩ | ⟨a', b', e3, e4, hab'⟩
    · exact ⟨fun e => absurd (e1.symm.trans (e.trans e3)) (oh_m1 (by omega)), fun e => absurd (e2.symm.trans (e.trans e4)) (oh_m1 (by omega))⟩
    · have h2 := hB.1 a' b' hab'
      constructor
      · intro e
        have e5 : a = a' := oh_inj (e1.symm.trans (e.trans e3)) (by omega) (by omega)
        rw [e5] at hab
        rw [e2, e4, hB.2.2.1 a' b b' hab hab']
      · intro e
        have e5 : b = b' := oh_inj (e2.symm.trans (e.trans e4)) (by omega) (by omega)
        rw [e5] at hab
        rw [e1, e3, hB.2.2.2 a a' b' hab hab']
theorem oh_R_copy (h : oh_R xr xt xp xf yr yf yp) {r q : Nat} (hr : r < 8) : oh_R (upd xr q (xr r)) xt xp xf (upd yr q (yr r)) yf yp := by
  obtain ⟨h1, h2, B, hB, hR⟩ := h
  exact ⟨h1, h2, B, hB, oh_Rt_u hR (hR r hr)⟩
theorem oh_R_drop (h : oh_R xr xt xp xf yr yf yp) {q : Nat} : oh_R (upd xr q (-1)) xt xp xf (upd yr q (-1)) yf yp := by
  obtain ⟨h1, h2, B, hB, hR⟩ := h
  exact ⟨h1, h2, B, hB, oh_Rt_u hR (Or.inl ⟨rfl, rfl⟩)⟩
theorem oh_R_load (h : oh_R xr xt xp xf yr yf yp) {r q t a b : Nat} (hr : r < 8) (ht : t < 3) (ha : a < 24) (hb : b < 24) (e1 : xr r = nI a) (e2 : yr r = nI b) : oh_R (upd xr q (xf (a * 3 + t))) xt xp xf (upd yr q (yf (b * 3 + t))) yf yp := by
  obtain ⟨h1, h2, B, hB, hR⟩ := h
  refine ⟨h1, h2, B, hB, oh_Rt_u hR ?_⟩
  rcases hR r hr with ⟨e3, _⟩ | ⟨a', b', e3, e4, hab⟩
  · exact absurd (e1.symm.trans e3) (oh_m1 (by omega))
  · have h3 := hB.1 a' b' hab
    have e5 : a = a' := oh_inj (e1.symm.trans e3) (by omega) (by omega)
    have e6 : b = b' := oh_inj (e2.symm.trans e4) (by omega) (by omega)
    rw [e5, e6]
    exact hB.2.1 a' b' t hab ht
theorem oh_R_store (h : oh_R xr xt xp xf yr yf yp) {r q t a b : Nat} (hr : r < 8) (hq : q < 8) (ht : t < 3) (ha : a < 24) (hb : b < 24) (e1 : xr r = nI a) (e2 : yr r = nI b) : oh_R xr xt xp (upd xf (a * 3 + t) (xr q)) yr (upd yf (b * 3 + t) (yr q)) yp := by
  obtain ⟨h1, h2, B, hB, hR⟩ := h
  refine ⟨oh_val_u h1 (oh_Bh_x hB (hR q hq)), oh_val_u h2 (oh_Bh_y hB (hR q hq)), B, ⟨hB.1, fun a' b' t' hab' ht' => ?_, hB.2.2.1, hB.2.2.2⟩, hR⟩
  have hab : B a b := by
    rcases hR r hr with ⟨e3, _⟩ | ⟨a', b', e3, e4, hab⟩
    · exact absurd (e1.symm.trans e3) (oh_m1 (by omega))
    · have h3 := hB.1 a' b' hab
      have e5 : a = a' := oh_inj (e1.symm.trans e3) (by omega) (by omega)
      have e6 : b = b' := oh_inj (e2.symm.trans e4) (by omega) (by omega)
      rw [e5, e6]
      exact hab
  by_cases ea : a' = a
  · rw [ea] at hab'
    have eb : b' = b := hB.2.2.1 a b' b hab' hab
    rw [ea, eb]
    by_cases et : t' = t
    · rw [et, pk_us, pk_us]
      exact hR q hq
    · rw [pk_un (show a * 3 + t' ≠ a * 3 + t by omega), pk_un (show b * 3 + t' ≠ b * 3 + t by omega)]
      exact hB.2.1 a b t' hab ht'
  · have eb : b' ≠ b := by
      intro e
      rw [e] at hab'
      exact ea (hB.2.2.2 a' a b hab' hab)
    rw [pk_un (show a' * 3 + t' ≠ a * 3 + t by omega), pk_un (show b' * 3 + t' ≠ b * 3 + t by omega)]
    exact hB.2.1 a' b' t' hab' ht'
theorem oh_R_pay (h : oh_R xr xt xp xf yr yf yp) {r a b : Nat} {v : Int32} (hr : r < 8) (ha : a < 24) (hb : b < 24) (e1 : xr r = nI a) (e2 : yr r = nI b) : oh_R xr xt (upd xp a v) xf yr yf (upd yp b v) := by
  obtain ⟨h1, h2, B, hB, hR⟩ := h
  refine ⟨h1, h2, B, ⟨fun a' b' hab' => ?_, hB.2⟩, hR⟩
  have hab : B a b := by
    rcases hR r hr with ⟨e3, _⟩ | ⟨a', b', e3, e4, hab⟩
    · exact absurd (e1.symm.trans e3) (oh_m1 (by omega))
    · have h3 := hB.1 a' b' hab
      have e5 : a = a' := oh_inj (e1.symm.trans e3) (by omega) (by omega)
      have e6 : b = b' := oh_inj (e2.symm.trans e4) (by omega) (by omega)
      rw [e5, e6]
      exact hab
  have h3 := hB.1 a' b' hab'
  refine ⟨h3.1, h3.2.1, h3.2.2.1, ?_⟩
  by_cases ea : a' = a
  · rw [ea] at hab'
    have eb : b' = b := hB.2.2.1 a b' b hab' hab
    rw [ea, eb, pk_us, pk_us]
  · have eb : b' ≠ b := by
      intro e
      rw [e] at hab'
      exact ea (hB.2.2.2 a' a b hab' hab)
    rw [pk_un ea, pk_un eb]
    exact h3.2.2.2
/-! sources -/
theorem oh_Sr_all (hB : oh_Bi B xt xp xf yp yf) (hR : oh_Rt B xr yr) {z : Int32} (hz : z < 0) : oh_Sr B (oh_src xr 8) (oh_ysrc yr z) := by
  refine ⟨fun a ha hs => ?_, fun b hb hs => ?_⟩
  · obtain ⟨q, hq, e⟩ := hs
    rcases hR q hq with ⟨e1, _⟩ | ⟨a', b', e1, e2, hab⟩
    · exact absurd (e.symm.trans e1) (oh_m1 (by omega))
    · have h3 := hB.1 a' b' hab
      have e5 : a = a' := oh_inj (e.symm.trans e1) (by omega) (by omega)
      rw [e5]
      exact ⟨b', hab, q, hq, Or.inl hz, e2⟩
  · obtain ⟨q, hq, _, e⟩ := hs
    rcases hR q hq with ⟨_, e1⟩ | ⟨a', b', e1, e2, hab⟩
    · exact absurd (e.symm.trans e1) (oh_m1 (by omega))
    · have h3 := hB.1 a' b' hab
      have e5 : b = b' := oh_inj (e.symm.trans e2) (by omega) (by omega)
      rw [e5]
      exact ⟨a', hab, q, hq, e1⟩
theorem oh_Sr_one (hB : oh_Bi B xt xp xf yp yf) (hR : oh_Rt B xr yr) {r : Nat} (hr : r < 8) : oh_Sr B (oh_src (fun _ => xr r) 1) (oh_ysrc yr (nI r)) := by
  refine ⟨fun a ha hs => ?_, fun b hb hs => ?_⟩
  · obtain ⟨q, hq, e⟩ := hs
    rcases hR r hr with ⟨e1, _⟩ | ⟨a', b', e1, e2, hab⟩
    · exact absurd (e.symm.trans e1) (oh_m1 (by omega))
    · have h3 := hB.1 a' b' hab
      have e5 : a = a' := oh_inj (e.symm.trans e1) (by omega) (by omega)
      rw [e5]
      exact ⟨b', hab, r, hr, Or.inr rfl, e2⟩
  · obtain ⟨q, hq, h0, e⟩ := hs
    have eq : r = q := by
      rcases h0 with h0 | h0
      · exact absurd h0 (nI_pos (by omega))
      · exact oh_inj h0 (by omega) (by omega)
    rw [← eq] at e
    rcases hR r hr with ⟨_, e1⟩ | ⟨a', b', e1, e2, hab⟩
    · exact absurd (e.symm.trans e1) (oh_m1 (by omega))
    · have h3 := hB.1 a' b' hab
      have e5 : b = b' := oh_inj (e.symm.trans e2) (by omega) (by omega)
      rw [e5]
      exact ⟨a', hab, 0, by omega, e1⟩
/-! cleaning, and a new object -/
theorem oh_R_clean {xt' : Nat → Int32} (h : oh_R xr xt xp xf yr yf yp) (ht : ∀ n a, oh_P (oh_src xr 8) xf n a → xt a ≠ 0 → xt' a ≠ 0) : (∀ k, k < 72 → oh_val (xf k)) ∧ (∀ k, k < 72 → oh_val (yf k)) ∧ ∃ B' : Nat → Nat → Prop, oh_Bi B' xt' xp xf yp yf ∧ oh_Rt B' xr yr ∧ ∀ a b, B' a b → ∃ n, oh_P (oh_src xr 8) xf n a ∧ oh_P (oh_ysrc yr (-1)) yf n b := by
  obtain ⟨h1, h2, B, hB, hR⟩ := h
  have hS := oh_Sr_all hB hR oh_neg1
  refine ⟨h1, h2, fun a b => B a b ∧ ∃ n, oh_P (oh_src xr 8) xf n a, ⟨fun a b hab => ?_, fun a b t hab ht3 => ?_, fun a b b' hab hab' => hB.2.2.1 a b b' hab.1 hab'.1, fun a a' b hab hab' => hB.2.2.2 a a' b hab.1 hab'.1⟩, fun r hr => ?_, fun a b hab => ?_⟩
  · obtain ⟨hab, n, hn⟩ := hab
    have h3 := hB.1 a b hab
    exact ⟨h3.1, h3.2.1, ht n a hn h3.2.2.1, h3.2.2.2⟩
  · obtain ⟨hab, n, hn⟩ := hab
    have h3 := hB.1 a b hab
    rcases hB.2.1 a b t hab ht3 with h4 | ⟨a', b', e1, e2, hab'⟩
    · exact Or.inl h4
    · exact Or.inr ⟨a', b', e1, e2, hab', n + 1, oh_P_e hn h3.1 ht3 (hB.1 a' b' hab').1 e1⟩
  · rcases hR r hr with h4 | ⟨a', b', e1, e2, hab'⟩
    · exact Or.inl h4
    · exact Or.inr ⟨a', b', e1, e2, hab', 0, (hB.1 a' b' hab').1, r, hr, e1⟩
  · obtain ⟨hab, n, hn⟩ := hab
    exact ⟨n, hn, (oh_iff hB hS hab n).mp hn⟩
theorem oh_R_cleaned {xt' : Nat → Int32} (h : oh_R xr xt xp xf yr yf yp) (ht : ∀ n a, oh_P (oh_src xr 8) xf n a → xt a ≠ 0 → xt' a ≠ 0) : oh_R xr xt' xp xf yr yf yp := by
  obtain ⟨h1, h2, B, hB, hR, _⟩ := oh_R_clean h ht
  exact ⟨h1, h2, B, hB, hR⟩
theorem oh_R_new {xt' xf' yf' : Nat → Int32} {s p r : Nat} {v o : Int32} (h : oh_R xr xt xp xf yr yf yp) (ht : ∀ n a, oh_P (oh_src xr 8) xf n a → xt a ≠ 0 → xt' a ≠ 0) (hs : s < 24) (hp : p < 24) (hs0 : xt' s = 0) (hp0 : ∀ n, ¬ oh_P (oh_ysrc yr (-1)) yf n p) (ho : o ≠ 0)
    (hxf : ∀ k, k < 72 → xf' k = if k / 3 = s then -1 else xf k) (hyf : ∀ k, k < 72 → yf' k = if k / 3 = p then -1 else yf k) : oh_R (upd xr r (nI s)) (upd xt' s o) (upd xp s v) xf' (upd yr r (nI p)) yf' (upd yp p v) := by
  obtain ⟨h1, h2, B, hB, hR, hrc⟩ := oh_R_clean h ht
  have hns : ∀ a b, B a b → a ≠ s := fun a b hab e => by
    have h3 := (hB.1 a b hab).2.2.1
    rw [e] at h3
    exact h3 hs0
  have hnp : ∀ a b, B a b → b ≠ p := fun a b hab e => by
    obtain ⟨n, _, hn⟩ := hrc a b hab
    rw [e] at hn
    exact hp0 n hn
  have up : ∀ x y, oh_Bh B x y → oh_Bh (fun a b => B a b ∨ (a = s ∧ b = p)) x y := fun x y hxy => by
    rcases hxy with h4 | ⟨a', b', e1, e2, hab'⟩
    · exact Or.inl h4
    · exact Or.inr ⟨a', b', e1, e2, Or.inl hab'⟩
  refine ⟨fun k hk => ?_, fun k hk => ?_, fun a b => B a b ∨ (a = s ∧ b = p), ⟨fun a b hab => ?_, fun a b t hab ht3 => ?_, fun a b b' hab hab' => ?_, fun a a' b hab hab' => ?_⟩, fun q hq => ?_⟩
  · rw [hxf k hk]
    split
    · exact Or.inl rfl
    · exact h1 k hk
  · rw [hyf k hk]
    split
    · exact Or.inl rfl
    · exact h2 k hk
  · rcases hab with hab | ⟨ea, eb⟩
    · have h3 := hB.1 a b hab
      rw [pk_un (hns a b hab), pk_un (hns a b hab), pk_un (hnp a b hab)]
      exact h3
    · rw [ea, eb, pk_us, pk_us, pk_us]
      exact ⟨hs, hp, ho, rfl⟩
  · rcases hab with hab | ⟨ea, eb⟩
    · have h3 := hB.1 a b hab
      have h4 := hns a b hab
      have h5 := hnp a b hab
      rw [hxf _ (by omega), hyf _ (by omega), if_neg (by omega), if_neg (by omega)]
      exact up _ _ (hB.2.1 a b t hab ht3)
    · rw [hxf _ (by omega), hyf _ (by omega), if_pos (by omega), if_pos (by omega)]
      exact Or.inl ⟨rfl, rfl⟩
  · rcases hab with hab | ⟨ea, eb⟩ <;> rcases hab' with hab' | ⟨ea', eb'⟩
    · exact hB.2.2.1 a b b' hab hab'
    · exact absurd ea' (hns a b hab)
    · exact absurd ea (hns a b' hab')
    · rw [eb, eb']
  · rcases hab with hab | ⟨ea, eb⟩ <;> rcases hab' with hab' | ⟨ea', eb'⟩
    · exact hB.2.2.2 a a' b hab hab'
    · exact absurd eb' (hnp a b hab)
    · exact absurd eb (hnp a' b hab')
    · rw [ea, ea']
  · by_cases e : q = r
    · rw [e, pk_us, pk_us]
      exact Or.inr ⟨s, p, rfl, rfl, Or.inr ⟨rfl, rfl⟩⟩
    · rw [pk_un e, pk_un e]
      exact up _ _ (hR q hq)
/-! a whole look at both heaps: from all roots, or from one -/
theorem oh_R_sums (h : oh_R xr xt xp xf yr yf yp) {c : Nat} {s d w : Nat → Int32} {z : Int32} (hz : z < 0) (hX : oh_Xd (oh_P (oh_src xr 8) xf) c s d) (hY : oh_Yd (oh_P (oh_ysrc yr z) yf) w) : nI c = oh_S (fun b => decide (w b < 1000)) (fun _ => 1) 24 ∧ oh_S (fun _ => true) (fun i => xp (s i).toNatClampNeg) c = oh_S (fun b => decide (w b < 1000)) yp 24 := by
  obtain ⟨_, _, B, hB, hR⟩ := h
  have hS := oh_Sr_all hB hR hz
  exact ⟨(oh_Xd_1 hX).trans (oh_sums hB hS hX hY (fun _ _ _ => rfl)), (oh_Xd_sum hX xp).trans (oh_sums hB hS hX hY (fun a b hab => (hB.1 a b hab).2.2.2))⟩
theorem oh_R_one (h : oh_R xr xt xp xf yr yf yp) {r c : Nat} {s d w : Nat → Int32} (hr : r < 8) (hX : oh_Xd (oh_P (oh_src (fun _ => xr r) 1) xf) c s d) (hY : oh_Yd (oh_P (oh_ysrc yr (nI r)) yf) w) : nI c = oh_S (fun b => decide (w b < 1000)) (fun _ => 1) 24 := by
  obtain ⟨_, _, B, hB, hR⟩ := h
  have hS := oh_Sr_one hB hR hr
  exact (oh_Xd_1 hX).trans (oh_sums hB hS hX hY (fun _ _ _ => rfl))
theorem oh_R_dist (h : oh_R xr xt xp xf yr yf yp) {r q c a b : Nat} {s d w : Nat → Int32} (hr : r < 8) (hq : q < 8) (hX : oh_Xd (oh_P (oh_src (fun _ => xr r) 1) xf) c s d) (hY : oh_Yd (oh_P (oh_ysrc yr (nI r)) yf) w) (ha : a < 24) (hb : b < 24) (e1 : xr q = nI a) (e2 : yr q = nI b) : (d a = -1 ∧ w b = nI 1000) ∨ ∃ n, n < 24 ∧ d a = nI n ∧ w b = nI n := by
  obtain ⟨_, _, B, hB, hR⟩ := h
  have hS := oh_Sr_one hB hR hr
  have hab : B a b := by
    rcases hR q hq with ⟨e3, _⟩ | ⟨a', b', e3, e4, hab⟩
    · exact absurd (e1.symm.trans e3) (oh_m1 (by omega))
    · have h3 := hB.1 a' b' hab
      have e5 : a = a' := oh_inj (e1.symm.trans e3) (by omega) (by omega)
      have e6 : b = b' := oh_inj (e2.symm.trans e4) (by omega) (by omega)
      rw [e5, e6]
      exact hab
  rcases oh_join hX hY (oh_iff hB hS hab) ha hb with ⟨e3, e4, _⟩ | ⟨n, hn, e3, e4, _⟩
  · exact Or.inl ⟨e3, e4⟩
  · exact Or.inr ⟨n, hn, e3, e4⟩
/-- full or not -/
theorem oh_R_full (h : oh_R xr xt xp xf yr yf yp) {c : Nat} {s d w : Nat → Int32} {z : Int32} (hz : z < 0) (hX : oh_Xd (oh_P (oh_src xr 8) xf) c s d) (hY : oh_Yd (oh_P (oh_ysrc yr z) yf) w) : oh_S (fun b => decide (w b < 1000)) (fun _ => 1) 24 = 24 ↔ ∀ a, a < 24 → d a ≠ -1 := by
  have h1 := (oh_R_sums h hz hX hY).1
  have h2 := oh_Xd_c hX
  have h3 := oh_Xd_le hX
  rw [← h1]
  constructor
  · intro e a ha
    rw [← oh_24] at e
    have e2 : c = 24 := oh_inj e (by omega) (by omega)
    exact of_decide_eq_true (oh_cnt_full (p := fun a => decide (d a ≠ -1)) (h2.symm.trans e2) a ha)
  · intro hall
    have e2 := oh_cnt_all (p := fun a => decide (d a ≠ -1)) 24 (fun i hi => decide_eq_true (hall i hi))
    rw [h2, e2]
    exact oh_24
theorem oh_R_taken (h : oh_R xr xt xp xf yr yf yp) {n a : Nat} (hp : oh_P (oh_src xr 8) xf n a) : xt a ≠ 0 := by
  obtain ⟨_, _, B, hB, hR⟩ := h
  obtain ⟨b, hab, _⟩ := oh_fwd hB (oh_Sr_all hB hR oh_neg1) n a hp
  exact (hB.1 a b hab).2.2.1
end
end
end
section
section
/-! a walk ends: the pure walk, for the branches in which the class does not walk -/
theorem oh_See_ex {c : Nat} {s d : Nat → Int32} {x : Int32} {n : Nat} {Q : Nat → (Nat → Int32) → (Nat → Int32) → Prop} (h : oh_See c s d x n Q) : ∃ c' s' d', Q c' s' d' := by
  rcases h with ⟨_, h⟩ | ⟨_, _, _, _, h⟩ | ⟨_, _, _, _, _, h⟩
  · exact ⟨_, _, _, h⟩
  · exact ⟨_, _, _, h⟩
  · exact ⟨_, _, _, h⟩
theorem oh_RI_ex {xr f : Nat → Int32} {R : Nat} (hv : ∀ r, r < R → oh_val (xr r)) : ∀ r, r ≤ R → ∃ c s d, oh_RI (oh_P (oh_src xr R) f) xr r c s d := by
  intro r
  induction r with
  | zero => exact fun _ => ⟨0, fun _ => 0, fun _ => -1, oh_RI_0 _ _ _ _ (fun _ _ => rfl)⟩
  | succ r ih =>
    intro hr
    obtain ⟨c, s, d, h⟩ := ih (by omega)
    exact oh_See_ex (oh_RI_s h (by omega) (hv r (by omega)))
theorem oh_OI_ex {src : Nat → Prop} {f : Nat → Int32} (hf : ∀ k, k < 72 → oh_val (f k)) : ∀ m i c s d, 24 - i ≤ m → oh_OI src f i c s d → ∃ c s d, oh_OI src f c c s d := by
  intro m
  induction m with
  | zero =>
    intro i c s d hm h
    have h1 := oh_OI_c h
    have e : i = c := by omega
    rw [e] at h
    exact ⟨c, s, d, h⟩
  | succ m ih =>
    intro i c s d hm h
    have h1 := oh_OI_c h
    by_cases hi : i < c
    · obtain ⟨ob, nx, hob, _, _, h2⟩ := oh_OI_II h hi
      obtain ⟨c1, s1, d1, h3⟩ := oh_See_ex (oh_II_s h2 (by omega) (hf _ (by omega)))
      obtain ⟨c2, s2, d2, h4⟩ := oh_See_ex (oh_II_s h3 (by omega) (hf _ (by omega)))
      obtain ⟨c3, s3, d3, h5⟩ := oh_See_ex (oh_II_s h4 (by omega) (hf _ (by omega)))
      exact ih (i + 1) c3 s3 d3 (by omega) (oh_II_OI h5)
    · have e : i = c := by omega
      rw [e] at h
      exact ⟨c, s, d, h⟩
theorem oh_Xd_ex {xr f : Nat → Int32} {R : Nat} (hv : ∀ r, r < R → oh_val (xr r)) (hf : ∀ k, k < 72 → oh_val (f k)) : ∃ c s d, oh_Xd (oh_P (oh_src xr R) f) c s d := by
  obtain ⟨c, s, d, h⟩ := oh_RI_ex (f := f) hv R (Nat.le_refl _)
  obtain ⟨c', s', d', h'⟩ := oh_OI_ex hf 24 0 c s d (by omega) (oh_RI_OI h)
  exact ⟨c', s', d', oh_OI_Xd h'⟩
section
variable {xr xt xp xf yr yf yp : Nat → Int32}
/-- a free slot: then the reference isn't full -/
theorem oh_R_notfull (h : oh_R xr xt xp xf yr yf yp) {w : Nat → Int32} {z : Int32} {s : Nat} (hz : z < 0) (hY : oh_Yd (oh_P (oh_ysrc yr z) yf) w) (hs : s < 24) (h0 : xt s = 0) : oh_S (fun b => decide (w b < 1000)) (fun _ => 1) 24 ≠ 24 := by
  obtain ⟨c, sn, d, hX⟩ := oh_Xd_ex (xr := xr) (f := xf) (R := 8) (fun r hr => oh_R_x h hr) h.1
  intro e
  have h1 := (oh_R_full h hz hX hY).mp e s hs
  obtain ⟨n, hn⟩ := oh_Xd_r hX hs h1
  exact oh_R_taken h hn h0
/-- what the reference calls far can't be reached -/
theorem oh_R_far (h : oh_R xr xt xp xf yr yf yp) {w : Nat → Int32} {p : Nat} (hY : oh_Yd (oh_P (oh_ysrc yr (-1)) yf) w) (hp : p < 24) (e : w p = 1000) : ∀ n, ¬ oh_P (oh_ysrc yr (-1)) yf n p := by
  obtain ⟨c, sn, d, hX⟩ := oh_Xd_ex (xr := xr) (f := xf) (R := 8) (fun r hr => oh_R_x h hr) h.1
  obtain ⟨_, _, B, hB, hR⟩ := h
  have hS := oh_Sr_all hB hR oh_neg1
  intro n hn
  obtain ⟨a, hab, hpx⟩ := oh_bwd hB hS n p hn
  rcases oh_join hX hY (oh_iff hB hS hab) (hB.1 a p hab).1 hp with ⟨_, _, h3⟩ | ⟨m, hm, _, e4, _⟩
  · exact h3 n hpx
  · have e5 : m = 1000 := oh_inj (e4.symm.trans (e.trans oh_1000.symm)) (by omega) (by omega)
    omega
/-- not full: one is far -/
theorem oh_far_ex {P : Nat → Nat → Prop} {w : Nat → Int32} (hY : oh_Yd P w) (hall : ∀ q, q < 24 → w q ≠ 1000) : oh_S (fun b => decide (w b < 1000)) (fun _ => 1) 24 = 24 := by
  rw [oh_S_cnt, oh_cnt_all 24]
  · exact oh_24
  · intro i hi
    obtain ⟨m, hm, e, _⟩ := oh_Yd_v hY hi
    refine decide_eq_true ?_
    have h1 := hall i hi
    rw [e] at h1
    rw [e]
    refine (oh_lt1000 hm).mpr ?_
    by_cases e2 : m = 1000
    · rw [e2] at h1
      exact absurd oh_1000 h1
    · omega
end
/-! sweeping -/
def oh_SW (xt0 d : Nat → Int32) (z v : Nat) (xt : Nat → Int32) (ws : Nat) (fr : Int32) : Prop :=
  ws = (z + v) % 24 ∧ (∀ j, j < 24 → d j ≠ -1 → xt j = xt0 j) ∧ ((fr = 0 ∧ xt = xt0 ∧ ∀ q, q < v → xt0 ((z + q) % 24) = 0 ∨ d ((z + q) % 24) ≠ -1) ∨ (fr = 1 ∧ ∃ j, j < 24 ∧ xt j = 0))
theorem oh_SW_0 (xt0 d : Nat → Int32) {z : Nat} (hz : z < 24) : oh_SW xt0 d z 0 xt0 z 0 :=
  ⟨by omega, fun _ _ _ => rfl, Or.inl ⟨rfl, rfl, fun q hq => by omega⟩⟩
theorem oh_SW_lt {xt0 d : Nat → Int32} {z v : Nat} {xt : Nat → Int32} {ws : Nat} {fr : Int32} (h : oh_SW xt0 d z v xt ws fr) : ws < 24 := by
  have := h.1
  omega
theorem oh_SW_n {xt0 d : Nat → Int32} {z v : Nat} {xt : Nat → Int32} {ws ws' : Nat} {fr : Int32} (h : oh_SW xt0 d z v xt ws fr) (hn : xt ws = 0 ∨ d ws ≠ -1) (hw : ws' = if ws + 1 < 24 then ws + 1 else 0) : oh_SW xt0 d z (v + 1) xt ws' fr := by
  obtain ⟨h1, h2, h3⟩ := h
  refine ⟨?_, h2, ?_⟩
  · rw [hw]
    split <;> omega
  · rcases h3 with ⟨e1, e2, e3⟩ | h3
    · refine Or.inl ⟨e1, e2, fun q hq => ?_⟩
      by_cases hq2 : q < v
      · exact e3 q hq2
      · have e4 : q = v := by omega
        rw [e4, ← h1, ← e2]
        exact hn
    · exact Or.inr h3
theorem oh_SW_s {xt0 d : Nat → Int32} {z v : Nat} {xt : Nat → Int32} {ws ws' : Nat} {fr : Int32} (h : oh_SW xt0 d z v xt ws fr) (hd : d ws = -1) (hw : ws' = if ws + 1 < 24 then ws + 1 else 0) : oh_SW xt0 d z (v + 1) (upd xt ws 0) ws' 1 := by
  have hlt := oh_SW_lt h
  obtain ⟨h1, h2, h3⟩ := h
  refine ⟨?_, fun j hj hdj => ?_, Or.inr ⟨rfl, ws, hlt, pk_us⟩⟩
  · rw [hw]
    split <;> omega
  · have hne : j ≠ ws := by
      intro e
      rw [e] at hdj
      exact hdj hd
    rw [pk_un hne]
    exact h2 j hj hdj
/-- the windows' loop: v slots looked at after i windows -/
def oh_CW (xt0 d : Nat → Int32) (i : Nat) (xt : Nat → Int32) (ws : Nat) (fr : Int32) : Prop :=
  ∃ z v, z < 24 ∧ i ≤ v ∧ oh_SW xt0 d z v xt ws fr
theorem oh_CW_s {xt0 d : Nat → Int32} {i k : Nat} {xt xt' : Nat → Int32} {ws ws' : Nat} {fr : Int32} (h : oh_CW xt0 d i xt ws 0) (hk : 1 ≤ k) (h2 : oh_SW xt d ws k xt' ws' fr) : oh_CW xt0 d (i + 1) xt' ws' fr := by
  obtain ⟨z, v, hz, hv, h1, h3, h4⟩ := h
  obtain ⟨g1, g2, g3⟩ := h2
  have e2 : xt = xt0 ∧ ∀ q, q < v → xt0 ((z + q) % 24) = 0 ∨ d ((z + q) % 24) ≠ -1 := by
    rcases h4 with ⟨_, h4⟩ | ⟨h4, _⟩
    · exact h4
    · exact absurd h4 (by decide)
  obtain ⟨e2, e3⟩ := e2
  refine ⟨z, v + k, hz, by omega, by omega, fun j hj hd => (g2 j hj hd).trans (by rw [e2]), ?_⟩
  rcases g3 with ⟨f1, f2, f3⟩ | g3
  · refine Or.inl ⟨f1, f2.trans e2, fun q hq => ?_⟩
    by_cases hq2 : q < v
    · exact e3 q hq2
    · have := f3 (q - v) (by omega)
      have e5 : (ws + (q - v)) % 24 = (z + q) % 24 := by omega
      rw [e5, e2] at this
      exact this
  · exact Or.inr g3
/-- what a cleaning leaves -/
def oh_CL (xt0 d xt : Nat → Int32) : Prop :=
  (∀ j, j < 24 → d j ≠ -1 → xt j = xt0 j) ∧ ((∃ j, j < 24 ∧ xt j = 0) ∨ ∀ j, j < 24 → xt0 j = 0 ∨ d j ≠ -1)
theorem oh_CW_24 {xt0 d : Nat → Int32} {i : Nat} {xt : Nat → Int32} {ws : Nat} {fr : Int32} (h : oh_CW xt0 d i xt ws fr) (hi : 24 ≤ i ∨ fr ≠ 0) : oh_CL xt0 d xt := by
  obtain ⟨z, v, hz, hv, h1, h3, h4⟩ := h
  refine ⟨h3, ?_⟩
  rcases h4 with ⟨f1, f2, f3⟩ | ⟨_, h4⟩
  · rcases hi with hi | hi
    · refine Or.inr (fun j hj => ?_)
      have := f3 ((j + 24 - z) % 24) (by omega)
      have e : (z + (j + 24 - z) % 24) % 24 = j := by omega
      rw [e] at this
      exact this
    · exact absurd f1 hi
  · exact Or.inl h4
end
end
section
section
variable {wz ws sc : Int32} {xr xt xp xf sn ds : Nat → Int32}
theorem ox_b0 : vp_nar .boolean 0 = 0 := by first | rfl | decide
theorem ox_b1 : vp_nar .boolean 1 = 1 := by first | rfl | decide
theorem oh_cls (r : Int32) : (r < 0 ∨ 8 ≤ r) ∨ ∃ j : Nat, j < 8 ∧ r = nI j := by
  rcases oh_root r 8 (by omega) with h | ⟨_, h, _⟩ | h
  · exact Or.inl (Or.inl h)
  · rw [oh_8] at h
    exact Or.inl (Or.inr h)
  · exact Or.inr h
theorem ox_isRoot_t {post : Int32 → Prop} {j : Nat} (hj : j < 8) (h : post 1) : wpX_isRoot post (nI j) :=
  br_f (nI_pos (by omega)) (pk_le 8 j (fun h' => absurd h' (by omega)) (fun _ => h))
theorem ox_isRoot_f {post : Int32 → Prop} {r : Int32} (hr : r < 0 ∨ 8 ≤ r) (h : post 0) : wpX_isRoot post r := by
  rcases hr with hr | hr
  · exact br_t hr h
  · exact br_c (fun _ => h) (fun _ => br_t hr h)
/-! freeSlot -/
theorem ox_free2 {post : Int32 → Prop} (hy : ∀ s, s < 24 → xt s = 0 → post (nI s)) (hn : (∀ j, j < 24 → xt j ≠ 0) → post (-1)) : ∀ m i, i + m = 24 → (∀ j, j < i → xt j ≠ 0) → wX_freeSlot_2 post wz ws sc xr xt xp xf sn ds (m + 1) (nI i) := by
  intro m
  induction m with
  | zero =>
    intro i hi hall
    exact pk_le 24 i (fun h => hn (fun j hj => hall j (by omega))) (fun h => absurd h (by omega))
  | succ m ih =>
    intro i hi hall
    refine pk_le 24 i (fun h => hn (fun j hj => hall j (by omega))) (fun h => ⟨pk_in i 24 h, ?_⟩)
    rw [nI_clamp (show i < 2 ^ 31 by omega)]
    refine ⟨fun e => hy i h e, fun e => nm_r (nI_1 i) (ih (i + 1) (by omega) (fun j hj => ?_))⟩
    by_cases ej : j = i
    · rw [ej]
      exact e
    · exact hall j (by omega)
theorem ox_free {post : Int32 → Prop} (hy : ∀ s, s < 24 → xt s = 0 → post (nI s)) (hn : (∀ j, j < 24 → xt j ≠ 0) → post (-1)) : wpX_freeSlot post (wz, ws, sc, xr, xt, xp, xf, sn, ds) :=
  ⟨25, ox_free2 hy hn 24 0 (by omega) (fun j hj => by omega)⟩
/-! forgetWalk -/
theorem ox_forget7 {post : SX → Prop} (h : ∀ d', (∀ j, j < 24 → d' j = -1) → post (wz, ws, sc, xr, xt, xp, xf, sn, d')) : ∀ m i ds, i + m = 24 → (∀ j, j < i → ds j = -1) → wX_forgetWalk_7 post wz ws sc (m + 1) (nI i) xr xt xp xf sn ds := by
  intro m
  induction m with
  | zero =>
    intro i ds hi hall
    exact pk_le 24 i (fun _ => h ds (fun j hj => hall j (by omega))) (fun h => absurd h (by omega))
  | succ m ih =>
    intro i ds hi hall
    refine pk_le 24 i (fun _ => h ds (fun j hj => hall j (by omega))) (fun hlt => ⟨pk_in i 24 hlt, ?_⟩)
    intro a ea x ex
    rw [ea, ex, nI_1, nI_clamp (show i < 2 ^ 31 by omega)]
    refine ih (i + 1) _ (by omega) (fun j hj => ?_)
    by_cases ej : j = i
    · rw [ej, pk_us]
    · rw [pk_un ej]
      exact hall j (by omega)
theorem ox_forget {post : SX → Prop} (h : ∀ d', (∀ j, j < 24 → d' j = -1) → post (wz, ws, 0, xr, xt, xp, xf, sn, d')) : wpX_forgetWalk post (wz, ws, sc, xr, xt, xp, xf, sn, ds) :=
  ⟨25, ox_forget7 h 24 0 ds (by omega) (fun j hj => by omega)⟩
/-! see -/
theorem ox_see {post : SX → Prop} {c n : Nat} {x : Int32} {Q : Nat → (Nat → Int32) → (Nat → Int32) → Prop} (hS : oh_See c sn ds x n Q) (hc : c ≤ 24) (hp : ∀ c' s' d', Q c' s' d' → post (wz, ws, nI c', xr, xt, xp, xf, s', d')) : wpX_see post (wz, ws, nI c, xr, xt, xp, xf, sn, ds) x (nI n) := by
  unfold wpX_see
  dsimp only
  rcases hS with ⟨hx, hQ⟩ | ⟨t, ht, hx, hd, hQ⟩ | ⟨t, ht, hx, hd, hc2, hQ⟩
  · exact br_t hx (hp _ _ _ hQ)
  · rw [hx]
    refine br_f (oh_m1 (by omega)) ⟨pk_in t 24 ht, ?_⟩
    rw [nI_clamp (show t < 2 ^ 31 by omega)]
    exact br_f hd (hp _ _ _ hQ)
  · rw [hx]
    refine br_f (oh_m1 (by omega)) ⟨pk_in t 24 ht, ?_⟩
    rw [nI_clamp (show t < 2 ^ 31 by omega), nI_clamp (show c < 2 ^ 31 by omega)]
    refine br_t hd (pk_lt c 24 (fun _ => ⟨pk_in t 24 ht, ?_⟩) (fun h => absurd h (by omega)))
    intro a6 e6
    refine ⟨pk_in c 24 hc2, ?_⟩
    intro a8 e8 f9 e9
    rw [e6, e8, e9, nI_1]
    exact hp _ _ _ hQ
/-! followReferences -/
theorem ox_fol35 {post : SX → Prop} {J : Int32 → Int32 → Int32 → Int32 → (Nat → Int32) → (Nat → Int32) → (Nat → Int32) → (Nat → Int32) → (Nat → Int32) → (Nat → Int32) → Prop} {src : Nat → Prop} {i ob nx : Nat} (hob : ob < 24) (hv : ∀ k, k < 72 → oh_val (xf k)) (hJ : ∀ c s d, oh_II src xf i ob nx 3 c s d → J (nI (i + 1)) wz ws (nI c) xr xt xp xf s d) : ∀ q t c sn ds, t + q = 3 → oh_II src xf i ob nx t c sn ds → wX_followReferences_35 post J (nI i) (nI ob) (nI nx) (q + 1) (nI t) wz ws (nI c) xr xt xp xf sn ds := by
  intro q
  induction q with
  | zero =>
    intro t c sn ds ht hI
    have e : t = 3 := by omega
    rw [e] at hI
    rw [e]
    exact pk_le 3 3 (fun _ => nm_r (nI_1 i) (hJ _ _ _ hI)) (fun h => absurd h (by omega))
  | succ q ih =>
    intro t c sn ds ht hI
    have hc := oh_II_c hI
    refine pk_le 3 t (fun h => absurd h (by omega)) (fun h => ⟨?_, ?_⟩)
    · rw [oh_ix]
      exact pk_in (ob * 3 + t) 72 (by omega)
    · rw [oh_ix, nI_clamp (show ob * 3 + t < 2 ^ 31 by omega)]
      refine ox_see (oh_II_s hI h (hv _ (by omega))) hc.2 (fun c' s' d' hQ => ?_)
      exact nm_r (nI_1 t) (ih (t + 1) c' s' d' (by omega) hQ)
theorem ox_fol2 {post : SX → Prop} {src : Nat → Prop} (hv : ∀ k, k < 72 → oh_val (xf k)) (hp : ∀ c s d, oh_Xd (oh_P src xf) c s d → post (wz, ws, nI c, xr, xt, xp, xf, s, d)) : ∀ m i c sn ds, i + m = 24 → oh_OI src xf i c sn ds → wX_followReferences_2 post (m + 1) (nI i) wz ws (nI c) xr xt xp xf sn ds := by
  intro m
  induction m with
  | zero =>
    intro i c sn ds hi hO
    have hc := oh_OI_c hO
    have e : i = c := by omega
    rw [e] at hO
    exact pk_le 24 i (fun _ => hp _ _ _ (oh_OI_Xd hO)) (fun h => absurd h (by omega))
  | succ m ih =>
    intro i c sn ds hi hO
    have hc := oh_OI_c hO
    refine pk_le 24 i (fun h => absurd h (by omega)) (fun h => pk_le c i (fun h2 => ?_) (fun h2 => ⟨pk_in i 24 h, ?_⟩))
    · have e : i = c := by omega
      rw [e] at hO
      exact hp _ _ _ (oh_OI_Xd hO)
    · obtain ⟨ob, nx, hob, es, ed, hII⟩ := oh_OI_II hO h2
      rw [nI_clamp (show i < 2 ^ 31 by omega)]
      intro x2 e2
      rw [es] at e2
      rw [e2]
      refine ⟨pk_in ob 24 hob, ?_⟩
      rw [nI_clamp (show ob < 2 ^ 31 by omega)]
      intro x3 e3
      rw [ed] at e3
      rw [e3]
      exact ⟨4, ox_fol35 hob hv (fun c' s' d' hq => ih (i + 1) c' s' d' (by omega) (oh_II_OI hq)) 3 0 c sn ds (by omega) hII⟩
theorem ox_follow {post : SX → Prop} {src : Nat → Prop} {c : Nat} (hv : ∀ k, k < 72 → oh_val (xf k)) (hO : oh_OI src xf 0 c sn ds) (hp : ∀ c s d, oh_Xd (oh_P src xf) c s d → post (wz, ws, nI c, xr, xt, xp, xf, s, d)) : wpX_followReferences post (wz, ws, nI c, xr, xt, xp, xf, sn, ds) :=
  ⟨25, ox_fol2 hv hp 24 0 c sn ds (by omega) hO⟩
/-! the two walks -/
theorem oh_RI_c {P : Nat → Nat → Prop} {r c : Nat} {s d : Nat → Int32} (h : oh_RI P xr r c s d) : c ≤ 24 := by
  obtain ⟨sg, dl, hC, _⟩ := h
  exact oh_C_24 hC
theorem ox_all6 {post : SX → Prop} (hr : ∀ r, r < 8 → oh_val (xr r)) (hv : ∀ k, k < 72 → oh_val (xf k)) (hp : ∀ c s d, oh_Xd (oh_P (oh_src xr 8) xf) c s d → post (wz, ws, nI c, xr, xt, xp, xf, s, d)) : ∀ m r c sn ds, r + m = 8 → oh_RI (oh_P (oh_src xr 8) xf) xr r c sn ds → wX_walkFromAllRoots_6 post (m + 1) (nI r) wz ws (nI c) xr xt xp xf sn ds := by
  intro m
  induction m with
  | zero =>
    intro r c sn ds hi hR
    have e : r = 8 := by omega
    rw [e] at hR
    refine pk_le 8 r (fun _ => ?_) (fun h => absurd h (by omega))
    exact ox_follow hv (oh_RI_OI hR) (fun c' s' d' hX => hp c' s' d' hX)
  | succ m ih =>
    intro r c sn ds hi hR
    refine pk_le 8 r (fun h => absurd h (by omega)) (fun h => ⟨pk_in r 8 h, ?_⟩)
    rw [nI_clamp (show r < 2 ^ 31 by omega)]
    refine ox_see (n := 0) (oh_RI_s hR h (hr r h)) (oh_RI_c hR) (fun c' s' d' hQ => ?_)
    exact nm_r (nI_1 r) (ih (r + 1) c' s' d' (by omega) hQ)
theorem ox_all {post : SX → Prop} (hr : ∀ r, r < 8 → oh_val (xr r)) (hv : ∀ k, k < 72 → oh_val (xf k)) (hp : ∀ c s d, oh_Xd (oh_P (oh_src xr 8) xf) c s d → post (wz, ws, nI c, xr, xt, xp, xf, s, d)) : wpX_walkFromAllRoots post (wz, ws, sc, xr, xt, xp, xf, sn, ds) := by
  unfold wpX_walkFromAllRoots
  dsimp only
  refine ox_forget (fun d' hd => ?_)
  exact ⟨9, ox_all6 hr hv hp 8 0 0 sn d' (by omega) (oh_RI_0 _ _ _ _ hd)⟩
theorem ox_one {post : SX → Prop} {x : Int32} (hx : oh_val x) (hv : ∀ k, k < 72 → oh_val (xf k)) (hp : ∀ c s d, oh_Xd (oh_P (oh_src (fun _ => x) 1) xf) c s d → post (wz, ws, nI c, xr, xt, xp, xf, s, d)) : wpX_walkFrom post (wz, ws, sc, xr, xt, xp, xf, sn, ds) x := by
  unfold wpX_walkFrom
  dsimp only
  refine ox_forget (fun d' hd => ?_)
  refine ox_see (c := 0) (n := 0) (oh_RI_s (xr := fun _ => x) (f := xf) (R := 1) (oh_RI_0 _ _ sn d' hd) (by omega) hx) (by omega) (fun c' s' d'' hQ => ?_)
  exact ox_follow hv (oh_RI_OI hQ) (fun c' s' d' hX => hp c' s' d' hX)
end
end
section
section
variable {wz ws sc : Int32} {xr xt xp xf sn ds : Nat → Int32}
/-! sweepWindow -/
theorem ox_sw49 {post : Int32 → SX → Prop} {J : Int32 → Int32 → Int32 → (Nat → Int32) → (Nat → Int32) → (Nat → Int32) → (Nat → Int32) → (Nat → Int32) → (Nat → Int32) → Prop} {fr : Int32} {i w : Nat} (hw : w < 24) (hJ : ∀ w', w' = (if w + 1 < 24 then w + 1 else 0) → J fr (nI (i + 1)) (nI w') xr xt xp xf sn ds) : wX_sweepWindow_49 post J fr (nI i) wz (nI w) sc xr xt xp xf sn ds := by
  unfold wX_sweepWindow_49
  rw [nI_1 w, nI_1 i]
  refine pk_le 24 (w + 1) (fun h => nm_e ?_) (fun h => nm_e (nm_e ?_))
  · exact hJ 0 (by rw [if_neg (by omega)])
  · exact hJ (w + 1) (by rw [if_pos (by omega)])
theorem oh_SW_fr {xt0 d : Nat → Int32} {z v : Nat} {xt : Nat → Int32} {w : Nat} {fr : Int32} (h : oh_SW xt0 d z v xt w fr) : narrow .boolean (.int fr) = .int fr := by
  rcases h.2.2 with ⟨e, _⟩ | ⟨e, _⟩
  · rw [e]; rfl
  · rw [e]; rfl
theorem ox_sw4 {post : Int32 → SX → Prop} {k z : Nat} (hk : k ≤ 8) (hp : ∀ fr xt' w', oh_SW xt ds z k xt' w' fr → post fr (nI k, nI w', sc, xr, xt', xp, xf, sn, ds)) : ∀ m i xt' w' fr, i + m = k → oh_SW xt ds z i xt' w' fr → wX_sweepWindow_4 post (nI k) sc (m + 1) fr (nI i) (nI w') xr xt' xp xf sn ds := by
  intro m
  induction m with
  | zero =>
    intro i xt' w' fr hi hS
    have e : i = k := by omega
    rw [e] at hS
    exact pk_le k i (fun _ => ⟨oh_SW_fr hS, hp _ _ _ hS⟩) (fun h => absurd h (by omega))
  | succ m ih =>
    intro i xt' w' fr hi hS
    have hw := oh_SW_lt hS
    refine pk_le k i (fun h => absurd h (by omega)) (fun h => ⟨pk_in w' 24 hw, ?_⟩)
    rw [nI_clamp (show w' < 2 ^ 31 by omega)]
    refine br_c (fun h0 => ?_) (fun h0 => ⟨pk_in w' 24 hw, br_c (fun h1 => ⟨pk_in w' 24 hw, ?_⟩) (fun h1 => ?_)⟩)
    · exact ox_sw49 hw (fun w2 e2 => ih (i + 1) xt' w2 fr (by omega) (oh_SW_n hS (Or.inl h0) e2))
    · intro a ea
      rw [ox_b0] at ea
      rw [ea]
      exact ox_sw49 hw (fun w2 e2 => ih (i + 1) _ w2 1 (by omega) (oh_SW_s hS h1 e2))
    · exact ox_sw49 hw (fun w2 e2 => ih (i + 1) xt' w2 fr (by omega) (oh_SW_n hS (Or.inr h1) e2))
theorem ox_sweep {post : Int32 → SX → Prop} {k z : Nat} (hk : k ≤ 8) (hz : z < 24) (hp : ∀ fr xt' w', oh_SW xt ds z k xt' w' fr → post fr (nI k, nI w', sc, xr, xt', xp, xf, sn, ds)) : wpX_sweepWindow post (nI k, nI z, sc, xr, xt, xp, xf, sn, ds) :=
  ⟨k + 1, ox_sw4 hk hp k 0 xt z 0 (by omega) (oh_SW_0 xt ds hz)⟩
/-! clean -/
theorem oh_CW_lt {xt0 d : Nat → Int32} {i : Nat} {xt : Nat → Int32} {w : Nat} {fr : Int32} (h : oh_CW xt0 d i xt w fr) : w < 24 := by
  obtain ⟨z, v, _, _, h⟩ := h
  exact oh_SW_lt h
theorem ox_cl8 {post : SX → Prop} {k : Nat} (hk : k ≤ 8) (hk1 : 1 ≤ k) (hp : ∀ xt' w', w' < 24 → oh_CL xt ds xt' → post (nI k, nI w', sc, xr, xt', xp, xf, sn, ds)) : ∀ m i xt' w' fr, i + m = 24 → oh_CW xt ds i xt' w' fr → wX_clean_8 post (m + 1) fr (nI i) (nI k) (nI w') sc xr xt' xp xf sn ds := by
  intro m
  induction m with
  | zero =>
    intro i xt' w' fr hi hC
    exact pk_le 24 i (fun h => hp _ _ (oh_CW_lt hC) (oh_CW_24 hC (Or.inl h))) (fun h => absurd h (by omega))
  | succ m ih =>
    intro i xt' w' fr hi hC
    refine pk_le 24 i (fun h => absurd h (by omega)) (fun h => br_c (fun h0 => ?_) (fun h0 => ?_))
    · rw [h0] at hC
      refine ox_sweep hk (oh_CW_lt hC) (fun fr' xt2 w2 hS => ?_)
      exact nm_r (nI_1 i) (ih (i + 1) xt2 w2 fr' (by omega) (oh_CW_s hC hk1 hS))
    · exact hp _ _ (oh_CW_lt hC) (oh_CW_24 hC (Or.inr h0))
theorem ox_clean {post : SX → Prop} (hW : oh_W ws wz) (hr : ∀ r, r < 8 → oh_val (xr r)) (hv : ∀ k, k < 72 → oh_val (xf k)) (hp : ∀ ws' c xt' s d, oh_W ws' wz → oh_Xd (oh_P (oh_src xr 8) xf) c s d → oh_CL xt d xt' → post (wz, ws', nI c, xr, xt', xp, xf, s, d)) : wpX_clean post (wz, ws, sc, xr, xt, xp, xf, sn, ds) := by
  unfold wpX_clean
  dsimp only
  refine ox_all hr hv (fun c s d hX => ?_)
  obtain ⟨⟨z, hz, ez⟩, k, hk1, hk8, ek⟩ := hW
  rw [ez, ek]
  rw [ek] at hp
  exact ⟨25, ox_cl8 hk8 hk1 (fun xt' w' hw hL => hp (nI w') c xt' s d ⟨⟨w', hw, rfl⟩, k, hk1, hk8, rfl⟩ hX hL) 24 0 xt z 0 (by omega) ⟨z, 0, hz, by omega, oh_SW_0 xt d hz⟩⟩
/-! fillSlot -/
theorem ox_fi16 {post : SX → Prop} {s : Nat} (hs : s < 24) (hp : ∀ xf', (∀ k, k < 72 → xf' k = if k / 3 = s then -1 else xf k) → post (wz, ws, sc, xr, xt, xp, xf', sn, ds)) : ∀ m t xf', t + m = 3 → (∀ k, k < 72 → xf' k = if k / 3 = s ∧ k % 3 < t then -1 else xf k) → wX_fillSlot_16 post (nI s) wz ws sc (m + 1) (nI t) xr xt xp xf' sn ds := by
  intro m
  induction m with
  | zero =>
    intro t xf' ht hf
    refine pk_le 3 t (fun _ => hp xf' (fun k hk => ?_)) (fun h => absurd h (by omega))
    rw [hf k hk]
    by_cases e : k / 3 = s
    · rw [if_pos e, if_pos ⟨e, by omega⟩]
    · rw [if_neg e, if_neg (fun z => e z.1)]
  | succ m ih =>
    intro t xf' ht hf
    refine pk_le 3 t (fun h => absurd h (by omega)) (fun h => ⟨?_, ?_⟩)
    · rw [oh_ix]
      exact pk_in (s * 3 + t) 72 (by omega)
    · rw [oh_ix, nI_clamp (show s * 3 + t < 2 ^ 31 by omega)]
      intro a ea x ex
      rw [ea, ex, nI_1]
      refine ih (t + 1) _ (by omega) (fun k hk => ?_)
      by_cases ek : k = s * 3 + t
      · rw [ek, pk_us, if_pos ⟨by omega, by omega⟩]
      · rw [pk_un ek, hf k hk]
        by_cases e : k / 3 = s ∧ k % 3 < t
        · rw [if_pos e, if_pos ⟨e.1, by omega⟩]
        · rw [if_neg e, if_neg (fun z => e ⟨z.1, by omega⟩)]
theorem ox_fill {post : SX → Prop} {s : Nat} {v : Int32} (hs : s < 24) (hp : ∀ xf', (∀ k, k < 72 → xf' k = if k / 3 = s then -1 else xf k) → post (wz, ws, sc, xr, upd xt s 1, upd xp s v, xf', sn, ds)) : wpX_fillSlot post (wz, ws, sc, xr, xt, xp, xf, sn, ds) (nI s) v := by
  unfold wpX_fillSlot
  dsimp only
  rw [nI_clamp (show s < 2 ^ 31 by omega), ox_b1]
  refine ⟨pk_in s 24 hs, ?_⟩
  intro a ea
  refine ⟨pk_in s 24 hs, ?_⟩
  intro b eb
  rw [ea, eb]
  refine ⟨4, ox_fi16 hs hp 3 0 xf (by omega) (fun k hk => ?_)⟩
  rw [if_neg (fun z => absurd z.2 (by omega))]
/-! the sum's loop -/
theorem ox_sum8 {post : Int32 → SX → Prop} {c : Nat} (hc : c ≤ 24) (hs : ∀ i, i < c → ∃ j, j < 24 ∧ sn i = nI j) (hp : post (oh_S (fun _ => true) (fun i => xp (sn i).toNatClampNeg) c) (wz, ws, nI c, xr, xt, xp, xf, sn, ds)) : ∀ m i, i + m = c → wX_sum_8 post wz ws (nI c) xr xt xp xf sn ds (m + 1) (oh_S (fun _ => true) (fun i => xp (sn i).toNatClampNeg) i) (nI i) := by
  intro m
  induction m with
  | zero =>
    intro i hi
    have e : i = c := by omega
    rw [e]
    exact pk_le c c (fun _ => hp) (fun h => absurd h (by omega))
  | succ m ih =>
    intro i hi
    obtain ⟨j, hj, ej⟩ := hs i (by omega)
    refine pk_le c i (fun h => absurd h (by omega)) (fun h => ⟨pk_in i 24 (by omega), ?_⟩)
    have h2 := ih (i + 1) (by omega)
    rw [oh_S_t rfl] at h2
    rw [nI_clamp (show i < 2 ^ 31 by omega)]
    refine ⟨by rw [ej]; exact pk_in j 24 hj, nm_e (nm_r (nI_1 i) h2)⟩
end
end
section
section
variable {yr yf yp aw : Nat → Int32}
theorem oy_isRoot_t {post : Int32 → Prop} {j : Nat} (hj : j < 8) (h : post 1) : wpY_isRoot post (yr, yf, yp, aw) (nI j) :=
  br_f (nI_pos (by omega)) (pk_le 8 j (fun h' => absurd h' (by omega)) (fun _ => h))
theorem oy_isRoot_f {post : Int32 → Prop} {r : Int32} (hr : r < 0 ∨ 8 ≤ r) (h : post 0) : wpY_isRoot post (yr, yf, yp, aw) r := by
  unfold wpY_isRoot
  dsimp only
  rcases hr with hr | hr
  · exact br_t hr h
  · exact br_c (fun _ => h) (fun _ => br_t hr h)
/-! spread -/
theorem oy_77 {post : SY → Prop} {J : Int32 → (Nat → Int32) → (Nat → Int32) → (Nat → Int32) → (Nat → Int32) → Prop} {src : Nat → Prop} {T : Nat} (hT : T < 24) (hv : ∀ k, k < 72 → oh_val (yf k)) (hJ : ∀ w, oh_YI (oh_P src yf) yf T 72 w → J (nI (T + 1)) yr yf yp w) : ∀ m i w, i + m = 72 → oh_YI (oh_P src yf) yf T i w → wY_spread_77 post J (nI T) (m + 1) (nI i) yr yf yp w := by
  intro m
  induction m with
  | zero =>
    intro i w hi hI
    have e : i = 72 := by omega
    rw [e] at hI
    exact pk_le 72 i (fun _ => nm_r (nI_1 T) (hJ w hI)) (fun h => absurd h (by omega))
  | succ m ih =>
    intro i w hi hI
    refine pk_le 72 i (fun h => absurd h (by omega)) (fun h => ⟨by decide, ?_⟩)
    obtain ⟨vo, hvo, eo, h1, h2, h3⟩ := oh_YI_s hI h hT
    have e3 : nI i / 3 = nI (i / 3) := pk_div (d := 3) (by omega) (by omega) (by omega)
    intro x4 e4
    rw [e3] at e4
    rw [e4, nI_clamp (show i < 2 ^ 31 by omega), nI_clamp (show i / 3 < 2 ^ 31 by omega)]
    refine ⟨pk_in i 72 h, ?_⟩
    intro x5 e5
    refine ⟨pk_in (i / 3) 24 (by omega), ?_⟩
    rw [eo]
    refine pk_le 1000 vo (fun g => nm_r (nI_1 i) (ih (i + 1) w (by omega) (h1 (by omega)))) (fun g => ?_)
    rcases hv i h with hf | ⟨t, ht, hf⟩
    · rw [hf] at e5
      rw [e5]
      exact br_t oh_neg1 (nm_r (nI_1 i) (ih (i + 1) w (by omega) (h2 hf)))
    · obtain ⟨vj, hvj, ej, g1, g2⟩ := h3 t ht hf
      rw [hf] at e5
      rw [e5]
      refine br_f (nI_pos (by omega)) ⟨pk_in (i / 3) 24 (by omega), pk_in t 24 ht, ?_⟩
      rw [nI_clamp (show t < 2 ^ 31 by omega), ej, nI_1 vo]
      refine pk_le vj (vo + 1) (fun g3 => nm_r (nI_1 i) (ih (i + 1) w (by omega) (g1 g3))) (fun g3 => ⟨pk_in (i / 3) 24 (by omega), pk_in t 24 ht, ?_⟩)
      intro a ea
      rw [ea]
      exact nm_r (nI_1 i) (ih (i + 1) _ (by omega) (g2 g g3))
theorem oy_69 {post : SY → Prop} {src : Nat → Prop} (hv : ∀ k, k < 72 → oh_val (yf k)) (hp : ∀ w, oh_Yd (oh_P src yf) w → post (yr, yf, yp, w)) : ∀ m T w, T + m = 24 → oh_YI (oh_P src yf) yf T 0 w → wY_spread_69 post (m + 1) (nI T) yr yf yp w := by
  intro m
  induction m with
  | zero =>
    intro T w hT hI
    have e : T = 24 := by omega
    rw [e] at hI
    exact pk_le 24 T (fun _ => hp w (oh_YI_Yd hI)) (fun h => absurd h (by omega))
  | succ m ih =>
    intro T w hT hI
    refine pk_le 24 T (fun h => absurd h (by omega)) (fun h => ?_)
    exact ⟨73, oy_77 h hv (fun w' hw => ih (T + 1) w' (by omega) (oh_YI_n hw)) 72 0 w (by omega) hI⟩
theorem oy_40 {post : SY → Prop} {J : Int32 → (Nat → Int32) → (Nat → Int32) → (Nat → Int32) → (Nat → Int32) → Prop} {a : Int32} {r : Nat} {w : Nat → Int32} (hr : r < 8) (hv : oh_val (yr r)) (hs : a < 0 ∨ a = nI r) (hR : oh_YR yr a r w) (hJ : ∀ w', oh_YR yr a (r + 1) w' → J (nI (r + 1)) yr yf yp w') : wY_spread_40 post J a (nI r) yr yf yp w := by
  unfold wY_spread_40
  rw [nI_clamp (show r < 2 ^ 31 by omega)]
  refine ⟨pk_in r 8 hr, ?_⟩
  rcases hv with e | ⟨t, ht, e⟩
  · rw [e]
    exact br_t oh_neg1 (nm_r (nI_1 r) (hJ w (oh_YR_n hR (Or.inr e))))
  · rw [e]
    refine br_f (nI_pos (by omega)) ⟨pk_in r 8 hr, pk_in t 24 ht, ?_⟩
    rw [nI_clamp (show t < 2 ^ 31 by omega)]
    intro b eb
    rw [eb]
    exact nm_r (nI_1 r) (hJ _ (oh_YR_s hR hr ht hs e))
theorem oy_25 {post : SY → Prop} {a : Int32} (hyr : ∀ r, r < 8 → oh_val (yr r)) (hv : ∀ k, k < 72 → oh_val (yf k)) (hp : ∀ w, oh_Yd (oh_P (oh_ysrc yr a) yf) w → post (yr, yf, yp, w)) : ∀ m r w, r + m = 8 → oh_YR yr a r w → wY_spread_25 post a (m + 1) (nI r) yr yf yp w := by
  intro m
  induction m with
  | zero =>
    intro r w hr hR
    have e : r = 8 := by omega
    rw [e] at hR
    exact pk_le 8 r (fun _ => ⟨25, oy_69 hv hp 24 0 w (by omega) (oh_YR_YI hR)⟩) (fun h => absurd h (by omega))
  | succ m ih =>
    intro r w hr hR
    refine pk_le 8 r (fun h => absurd h (by omega)) (fun h => br_c (fun h0 => ?_) (fun h0 => br_c (fun h1 => ?_) (fun h1 => ?_)))
    · exact oy_40 h (hyr r h) (Or.inl h0) hR (fun w' hw => ih (r + 1) w' (by omega) hw)
    · exact oy_40 h (hyr r h) (Or.inr h1) hR (fun w' hw => ih (r + 1) w' (by omega) hw)
    · refine nm_r (nI_1 r) (ih (r + 1) w (by omega) (oh_YR_n hR (Or.inl ?_)))
      rintro (z | z)
      · exact h0 z
      · exact h1 z
theorem oy_2 {post : SY → Prop} {a : Int32} (hyr : ∀ r, r < 8 → oh_val (yr r)) (hv : ∀ k, k < 72 → oh_val (yf k)) (hp : ∀ w, oh_Yd (oh_P (oh_ysrc yr a) yf) w → post (yr, yf, yp, w)) : ∀ m i w, i + m = 24 → (∀ j, j < i → w j = 1000) → wY_spread_2 post a (m + 1) (nI i) yr yf yp w := by
  intro m
  induction m with
  | zero =>
    intro i w hi hall
    exact pk_le 24 i (fun _ => ⟨9, oy_25 hyr hv hp 8 0 w (by omega) (oh_YR_0 yr a w (fun j hj => hall j (by omega)))⟩) (fun h => absurd h (by omega))
  | succ m ih =>
    intro i w hi hall
    refine pk_le 24 i (fun h => absurd h (by omega)) (fun h => ⟨pk_in i 24 h, ?_⟩)
    intro b eb x ex
    rw [eb, ex, nI_1, nI_clamp (show i < 2 ^ 31 by omega)]
    refine ih (i + 1) _ (by omega) (fun j hj => ?_)
    by_cases ej : j = i
    · rw [ej, pk_us]
    · rw [pk_un ej]
      exact hall j (by omega)
theorem oy_spread {post : SY → Prop} {a : Int32} (hyr : ∀ r, r < 8 → oh_val (yr r)) (hv : ∀ k, k < 72 → oh_val (yf k)) (hp : ∀ w, oh_Yd (oh_P (oh_ysrc yr a) yf) w → post (yr, yf, yp, w)) : wpY_spread post (yr, yf, yp, aw) a :=
  ⟨25, oy_2 hyr hv hp 24 0 aw (by omega) (fun j hj => by omega)⟩
/-! found, reachable, the sum's loop -/
theorem oy_fo4 {post : Int32 → Prop} (hp : post (oh_S (fun b => decide (aw b < 1000)) (fun _ => 1) 24)) : ∀ m i, i + m = 24 → wY_found_4 post yr yf yp aw (m + 1) (oh_S (fun b => decide (aw b < 1000)) (fun _ => 1) i) (nI i) := by
  intro m
  induction m with
  | zero =>
    intro i hi
    have e : i = 24 := by omega
    rw [e]
    exact pk_le 24 24 (fun _ => hp) (fun h => absurd h (by omega))
  | succ m ih =>
    intro i hi
    refine pk_le 24 i (fun h => absurd h (by omega)) (fun h => ⟨pk_in i 24 (by omega), ?_⟩)
    have h2 := ih (i + 1) (by omega)
    rw [nI_clamp (show i < 2 ^ 31 by omega)]
    refine br_c (fun h0 => ?_) (fun h0 => ?_)
    · rw [oh_S_f (p := fun b => decide (aw b < 1000)) (decide_eq_false (fun z => Int32.not_le.mpr z h0))] at h2
      exact nm_r (nI_1 i) h2
    · rw [oh_S_t (p := fun b => decide (aw b < 1000)) (decide_eq_true (Int32.not_le.mp h0))] at h2
      exact nm_e (nm_r (nI_1 i) h2)
theorem oy_found {post : Int32 → Prop} (hp : post (oh_S (fun b => decide (aw b < 1000)) (fun _ => 1) 24)) : wpY_found post (yr, yf, yp, aw) :=
  ⟨25, oy_fo4 hp 24 0 (by omega)⟩
theorem oy_reach {post : Int32 → SY → Prop} (hyr : ∀ r, r < 8 → oh_val (yr r)) (hv : ∀ k, k < 72 → oh_val (yf k)) (hp : ∀ w, oh_Yd (oh_P (oh_ysrc yr (-1)) yf) w → post (oh_S (fun b => decide (w b < 1000)) (fun _ => 1) 24) (yr, yf, yp, w)) : wpY_reachable post (yr, yf, yp, aw) := by
  unfold wpY_reachable
  dsimp only
  refine oy_spread hyr hv (fun w hY => ?_)
  exact oy_found (hp w hY)
theorem oy_sum9 {post : Int32 → SY → Prop} (hp : post (oh_S (fun b => decide (aw b < 1000)) yp 24) (yr, yf, yp, aw)) : ∀ m i, i + m = 24 → wY_sum_9 post yr yf yp aw (m + 1) (oh_S (fun b => decide (aw b < 1000)) yp i) (nI i) := by
  intro m
  induction m with
  | zero =>
    intro i hi
    have e : i = 24 := by omega
    rw [e]
    exact pk_le 24 24 (fun _ => hp) (fun h => absurd h (by omega))
  | succ m ih =>
    intro i hi
    refine pk_le 24 i (fun h => absurd h (by omega)) (fun h => ⟨pk_in i 24 (by omega), ?_⟩)
    have h2 := ih (i + 1) (by omega)
    rw [nI_clamp (show i < 2 ^ 31 by omega)]
    refine br_c (fun h0 => ?_) (fun h0 => ⟨pk_in i 24 (by omega), ?_⟩)
    · rw [oh_S_f (p := fun b => decide (aw b < 1000)) (decide_eq_false (fun z => Int32.not_le.mpr z h0))] at h2
      exact nm_r (nI_1 i) h2
    · rw [oh_S_t (p := fun b => decide (aw b < 1000)) (decide_eq_true (Int32.not_le.mp h0))] at h2
      exact nm_e (nm_r (nI_1 i) h2)
/-! make -/
theorem oy_ma59 {post : Int32 → SY → Prop} {r p : Nat} {v : Int32} (hr : r < 8) (hp : p < 24) (h : ∀ yf', (∀ k, k < 72 → yf' k = if k / 3 = p then -1 else yf k) → post 0 (upd yr r (nI p), yf', upd yp p v, aw)) : ∀ m t yf', t + m = 3 → (∀ k, k < 72 → yf' k = if k / 3 = p ∧ k % 3 < t then -1 else yf k) → wY_make_59 post (nI r) v (nI p) (m + 1) (nI t) yr yf' yp aw := by
  intro m
  induction m with
  | zero =>
    intro t yf' ht hf
    refine pk_le 3 t (fun _ => ⟨pk_in p 24 hp, ?_⟩) (fun h => absurd h (by omega))
    rw [nI_clamp (show p < 2 ^ 31 by omega), nI_clamp (show r < 2 ^ 31 by omega)]
    refine nm_e ⟨pk_in r 8 hr, nm_e (h yf' (fun k hk => ?_))⟩
    rw [hf k hk]
    by_cases e : k / 3 = p
    · rw [if_pos e, if_pos ⟨e, by omega⟩]
    · rw [if_neg e, if_neg (fun z => e z.1)]
  | succ m ih =>
    intro t yf' ht hf
    refine pk_le 3 t (fun h => absurd h (by omega)) (fun h => ⟨?_, ?_⟩)
    · rw [oh_ix]
      exact pk_in (p * 3 + t) 72 (by omega)
    · rw [oh_ix, nI_clamp (show p * 3 + t < 2 ^ 31 by omega)]
      intro a ea x ex
      rw [ea, ex, nI_1]
      refine ih (t + 1) _ (by omega) (fun k hk => ?_)
      by_cases ek : k = p * 3 + t
      · rw [ek, pk_us, if_pos ⟨by omega, by omega⟩]
      · rw [pk_un ek, hf k hk]
        by_cases e : k / 3 = p ∧ k % 3 < t
        · rw [if_pos e, if_pos ⟨e.1, by omega⟩]
        · rw [if_neg e, if_neg (fun z => e ⟨z.1, by omega⟩)]
theorem oy_ma27 {post : Int32 → SY → Prop} {r : Nat} {v : Int32} (hr : r < 8) (hn : ¬ ∀ q, q < 24 → aw q ≠ 1000) (h : ∀ p yf', p < 24 → aw p = 1000 → (∀ k, k < 72 → yf' k = if k / 3 = p then -1 else yf k) → post 0 (upd yr r (nI p), yf', upd yp p v, aw)) : ∀ m i x, i + m = 24 → ((x = -1 ∧ ∀ q, q < i → aw q ≠ 1000) ∨ ∃ p, p < 24 ∧ x = nI p ∧ aw p = 1000) → wY_make_27 post (nI r) v yr yf yp aw (m + 1) x (nI i) := by
  intro m
  induction m with
  | zero =>
    intro i x hi hx
    refine pk_le 24 i (fun _ => ?_) (fun h => absurd h (by omega))
    rcases hx with ⟨_, hall⟩ | ⟨p, hp, e, ew⟩
    · exact absurd (fun q hq => hall q (by omega)) hn
    · rw [e]
      refine ⟨4, oy_ma59 hr hp (fun yf' hf => h p yf' hp ew hf) 3 0 yf (by omega) (fun k hk => ?_)⟩
      rw [if_neg (fun z => absurd z.2 (by omega))]
  | succ m ih =>
    intro i x hi hx
    refine pk_le 24 i (fun h => absurd h (by omega)) (fun hlt => ⟨pk_in i 24 hlt, ?_⟩)
    rw [nI_clamp (show i < 2 ^ 31 by omega)]
    refine br_c (fun h0 => nm_r (nI_1 i) (ih (i + 1) _ (by omega) (Or.inr ⟨i, hlt, rfl, h0⟩))) (fun h0 => nm_r (nI_1 i) (ih (i + 1) _ (by omega) ?_))
    rcases hx with ⟨e, hall⟩ | hx
    · refine Or.inl ⟨e, fun q hq => ?_⟩
      by_cases eq : q = i
      · rw [eq]
        exact h0
      · exact hall q (by omega)
    · exact Or.inr hx
end
end
section
section
/-! small calls of both sides -/
section
variable {wz ws sc : Int32} {xr xt xp xf sn ds : Nat → Int32}
theorem oh_cls3 (r : Int32) : (r < 0 ∨ 3 ≤ r) ∨ ∃ j : Nat, j < 3 ∧ r = nI j := by
  rcases oh_root r 3 (by omega) with h | ⟨_, h, _⟩ | h
  · exact Or.inl (Or.inl h)
  · rw [oh_3] at h
    exact Or.inl (Or.inr h)
  · exact Or.inr h
theorem ox_clamp {post : Int32 → Prop} (p : Int32) (h : ∀ k, 1 ≤ k → k ≤ 8 → post (nI k)) : wpX_clampStep post p := by
  refine br_c (fun h1 => br_c (fun h8 => ?_) (fun _ => h 8 (by omega) (by omega))) (fun _ => h 1 (by omega) (by omega))
  have h0 : ¬ p < 0 := by
    intro hlt
    exact absurd (Int32.le_trans h1 (Int32.le_of_lt hlt)) (by decide)
  obtain ⟨j, hj, e⟩ := nI_of h0
  rw [e] at h1 h8
  rw [e]
  exact h j ((nI_leI (a := 1) (by omega) hj).mp h1) ((nI_leI (b := 8) hj (by omega)).mp h8)
theorem ox_in72 {post : SX → Prop} (h : ∀ xr', (∀ r, r < 8 → xr' r = -1) → post (wz, ws, sc, xr', xt, xp, xf, sn, ds)) : ∀ m i xr, i + m = 8 → (∀ j, j < i → xr j = -1) → wX_init_72 post wz ws sc (m + 1) (nI i) xr xt xp xf sn ds := by
  intro m
  induction m with
  | zero =>
    intro i xr hi hall
    exact pk_le 8 i (fun _ => h xr (fun j hj => hall j (by omega))) (fun h => absurd h (by omega))
  | succ m ih =>
    intro i xr hi hall
    refine pk_le 8 i (fun _ => h xr (fun j hj => hall j (by omega))) (fun hlt => ⟨pk_in i 8 hlt, ?_⟩)
    intro a ea x ex
    rw [ea, ex, nI_1, nI_clamp (show i < 2 ^ 31 by omega)]
    refine ih (i + 1) _ (by omega) (fun j hj => ?_)
    by_cases ej : j = i
    · rw [ej, pk_us]
    · rw [pk_un ej]
      exact hall j (by omega)
theorem ox_obj_f {post : Int32 → Prop} {r : Int32} (hr : r < 0 ∨ 8 ≤ r) (h : post (-1)) : wpX_objectOf post (wz, ws, sc, xr, xt, xp, xf, sn, ds) r := by
  unfold wpX_objectOf
  dsimp only
  exact ox_isRoot_f hr (br_t rfl h)
theorem ox_obj {post : Int32 → Prop} {a : Nat} (ha : a < 8) (h : post (xr a)) : wpX_objectOf post (wz, ws, sc, xr, xt, xp, xf, sn, ds) (nI a) := by
  unfold wpX_objectOf
  dsimp only
  rw [nI_clamp (show a < 2 ^ 31 by omega)]
  exact ox_isRoot_t ha (br_f (by decide) ⟨pk_in a 8 ha, h⟩)
theorem ox_ref1 {post : Int32 → Prop} {r f o : Int32} (hb : r < 0 ∨ 8 ≤ r) (h : post (-1)) : wpX_fieldRefusal post (wz, ws, sc, xr, xt, xp, xf, sn, ds) r f o := by
  unfold wpX_fieldRefusal
  dsimp only
  exact ox_isRoot_f hb (br_t rfl h)
theorem ox_ref2 {post : Int32 → Prop} {a : Nat} {f o : Int32} (ha : a < 8) (hb : o < 0 ∨ 8 ≤ o) (h : post (-1)) : wpX_fieldRefusal post (wz, ws, sc, xr, xt, xp, xf, sn, ds) (nI a) f o := by
  unfold wpX_fieldRefusal
  dsimp only
  exact ox_isRoot_t ha (br_f (by decide) (ox_isRoot_f hb (br_t rfl h)))
theorem ox_ref3 {post : Int32 → Prop} {a b : Nat} {f : Int32} (ha : a < 8) (hb : b < 8) (hf : f < 0 ∨ 3 ≤ f) (h : post (-2)) : wpX_fieldRefusal post (wz, ws, sc, xr, xt, xp, xf, sn, ds) (nI a) f (nI b) := by
  unfold wpX_fieldRefusal
  dsimp only
  refine ox_isRoot_t ha (br_f (by decide) (ox_isRoot_t hb (br_f (by decide) ?_)))
  rcases hf with hf | hf
  · exact br_t hf h
  · exact br_c (fun _ => h) (fun _ => br_f (Int32.not_lt.mpr hf) h)
theorem ox_ref4 {post : Int32 → Prop} {a b t : Nat} (ha : a < 8) (hb : b < 8) (ht : t < 3) (e : xr a = -1) (h : post (-3)) : wpX_fieldRefusal post (wz, ws, sc, xr, xt, xp, xf, sn, ds) (nI a) (nI t) (nI b) := by
  unfold wpX_fieldRefusal
  dsimp only
  rw [nI_clamp (show a < 2 ^ 31 by omega)]
  exact ox_isRoot_t ha (br_f (by decide) (ox_isRoot_t hb (br_f (by decide) (br_f (nI_pos (by omega)) (pk_lt t 3 (fun _ => ⟨pk_in a 8 ha, br_t e h⟩) (fun z => absurd z (by omega)))))))
theorem ox_ref5 {post : Int32 → Prop} {a b t q : Nat} (ha : a < 8) (hb : b < 8) (ht : t < 3) (hq : q < 24) (e : xr a = nI q) (h : post 0) : wpX_fieldRefusal post (wz, ws, sc, xr, xt, xp, xf, sn, ds) (nI a) (nI t) (nI b) := by
  unfold wpX_fieldRefusal
  dsimp only
  rw [nI_clamp (show a < 2 ^ 31 by omega)]
  exact ox_isRoot_t ha (br_f (by decide) (ox_isRoot_t hb (br_f (by decide) (br_f (nI_pos (by omega)) (pk_lt t 3 (fun _ => ⟨pk_in a 8 ha, br_f (by rw [e]; exact oh_m1 (by omega)) h⟩) (fun z => absurd z (by omega)))))))
theorem ox_mk28 {post : Int32 → SX → Prop} {a s : Nat} {v : Int32} (ha : a < 8) (hs : s < 24) (h : ∀ xf', (∀ k, k < 72 → xf' k = if k / 3 = s then -1 else xf k) → post 0 (wz, ws, sc, upd xr a (nI s), upd xt s 1, upd xp s v, xf', sn, ds)) : wX_make_28 post (nI a) v (nI s) wz ws sc xr xt xp xf sn ds := by
  unfold wX_make_28
  refine br_f (oh_m1 (by omega)) (ox_fill hs (fun xf' hf => ?_))
  refine ⟨pk_in a 8 ha, ?_⟩
  rw [nI_clamp (show a < 2 ^ 31 by omega)]
  exact nm_e (h xf' hf)
/-! a walk from nothing -/
theorem oh_P_no {src : Nat → Prop} {f : Nat → Int32} (h : ∀ j, j < 24 → ¬ src j) : ∀ n j, ¬ oh_P src f n j := by
  intro n
  induction n with
  | zero => exact fun j hj => h j hj.1 hj.2
  | succ n ih =>
    intro j hj
    obtain ⟨_, i, t, _, _, hp, _⟩ := hj
    exact ih i hp
theorem oh_cnt_no {p : Nat → Bool} : ∀ n, (∀ i, i < n → p i = false) → oh_cnt p n = 0 := by
  intro n
  induction n with
  | zero => intro _; rfl
  | succ n ih =>
    intro h
    simp only [oh_cnt]
    rw [ih (fun i hi => h i (by omega)), h n (by omega)]
    simp
theorem oh_Xd_no {f : Nat → Int32} {c : Nat} {s d : Nat → Int32} (hX : oh_Xd (oh_P (oh_src (fun _ => -1) 1) f) c s d) : c = 0 ∧ ∀ j, j < 24 → d j = -1 := by
  have hn := oh_P_no (src := oh_src (fun _ => -1) 1) (f := f) (fun j hj hs => by
    obtain ⟨q, _, e⟩ := hs
    exact oh_m1 (by omega) e.symm)
  have hd : ∀ j, j < 24 → d j = -1 := fun j hj => by
    by_cases e : d j = -1
    · exact e
    · obtain ⟨n, hp⟩ := oh_Xd_r hX hj e
      exact absurd hp (hn n j)
  refine ⟨(oh_Xd_c hX).trans (oh_cnt_no 24 (fun i hi => ?_)), hd⟩
  exact decide_eq_false (fun z => z (hd i hi))
end
section
variable {yr yf yp aw : Nat → Int32}
theorem oy_in38 {post : SY → Prop} (h : ∀ yr', (∀ r, r < 8 → yr' r = -1) → post (yr', yf, yp, aw)) : ∀ m i yr, i + m = 8 → (∀ j, j < i → yr j = -1) → wY_init_38 post (m + 1) (nI i) yr yf yp aw := by
  intro m
  induction m with
  | zero =>
    intro i yr hi hall
    exact pk_le 8 i (fun _ => h yr (fun j hj => hall j (by omega))) (fun h => absurd h (by omega))
  | succ m ih =>
    intro i yr hi hall
    refine pk_le 8 i (fun _ => h yr (fun j hj => hall j (by omega))) (fun hlt => ⟨pk_in i 8 hlt, ?_⟩)
    intro a ea x ex
    rw [ea, ex, nI_1, nI_clamp (show i < 2 ^ 31 by omega)]
    refine ih (i + 1) _ (by omega) (fun j hj => ?_)
    by_cases ej : j = i
    · rw [ej, pk_us]
    · rw [pk_un ej]
      exact hall j (by omega)
theorem oy_obj_f {post : Int32 → Prop} {r : Int32} (hr : r < 0 ∨ 8 ≤ r) (h : post (-1)) : wpY_objectOf post (yr, yf, yp, aw) r := by
  unfold wpY_objectOf
  dsimp only
  exact oy_isRoot_f hr (br_t rfl h)
theorem oy_obj {post : Int32 → Prop} {a : Nat} (ha : a < 8) (h : post (yr a)) : wpY_objectOf post (yr, yf, yp, aw) (nI a) := by
  unfold wpY_objectOf
  dsimp only
  rw [nI_clamp (show a < 2 ^ 31 by omega)]
  exact oy_isRoot_t ha (br_f (by decide) ⟨pk_in a 8 ha, h⟩)
theorem oy_held_f {post : Int32 → Prop} {r : Int32} (hr : r < 0 ∨ 8 ≤ r) (h : post 0) : wpY_held post (yr, yf, yp, aw) r := by
  unfold wpY_held
  dsimp only
  exact oy_obj_f hr (br_t oh_neg1 h)
theorem oy_held_n {post : Int32 → Prop} {a : Nat} (ha : a < 8) (e : yr a = -1) (h : post 0) : wpY_held post (yr, yf, yp, aw) (nI a) := by
  unfold wpY_held
  dsimp only
  refine oy_obj ha ?_
  rw [e]
  exact br_t oh_neg1 h
theorem oy_held_y {post : Int32 → Prop} {a q : Nat} (ha : a < 8) (hq : q < 24) (e : yr a = nI q) (h : post 1) : wpY_held post (yr, yf, yp, aw) (nI a) := by
  unfold wpY_held
  dsimp only
  refine oy_obj ha ?_
  rw [e]
  exact br_f (nI_pos (by omega)) h
theorem oy_ref1 {post : Int32 → Prop} {r f o : Int32} (hb : r < 0 ∨ 8 ≤ r) (h : post (-1)) : wpY_refusal post (yr, yf, yp, aw) r f o := by
  unfold wpY_refusal
  dsimp only
  exact oy_isRoot_f hb (br_t rfl h)
theorem oy_ref2 {post : Int32 → Prop} {a : Nat} {f o : Int32} (ha : a < 8) (hb : o < 0 ∨ 8 ≤ o) (h : post (-1)) : wpY_refusal post (yr, yf, yp, aw) (nI a) f o := by
  unfold wpY_refusal
  dsimp only
  exact oy_isRoot_t ha (br_f (by decide) (oy_isRoot_f hb (br_t rfl h)))
theorem oy_ref3 {post : Int32 → Prop} {a b : Nat} {f : Int32} (ha : a < 8) (hb : b < 8) (hf : f < 0 ∨ 3 ≤ f) (h : post (-2)) : wpY_refusal post (yr, yf, yp, aw) (nI a) f (nI b) := by
  unfold wpY_refusal
  dsimp only
  refine oy_isRoot_t ha (br_f (by decide) (oy_isRoot_t hb (br_f (by decide) ?_)))
  rcases hf with hf | hf
  · exact br_t hf h
  · exact br_c (fun _ => h) (fun _ => br_f (fun z => absurd (Int32.le_trans hf z) (by decide)) h)
theorem oy_ref4 {post : Int32 → Prop} {a b t : Nat} (ha : a < 8) (hb : b < 8) (ht : t < 3) (e : yr a = -1) (h : post (-3)) : wpY_refusal post (yr, yf, yp, aw) (nI a) (nI t) (nI b) := by
  unfold wpY_refusal
  dsimp only
  rw [nI_clamp (show a < 2 ^ 31 by omega)]
  exact oy_isRoot_t ha (br_f (by decide) (oy_isRoot_t hb (br_f (by decide) (br_f (nI_pos (by omega)) (pk_le t 2 (fun _ => ⟨pk_in a 8 ha, br_f (by rw [e]; decide) h⟩) (fun z => absurd z (by omega)))))))
theorem oy_ref5 {post : Int32 → Prop} {a b t q : Nat} (ha : a < 8) (hb : b < 8) (ht : t < 3) (hq : q < 24) (e : yr a = nI q) (h : post 0) : wpY_refusal post (yr, yf, yp, aw) (nI a) (nI t) (nI b) := by
  unfold wpY_refusal
  dsimp only
  rw [nI_clamp (show a < 2 ^ 31 by omega)]
  exact oy_isRoot_t ha (br_f (by decide) (oy_isRoot_t hb (br_f (by decide) (br_f (nI_pos (by omega)) (pk_le t 2 (fun _ => ⟨pk_in a 8 ha, br_t (by rw [e]; exact nI_pos' (by omega)) h⟩) (fun z => absurd z (by omega)))))))
theorem oy_make {post : Int32 → SY → Prop} {a : Nat} {v : Int32} (ha : a < 8) (hyr : ∀ r, r < 8 → oh_val (yr r)) (hv : ∀ k, k < 72 → oh_val (yf k)) (hfull : ∀ w, oh_Yd (oh_P (oh_ysrc yr (-1)) yf) w → oh_S (fun b => decide (w b < 1000)) (fun _ => 1) 24 = 24 → post (-4) (yr, yf, yp, w)) (hok : ∀ w p yf', oh_Yd (oh_P (oh_ysrc yr (-1)) yf) w → oh_S (fun b => decide (w b < 1000)) (fun _ => 1) 24 ≠ 24 → p < 24 → w p = 1000 → (∀ k, k < 72 → yf' k = if k / 3 = p then -1 else yf k) → post 0 (upd yr a (nI p), yf', upd yp p v, w)) : wpY_make post (yr, yf, yp, aw) (nI a) v := by
  unfold wpY_make
  dsimp only
  refine oy_isRoot_t ha (br_f (by decide) (oy_reach hyr hv (fun w hY => ?_)))
  refine br_c (fun e => hfull w hY e) (fun ne => ?_)
  exact ⟨25, oy_ma27 ha (fun hall => ne (oh_far_ex hY hall)) (fun p yf' hp ew hf => hok w p yf' hY ne hp ew hf) 24 0 (-1) (by omega) (Or.inl ⟨rfl, fun q hq => by omega⟩)⟩
end
end
end
section
section
/-- the two heaps are the same as far as the roots show; the window is within -/
def i_Rel (k : Nat) (u : SX) (v : SY) : Prop := match u, v with
  | (wz, ws, _, xr, xt, xp, xf, _, _), (yr, yf, yp, _) => oh_W ws wz ∧ oh_R xr xt xp xf yr yf yp
theorem i_up {k : Nat} {u : SX} {v : SY} (h : i_Rel k u v) : i_Rel (k + 4) u v := h
theorem i_vc0 (k0 : Int32) : wpX_init (fun u => wpY_init (fun v => i_Rel 1 u v) k0) k0 := by
  unfold wpX_init
  refine ox_clamp k0 (fun k h1 h8 => ?_)
  refine ⟨9, ox_in72 (fun xr hx => ?_) 8 0 _ (by omega) (fun j hj => by omega)⟩
  unfold wpY_init
  refine ⟨9, oy_in38 (fun yr hy => ?_) 8 0 _ (by omega) (fun j hj => by omega)⟩
  refine ⟨⟨⟨0, by omega, rfl⟩, k, h1, h8, rfl⟩, fun _ _ => Or.inr ⟨0, by omega, rfl⟩, fun _ _ => Or.inr ⟨0, by omega, rfl⟩, fun _ _ => False, ⟨fun a b h => h.elim, fun a b t h => h.elim, fun a b b' h => h.elim, fun a a' b h => h.elim⟩, fun r hr => Or.inl ⟨hx r hr, hy r hr⟩⟩
theorem i_vc_make {k : Nat} {u : SX} {v : SY} (I : i_Rel k u v) (hk : k + 4 ≤ 2049) (v1 : Int32) (v2 : Int32) : wpX_make (fun r u' => wpY_make (fun r' v' => r' = r ∧ i_Rel (k + 4) u' v') v v1 v2) u v1 v2 := by
  obtain ⟨wz, ws, sc, xr, xt, xp, xf, sn, ds⟩ := u
  obtain ⟨yr, yf, yp, aw⟩ := v
  obtain ⟨hW, hR⟩ := I
  have hxr : ∀ r, r < 8 → oh_val (xr r) := fun r hr => oh_R_x hR hr
  have hyr : ∀ r, r < 8 → oh_val (yr r) := fun r hr => oh_R_y hR hr
  unfold wpX_make
  dsimp only
  rcases oh_cls v1 with hb | ⟨a, ha, e1⟩
  · refine ox_isRoot_f hb (br_t rfl ?_)
    unfold wpY_make
    dsimp only
    exact oy_isRoot_f hb (br_t rfl ⟨rfl, hW, hR⟩)
  · rw [e1]
    refine ox_isRoot_t ha (br_f (by decide) (ox_free (fun s hs h0 => ?_) (fun hall => ?_)))
    · refine br_f (oh_m1 (by omega)) (ox_mk28 ha hs (fun xf' hxf => ?_))
      refine oy_make ha hyr hR.2.1 (fun w hY e => absurd e (oh_R_notfull hR oh_neg1 hY hs h0)) (fun w p yf' hY ne hp ew hyf => ?_)
      exact ⟨rfl, hW, oh_R_new hR (fun _ _ _ z => z) hs hp h0 (oh_R_far hR hY hp ew) (by decide) hxf hyf⟩
    · refine br_t rfl (ox_clean hW hxr hR.1 (fun ws' c xt' sn' d hW' hX hL => ?_))
      have hkeep : ∀ n a, oh_P (oh_src xr 8) xf n a → xt a ≠ 0 → xt' a ≠ 0 := fun n a hp h => by
        rw [hL.1 a (oh_P_lt hp) (oh_Xd_n hX (oh_P_lt hp) hp)]
        exact h
      refine ox_free (fun s hs h0 => ?_) (fun hall' => ?_)
      · refine ox_mk28 ha hs (fun xf' hxf => ?_)
        refine oy_make ha hyr hR.2.1 (fun w hY e => ?_) (fun w p yf' hY ne hp ew hyf => ?_)
        · have hd := (oh_R_full hR oh_neg1 hX hY).mp e s hs
          have h1 := hL.1 s hs hd
          exact absurd (h1.symm.trans h0) (hall s hs)
        · exact ⟨rfl, hW', oh_R_new hR hkeep hs hp h0 (oh_R_far hR hY hp ew) (by decide) hxf hyf⟩
      · unfold wX_make_28
        refine br_t rfl ?_
        refine oy_make ha hyr hR.2.1 (fun w hY e => ⟨rfl, hW', oh_R_cleaned hR hkeep⟩) (fun w p yf' hY ne hp ew hyf => ?_)
        refine absurd ((oh_R_full hR oh_neg1 hX hY).mpr (fun j hj => ?_)) ne
        rcases hL.2 with ⟨j', hj', e'⟩ | h2
        · exact absurd e' (hall' j' hj')
        · rcases h2 j hj with h3 | h3
          · exact absurd h3 (hall j hj)
          · exact h3
theorem i_vc_copyRoot {k : Nat} {u : SX} {v : SY} (I : i_Rel k u v) (hk : k + 4 ≤ 2049) (v1 : Int32) (v2 : Int32) : wpX_copyRoot (fun r u' => wpY_copyRoot (fun r' v' => r' = r ∧ i_Rel (k + 4) u' v') v v1 v2) u v1 v2 := by
  obtain ⟨wz, ws, sc, xr, xt, xp, xf, sn, ds⟩ := u
  obtain ⟨yr, yf, yp, aw⟩ := v
  obtain ⟨hW, hR⟩ := I
  unfold wpX_copyRoot wpY_copyRoot
  dsimp only
  rcases oh_cls v1 with hb | ⟨a, ha, e1⟩
  · exact ox_isRoot_f hb (br_t rfl (oy_isRoot_f hb (br_t rfl ⟨rfl, hW, hR⟩)))
  · rw [e1]
    refine ox_isRoot_t ha (br_f (by decide) ?_)
    rcases oh_cls v2 with hb | ⟨b, hb, e2⟩
    · exact ox_isRoot_f hb (br_t rfl (oy_isRoot_t ha (br_f (by decide) (oy_isRoot_f hb (br_t rfl ⟨rfl, hW, hR⟩)))))
    · rw [e2, nI_clamp (show a < 2 ^ 31 by omega), nI_clamp (show b < 2 ^ 31 by omega)]
      refine ox_isRoot_t hb (br_f (by decide) ⟨pk_in a 8 ha, pk_in b 8 hb, nm_e ?_⟩)
      exact oy_isRoot_t ha (br_f (by decide) (oy_isRoot_t hb (br_f (by decide) ⟨pk_in a 8 ha, pk_in b 8 hb, nm_e ⟨rfl, hW, oh_R_copy hR ha⟩⟩)))
theorem i_vc_drop {k : Nat} {u : SX} {v : SY} (I : i_Rel k u v) (hk : k + 4 ≤ 2049) (v1 : Int32) : wpX_drop (fun r u' => wpY_drop (fun r' v' => r' = r ∧ i_Rel (k + 4) u' v') v v1) u v1 := by
  obtain ⟨wz, ws, sc, xr, xt, xp, xf, sn, ds⟩ := u
  obtain ⟨yr, yf, yp, aw⟩ := v
  obtain ⟨hW, hR⟩ := I
  unfold wpX_drop wpY_drop
  dsimp only
  rcases oh_cls v1 with hb | ⟨a, ha, e1⟩
  · exact ox_isRoot_f hb (br_t rfl (oy_isRoot_f hb (br_t rfl ⟨rfl, hW, hR⟩)))
  · rw [e1, nI_clamp (show a < 2 ^ 31 by omega)]
    refine ox_isRoot_t ha (br_f (by decide) ⟨pk_in a 8 ha, nm_e ?_⟩)
    exact oy_isRoot_t ha (br_f (by decide) ⟨pk_in a 8 ha, nm_e ⟨rfl, hW, oh_R_drop hR⟩⟩)
theorem i_vc_load {k : Nat} {u : SX} {v : SY} (I : i_Rel k u v) (hk : k + 4 ≤ 2049) (v1 : Int32) (v2 : Int32) (v3 : Int32) : wpX_load (fun r u' => wpY_load (fun r' v' => r' = r ∧ i_Rel (k + 4) u' v') v v1 v2 v3) u v1 v2 v3 := by
  obtain ⟨wz, ws, sc, xr, xt, xp, xf, sn, ds⟩ := u
  obtain ⟨yr, yf, yp, aw⟩ := v
  obtain ⟨hW, hR⟩ := I
  unfold wpX_load wpY_load
  dsimp only
  rcases oh_cls v1 with hb | ⟨a, ha, e1⟩
  · exact ox_ref1 hb (br_f (by decide) (oy_ref1 hb (br_f (by decide) ⟨rfl, hW, hR⟩)))
  · rw [e1]
    rcases oh_cls v3 with hb | ⟨b, hb, e3⟩
    · exact ox_ref2 ha hb (br_f (by decide) (oy_ref2 ha hb (br_f (by decide) ⟨rfl, hW, hR⟩)))
    · rw [e3]
      rcases oh_cls3 v2 with hf | ⟨t, ht, e2⟩
      · exact ox_ref3 ha hb hf (br_f (by decide) (oy_ref3 ha hb hf (br_f (by decide) ⟨rfl, hW, hR⟩)))
      · rw [e2]
        rcases oh_R_cases hR ha with ⟨ex, ey⟩ | ⟨p, q, hp, hq, ex, ey, _⟩
        · exact ox_ref4 ha hb ht ex (br_f (by decide) (oy_ref4 ha hb ht ey (br_f (by decide) ⟨rfl, hW, hR⟩)))
        · rw [nI_clamp (show a < 2 ^ 31 by omega), nI_clamp (show b < 2 ^ 31 by omega), ex, ey, oh_ix, oh_ix, nI_clamp (show p * 3 + t < 2 ^ 31 by omega), nI_clamp (show q * 3 + t < 2 ^ 31 by omega)]
          refine ox_ref5 ha hb ht hp ex (br_t rfl ⟨pk_in a 8 ha, pk_in (p * 3 + t) 72 (by omega), pk_in b 8 hb, nm_e ?_⟩)
          exact oy_ref5 ha hb ht hq ey (br_t (by decide) ⟨pk_in a 8 ha, pk_in (q * 3 + t) 72 (by omega), pk_in b 8 hb, nm_e ⟨rfl, hW, oh_R_load hR ha ht hp hq ex ey⟩⟩)
theorem i_vc_store {k : Nat} {u : SX} {v : SY} (I : i_Rel k u v) (hk : k + 4 ≤ 2049) (v1 : Int32) (v2 : Int32) (v3 : Int32) : wpX_store (fun r u' => wpY_store (fun r' v' => r' = r ∧ i_Rel (k + 4) u' v') v v1 v2 v3) u v1 v2 v3 := by
  obtain ⟨wz, ws, sc, xr, xt, xp, xf, sn, ds⟩ := u
  obtain ⟨yr, yf, yp, aw⟩ := v
  obtain ⟨hW, hR⟩ := I
  unfold wpX_store wpY_store
  dsimp only
  rcases oh_cls v1 with hb | ⟨a, ha, e1⟩
  · exact ox_ref1 hb (br_f (by decide) (oy_ref1 hb (br_f (by decide) ⟨rfl, hW, hR⟩)))
  · rw [e1]
    rcases oh_cls v3 with hb | ⟨b, hb, e3⟩
    · exact ox_ref2 ha hb (br_f (by decide) (oy_ref2 ha hb (br_f (by decide) ⟨rfl, hW, hR⟩)))
    · rw [e3]
      rcases oh_cls3 v2 with hf | ⟨t, ht, e2⟩
      · exact ox_ref3 ha hb hf (br_f (by decide) (oy_ref3 ha hb hf (br_f (by decide) ⟨rfl, hW, hR⟩)))
      · rw [e2]
        rcases oh_R_cases hR ha with ⟨ex, ey⟩ | ⟨p, q, hp, hq, ex, ey, _⟩
        · exact ox_ref4 ha hb ht ex (br_f (by decide) (oy_ref4 ha hb ht ey (br_f (by decide) ⟨rfl, hW, hR⟩)))
        · refine ox_ref5 ha hb ht hp ex (br_t rfl ⟨pk_in a 8 ha, pk_in b 8 hb, ?_⟩)
          rw [nI_clamp (show a < 2 ^ 31 by omega), nI_clamp (show b < 2 ^ 31 by omega), ex, oh_ix, nI_clamp (show p * 3 + t < 2 ^ 31 by omega)]
          refine ⟨pk_in (p * 3 + t) 72 (by omega), nm_e ?_⟩
          refine oy_ref5 ha hb ht hq ey (br_t (by decide) ⟨pk_in a 8 ha, pk_in b 8 hb, ?_⟩)
          rw [ey, oh_ix, nI_clamp (show q * 3 + t < 2 ^ 31 by omega)]
          exact ⟨pk_in (q * 3 + t) 72 (by omega), nm_e ⟨rfl, hW, oh_R_store hR ha hb ht hp hq ex ey⟩⟩
theorem i_vc_setPayload {k : Nat} {u : SX} {v : SY} (I : i_Rel k u v) (hk : k + 4 ≤ 2049) (v1 : Int32) (v2 : Int32) : wpX_setPayload (fun r u' => wpY_setPayload (fun r' v' => r' = r ∧ i_Rel (k + 4) u' v') v v1 v2) u v1 v2 := by
  obtain ⟨wz, ws, sc, xr, xt, xp, xf, sn, ds⟩ := u
  obtain ⟨yr, yf, yp, aw⟩ := v
  obtain ⟨hW, hR⟩ := I
  unfold wpX_setPayload wpY_setPayload
  dsimp only
  rcases oh_cls v1 with hb | ⟨a, ha, e1⟩
  · exact ox_isRoot_f hb (br_t rfl (oy_ref1 hb (br_f (by decide) ⟨rfl, hW, hR⟩)))
  · rw [e1, nI_clamp (show a < 2 ^ 31 by omega)]
    refine ox_isRoot_t ha (br_f (by decide) ⟨pk_in a 8 ha, ?_⟩)
    rcases oh_R_cases hR ha with ⟨ex, ey⟩ | ⟨p, q, hp, hq, ex, ey, _⟩
    · exact br_t ex (oy_ref4 (t := 0) ha ha (by omega) ey (br_f (by decide) ⟨rfl, hW, hR⟩))
    · rw [ex, ey, nI_clamp (show p < 2 ^ 31 by omega), nI_clamp (show q < 2 ^ 31 by omega)]
      refine br_f (oh_m1 (by omega)) ⟨pk_in a 8 ha, pk_in p 24 hp, nm_e ?_⟩
      exact oy_ref5 (t := 0) ha ha (by omega) hq ey (br_t (by decide) ⟨pk_in a 8 ha, pk_in q 24 hq, nm_e ⟨rfl, hW, oh_R_pay hR ha hp hq ex ey⟩⟩)
theorem i_vc_collect {k : Nat} {u : SX} {v : SY} (I : i_Rel k u v) (hk : k + 4 ≤ 2049) : wpX_collect (fun u' => wpY_collect (fun v' => i_Rel (k + 4) u' v') v) u := by
  obtain ⟨wz, ws, sc, xr, xt, xp, xf, sn, ds⟩ := u
  obtain ⟨yr, yf, yp, aw⟩ := v
  obtain ⟨hW, hR⟩ := I
  unfold wpX_collect wpY_collect
  dsimp only
  refine ox_clean hW (fun r hr => oh_R_x hR hr) hR.1 (fun ws' c xt' sn' d hW' hX hL => ?_)
  have hkeep : ∀ n a, oh_P (oh_src xr 8) xf n a → xt a ≠ 0 → xt' a ≠ 0 := fun n a hp h => by
    rw [hL.1 a (oh_P_lt hp) (oh_Xd_n hX (oh_P_lt hp) hp)]
    exact h
  exact ⟨hW', oh_R_cleaned hR hkeep⟩
theorem i_vc_payload {k : Nat} {u : SX} {v : SY} (I : i_Rel k u v) (hk : k + 4 ≤ 2049) (v1 : Int32) : wpX_payload (fun r => wpY_payload (fun r' => r' = r ∧ i_Rel (k + 4) u v) v v1) u v1 := by
  obtain ⟨wz, ws, sc, xr, xt, xp, xf, sn, ds⟩ := u
  obtain ⟨yr, yf, yp, aw⟩ := v
  obtain ⟨hW, hR⟩ := I
  unfold wpX_payload wpY_payload
  dsimp only
  rcases oh_cls v1 with hb | ⟨a, ha, e1⟩
  · exact ox_obj_f hb (br_t rfl (oy_obj_f hb (br_f (by decide) ⟨rfl, hW, hR⟩)))
  · rw [e1]
    refine ox_obj ha ?_
    rcases oh_R_cases hR ha with ⟨ex, ey⟩ | ⟨p, q, hp, hq, ex, ey, epq⟩
    · refine br_t ex (oy_obj ha ?_)
      rw [ey]
      exact br_f (by decide) ⟨rfl, hW, hR⟩
    · rw [ex, nI_clamp (show p < 2 ^ 31 by omega)]
      refine br_f (oh_m1 (by omega)) ⟨pk_in p 24 hp, oy_obj ha ?_⟩
      rw [ey, nI_clamp (show q < 2 ^ 31 by omega)]
      exact br_t (nI_pos' (by omega)) ⟨pk_in q 24 hq, epq.symm, hW, hR⟩
theorem i_vc_held {k : Nat} {u : SX} {v : SY} (I : i_Rel k u v) (hk : k + 4 ≤ 2049) (v1 : Int32) : wpX_held (fun r => wpY_held (fun r' => r' = r ∧ i_Rel (k + 4) u v) v v1) u v1 := by
  obtain ⟨wz, ws, sc, xr, xt, xp, xf, sn, ds⟩ := u
  obtain ⟨yr, yf, yp, aw⟩ := v
  obtain ⟨hW, hR⟩ := I
  unfold wpX_held
  dsimp only
  rcases oh_cls v1 with hb | ⟨a, ha, e1⟩
  · exact ox_obj_f hb (br_t rfl (oy_held_f hb ⟨rfl, hW, hR⟩))
  · rw [e1]
    refine ox_obj ha ?_
    rcases oh_R_cases hR ha with ⟨ex, ey⟩ | ⟨p, q, hp, hq, ex, ey, epq⟩
    · exact br_t ex (oy_held_n ha ey ⟨rfl, hW, hR⟩)
    · rw [ex]
      exact br_f (oh_m1 (by omega)) (oy_held_y ha hq ey ⟨rfl, hW, hR⟩)
theorem i_vc_same {k : Nat} {u : SX} {v : SY} (I : i_Rel k u v) (hk : k + 4 ≤ 2049) (v1 : Int32) (v2 : Int32) : wpX_same (fun r => wpY_same (fun r' => r' = r ∧ i_Rel (k + 4) u v) v v1 v2) u v1 v2 := by
  obtain ⟨wz, ws, sc, xr, xt, xp, xf, sn, ds⟩ := u
  obtain ⟨yr, yf, yp, aw⟩ := v
  obtain ⟨hW, hR⟩ := I
  unfold wpX_same wpY_same
  dsimp only
  rcases oh_cls v1 with hb | ⟨a, ha, e1⟩
  · exact ox_obj_f hb (br_t rfl (oy_held_f hb (br_t rfl ⟨rfl, hW, hR⟩)))
  · rw [e1]
    refine ox_obj ha ?_
    rcases oh_R_cases hR ha with ⟨ex, ey⟩ | ⟨p, q, hp, hq, ex, ey, _⟩
    · exact br_t ex (oy_held_n ha ey (br_t rfl ⟨rfl, hW, hR⟩))
    · refine br_f (by rw [ex]; exact oh_m1 (by omega)) ?_
      rcases oh_cls v2 with hb | ⟨b, hb, e2⟩
      · exact ox_obj_f hb (br_f (by rw [ex]; exact oh_m1 (by omega)) (oy_held_y ha hq ey (br_f (by decide) (oy_held_f hb (br_t rfl ⟨rfl, hW, hR⟩)))))
      · rw [e2]
        refine ox_obj hb ?_
        rcases oh_R_cases hR hb with ⟨ex2, ey2⟩ | ⟨p2, q2, hp2, hq2, ex2, ey2, _⟩
        · exact br_f (by rw [ex, ex2]; exact oh_m1 (by omega)) (oy_held_y ha hq ey (br_f (by decide) (oy_held_n hb ey2 (br_t rfl ⟨rfl, hW, hR⟩))))
        · rw [nI_clamp (show a < 2 ^ 31 by omega), nI_clamp (show b < 2 ^ 31 by omega)]
          have hi := oh_R_eq hR ha hb
          refine br_c (fun h => ?_) (fun h => ?_)
          · exact oy_held_y ha hq ey (br_f (by decide) (oy_held_y hb hq2 ey2 (br_f (by decide) ⟨pk_in a 8 ha, pk_in b 8 hb, br_t (hi.mp h) ⟨rfl, hW, hR⟩⟩)))
          · exact oy_held_y ha hq ey (br_f (by decide) (oy_held_y hb hq2 ey2 (br_f (by decide) ⟨pk_in a 8 ha, pk_in b 8 hb, br_f (fun z => h (hi.mpr z)) ⟨rfl, hW, hR⟩⟩)))
theorem i_vc_reachable {k : Nat} {u : SX} {v : SY} (I : i_Rel k u v) (hk : k + 4 ≤ 2049) : wpX_reachable (fun r u' => wpY_reachable (fun r' v' => r' = r ∧ i_Rel (k + 4) u' v') v) u := by
  obtain ⟨wz, ws, sc, xr, xt, xp, xf, sn, ds⟩ := u
  obtain ⟨yr, yf, yp, aw⟩ := v
  obtain ⟨hW, hR⟩ := I
  unfold wpX_reachable
  dsimp only
  refine ox_all (fun r hr => oh_R_x hR hr) hR.1 (fun c s d hX => ?_)
  refine oy_reach (fun r hr => oh_R_y hR hr) hR.2.1 (fun w hY => ?_)
  exact ⟨(oh_R_sums hR oh_neg1 hX hY).1.symm, hW, hR⟩
theorem i_vc_reachableFrom {k : Nat} {u : SX} {v : SY} (I : i_Rel k u v) (hk : k + 4 ≤ 2049) (v1 : Int32) : wpX_reachableFrom (fun r u' => wpY_reachableFrom (fun r' v' => r' = r ∧ i_Rel (k + 4) u' v') v v1) u v1 := by
  obtain ⟨wz, ws, sc, xr, xt, xp, xf, sn, ds⟩ := u
  obtain ⟨yr, yf, yp, aw⟩ := v
  obtain ⟨hW, hR⟩ := I
  unfold wpX_reachableFrom wpY_reachableFrom
  dsimp only
  rcases oh_cls v1 with hb | ⟨a, ha, e1⟩
  · refine ox_obj_f hb (ox_one (Or.inl rfl) hR.1 (fun c s d hX => ?_))
    have e := (oh_Xd_no hX).1
    exact oy_held_f hb (br_t rfl ⟨by rw [e]; rfl, hW, hR⟩)
  · rw [e1]
    refine ox_obj ha ?_
    rcases oh_R_cases hR ha with ⟨ex, ey⟩ | ⟨p, q, hp, hq, ex, ey, _⟩
    · rw [ex]
      refine ox_one (Or.inl rfl) hR.1 (fun c s d hX => ?_)
      have e := (oh_Xd_no hX).1
      exact oy_held_n ha ey (br_t rfl ⟨by rw [e]; rfl, hW, hR⟩)
    · refine ox_one (oh_R_x hR ha) hR.1 (fun c s d hX => ?_)
      refine oy_held_y ha hq ey (br_f (by decide) (oy_spread (fun r hr => oh_R_y hR hr) hR.2.1 (fun w hY => ?_)))
      exact oy_found ⟨(oh_R_one hR ha hX hY).symm, hW, hR⟩
theorem i_vc_distance {k : Nat} {u : SX} {v : SY} (I : i_Rel k u v) (hk : k + 4 ≤ 2049) (v1 : Int32) (v2 : Int32) : wpX_distance (fun r u' => wpY_distance (fun r' v' => r' = r ∧ i_Rel (k + 4) u' v') v v1 v2) u v1 v2 := by
  obtain ⟨wz, ws, sc, xr, xt, xp, xf, sn, ds⟩ := u
  obtain ⟨yr, yf, yp, aw⟩ := v
  obtain ⟨hW, hR⟩ := I
  unfold wpX_distance wpY_distance
  dsimp only
  rcases oh_cls v1 with ha | ⟨a, ha, e1⟩
  · refine ox_obj_f ha ?_
    rcases oh_cls v2 with hb | ⟨b, hb, e2⟩
    · exact ox_obj_f hb (br_t rfl (oy_held_f ha (br_t rfl ⟨rfl, hW, hR⟩)))
    · rw [e2]
      refine ox_obj hb ?_
      rcases oh_R_cases hR hb with ⟨ex, ey⟩ | ⟨p, q, hp, hq, ex, ey, _⟩
      · exact br_t ex (oy_held_f ha (br_t rfl ⟨rfl, hW, hR⟩))
      · rw [ex, nI_clamp (show p < 2 ^ 31 by omega)]
        refine br_f (oh_m1 (by omega)) (ox_one (Or.inl rfl) hR.1 (fun c s d hX => ?_))
        exact ⟨pk_in p 24 hp, br_t ((oh_Xd_no hX).2 p hp) (oy_held_f ha (br_t rfl ⟨rfl, hW, hR⟩))⟩
  · rw [e1]
    refine ox_obj ha ?_
    rcases oh_R_cases hR ha with ⟨ex1, ey1⟩ | ⟨p1, q1, hp1, hq1, ex1, ey1, _⟩
    · rw [ex1]
      rcases oh_cls v2 with hb | ⟨b, hb, e2⟩
      · exact ox_obj_f hb (br_t rfl (oy_held_n ha ey1 (br_t rfl ⟨rfl, hW, hR⟩)))
      · rw [e2]
        refine ox_obj hb ?_
        rcases oh_R_cases hR hb with ⟨ex, ey⟩ | ⟨p, q, hp, hq, ex, ey, _⟩
        · exact br_t ex (oy_held_n ha ey1 (br_t rfl ⟨rfl, hW, hR⟩))
        · rw [ex, nI_clamp (show p < 2 ^ 31 by omega)]
          refine br_f (oh_m1 (by omega)) (ox_one (Or.inl rfl) hR.1 (fun c s d hX => ?_))
          exact ⟨pk_in p 24 hp, br_t ((oh_Xd_no hX).2 p hp) (oy_held_n ha ey1 (br_t rfl ⟨rfl, hW, hR⟩))⟩
    · rcases oh_cls v2 with hb | ⟨b, hb, e2⟩
      · exact ox_obj_f hb (br_t rfl (oy_held_y ha hq1 ey1 (br_f (by decide) (oy_held_f hb (br_t rfl ⟨rfl, hW, hR⟩)))))
      · rw [e2]
        refine ox_obj hb ?_
        rcases oh_R_cases hR hb with ⟨ex, ey⟩ | ⟨p, q, hp, hq, ex, ey, _⟩
        · exact br_t ex (oy_held_y ha hq1 ey1 (br_f (by decide) (oy_held_n hb ey (br_t rfl ⟨rfl, hW, hR⟩))))
        · refine br_f (by rw [ex]; exact oh_m1 (by omega)) (ox_one (oh_R_x hR ha) hR.1 (fun c s d hX => ?_))
          rw [ex, nI_clamp (show p < 2 ^ 31 by omega)]
          refine ⟨pk_in p 24 hp, br_c (fun hd => ?_) (fun hd => ⟨pk_in p 24 hp, ?_⟩)⟩
          · refine oy_held_y ha hq1 ey1 (br_f (by decide) (oy_held_y hb hq ey (br_f (by decide) (oy_spread (fun r hr => oh_R_y hR hr) hR.2.1 (fun w hY => ⟨pk_in b 8 hb, ?_⟩)))))
            dsimp only
            rw [nI_clamp (show b < 2 ^ 31 by omega), ey, nI_clamp (show q < 2 ^ 31 by omega)]
            refine ⟨pk_in q 24 hq, ?_⟩
            rcases oh_R_dist hR ha hb hX hY hp hq ex ey with ⟨_, ew⟩ | ⟨n, hn, ed, ew⟩
            · rw [ew]
              exact pk_le 1000 1000 (fun _ => ⟨rfl, hW, hR⟩) (fun h => absurd h (by omega))
            · exact absurd (ed.symm.trans hd) (oh_m1 (by omega))
          · refine oy_held_y ha hq1 ey1 (br_f (by decide) (oy_held_y hb hq ey (br_f (by decide) (oy_spread (fun r hr => oh_R_y hR hr) hR.2.1 (fun w hY => ⟨pk_in b 8 hb, ?_⟩)))))
            dsimp only
            rw [nI_clamp (show b < 2 ^ 31 by omega), ey, nI_clamp (show q < 2 ^ 31 by omega)]
            refine ⟨pk_in q 24 hq, ?_⟩
            rcases oh_R_dist hR ha hb hX hY hp hq ex ey with ⟨ed, _⟩ | ⟨n, hn, ed, ew⟩
            · exact absurd ed hd
            · rw [ew, ed]
              exact pk_le 1000 n (fun h => absurd h (by omega)) (fun h => ⟨pk_in b 8 hb, pk_in q 24 hq, rfl, hW, hR⟩)
theorem i_vc_sum {k : Nat} {u : SX} {v : SY} (I : i_Rel k u v) (hk : k + 4 ≤ 2049) : wpX_sum (fun r u' => wpY_sum (fun r' v' => r' = r ∧ i_Rel (k + 4) u' v') v) u := by
  obtain ⟨wz, ws, sc, xr, xt, xp, xf, sn, ds⟩ := u
  obtain ⟨yr, yf, yp, aw⟩ := v
  obtain ⟨hW, hR⟩ := I
  unfold wpX_sum
  dsimp only
  refine ox_all (fun r hr => oh_R_x hR hr) hR.1 (fun c s d hX => ?_)
  refine ⟨c + 1, ox_sum8 (oh_Xd_le hX) (fun i hi => oh_Xd_s hX hi) ?_ c 0 (by omega)⟩
  unfold wpY_sum
  dsimp only
  refine oy_spread (fun r hr => oh_R_y hR hr) hR.2.1 (fun w hY => ?_)
  exact ⟨25, oy_sum9 ⟨(oh_R_sums hR oh_neg1 hX hY).2.symm, hW, hR⟩ 24 0 (by omega)⟩
end
end
