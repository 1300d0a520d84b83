section
/-- the reference's sources for spread(a) -/
def oh_ysrc (yr : Nat → Int32) (a : Int32) : Nat → Prop := fun j => ∃ q, q < 8 ∧ (a < 0 ∨ a = nI q) ∧ yr q = nI j
def oh_YR (yr : Nat → Int32) (a : Int32) (r : Nat) (w : Nat → Int32) : Prop :=
  ∃ om : Nat → Nat, (∀ j, j < 24 → w j = nI (om j) ∧ ((om j = 0 ∧ oh_ysrc yr a j) ∨ om j = 1000)) ∧ ∀ q j, q < r → j < 24 → (a < 0 ∨ a = nI q) → yr q = nI j → om j = 0
theorem oh_YR_0 (yr : Nat → Int32) (a : Int32) (w : Nat → Int32) (h : ∀ j, j < 24 → w j = 1000) : oh_YR yr a 0 w :=
  ⟨fun _ => 1000, fun j hj => ⟨(h j hj).trans oh_1000.symm, Or.inr rfl⟩, fun q j hq => by omega⟩
theorem oh_YR_n {yr : Nat → Int32} {a : Int32} {r : Nat} {w : Nat → Int32} (h : oh_YR yr a r w) (hn : ¬ (a < 0 ∨ a = nI r) ∨ yr r = -1) : oh_YR yr a (r + 1) w := by
  obtain ⟨om, h1, h2⟩ := h
  refine ⟨om, h1, fun q j hq hj hs e => ?_⟩
  by_cases hq2 : q < r
  · exact h2 q j hq2 hj hs e
  · have e2 : q = r := by omega
    rw [e2] at hs e
    rcases hn with hn | hn
    · exact absurd hs hn
    · exact absurd (e.symm.trans hn) (oh_m1 (by omega))
theorem oh_YR_s {yr : Nat → Int32} {a : Int32} {r t : Nat} {w : Nat → Int32} (h : oh_YR yr a r w) (hr : r < 8) (ht : t < 24) (hs : a < 0 ∨ a = nI r) (e : yr r = nI t) : oh_YR yr a (r + 1) (upd w t 0) := by
  obtain ⟨om, h1, h2⟩ := h
  refine ⟨oh_u om t 0, fun j hj => ?_, fun q j hq hj hs' e' => ?_⟩
  · by_cases ej : j = t
    · rw [ej, pk_us, oh_u_s]
      exact ⟨rfl, Or.inl ⟨rfl, r, hr, hs, e⟩⟩
    · rw [pk_un ej, oh_u_n ej]
      exact h1 j hj
  · by_cases ej : j = t
    · rw [ej, oh_u_s]
    · rw [oh_u_n ej]
      by_cases hq2 : q < r
      · exact h2 q j hq2 hj hs' e'
      · have e2 : q = r := by omega
        rw [e2] at e'
        exact absurd (oh_inj (e'.symm.trans e) (by omega) (by omega)) ej
def oh_YI (P : Nat → Nat → Prop) (f : Nat → Int32) (T i : Nat) (w : Nat → Int32) : Prop :=
  ∃ om : Nat → Nat, (∀ j, j < 24 → w j = nI (om j) ∧ om j ≤ 1000 ∧ (om j < 1000 → P (om j) j)) ∧ (∀ m j, m ≤ T → P m j → om j ≤ m) ∧ (∀ e j m, e < i → j < 24 → f e = nI j → m ≤ T → P m (e / 3) → om j ≤ m + 1)
theorem oh_YR_YI {yr f : Nat → Int32} {a : Int32} {w : Nat → Int32} (h : oh_YR yr a 8 w) : oh_YI (oh_P (oh_ysrc yr a) f) f 0 0 w := by
  obtain ⟨om, h1, h2⟩ := h
  refine ⟨om, fun j hj => ⟨(h1 j hj).1, ?_, fun hlt => ?_⟩, fun m j hm hp => ?_, fun e j m he => by omega⟩
  · rcases (h1 j hj).2 with h3 | h3 <;> omega
  · rcases (h1 j hj).2 with h3 | h3
    · rw [h3.1]
      exact ⟨hj, h3.2⟩
    · omega
  · have e0 : m = 0 := by omega
    rw [e0] at hp
    obtain ⟨hj, q, hq, hs, e⟩ := hp
    have := h2 q j hq hj hs e
    omega
/-- one field of one round -/
theorem oh_YI_s {src : Nat → Prop} {f : Nat → Int32} {T i : Nat} {w : Nat → Int32} (h : oh_YI (oh_P src f) f T i w) (hi : i < 72) (hT : T < 24) : ∃ vo, vo ≤ 1000 ∧ w (i / 3) = nI vo ∧ (vo = 1000 → oh_YI (oh_P src f) f T (i + 1) w) ∧ (f i = -1 → oh_YI (oh_P src f) f T (i + 1) w) ∧ ∀ t, t < 24 → f i = nI t → ∃ vj, vj ≤ 1000 ∧ w t = nI vj ∧ (vj ≤ vo + 1 → oh_YI (oh_P src f) f T (i + 1) w) ∧ (vo < 1000 → vo + 1 < vj → oh_YI (oh_P src f) f T (i + 1) (upd w t (nI (vo + 1)))) := by
  obtain ⟨om, h1, h2, h3⟩ := h
  have ho : i / 3 < 24 := by omega
  have hlast : ∀ (v : Nat → Nat) (w' : Nat → Int32), (∀ j, j < 24 → w' j = nI (v j) ∧ v j ≤ 1000 ∧ (v j < 1000 → oh_P src f (v j) j)) → (∀ j, v j ≤ om j) → (∀ j m, j < 24 → f i = nI j → m ≤ T → oh_P src f m (i / 3) → v j ≤ m + 1) → oh_YI (oh_P src f) f T (i + 1) w' := by
    intro v w' g1 g2 g3
    refine ⟨v, g1, fun m j hm hp => Nat.le_trans (g2 j) (h2 m j hm hp), fun e j m he hj ef hm hp => ?_⟩
    by_cases he2 : e < i
    · exact Nat.le_trans (g2 j) (h3 e j m he2 hj ef hm hp)
    · have e2 : e = i := by omega
      rw [e2] at ef hp
      exact g3 j m hj ef hm hp
  refine ⟨om (i / 3), (h1 _ ho).2.1, (h1 _ ho).1, fun hv => ?_, fun ef => ?_, fun t ht ef => ⟨om t, (h1 t ht).2.1, (h1 t ht).1, fun hle => ?_, fun hlt hle => ?_⟩⟩
  · refine hlast om w h1 (fun j => Nat.le_refl _) (fun j m _ _ hm hp => ?_)
    have := h2 m (i / 3) hm hp
    omega
  · refine hlast om w h1 (fun j => Nat.le_refl _) (fun j m hj e _ _ => ?_)
    exact absurd (e.symm.trans ef) (oh_m1 (by omega))
  · refine hlast om w h1 (fun j => Nat.le_refl _) (fun j m hj e hm hp => ?_)
    have ej : j = t := oh_inj (e.symm.trans ef) (by omega) (by omega)
    rw [ej]
    have := h2 m (i / 3) hm hp
    omega
  · have e3 : i / 3 * 3 + i % 3 = i := by omega
    refine hlast (oh_u om t (om (i / 3) + 1)) _ (fun j hj => ?_) (fun j => ?_) (fun j m hj e hm hp => ?_)
    · by_cases ej : j = t
      · rw [ej, pk_us, oh_u_s]
        refine ⟨rfl, by omega, fun _ => ?_⟩
        exact oh_P_e (t := i % 3) ((h1 _ ho).2.2 hlt) ho (by omega) ht (by rw [e3]; exact ef)
      · rw [pk_un ej, oh_u_n ej]
        exact h1 j hj
    · by_cases ej : j = t
      · rw [ej, oh_u_s]
        omega
      · rw [oh_u_n ej]
        exact Nat.le_refl _
    · have ej : j = t := oh_inj (e.symm.trans ef) (by omega) (by omega)
      rw [ej, oh_u_s]
      have := h2 m (i / 3) hm hp
      omega
theorem oh_YI_n {src : Nat → Prop} {f : Nat → Int32} {T : Nat} {w : Nat → Int32} (h : oh_YI (oh_P src f) f T 72 w) : oh_YI (oh_P src f) f (T + 1) 0 w := by
  obtain ⟨om, h1, h2, h3⟩ := h
  refine ⟨om, h1, fun m j hm hp => ?_, fun e j m he => by omega⟩
  cases m with
  | zero => exact h2 0 j (Nat.zero_le _) hp
  | succ m =>
    obtain ⟨hj, i, t, hi, ht, hp', e⟩ := hp
    exact h3 (i * 3 + t) j m (by omega) hj e (by omega) (by rw [show (i * 3 + t) / 3 = i by omega]; exact hp')
def oh_Yd (P : Nat → Nat → Prop) (w : Nat → Int32) : Prop :=
  ∃ om : Nat → Nat, (∀ j, j < 24 → w j = nI (om j) ∧ om j ≤ 1000 ∧ (om j < 1000 → P (om j) j)) ∧ ∀ n j, n ≤ 24 → P n j → om j ≤ n
theorem oh_YI_Yd {P : Nat → Nat → Prop} {f : Nat → Int32} {w : Nat → Int32} (h : oh_YI P f 24 0 w) : oh_Yd P w := by
  obtain ⟨om, h1, h2, _⟩ := h
  exact ⟨om, h1, h2⟩
theorem oh_Yd_v {P : Nat → Nat → Prop} {w : Nat → Int32} (h : oh_Yd P w) {j : Nat} (hj : j < 24) : ∃ m, m ≤ 1000 ∧ w j = nI m ∧ (m < 1000 → P m j) := by
  obtain ⟨om, h1, _⟩ := h
  exact ⟨om j, (h1 j hj).2.1, (h1 j hj).1, (h1 j hj).2.2⟩
/-! the two graphs -/
def oh_Bh (B : Nat → Nat → Prop) (x y : Int32) : Prop := (x = -1 ∧ y = -1) ∨ ∃ a b, x = nI a ∧ y = nI b ∧ B a b
def oh_Bi (B : Nat → Nat → Prop) (xt xp xf yp yf : Nat → Int32) : Prop :=
  (∀ a b, B a b → a < 24 ∧ b < 24 ∧ xt a ≠ 0 ∧ xp a = yp b) ∧ (∀ a b t, B a b → t < 3 → oh_Bh B (xf (a * 3 + t)) (yf (b * 3 + t))) ∧ (∀ a b b', B a b → B a b' → b = b') ∧ (∀ a a' b, B a b → B a' b → a = a')
def oh_Sr (B : Nat → Nat → Prop) (xs ys : Nat → Prop) : Prop :=
  (∀ a, a < 24 → xs a → ∃ b, B a b ∧ ys b) ∧ (∀ b, b < 24 → ys b → ∃ a, B a b ∧ xs a)
theorem oh_fw {B : Nat → Nat → Prop} {xf yf : Nat → Int32} {xs ys : Nat → Prop} (hb : ∀ a b, B a b → a < 24 ∧ b < 24) (he : ∀ a b t, B a b → t < 3 → oh_Bh B (xf (a * 3 + t)) (yf (b * 3 + t))) (hs : ∀ a, a < 24 → xs a → ∃ b, B a b ∧ ys b) : ∀ n a, oh_P xs xf n a → ∃ b, B a b ∧ oh_P ys yf n b := by
  intro n
  induction n with
  | zero =>
    intro a h
    obtain ⟨b, hB, hy⟩ := hs a h.1 h.2
    exact ⟨b, hB, (hb a b hB).2, hy⟩
  | succ n ih =>
    intro a h
    obtain ⟨ha, i, t, hi, ht, hp, e⟩ := h
    obtain ⟨b, hB, hq⟩ := ih i hp
    rcases he i b t hB ht with ⟨e1, _⟩ | ⟨a', b', e1, e2, hB'⟩
    · exact absurd (e.symm.trans e1) (oh_m1 (by omega))
    · have h1 := hb a' b' hB'
      have e3 : a = a' := oh_inj (e.symm.trans e1) (by omega) (by omega)
      rw [e3]
      exact ⟨b', hB', oh_P_e hq (hb i b hB).2 ht h1.2 e2⟩
theorem oh_Bh_flip {B : Nat → Nat → Prop} {x y : Int32} (h : oh_Bh B x y) : oh_Bh (fun b a => B a b) y x := by
  rcases h with ⟨e1, e2⟩ | ⟨a, b, e1, e2, hB⟩
  · exact Or.inl ⟨e2, e1⟩
  · exact Or.inr ⟨b, a, e2, e1, hB⟩
section
variable {B : Nat → Nat → Prop} {xt xp xf yp yf : Nat → Int32} {xs ys : Nat → Prop}
theorem oh_fwd (h : oh_Bi B xt xp xf yp yf) (hs : oh_Sr B xs ys) : ∀ n a, oh_P xs xf n a → ∃ b, B a b ∧ oh_P ys yf n b :=
  oh_fw (fun a b hB => ⟨(h.1 a b hB).1, (h.1 a b hB).2.1⟩) h.2.1 hs.1
theorem oh_bwd (h : oh_Bi B xt xp xf yp yf) (hs : oh_Sr B xs ys) : ∀ n b, oh_P ys yf n b → ∃ a, B a b ∧ oh_P xs xf n a :=
  oh_fw (B := fun b a => B a b) (fun b a hB => ⟨(h.1 a b hB).2.1, (h.1 a b hB).1⟩) (fun b a t hB ht => oh_Bh_flip (h.2.1 a b t hB ht)) hs.2
theorem oh_iff (h : oh_Bi B xt xp xf yp yf) (hs : oh_Sr B xs ys) {a b : Nat} (hB : B a b) (n : Nat) : oh_P xs xf n a ↔ oh_P ys yf n b := by
  constructor
  · intro h1
    obtain ⟨b', hB', h2⟩ := oh_fwd h hs n a h1
    rw [h.2.2.1 a b b' hB hB']
    exact h2
  · intro h1
    obtain ⟨a', hB', h2⟩ := oh_bwd h hs n b h1
    rw [h.2.2.2 a a' b hB hB']
    exact h2
end
theorem oh_join {PX PY : Nat → Nat → Prop} {c : Nat} {s d w : Nat → Int32} {a b : Nat} (hX : oh_Xd PX c s d) (hY : oh_Yd PY w) (h : ∀ n, PX n a ↔ PY n b) (ha : a < 24) (hb : b < 24) : (d a = -1 ∧ w b = nI 1000 ∧ ∀ n, ¬ PX n a) ∨ ∃ n, n < 24 ∧ d a = nI n ∧ w b = nI n ∧ PX n a := by
  obtain ⟨sg, dl, hC, hm⟩ := hX
  obtain ⟨om, h1, h2⟩ := hY
  obtain ⟨ew, hle, hp⟩ := h1 b hb
  have h24 := oh_C_24 hC
  have hdl := oh_C_dl hC ha
  have ed := hC.1 a ha
  by_cases e : dl a = 0
  · have hn : ∀ n, ¬ PX n a := fun n hn => (hm n a hn).1 e
    refine Or.inl ⟨by rw [ed, e]; rfl, ?_, hn⟩
    by_cases h3 : om b < 1000
    · exact absurd ((h _).mpr (hp h3)) (hn _)
    · rw [ew, show om b = 1000 by omega]
  · obtain ⟨n, en⟩ : ∃ n, dl a = n + 1 := ⟨dl a - 1, by omega⟩
    have hpx := hC.2.1 a n ha en
    have h3 := h2 n b (by omega) ((h n).mp hpx)
    have h4 := (hm _ a ((h _).mpr (hp (by omega)))).2
    have e5 : om b = n := by omega
    refine Or.inr ⟨n, by omega, ?_, ?_, hpx⟩
    · rw [ed, en]; rfl
    · rw [ew, e5]
theorem oh_Xd_r {P : Nat → Nat → Prop} {c : Nat} {s d : Nat → Int32} (hX : oh_Xd P c s d) {a : Nat} (ha : a < 24) (hd : d a ≠ -1) : ∃ n, P n a := by
  obtain ⟨sg, dl, hC, _⟩ := hX
  have ed := hC.1 a ha
  cases e : dl a with
  | zero => exact absurd (by rw [ed, e]; rfl) hd
  | succ n => exact ⟨n, hC.2.1 a n ha e⟩
theorem oh_Xd_n {P : Nat → Nat → Prop} {c : Nat} {s d : Nat → Int32} (hX : oh_Xd P c s d) {a n : Nat} (ha : a < 24) (hp : P n a) : d a ≠ -1 := by
  obtain ⟨sg, dl, hC, hm⟩ := hX
  have h24 := oh_C_24 hC
  have hdl := oh_C_dl hC ha
  rw [hC.1 a ha]
  intro e
  exact (hm n a hp).1 ((oh_xd_m1 (by omega)).mp e)
theorem oh_lt1000 {n : Nat} (h : n ≤ 1000) : nI n < 1000 ↔ n < 1000 := by
  rw [← oh_1000]
  exact nI_ltI (by omega) (by omega)
theorem oh_sums {B : Nat → Nat → Prop} {xt xp xf yp yf : Nat → Int32} {xs ys : Nat → Prop} {c : Nat} {s d w wx wy : Nat → Int32} (h : oh_Bi B xt xp xf yp yf) (hs : oh_Sr B xs ys) (hX : oh_Xd (oh_P xs xf) c s d) (hY : oh_Yd (oh_P ys yf) w) (hw : ∀ a b, B a b → wx a = wy b) : oh_S (fun a => decide (d a ≠ -1)) wx 24 = oh_S (fun b => decide (w b < 1000)) wy 24 := by
  refine oh_S_bij h.2.2.1 h.2.2.2 hw 24 _ _ (fun a ha hp => ?_) (fun b hb hq => ?_)
  · have hd : d a ≠ -1 := of_decide_eq_true hp
    obtain ⟨n, hn⟩ := oh_Xd_r hX ha hd
    obtain ⟨b, hB, _⟩ := oh_fwd h hs n a hn
    have hb := (h.1 a b hB).2.1
    refine ⟨b, hb, hB, decide_eq_true ?_⟩
    rcases oh_join hX hY (oh_iff h hs hB) ha hb with ⟨e, _⟩ | ⟨m, hm, _, e, _⟩
    · exact absurd e hd
    · rw [e]
      exact (oh_lt1000 (by omega)).mpr (by omega)
  · have hd : w b < 1000 := of_decide_eq_true hq
    obtain ⟨m, hm, e, hp⟩ := oh_Yd_v hY hb
    rw [e] at hd
    have h2 := hp ((oh_lt1000 hm).mp hd)
    obtain ⟨a, hB, hpx⟩ := oh_bwd h hs m b h2
    have ha := (h.1 a b hB).1
    exact ⟨a, ha, hB, decide_eq_true (oh_Xd_n hX ha hpx)⟩
theorem oh_Xd_c {P : Nat → Nat → Prop} {c : Nat} {s d : Nat → Int32} (hX : oh_Xd P c s d) : c = oh_cnt (fun a => decide (d a ≠ -1)) 24 := by
  obtain ⟨sg, dl, hC, hm⟩ := hX
  have h24 := oh_C_24 hC
  refine hC.2.2.2.2.2.trans (oh_cnt_congr 24 (fun i hi => ?_))
  have hdl := oh_C_dl hC hi
  have ed := hC.1 i hi
  refine decide_eq_decide.mpr ?_
  rw [ed]
  exact not_congr (oh_xd_m1 (by omega)).symm
theorem oh_Xd_1 {P : Nat → Nat → Prop} {c : Nat} {s d : Nat → Int32} (hX : oh_Xd P c s d) : nI c = oh_S (fun a => decide (d a ≠ -1)) (fun _ => 1) 24 := by
  rw [oh_S_cnt, ← oh_Xd_c hX]
theorem oh_Xd_le {P : Nat → Nat → Prop} {c : Nat} {s d : Nat → Int32} (hX : oh_Xd P c s d) : c ≤ 24 := by
  obtain ⟨sg, dl, hC, hm⟩ := hX
  exact oh_C_24 hC
theorem oh_Xd_s {P : Nat → Nat → Prop} {c : Nat} {s d : Nat → Int32} (hX : oh_Xd P c s d) {i : Nat} (hi : i < c) : ∃ j, j < 24 ∧ s i = nI j := by
  obtain ⟨sg, dl, hC, hm⟩ := hX
  exact ⟨sg i, (hC.2.2.1 i hi).2.1, (hC.2.2.1 i hi).1⟩
theorem oh_Xd_sum {P : Nat → Nat → Prop} {c : Nat} {s d : Nat → Int32} (hX : oh_Xd P c s d) (wx : Nat → Int32) : oh_S (fun _ => true) (fun i => wx (s i).toNatClampNeg) c = oh_S (fun a => decide (d a ≠ -1)) wx 24 := by
  obtain ⟨sg, dl, hC, hm⟩ := hX
  have h24 := oh_C_24 hC
  refine oh_S_bij (B := fun i j => i < c ∧ j = sg i) (fun a b b' h1 h2 => h1.2.trans h2.2.symm) (fun a a' b h1 h2 => ?_) (fun a b h1 => ?_) c _ _ (fun a ha _ => ?_) (fun b hb hq => ?_)
  · have e : sg a = sg a' := h1.2.symm.trans h2.2
    by_cases hlt : a < a'
    · exact absurd e (hC.2.2.2.2.1 a a' hlt h2.1).1
    · by_cases hgt : a' < a
      · exact absurd e.symm (hC.2.2.2.2.1 a' a hgt h1.1).1
      · omega
  · obtain ⟨e, hlt, _⟩ := hC.2.2.1 a h1.1
    show wx (s a).toNatClampNeg = wx b
    rw [e, nI_clamp (by omega), h1.2]
  · obtain ⟨e, hlt, hpos, _⟩ := hC.2.2.1 a ha
    refine ⟨sg a, hlt, ⟨ha, rfl⟩, decide_eq_true ?_⟩
    have hdl := oh_C_dl hC hlt
    rw [hC.1 _ hlt]
    intro e2
    have := (oh_xd_m1 (by omega)).mp e2
    omega
  · have hd : d b ≠ -1 := of_decide_eq_true hq
    have hne : dl b ≠ 0 := fun e => hd (by rw [hC.1 b hb, e]; rfl)
    obtain ⟨k, hk, ek⟩ := hC.2.2.2.1 b hb hne
    exact ⟨k, hk, ⟨hk, ek.symm⟩, rfl⟩
end
