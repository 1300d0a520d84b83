section
def oh_Rt (B : Nat → Nat → Prop) (xr yr : Nat → Int32) : Prop := ∀ r, r < 8 → oh_Bh B (xr r) (yr r)
/-- the two heaps, seen from the roots, are the same -/
def oh_R (xr xt xp xf yr yf yp : Nat → Int32) : Prop :=
  (∀ k, k < 72 → oh_val (xf k)) ∧ (∀ k, k < 72 → oh_val (yf k)) ∧ ∃ B : Nat → Nat → Prop, oh_Bi B xt xp xf yp yf ∧ oh_Rt B xr yr
def oh_W (ws wz : Int32) : Prop := (∃ z, z < 24 ∧ ws = nI z) ∧ ∃ z, 1 ≤ z ∧ z ≤ 8 ∧ wz = nI z
section
variable {B : Nat → Nat → Prop} {xr xt xp xf yr yf yp : Nat → Int32}
theorem oh_Bh_x {x y : Int32} (h : oh_Bi B xt xp xf yp yf) (hb : oh_Bh B x y) : oh_val x := by
  rcases hb with ⟨e, _⟩ | ⟨a, b, e, _, hB⟩
  · exact Or.inl e
  · exact Or.inr ⟨a, (h.1 a b hB).1, e⟩
theorem oh_Bh_y {x y : Int32} (h : oh_Bi B xt xp xf yp yf) (hb : oh_Bh B x y) : oh_val y := by
  rcases hb with ⟨_, e⟩ | ⟨a, b, _, e, hB⟩
  · exact Or.inl e
  · exact Or.inr ⟨b, (h.1 a b hB).2.1, e⟩
theorem oh_R_x (h : oh_R xr xt xp xf yr yf yp) {r : Nat} (hr : r < 8) : oh_val (xr r) := by
  obtain ⟨_, _, B, hB, hR⟩ := h
  exact oh_Bh_x hB (hR r hr)
theorem oh_R_y (h : oh_R xr xt xp xf yr yf yp) {r : Nat} (hr : r < 8) : oh_val (yr r) := by
  obtain ⟨_, _, B, hB, hR⟩ := h
  exact oh_Bh_y hB (hR r hr)
theorem oh_Rt_u {q : Nat} {x y : Int32} (h : oh_Rt B xr yr) (hx : oh_Bh B x y) : oh_Rt B (upd xr q x) (upd yr q y) := by
  intro r hr
  by_cases e : r = q
  · rw [e, pk_us, pk_us]
    exact hx
  · rw [pk_un e, pk_un e]
    exact h r hr
theorem oh_val_u {f : Nat → Int32} {k : Nat} {x : Int32} (h : ∀ k, k < 72 → oh_val (f k)) (hx : oh_val x) : ∀ j, j < 72 → oh_val (upd f k x j) := by
  intro j hj
  by_cases e : j = k
  · rw [e, pk_us]
    exact hx
  · rw [pk_un e]
    exact h j hj
/-- a root of both, as the calls see it -/
theorem oh_R_cases (h : oh_R xr xt xp xf yr yf yp) {r : Nat} (hr : r < 8) : (xr r = -1 ∧ yr r = -1) ∨ ∃ a b, a < 24 ∧ b < 24 ∧ xr r = nI a ∧ yr r = nI b ∧ xp a = yp b := by
  obtain ⟨_, _, B, hB, hR⟩ := h
  rcases hR r hr with h1 | ⟨a, b, e1, e2, hab⟩
  · exact Or.inl h1
  · have := hB.1 a b hab
    exact Or.inr ⟨a, b, this.1, this.2.1, e1, e2, this.2.2.2⟩
theorem oh_R_eq (h : oh_R xr xt xp xf yr yf yp) {r q : Nat} (hr : r < 8) (hq : q < 8) : xr r = xr q ↔ yr r = yr q := by
  obtain ⟨_, _, B, hB, hR⟩ := h
  rcases hR r hr with ⟨e1, e2⟩ | ⟨a, b, e1, e2, hab⟩
  · rcases hR q hq with ⟨e3, e4⟩ | ⟨a', b', e3, e4, hab'⟩
    · exact ⟨fun _ => e2.trans e4.symm, fun _ => e1.trans e3.symm⟩
    · have := hB.1 a' b' hab'
      exact ⟨fun e => absurd (e3.symm.trans (e.symm.trans e1)) (oh_m1 (by omega)), fun e => absurd (e4.symm.trans (e.symm.trans e2)) (oh_m1 (by omega))⟩
  · have h1 := hB.1 a b hab
    rcases hR q hq with ⟨e3, e4⟩ | ⟨a', b', e3, e4, hab'⟩
    · exact ⟨fun e => absurd (e1.symm.trans (e.trans e3)) (oh_m1 (by omega)), fun e => absurd (e2.symm.trans (e.trans e4)) (oh_m1 (by omega))⟩
    · have h2 := hB.1 a' b' hab'
      constructor
      · intro e
        have e5 : a = a' := oh_inj (e1.symm.trans (e.trans e3)) (by omega) (by omega)
        rw [e5] at hab
        rw [e2, e4, hB.2.2.1 a' b b' hab hab']
      · intro e
        have e5 : b = b' := oh_inj (e2.symm.trans (e.trans e4)) (by omega) (by omega)
        rw [e5] at hab
        rw [e1, e3, hB.2.2.2 a a' b' hab hab']
theorem oh_R_copy (h : oh_R xr xt xp xf yr yf yp) {r q : Nat} (hr : r < 8) : oh_R (upd xr q (xr r)) xt xp xf (upd yr q (yr r)) yf yp := by
  obtain ⟨h1, h2, B, hB, hR⟩ := h
  exact ⟨h1, h2, B, hB, oh_Rt_u hR (hR r hr)⟩
theorem oh_R_drop (h : oh_R xr xt xp xf yr yf yp) {q : Nat} : oh_R (upd xr q (-1)) xt xp xf (upd yr q (-1)) yf yp := by
  obtain ⟨h1, h2, B, hB, hR⟩ := h
  exact ⟨h1, h2, B, hB, oh_Rt_u hR (Or.inl ⟨rfl, rfl⟩)⟩
theorem oh_R_load (h : oh_R xr xt xp xf yr yf yp) {r q t a b : Nat} (hr : r < 8) (ht : t < 3) (ha : a < 24) (hb : b < 24) (e1 : xr r = nI a) (e2 : yr r = nI b) : oh_R (upd xr q (xf (a * 3 + t))) xt xp xf (upd yr q (yf (b * 3 + t))) yf yp := by
  obtain ⟨h1, h2, B, hB, hR⟩ := h
  refine ⟨h1, h2, B, hB, oh_Rt_u hR ?_⟩
  rcases hR r hr with ⟨e3, _⟩ | ⟨a', b', e3, e4, hab⟩
  · exact absurd (e1.symm.trans e3) (oh_m1 (by omega))
  · have h3 := hB.1 a' b' hab
    have e5 : a = a' := oh_inj (e1.symm.trans e3) (by omega) (by omega)
    have e6 : b = b' := oh_inj (e2.symm.trans e4) (by omega) (by omega)
    rw [e5, e6]
    exact hB.2.1 a' b' t hab ht
theorem oh_R_store (h : oh_R xr xt xp xf yr yf yp) {r q t a b : Nat} (hr : r < 8) (hq : q < 8) (ht : t < 3) (ha : a < 24) (hb : b < 24) (e1 : xr r = nI a) (e2 : yr r = nI b) : oh_R xr xt xp (upd xf (a * 3 + t) (xr q)) yr (upd yf (b * 3 + t) (yr q)) yp := by
  obtain ⟨h1, h2, B, hB, hR⟩ := h
  refine ⟨oh_val_u h1 (oh_Bh_x hB (hR q hq)), oh_val_u h2 (oh_Bh_y hB (hR q hq)), B, ⟨hB.1, fun a' b' t' hab' ht' => ?_, hB.2.2.1, hB.2.2.2⟩, hR⟩
  have hab : B a b := by
    rcases hR r hr with ⟨e3, _⟩ | ⟨a', b', e3, e4, hab⟩
    · exact absurd (e1.symm.trans e3) (oh_m1 (by omega))
    · have h3 := hB.1 a' b' hab
      have e5 : a = a' := oh_inj (e1.symm.trans e3) (by omega) (by omega)
      have e6 : b = b' := oh_inj (e2.symm.trans e4) (by omega) (by omega)
      rw [e5, e6]
      exact hab
  by_cases ea : a' = a
  · rw [ea] at hab'
    have eb : b' = b := hB.2.2.1 a b' b hab' hab
    rw [ea, eb]
    by_cases et : t' = t
    · rw [et, pk_us, pk_us]
      exact hR q hq
    · rw [pk_un (show a * 3 + t' ≠ a * 3 + t by omega), pk_un (show b * 3 + t' ≠ b * 3 + t by omega)]
      exact hB.2.1 a b t' hab ht'
  · have eb : b' ≠ b := by
      intro e
      rw [e] at hab'
      exact ea (hB.2.2.2 a' a b hab' hab)
    rw [pk_un (show a' * 3 + t' ≠ a * 3 + t by omega), pk_un (show b' * 3 + t' ≠ b * 3 + t by omega)]
    exact hB.2.1 a' b' t' hab' ht'
theorem oh_R_pay (h : oh_R xr xt xp xf yr yf yp) {r a b : Nat} {v : Int32} (hr : r < 8) (ha : a < 24) (hb : b < 24) (e1 : xr r = nI a) (e2 : yr r = nI b) : oh_R xr xt (upd xp a v) xf yr yf (upd yp b v) := by
  obtain ⟨h1, h2, B, hB, hR⟩ := h
  refine ⟨h1, h2, B, ⟨fun a' b' hab' => ?_, hB.2⟩, hR⟩
  have hab : B a b := by
    rcases hR r hr with ⟨e3, _⟩ | ⟨a', b', e3, e4, hab⟩
    · exact absurd (e1.symm.trans e3) (oh_m1 (by omega))
    · have h3 := hB.1 a' b' hab
      have e5 : a = a' := oh_inj (e1.symm.trans e3) (by omega) (by omega)
      have e6 : b = b' := oh_inj (e2.symm.trans e4) (by omega) (by omega)
      rw [e5, e6]
      exact hab
  have h3 := hB.1 a' b' hab'
  refine ⟨h3.1, h3.2.1, h3.2.2.1, ?_⟩
  by_cases ea : a' = a
  · rw [ea] at hab'
    have eb : b' = b := hB.2.2.1 a b' b hab' hab
    rw [ea, eb, pk_us, pk_us]
  · have eb : b' ≠ b := by
      intro e
      rw [e] at hab'
      exact ea (hB.2.2.2 a' a b hab' hab)
    rw [pk_un ea, pk_un eb]
    exact h3.2.2.2
/-! sources -/
theorem oh_Sr_all (hB : oh_Bi B xt xp xf yp yf) (hR : oh_Rt B xr yr) {z : Int32} (hz : z < 0) : oh_Sr B (oh_src xr 8) (oh_ysrc yr z) := by
  refine ⟨fun a ha hs => ?_, fun b hb hs => ?_⟩
  · obtain ⟨q, hq, e⟩ := hs
    rcases hR q hq with ⟨e1, _⟩ | ⟨a', b', e1, e2, hab⟩
    · exact absurd (e.symm.trans e1) (oh_m1 (by omega))
    · have h3 := hB.1 a' b' hab
      have e5 : a = a' := oh_inj (e.symm.trans e1) (by omega) (by omega)
      rw [e5]
      exact ⟨b', hab, q, hq, Or.inl hz, e2⟩
  · obtain ⟨q, hq, _, e⟩ := hs
    rcases hR q hq with ⟨_, e1⟩ | ⟨a', b', e1, e2, hab⟩
    · exact absurd (e.symm.trans e1) (oh_m1 (by omega))
    · have h3 := hB.1 a' b' hab
      have e5 : b = b' := oh_inj (e.symm.trans e2) (by omega) (by omega)
      rw [e5]
      exact ⟨a', hab, q, hq, e1⟩
theorem oh_Sr_one (hB : oh_Bi B xt xp xf yp yf) (hR : oh_Rt B xr yr) {r : Nat} (hr : r < 8) : oh_Sr B (oh_src (fun _ => xr r) 1) (oh_ysrc yr (nI r)) := by
  refine ⟨fun a ha hs => ?_, fun b hb hs => ?_⟩
  · obtain ⟨q, hq, e⟩ := hs
    rcases hR r hr with ⟨e1, _⟩ | ⟨a', b', e1, e2, hab⟩
    · exact absurd (e.symm.trans e1) (oh_m1 (by omega))
    · have h3 := hB.1 a' b' hab
      have e5 : a = a' := oh_inj (e.symm.trans e1) (by omega) (by omega)
      rw [e5]
      exact ⟨b', hab, r, hr, Or.inr rfl, e2⟩
  · obtain ⟨q, hq, h0, e⟩ := hs
    have eq : r = q := by
      rcases h0 with h0 | h0
      · exact absurd h0 (nI_pos (by omega))
      · exact oh_inj h0 (by omega) (by omega)
    rw [← eq] at e
    rcases hR r hr with ⟨_, e1⟩ | ⟨a', b', e1, e2, hab⟩
    · exact absurd (e.symm.trans e1) (oh_m1 (by omega))
    · have h3 := hB.1 a' b' hab
      have e5 : b = b' := oh_inj (e.symm.trans e2) (by omega) (by omega)
      rw [e5]
      exact ⟨a', hab, 0, by omega, e1⟩
/-! cleaning, and a new object -/
theorem oh_R_clean {xt' : Nat → Int32} (h : oh_R xr xt xp xf yr yf yp) (ht : ∀ n a, oh_P (oh_src xr 8) xf n a → xt a ≠ 0 → xt' a ≠ 0) : (∀ k, k < 72 → oh_val (xf k)) ∧ (∀ k, k < 72 → oh_val (yf k)) ∧ ∃ B' : Nat → Nat → Prop, oh_Bi B' xt' xp xf yp yf ∧ oh_Rt B' xr yr ∧ ∀ a b, B' a b → ∃ n, oh_P (oh_src xr 8) xf n a ∧ oh_P (oh_ysrc yr (-1)) yf n b := by
  obtain ⟨h1, h2, B, hB, hR⟩ := h
  have hS := oh_Sr_all hB hR oh_neg1
  refine ⟨h1, h2, fun a b => B a b ∧ ∃ n, oh_P (oh_src xr 8) xf n a, ⟨fun a b hab => ?_, fun a b t hab ht3 => ?_, fun a b b' hab hab' => hB.2.2.1 a b b' hab.1 hab'.1, fun a a' b hab hab' => hB.2.2.2 a a' b hab.1 hab'.1⟩, fun r hr => ?_, fun a b hab => ?_⟩
  · obtain ⟨hab, n, hn⟩ := hab
    have h3 := hB.1 a b hab
    exact ⟨h3.1, h3.2.1, ht n a hn h3.2.2.1, h3.2.2.2⟩
  · obtain ⟨hab, n, hn⟩ := hab
    have h3 := hB.1 a b hab
    rcases hB.2.1 a b t hab ht3 with h4 | ⟨a', b', e1, e2, hab'⟩
    · exact Or.inl h4
    · exact Or.inr ⟨a', b', e1, e2, hab', n + 1, oh_P_e hn h3.1 ht3 (hB.1 a' b' hab').1 e1⟩
  · rcases hR r hr with h4 | ⟨a', b', e1, e2, hab'⟩
    · exact Or.inl h4
    · exact Or.inr ⟨a', b', e1, e2, hab', 0, (hB.1 a' b' hab').1, r, hr, e1⟩
  · obtain ⟨hab, n, hn⟩ := hab
    exact ⟨n, hn, (oh_iff hB hS hab n).mp hn⟩
theorem oh_R_cleaned {xt' : Nat → Int32} (h : oh_R xr xt xp xf yr yf yp) (ht : ∀ n a, oh_P (oh_src xr 8) xf n a → xt a ≠ 0 → xt' a ≠ 0) : oh_R xr xt' xp xf yr yf yp := by
  obtain ⟨h1, h2, B, hB, hR, _⟩ := oh_R_clean h ht
  exact ⟨h1, h2, B, hB, hR⟩
theorem oh_R_new {xt' xf' yf' : Nat → Int32} {s p r : Nat} {v o : Int32} (h : oh_R xr xt xp xf yr yf yp) (ht : ∀ n a, oh_P (oh_src xr 8) xf n a → xt a ≠ 0 → xt' a ≠ 0) (hs : s < 24) (hp : p < 24) (hs0 : xt' s = 0) (hp0 : ∀ n, ¬ oh_P (oh_ysrc yr (-1)) yf n p) (ho : o ≠ 0)
    (hxf : ∀ k, k < 72 → xf' k = if k / 3 = s then -1 else xf k) (hyf : ∀ k, k < 72 → yf' k = if k / 3 = p then -1 else yf k) : oh_R (upd xr r (nI s)) (upd xt' s o) (upd xp s v) xf' (upd yr r (nI p)) yf' (upd yp p v) := by
  obtain ⟨h1, h2, B, hB, hR, hrc⟩ := oh_R_clean h ht
  have hns : ∀ a b, B a b → a ≠ s := fun a b hab e => by
    have h3 := (hB.1 a b hab).2.2.1
    rw [e] at h3
    exact h3 hs0
  have hnp : ∀ a b, B a b → b ≠ p := fun a b hab e => by
    obtain ⟨n, _, hn⟩ := hrc a b hab
    rw [e] at hn
    exact hp0 n hn
  have up : ∀ x y, oh_Bh B x y → oh_Bh (fun a b => B a b ∨ (a = s ∧ b = p)) x y := fun x y hxy => by
    rcases hxy with h4 | ⟨a', b', e1, e2, hab'⟩
    · exact Or.inl h4
    · exact Or.inr ⟨a', b', e1, e2, Or.inl hab'⟩
  refine ⟨fun k hk => ?_, fun k hk => ?_, fun a b => B a b ∨ (a = s ∧ b = p), ⟨fun a b hab => ?_, fun a b t hab ht3 => ?_, fun a b b' hab hab' => ?_, fun a a' b hab hab' => ?_⟩, fun q hq => ?_⟩
  · rw [hxf k hk]
    split
    · exact Or.inl rfl
    · exact h1 k hk
  · rw [hyf k hk]
    split
    · exact Or.inl rfl
    · exact h2 k hk
  · rcases hab with hab | ⟨ea, eb⟩
    · have h3 := hB.1 a b hab
      rw [pk_un (hns a b hab), pk_un (hns a b hab), pk_un (hnp a b hab)]
      exact h3
    · rw [ea, eb, pk_us, pk_us, pk_us]
      exact ⟨hs, hp, ho, rfl⟩
  · rcases hab with hab | ⟨ea, eb⟩
    · have h3 := hB.1 a b hab
      have h4 := hns a b hab
      have h5 := hnp a b hab
      rw [hxf _ (by omega), hyf _ (by omega), if_neg (by omega), if_neg (by omega)]
      exact up _ _ (hB.2.1 a b t hab ht3)
    · rw [hxf _ (by omega), hyf _ (by omega), if_pos (by omega), if_pos (by omega)]
      exact Or.inl ⟨rfl, rfl⟩
  · rcases hab with hab | ⟨ea, eb⟩ <;> rcases hab' with hab' | ⟨ea', eb'⟩
    · exact hB.2.2.1 a b b' hab hab'
    · exact absurd ea' (hns a b hab)
    · exact absurd ea (hns a b' hab')
    · rw [eb, eb']
  · rcases hab with hab | ⟨ea, eb⟩ <;> rcases hab' with hab' | ⟨ea', eb'⟩
    · exact hB.2.2.2 a a' b hab hab'
    · exact absurd eb' (hnp a b hab)
    · exact absurd eb (hnp a' b hab')
    · rw [ea, ea']
  · by_cases e : q = r
    · rw [e, pk_us, pk_us]
      exact Or.inr ⟨s, p, rfl, rfl, Or.inr ⟨rfl, rfl⟩⟩
    · rw [pk_un e, pk_un e]
      exact up _ _ (hR q hq)
/-! a whole look at both heaps: from all roots, or from one -/
theorem oh_R_sums (h : oh_R xr xt xp xf yr yf yp) {c : Nat} {s d w : Nat → Int32} {z : Int32} (hz : z < 0) (hX : oh_Xd (oh_P (oh_src xr 8) xf) c s d) (hY : oh_Yd (oh_P (oh_ysrc yr z) yf) w) : nI c = oh_S (fun b => decide (w b < 1000)) (fun _ => 1) 24 ∧ oh_S (fun _ => true) (fun i => xp (s i).toNatClampNeg) c = oh_S (fun b => decide (w b < 1000)) yp 24 := by
  obtain ⟨_, _, B, hB, hR⟩ := h
  have hS := oh_Sr_all hB hR hz
  exact ⟨(oh_Xd_1 hX).trans (oh_sums hB hS hX hY (fun _ _ _ => rfl)), (oh_Xd_sum hX xp).trans (oh_sums hB hS hX hY (fun a b hab => (hB.1 a b hab).2.2.2))⟩
theorem oh_R_one (h : oh_R xr xt xp xf yr yf yp) {r c : Nat} {s d w : Nat → Int32} (hr : r < 8) (hX : oh_Xd (oh_P (oh_src (fun _ => xr r) 1) xf) c s d) (hY : oh_Yd (oh_P (oh_ysrc yr (nI r)) yf) w) : nI c = oh_S (fun b => decide (w b < 1000)) (fun _ => 1) 24 := by
  obtain ⟨_, _, B, hB, hR⟩ := h
  have hS := oh_Sr_one hB hR hr
  exact (oh_Xd_1 hX).trans (oh_sums hB hS hX hY (fun _ _ _ => rfl))
theorem oh_R_dist (h : oh_R xr xt xp xf yr yf yp) {r q c a b : Nat} {s d w : Nat → Int32} (hr : r < 8) (hq : q < 8) (hX : oh_Xd (oh_P (oh_src (fun _ => xr r) 1) xf) c s d) (hY : oh_Yd (oh_P (oh_ysrc yr (nI r)) yf) w) (ha : a < 24) (hb : b < 24) (e1 : xr q = nI a) (e2 : yr q = nI b) : (d a = -1 ∧ w b = nI 1000) ∨ ∃ n, n < 24 ∧ d a = nI n ∧ w b = nI n := by
  obtain ⟨_, _, B, hB, hR⟩ := h
  have hS := oh_Sr_one hB hR hr
  have hab : B a b := by
    rcases hR q hq with ⟨e3, _⟩ | ⟨a', b', e3, e4, hab⟩
    · exact absurd (e1.symm.trans e3) (oh_m1 (by omega))
    · have h3 := hB.1 a' b' hab
      have e5 : a = a' := oh_inj (e1.symm.trans e3) (by omega) (by omega)
      have e6 : b = b' := oh_inj (e2.symm.trans e4) (by omega) (by omega)
      rw [e5, e6]
      exact hab
  rcases oh_join hX hY (oh_iff hB hS hab) ha hb with ⟨e3, e4, _⟩ | ⟨n, hn, e3, e4, _⟩
  · exact Or.inl ⟨e3, e4⟩
  · exact Or.inr ⟨n, hn, e3, e4⟩
/-- full or not -/
theorem oh_R_full (h : oh_R xr xt xp xf yr yf yp) {c : Nat} {s d w : Nat → Int32} {z : Int32} (hz : z < 0) (hX : oh_Xd (oh_P (oh_src xr 8) xf) c s d) (hY : oh_Yd (oh_P (oh_ysrc yr z) yf) w) : oh_S (fun b => decide (w b < 1000)) (fun _ => 1) 24 = 24 ↔ ∀ a, a < 24 → d a ≠ -1 := by
  have h1 := (oh_R_sums h hz hX hY).1
  have h2 := oh_Xd_c hX
  have h3 := oh_Xd_le hX
  rw [← h1]
  constructor
  · intro e a ha
    rw [← oh_24] at e
    have e2 : c = 24 := oh_inj e (by omega) (by omega)
    exact of_decide_eq_true (oh_cnt_full (p := fun a => decide (d a ≠ -1)) (h2.symm.trans e2) a ha)
  · intro hall
    have e2 := oh_cnt_all (p := fun a => decide (d a ≠ -1)) 24 (fun i hi => decide_eq_true (hall i hi))
    rw [h2, e2]
    exact oh_24
theorem oh_R_taken (h : oh_R xr xt xp xf yr yf yp) {n a : Nat} (hp : oh_P (oh_src xr 8) xf n a) : xt a ≠ 0 := by
  obtain ⟨_, _, B, hB, hR⟩ := h
  obtain ⟨b, hab, _⟩ := oh_fwd hB (oh_Sr_all hB hR oh_neg1) n a hp
  exact (hB.1 a b hab).2.2.1
end
end
