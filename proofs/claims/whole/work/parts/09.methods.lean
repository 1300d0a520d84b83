section
/-! small calls of both sides -/
section
variable {wz ws sc : Int32} {xr xt xp xf sn ds : Nat → Int32}
theorem oh_cls3 (r : Int32) : (r < 0 ∨ 3 ≤ r) ∨ ∃ j : Nat, j < 3 ∧ r = nI j := by
  rcases oh_root r 3 (by omega) with h | ⟨_, h, _⟩ | h
  · exact Or.inl (Or.inl h)
  · rw [oh_3] at h
    exact Or.inl (Or.inr h)
  · exact Or.inr h
theorem ox_clamp {post : Int32 → Prop} (p : Int32) (h : ∀ k, 1 ≤ k → k ≤ 8 → post (nI k)) : wpX_clampStep post p := by
  refine br_c (fun h1 => br_c (fun h8 => ?_) (fun _ => h 8 (by omega) (by omega))) (fun _ => h 1 (by omega) (by omega))
  have h0 : ¬ p < 0 := by
    intro hlt
    exact absurd (Int32.le_trans h1 (Int32.le_of_lt hlt)) (by decide)
  obtain ⟨j, hj, e⟩ := nI_of h0
  rw [e] at h1 h8
  rw [e]
  exact h j ((nI_leI (a := 1) (by omega) hj).mp h1) ((nI_leI (b := 8) hj (by omega)).mp h8)
theorem ox_in72 {post : SX → Prop} (h : ∀ xr', (∀ r, r < 8 → xr' r = -1) → post (wz, ws, sc, xr', xt, xp, xf, sn, ds)) : ∀ m i xr, i + m = 8 → (∀ j, j < i → xr j = -1) → wX_init_72 post wz ws sc (m + 1) (nI i) xr xt xp xf sn ds := by
  intro m
  induction m with
  | zero =>
    intro i xr hi hall
    exact pk_le 8 i (fun _ => h xr (fun j hj => hall j (by omega))) (fun h => absurd h (by omega))
  | succ m ih =>
    intro i xr hi hall
    refine pk_le 8 i (fun _ => h xr (fun j hj => hall j (by omega))) (fun hlt => ⟨pk_in i 8 hlt, ?_⟩)
    intro a ea x ex
    rw [ea, ex, nI_1, nI_clamp (show i < 2 ^ 31 by omega)]
    refine ih (i + 1) _ (by omega) (fun j hj => ?_)
    by_cases ej : j = i
    · rw [ej, pk_us]
    · rw [pk_un ej]
      exact hall j (by omega)
theorem ox_obj_f {post : Int32 → Prop} {r : Int32} (hr : r < 0 ∨ 8 ≤ r) (h : post (-1)) : wpX_objectOf post (wz, ws, sc, xr, xt, xp, xf, sn, ds) r := by
  unfold wpX_objectOf
  dsimp only
  exact ox_isRoot_f hr (br_t rfl h)
theorem ox_obj {post : Int32 → Prop} {a : Nat} (ha : a < 8) (h : post (xr a)) : wpX_objectOf post (wz, ws, sc, xr, xt, xp, xf, sn, ds) (nI a) := by
  unfold wpX_objectOf
  dsimp only
  rw [nI_clamp (show a < 2 ^ 31 by omega)]
  exact ox_isRoot_t ha (br_f (by decide) ⟨pk_in a 8 ha, h⟩)
theorem ox_ref1 {post : Int32 → Prop} {r f o : Int32} (hb : r < 0 ∨ 8 ≤ r) (h : post (-1)) : wpX_fieldRefusal post (wz, ws, sc, xr, xt, xp, xf, sn, ds) r f o := by
  unfold wpX_fieldRefusal
  dsimp only
  exact ox_isRoot_f hb (br_t rfl h)
theorem ox_ref2 {post : Int32 → Prop} {a : Nat} {f o : Int32} (ha : a < 8) (hb : o < 0 ∨ 8 ≤ o) (h : post (-1)) : wpX_fieldRefusal post (wz, ws, sc, xr, xt, xp, xf, sn, ds) (nI a) f o := by
  unfold wpX_fieldRefusal
  dsimp only
  exact ox_isRoot_t ha (br_f (by decide) (ox_isRoot_f hb (br_t rfl h)))
theorem ox_ref3 {post : Int32 → Prop} {a b : Nat} {f : Int32} (ha : a < 8) (hb : b < 8) (hf : f < 0 ∨ 3 ≤ f) (h : post (-2)) : wpX_fieldRefusal post (wz, ws, sc, xr, xt, xp, xf, sn, ds) (nI a) f (nI b) := by
  unfold wpX_fieldRefusal
  dsimp only
  refine ox_isRoot_t ha (br_f (by decide) (ox_isRoot_t hb (br_f (by decide) ?_)))
  rcases hf with hf | hf
  · exact br_t hf h
  · exact br_c (fun _ => h) (fun _ => br_f (Int32.not_lt.mpr hf) h)
theorem ox_ref4 {post : Int32 → Prop} {a b t : Nat} (ha : a < 8) (hb : b < 8) (ht : t < 3) (e : xr a = -1) (h : post (-3)) : wpX_fieldRefusal post (wz, ws, sc, xr, xt, xp, xf, sn, ds) (nI a) (nI t) (nI b) := by
  unfold wpX_fieldRefusal
  dsimp only
  rw [nI_clamp (show a < 2 ^ 31 by omega)]
  exact ox_isRoot_t ha (br_f (by decide) (ox_isRoot_t hb (br_f (by decide) (br_f (nI_pos (by omega)) (pk_lt t 3 (fun _ => ⟨pk_in a 8 ha, br_t e h⟩) (fun z => absurd z (by omega)))))))
theorem ox_ref5 {post : Int32 → Prop} {a b t q : Nat} (ha : a < 8) (hb : b < 8) (ht : t < 3) (hq : q < 24) (e : xr a = nI q) (h : post 0) : wpX_fieldRefusal post (wz, ws, sc, xr, xt, xp, xf, sn, ds) (nI a) (nI t) (nI b) := by
  unfold wpX_fieldRefusal
  dsimp only
  rw [nI_clamp (show a < 2 ^ 31 by omega)]
  exact ox_isRoot_t ha (br_f (by decide) (ox_isRoot_t hb (br_f (by decide) (br_f (nI_pos (by omega)) (pk_lt t 3 (fun _ => ⟨pk_in a 8 ha, br_f (by rw [e]; exact oh_m1 (by omega)) h⟩) (fun z => absurd z (by omega)))))))
theorem ox_mk28 {post : Int32 → SX → Prop} {a s : Nat} {v : Int32} (ha : a < 8) (hs : s < 24) (h : ∀ xf', (∀ k, k < 72 → xf' k = if k / 3 = s then -1 else xf k) → post 0 (wz, ws, sc, upd xr a (nI s), upd xt s 1, upd xp s v, xf', sn, ds)) : wX_make_28 post (nI a) v (nI s) wz ws sc xr xt xp xf sn ds := by
  unfold wX_make_28
  refine br_f (oh_m1 (by omega)) (ox_fill hs (fun xf' hf => ?_))
  refine ⟨pk_in a 8 ha, ?_⟩
  rw [nI_clamp (show a < 2 ^ 31 by omega)]
  exact nm_e (h xf' hf)
/-! a walk from nothing -/
theorem oh_P_no {src : Nat → Prop} {f : Nat → Int32} (h : ∀ j, j < 24 → ¬ src j) : ∀ n j, ¬ oh_P src f n j := by
  intro n
  induction n with
  | zero => exact fun j hj => h j hj.1 hj.2
  | succ n ih =>
    intro j hj
    obtain ⟨_, i, t, _, _, hp, _⟩ := hj
    exact ih i hp
theorem oh_cnt_no {p : Nat → Bool} : ∀ n, (∀ i, i < n → p i = false) → oh_cnt p n = 0 := by
  intro n
  induction n with
  | zero => intro _; rfl
  | succ n ih =>
    intro h
    simp only [oh_cnt]
    rw [ih (fun i hi => h i (by omega)), h n (by omega)]
    simp
theorem oh_Xd_no {f : Nat → Int32} {c : Nat} {s d : Nat → Int32} (hX : oh_Xd (oh_P (oh_src (fun _ => -1) 1) f) c s d) : c = 0 ∧ ∀ j, j < 24 → d j = -1 := by
  have hn := oh_P_no (src := oh_src (fun _ => -1) 1) (f := f) (fun j hj hs => by
    obtain ⟨q, _, e⟩ := hs
    exact oh_m1 (by omega) e.symm)
  have hd : ∀ j, j < 24 → d j = -1 := fun j hj => by
    by_cases e : d j = -1
    · exact e
    · obtain ⟨n, hp⟩ := oh_Xd_r hX hj e
      exact absurd hp (hn n j)
  refine ⟨(oh_Xd_c hX).trans (oh_cnt_no 24 (fun i hi => ?_)), hd⟩
  exact decide_eq_false (fun z => z (hd i hi))
end
section
variable {yr yf yp aw : Nat → Int32}
theorem oy_in38 {post : SY → Prop} (h : ∀ yr', (∀ r, r < 8 → yr' r = -1) → post (yr', yf, yp, aw)) : ∀ m i yr, i + m = 8 → (∀ j, j < i → yr j = -1) → wY_init_38 post (m + 1) (nI i) yr yf yp aw := by
  intro m
  induction m with
  | zero =>
    intro i yr hi hall
    exact pk_le 8 i (fun _ => h yr (fun j hj => hall j (by omega))) (fun h => absurd h (by omega))
  | succ m ih =>
    intro i yr hi hall
    refine pk_le 8 i (fun _ => h yr (fun j hj => hall j (by omega))) (fun hlt => ⟨pk_in i 8 hlt, ?_⟩)
    intro a ea x ex
    rw [ea, ex, nI_1, nI_clamp (show i < 2 ^ 31 by omega)]
    refine ih (i + 1) _ (by omega) (fun j hj => ?_)
    by_cases ej : j = i
    · rw [ej, pk_us]
    · rw [pk_un ej]
      exact hall j (by omega)
theorem oy_obj_f {post : Int32 → Prop} {r : Int32} (hr : r < 0 ∨ 8 ≤ r) (h : post (-1)) : wpY_objectOf post (yr, yf, yp, aw) r := by
  unfold wpY_objectOf
  dsimp only
  exact oy_isRoot_f hr (br_t rfl h)
theorem oy_obj {post : Int32 → Prop} {a : Nat} (ha : a < 8) (h : post (yr a)) : wpY_objectOf post (yr, yf, yp, aw) (nI a) := by
  unfold wpY_objectOf
  dsimp only
  rw [nI_clamp (show a < 2 ^ 31 by omega)]
  exact oy_isRoot_t ha (br_f (by decide) ⟨pk_in a 8 ha, h⟩)
theorem oy_held_f {post : Int32 → Prop} {r : Int32} (hr : r < 0 ∨ 8 ≤ r) (h : post 0) : wpY_held post (yr, yf, yp, aw) r := by
  unfold wpY_held
  dsimp only
  exact oy_obj_f hr (br_t oh_neg1 h)
theorem oy_held_n {post : Int32 → Prop} {a : Nat} (ha : a < 8) (e : yr a = -1) (h : post 0) : wpY_held post (yr, yf, yp, aw) (nI a) := by
  unfold wpY_held
  dsimp only
  refine oy_obj ha ?_
  rw [e]
  exact br_t oh_neg1 h
theorem oy_held_y {post : Int32 → Prop} {a q : Nat} (ha : a < 8) (hq : q < 24) (e : yr a = nI q) (h : post 1) : wpY_held post (yr, yf, yp, aw) (nI a) := by
  unfold wpY_held
  dsimp only
  refine oy_obj ha ?_
  rw [e]
  exact br_f (nI_pos (by omega)) h
theorem oy_ref1 {post : Int32 → Prop} {r f o : Int32} (hb : r < 0 ∨ 8 ≤ r) (h : post (-1)) : wpY_refusal post (yr, yf, yp, aw) r f o := by
  unfold wpY_refusal
  dsimp only
  exact oy_isRoot_f hb (br_t rfl h)
theorem oy_ref2 {post : Int32 → Prop} {a : Nat} {f o : Int32} (ha : a < 8) (hb : o < 0 ∨ 8 ≤ o) (h : post (-1)) : wpY_refusal post (yr, yf, yp, aw) (nI a) f o := by
  unfold wpY_refusal
  dsimp only
  exact oy_isRoot_t ha (br_f (by decide) (oy_isRoot_f hb (br_t rfl h)))
theorem oy_ref3 {post : Int32 → Prop} {a b : Nat} {f : Int32} (ha : a < 8) (hb : b < 8) (hf : f < 0 ∨ 3 ≤ f) (h : post (-2)) : wpY_refusal post (yr, yf, yp, aw) (nI a) f (nI b) := by
  unfold wpY_refusal
  dsimp only
  refine oy_isRoot_t ha (br_f (by decide) (oy_isRoot_t hb (br_f (by decide) ?_)))
  rcases hf with hf | hf
  · exact br_t hf h
  · exact br_c (fun _ => h) (fun _ => br_f (fun z => absurd (Int32.le_trans hf z) (by decide)) h)
theorem oy_ref4 {post : Int32 → Prop} {a b t : Nat} (ha : a < 8) (hb : b < 8) (ht : t < 3) (e : yr a = -1) (h : post (-3)) : wpY_refusal post (yr, yf, yp, aw) (nI a) (nI t) (nI b) := by
  unfold wpY_refusal
  dsimp only
  rw [nI_clamp (show a < 2 ^ 31 by omega)]
  exact oy_isRoot_t ha (br_f (by decide) (oy_isRoot_t hb (br_f (by decide) (br_f (nI_pos (by omega)) (pk_le t 2 (fun _ => ⟨pk_in a 8 ha, br_f (by rw [e]; decide) h⟩) (fun z => absurd z (by omega)))))))
theorem oy_ref5 {post : Int32 → Prop} {a b t q : Nat} (ha : a < 8) (hb : b < 8) (ht : t < 3) (hq : q < 24) (e : yr a = nI q) (h : post 0) : wpY_refusal post (yr, yf, yp, aw) (nI a) (nI t) (nI b) := by
  unfold wpY_refusal
  dsimp only
  rw [nI_clamp (show a < 2 ^ 31 by omega)]
  exact oy_isRoot_t ha (br_f (by decide) (oy_isRoot_t hb (br_f (by decide) (br_f (nI_pos (by omega)) (pk_le t 2 (fun _ => ⟨pk_in a 8 ha, br_t (by rw [e]; exact nI_pos' (by omega)) h⟩) (fun z => absurd z (by omega)))))))
theorem oy_make {post : Int32 → SY → Prop} {a : Nat} {v : Int32} (ha : a < 8) (hyr : ∀ r, r < 8 → oh_val (yr r)) (hv : ∀ k, k < 72 → oh_val (yf k)) (hfull : ∀ w, oh_Yd (oh_P (oh_ysrc yr (-1)) yf) w → oh_S (fun b => decide (w b < 1000)) (fun _ => 1) 24 = 24 → post (-4) (yr, yf, yp, w)) (hok : ∀ w p yf', oh_Yd (oh_P (oh_ysrc yr (-1)) yf) w → oh_S (fun b => decide (w b < 1000)) (fun _ => 1) 24 ≠ 24 → p < 24 → w p = 1000 → (∀ k, k < 72 → yf' k = if k / 3 = p then -1 else yf k) → post 0 (upd yr a (nI p), yf', upd yp p v, w)) : wpY_make post (yr, yf, yp, aw) (nI a) v := by
  unfold wpY_make
  dsimp only
  refine oy_isRoot_t ha (br_f (by decide) (oy_reach hyr hv (fun w hY => ?_)))
  refine br_c (fun e => hfull w hY e) (fun ne => ?_)
  exact ⟨25, oy_ma27 ha (fun hall => ne (oh_far_ex hY hall)) (fun p yf' hp ew hf => hok w p yf' hY ne hp ew hf) 24 0 (-1) (by omega) (Or.inl ⟨rfl, fun q hq => by omega⟩)⟩
end
end
