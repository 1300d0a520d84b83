section
variable {wz ws sc : Int32} {xr xt xp xf sn ds : Nat → Int32}
theorem ox_b0 : vp_nar .boolean 0 = 0 := by first | rfl | decide
theorem ox_b1 : vp_nar .boolean 1 = 1 := by first | rfl | decide
theorem oh_cls (r : Int32) : (r < 0 ∨ 8 ≤ r) ∨ ∃ j : Nat, j < 8 ∧ r = nI j := by
  rcases oh_root r 8 (by omega) with h | ⟨_, h, _⟩ | h
  · exact Or.inl (Or.inl h)
  · rw [oh_8] at h
    exact Or.inl (Or.inr h)
  · exact Or.inr h
theorem ox_isRoot_t {post : Int32 → Prop} {j : Nat} (hj : j < 8) (h : post 1) : wpX_isRoot post (nI j) :=
  br_f (nI_pos (by omega)) (pk_le 8 j (fun h' => absurd h' (by omega)) (fun _ => h))
theorem ox_isRoot_f {post : Int32 → Prop} {r : Int32} (hr : r < 0 ∨ 8 ≤ r) (h : post 0) : wpX_isRoot post r := by
  rcases hr with hr | hr
  · exact br_t hr h
  · exact br_c (fun _ => h) (fun _ => br_t hr h)
/-! freeSlot -/
theorem ox_free2 {post : Int32 → Prop} (hy : ∀ s, s < 24 → xt s = 0 → post (nI s)) (hn : (∀ j, j < 24 → xt j ≠ 0) → post (-1)) : ∀ m i, i + m = 24 → (∀ j, j < i → xt j ≠ 0) → wX_freeSlot_2 post wz ws sc xr xt xp xf sn ds (m + 1) (nI i) := by
  intro m
  induction m with
  | zero =>
    intro i hi hall
    exact pk_le 24 i (fun h => hn (fun j hj => hall j (by omega))) (fun h => absurd h (by omega))
  | succ m ih =>
    intro i hi hall
    refine pk_le 24 i (fun h => hn (fun j hj => hall j (by omega))) (fun h => ⟨pk_in i 24 h, ?_⟩)
    rw [nI_clamp (show i < 2 ^ 31 by omega)]
    refine ⟨fun e => hy i h e, fun e => nm_r (nI_1 i) (ih (i + 1) (by omega) (fun j hj => ?_))⟩
    by_cases ej : j = i
    · rw [ej]
      exact e
    · exact hall j (by omega)
theorem ox_free {post : Int32 → Prop} (hy : ∀ s, s < 24 → xt s = 0 → post (nI s)) (hn : (∀ j, j < 24 → xt j ≠ 0) → post (-1)) : wpX_freeSlot post (wz, ws, sc, xr, xt, xp, xf, sn, ds) :=
  ⟨25, ox_free2 hy hn 24 0 (by omega) (fun j hj => by omega)⟩
/-! forgetWalk -/
theorem ox_forget7 {post : SX → Prop} (h : ∀ d', (∀ j, j < 24 → d' j = -1) → post (wz, ws, sc, xr, xt, xp, xf, sn, d')) : ∀ m i ds, i + m = 24 → (∀ j, j < i → ds j = -1) → wX_forgetWalk_7 post wz ws sc (m + 1) (nI i) xr xt xp xf sn ds := by
  intro m
  induction m with
  | zero =>
    intro i ds hi hall
    exact pk_le 24 i (fun _ => h ds (fun j hj => hall j (by omega))) (fun h => absurd h (by omega))
  | succ m ih =>
    intro i ds hi hall
    refine pk_le 24 i (fun _ => h ds (fun j hj => hall j (by omega))) (fun hlt => ⟨pk_in i 24 hlt, ?_⟩)
    intro a ea x ex
    rw [ea, ex, nI_1, nI_clamp (show i < 2 ^ 31 by omega)]
    refine ih (i + 1) _ (by omega) (fun j hj => ?_)
    by_cases ej : j = i
    · rw [ej, pk_us]
    · rw [pk_un ej]
      exact hall j (by omega)
theorem ox_forget {post : SX → Prop} (h : ∀ d', (∀ j, j < 24 → d' j = -1) → post (wz, ws, 0, xr, xt, xp, xf, sn, d')) : wpX_forgetWalk post (wz, ws, sc, xr, xt, xp, xf, sn, ds) :=
  ⟨25, ox_forget7 h 24 0 ds (by omega) (fun j hj => by omega)⟩
/-! see -/
theorem ox_see {post : SX → Prop} {c n : Nat} {x : Int32} {Q : Nat → (Nat → Int32) → (Nat → Int32) → Prop} (hS : oh_See c sn ds x n Q) (hc : c ≤ 24) (hp : ∀ c' s' d', Q c' s' d' → post (wz, ws, nI c', xr, xt, xp, xf, s', d')) : wpX_see post (wz, ws, nI c, xr, xt, xp, xf, sn, ds) x (nI n) := by
  unfold wpX_see
  dsimp only
  rcases hS with ⟨hx, hQ⟩ | ⟨t, ht, hx, hd, hQ⟩ | ⟨t, ht, hx, hd, hc2, hQ⟩
  · exact br_t hx (hp _ _ _ hQ)
  · rw [hx]
    refine br_f (oh_m1 (by omega)) ⟨pk_in t 24 ht, ?_⟩
    rw [nI_clamp (show t < 2 ^ 31 by omega)]
    exact br_f hd (hp _ _ _ hQ)
  · rw [hx]
    refine br_f (oh_m1 (by omega)) ⟨pk_in t 24 ht, ?_⟩
    rw [nI_clamp (show t < 2 ^ 31 by omega), nI_clamp (show c < 2 ^ 31 by omega)]
    refine br_t hd (pk_lt c 24 (fun _ => ⟨pk_in t 24 ht, ?_⟩) (fun h => absurd h (by omega)))
    intro a6 e6
    refine ⟨pk_in c 24 hc2, ?_⟩
    intro a8 e8 f9 e9
    rw [e6, e8, e9, nI_1]
    exact hp _ _ _ hQ
/-! followReferences -/
theorem ox_fol35 {post : SX → Prop} {J : Int32 → Int32 → Int32 → Int32 → (Nat → Int32) → (Nat → Int32) → (Nat → Int32) → (Nat → Int32) → (Nat → Int32) → (Nat → Int32) → Prop} {src : Nat → Prop} {i ob nx : Nat} (hob : ob < 24) (hv : ∀ k, k < 72 → oh_val (xf k)) (hJ : ∀ c s d, oh_II src xf i ob nx 3 c s d → J (nI (i + 1)) wz ws (nI c) xr xt xp xf s d) : ∀ q t c sn ds, t + q = 3 → oh_II src xf i ob nx t c sn ds → wX_followReferences_35 post J (nI i) (nI ob) (nI nx) (q + 1) (nI t) wz ws (nI c) xr xt xp xf sn ds := by
  intro q
  induction q with
  | zero =>
    intro t c sn ds ht hI
    have e : t = 3 := by omega
    rw [e] at hI
    rw [e]
    exact pk_le 3 3 (fun _ => nm_r (nI_1 i) (hJ _ _ _ hI)) (fun h => absurd h (by omega))
  | succ q ih =>
    intro t c sn ds ht hI
    have hc := oh_II_c hI
    refine pk_le 3 t (fun h => absurd h (by omega)) (fun h => ⟨?_, ?_⟩)
    · rw [oh_ix]
      exact pk_in (ob * 3 + t) 72 (by omega)
    · rw [oh_ix, nI_clamp (show ob * 3 + t < 2 ^ 31 by omega)]
      refine ox_see (oh_II_s hI h (hv _ (by omega))) hc.2 (fun c' s' d' hQ => ?_)
      exact nm_r (nI_1 t) (ih (t + 1) c' s' d' (by omega) hQ)
theorem ox_fol2 {post : SX → Prop} {src : Nat → Prop} (hv : ∀ k, k < 72 → oh_val (xf k)) (hp : ∀ c s d, oh_Xd (oh_P src xf) c s d → post (wz, ws, nI c, xr, xt, xp, xf, s, d)) : ∀ m i c sn ds, i + m = 24 → oh_OI src xf i c sn ds → wX_followReferences_2 post (m + 1) (nI i) wz ws (nI c) xr xt xp xf sn ds := by
  intro m
  induction m with
  | zero =>
    intro i c sn ds hi hO
    have hc := oh_OI_c hO
    have e : i = c := by omega
    rw [e] at hO
    exact pk_le 24 i (fun _ => hp _ _ _ (oh_OI_Xd hO)) (fun h => absurd h (by omega))
  | succ m ih =>
    intro i c sn ds hi hO
    have hc := oh_OI_c hO
    refine pk_le 24 i (fun h => absurd h (by omega)) (fun h => pk_le c i (fun h2 => ?_) (fun h2 => ⟨pk_in i 24 h, ?_⟩))
    · have e : i = c := by omega
      rw [e] at hO
      exact hp _ _ _ (oh_OI_Xd hO)
    · obtain ⟨ob, nx, hob, es, ed, hII⟩ := oh_OI_II hO h2
      rw [nI_clamp (show i < 2 ^ 31 by omega)]
      intro x2 e2
      rw [es] at e2
      rw [e2]
      refine ⟨pk_in ob 24 hob, ?_⟩
      rw [nI_clamp (show ob < 2 ^ 31 by omega)]
      intro x3 e3
      rw [ed] at e3
      rw [e3]
      exact ⟨4, ox_fol35 hob hv (fun c' s' d' hq => ih (i + 1) c' s' d' (by omega) (oh_II_OI hq)) 3 0 c sn ds (by omega) hII⟩
theorem ox_follow {post : SX → Prop} {src : Nat → Prop} {c : Nat} (hv : ∀ k, k < 72 → oh_val (xf k)) (hO : oh_OI src xf 0 c sn ds) (hp : ∀ c s d, oh_Xd (oh_P src xf) c s d → post (wz, ws, nI c, xr, xt, xp, xf, s, d)) : wpX_followReferences post (wz, ws, nI c, xr, xt, xp, xf, sn, ds) :=
  ⟨25, ox_fol2 hv hp 24 0 c sn ds (by omega) hO⟩
/-! the two walks -/
theorem oh_RI_c {P : Nat → Nat → Prop} {r c : Nat} {s d : Nat → Int32} (h : oh_RI P xr r c s d) : c ≤ 24 := by
  obtain ⟨sg, dl, hC, _⟩ := h
  exact oh_C_24 hC
theorem ox_all6 {post : SX → Prop} (hr : ∀ r, r < 8 → oh_val (xr r)) (hv : ∀ k, k < 72 → oh_val (xf k)) (hp : ∀ c s d, oh_Xd (oh_P (oh_src xr 8) xf) c s d → post (wz, ws, nI c, xr, xt, xp, xf, s, d)) : ∀ m r c sn ds, r + m = 8 → oh_RI (oh_P (oh_src xr 8) xf) xr r c sn ds → wX_walkFromAllRoots_6 post (m + 1) (nI r) wz ws (nI c) xr xt xp xf sn ds := by
  intro m
  induction m with
  | zero =>
    intro r c sn ds hi hR
    have e : r = 8 := by omega
    rw [e] at hR
    refine pk_le 8 r (fun _ => ?_) (fun h => absurd h (by omega))
    exact ox_follow hv (oh_RI_OI hR) (fun c' s' d' hX => hp c' s' d' hX)
  | succ m ih =>
    intro r c sn ds hi hR
    refine pk_le 8 r (fun h => absurd h (by omega)) (fun h => ⟨pk_in r 8 h, ?_⟩)
    rw [nI_clamp (show r < 2 ^ 31 by omega)]
    refine ox_see (n := 0) (oh_RI_s hR h (hr r h)) (oh_RI_c hR) (fun c' s' d' hQ => ?_)
    exact nm_r (nI_1 r) (ih (r + 1) c' s' d' (by omega) hQ)
theorem ox_all {post : SX → Prop} (hr : ∀ r, r < 8 → oh_val (xr r)) (hv : ∀ k, k < 72 → oh_val (xf k)) (hp : ∀ c s d, oh_Xd (oh_P (oh_src xr 8) xf) c s d → post (wz, ws, nI c, xr, xt, xp, xf, s, d)) : wpX_walkFromAllRoots post (wz, ws, sc, xr, xt, xp, xf, sn, ds) := by
  unfold wpX_walkFromAllRoots
  dsimp only
  refine ox_forget (fun d' hd => ?_)
  exact ⟨9, ox_all6 hr hv hp 8 0 0 sn d' (by omega) (oh_RI_0 _ _ _ _ hd)⟩
theorem ox_one {post : SX → Prop} {x : Int32} (hx : oh_val x) (hv : ∀ k, k < 72 → oh_val (xf k)) (hp : ∀ c s d, oh_Xd (oh_P (oh_src (fun _ => x) 1) xf) c s d → post (wz, ws, nI c, xr, xt, xp, xf, s, d)) : wpX_walkFrom post (wz, ws, sc, xr, xt, xp, xf, sn, ds) x := by
  unfold wpX_walkFrom
  dsimp only
  refine ox_forget (fun d' hd => ?_)
  refine ox_see (c := 0) (n := 0) (oh_RI_s (xr := fun _ => x) (f := xf) (R := 1) (oh_RI_0 _ _ sn d' hd) (by omega) hx) (by omega) (fun c' s' d'' hQ => ?_)
  exact ox_follow hv (oh_RI_OI hQ) (fun c' s' d' hX => hp c' s' d' hX)
end
