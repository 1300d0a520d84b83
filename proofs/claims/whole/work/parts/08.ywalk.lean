section
variable {yr yf yp aw : Nat → Int32}
theorem oy_isRoot_t {post : Int32 → Prop} {j : Nat} (hj : j < 8) (h : post 1) : wpY_isRoot post (yr, yf, yp, aw) (nI j) :=
  br_f (nI_pos (by omega)) (pk_le 8 j (fun h' => absurd h' (by omega)) (fun _ => h))
theorem oy_isRoot_f {post : Int32 → Prop} {r : Int32} (hr : r < 0 ∨ 8 ≤ r) (h : post 0) : wpY_isRoot post (yr, yf, yp, aw) r := by
  unfold wpY_isRoot
  dsimp only
  rcases hr with hr | hr
  · exact br_t hr h
  · exact br_c (fun _ => h) (fun _ => br_t hr h)
/-! spread -/
theorem oy_77 {post : SY → Prop} {J : Int32 → (Nat → Int32) → (Nat → Int32) → (Nat → Int32) → (Nat → Int32) → Prop} {src : Nat → Prop} {T : Nat} (hT : T < 24) (hv : ∀ k, k < 72 → oh_val (yf k)) (hJ : ∀ w, oh_YI (oh_P src yf) yf T 72 w → J (nI (T + 1)) yr yf yp w) : ∀ m i w, i + m = 72 → oh_YI (oh_P src yf) yf T i w → wY_spread_77 post J (nI T) (m + 1) (nI i) yr yf yp w := by
  intro m
  induction m with
  | zero =>
    intro i w hi hI
    have e : i = 72 := by omega
    rw [e] at hI
    exact pk_le 72 i (fun _ => nm_r (nI_1 T) (hJ w hI)) (fun h => absurd h (by omega))
  | succ m ih =>
    intro i w hi hI
    refine pk_le 72 i (fun h => absurd h (by omega)) (fun h => ⟨by decide, ?_⟩)
    obtain ⟨vo, hvo, eo, h1, h2, h3⟩ := oh_YI_s hI h hT
    have e3 : nI i / 3 = nI (i / 3) := pk_div (d := 3) (by omega) (by omega) (by omega)
    intro x4 e4
    rw [e3] at e4
    rw [e4, nI_clamp (show i < 2 ^ 31 by omega), nI_clamp (show i / 3 < 2 ^ 31 by omega)]
    refine ⟨pk_in i 72 h, ?_⟩
    intro x5 e5
    refine ⟨pk_in (i / 3) 24 (by omega), ?_⟩
    rw [eo]
    refine pk_le 1000 vo (fun g => nm_r (nI_1 i) (ih (i + 1) w (by omega) (h1 (by omega)))) (fun g => ?_)
    rcases hv i h with hf | ⟨t, ht, hf⟩
    · rw [hf] at e5
      rw [e5]
      exact br_t oh_neg1 (nm_r (nI_1 i) (ih (i + 1) w (by omega) (h2 hf)))
    · obtain ⟨vj, hvj, ej, g1, g2⟩ := h3 t ht hf
      rw [hf] at e5
      rw [e5]
      refine br_f (nI_pos (by omega)) ⟨pk_in (i / 3) 24 (by omega), pk_in t 24 ht, ?_⟩
      rw [nI_clamp (show t < 2 ^ 31 by omega), ej, nI_1 vo]
      refine pk_le vj (vo + 1) (fun g3 => nm_r (nI_1 i) (ih (i + 1) w (by omega) (g1 g3))) (fun g3 => ⟨pk_in (i / 3) 24 (by omega), pk_in t 24 ht, ?_⟩)
      intro a ea
      rw [ea]
      exact nm_r (nI_1 i) (ih (i + 1) _ (by omega) (g2 g g3))
theorem oy_69 {post : SY → Prop} {src : Nat → Prop} (hv : ∀ k, k < 72 → oh_val (yf k)) (hp : ∀ w, oh_Yd (oh_P src yf) w → post (yr, yf, yp, w)) : ∀ m T w, T + m = 24 → oh_YI (oh_P src yf) yf T 0 w → wY_spread_69 post (m + 1) (nI T) yr yf yp w := by
  intro m
  induction m with
  | zero =>
    intro T w hT hI
    have e : T = 24 := by omega
    rw [e] at hI
    exact pk_le 24 T (fun _ => hp w (oh_YI_Yd hI)) (fun h => absurd h (by omega))
  | succ m ih =>
    intro T w hT hI
    refine pk_le 24 T (fun h => absurd h (by omega)) (fun h => ?_)
    exact ⟨73, oy_77 h hv (fun w' hw => ih (T + 1) w' (by omega) (oh_YI_n hw)) 72 0 w (by omega) hI⟩
theorem oy_40 {post : SY → Prop} {J : Int32 → (Nat → Int32) → (Nat → Int32) → (Nat → Int32) → (Nat → Int32) → Prop} {a : Int32} {r : Nat} {w : Nat → Int32} (hr : r < 8) (hv : oh_val (yr r)) (hs : a < 0 ∨ a = nI r) (hR : oh_YR yr a r w) (hJ : ∀ w', oh_YR yr a (r + 1) w' → J (nI (r + 1)) yr yf yp w') : wY_spread_40 post J a (nI r) yr yf yp w := by
  unfold wY_spread_40
  rw [nI_clamp (show r < 2 ^ 31 by omega)]
  refine ⟨pk_in r 8 hr, ?_⟩
  rcases hv with e | ⟨t, ht, e⟩
  · rw [e]
    exact br_t oh_neg1 (nm_r (nI_1 r) (hJ w (oh_YR_n hR (Or.inr e))))
  · rw [e]
    refine br_f (nI_pos (by omega)) ⟨pk_in r 8 hr, pk_in t 24 ht, ?_⟩
    rw [nI_clamp (show t < 2 ^ 31 by omega)]
    intro b eb
    rw [eb]
    exact nm_r (nI_1 r) (hJ _ (oh_YR_s hR hr ht hs e))
theorem oy_25 {post : SY → Prop} {a : Int32} (hyr : ∀ r, r < 8 → oh_val (yr r)) (hv : ∀ k, k < 72 → oh_val (yf k)) (hp : ∀ w, oh_Yd (oh_P (oh_ysrc yr a) yf) w → post (yr, yf, yp, w)) : ∀ m r w, r + m = 8 → oh_YR yr a r w → wY_spread_25 post a (m + 1) (nI r) yr yf yp w := by
  intro m
  induction m with
  | zero =>
    intro r w hr hR
    have e : r = 8 := by omega
    rw [e] at hR
    exact pk_le 8 r (fun _ => ⟨25, oy_69 hv hp 24 0 w (by omega) (oh_YR_YI hR)⟩) (fun h => absurd h (by omega))
  | succ m ih =>
    intro r w hr hR
    refine pk_le 8 r (fun h => absurd h (by omega)) (fun h => br_c (fun h0 => ?_) (fun h0 => br_c (fun h1 => ?_) (fun h1 => ?_)))
    · exact oy_40 h (hyr r h) (Or.inl h0) hR (fun w' hw => ih (r + 1) w' (by omega) hw)
    · exact oy_40 h (hyr r h) (Or.inr h1) hR (fun w' hw => ih (r + 1) w' (by omega) hw)
    · refine nm_r (nI_1 r) (ih (r + 1) w (by omega) (oh_YR_n hR (Or.inl ?_)))
      rintro (z | z)
      · exact h0 z
      · exact h1 z
theorem oy_2 {post : SY → Prop} {a : Int32} (hyr : ∀ r, r < 8 → oh_val (yr r)) (hv : ∀ k, k < 72 → oh_val (yf k)) (hp : ∀ w, oh_Yd (oh_P (oh_ysrc yr a) yf) w → post (yr, yf, yp, w)) : ∀ m i w, i + m = 24 → (∀ j, j < i → w j = 1000) → wY_spread_2 post a (m + 1) (nI i) yr yf yp w := by
  intro m
  induction m with
  | zero =>
    intro i w hi hall
    exact pk_le 24 i (fun _ => ⟨9, oy_25 hyr hv hp 8 0 w (by omega) (oh_YR_0 yr a w (fun j hj => hall j (by omega)))⟩) (fun h => absurd h (by omega))
  | succ m ih =>
    intro i w hi hall
    refine pk_le 24 i (fun h => absurd h (by omega)) (fun h => ⟨pk_in i 24 h, ?_⟩)
    intro b eb x ex
    rw [eb, ex, nI_1, nI_clamp (show i < 2 ^ 31 by omega)]
    refine ih (i + 1) _ (by omega) (fun j hj => ?_)
    by_cases ej : j = i
    · rw [ej, pk_us]
    · rw [pk_un ej]
      exact hall j (by omega)
theorem oy_spread {post : SY → Prop} {a : Int32} (hyr : ∀ r, r < 8 → oh_val (yr r)) (hv : ∀ k, k < 72 → oh_val (yf k)) (hp : ∀ w, oh_Yd (oh_P (oh_ysrc yr a) yf) w → post (yr, yf, yp, w)) : wpY_spread post (yr, yf, yp, aw) a :=
  ⟨25, oy_2 hyr hv hp 24 0 aw (by omega) (fun j hj => by omega)⟩
/-! found, reachable, the sum's loop -/
theorem oy_fo4 {post : Int32 → Prop} (hp : post (oh_S (fun b => decide (aw b < 1000)) (fun _ => 1) 24)) : ∀ m i, i + m = 24 → wY_found_4 post yr yf yp aw (m + 1) (oh_S (fun b => decide (aw b < 1000)) (fun _ => 1) i) (nI i) := by
  intro m
  induction m with
  | zero =>
    intro i hi
    have e : i = 24 := by omega
    rw [e]
    exact pk_le 24 24 (fun _ => hp) (fun h => absurd h (by omega))
  | succ m ih =>
    intro i hi
    refine pk_le 24 i (fun h => absurd h (by omega)) (fun h => ⟨pk_in i 24 (by omega), ?_⟩)
    have h2 := ih (i + 1) (by omega)
    rw [nI_clamp (show i < 2 ^ 31 by omega)]
    refine br_c (fun h0 => ?_) (fun h0 => ?_)
    · rw [oh_S_f (p := fun b => decide (aw b < 1000)) (decide_eq_false (fun z => Int32.not_le.mpr z h0))] at h2
      exact nm_r (nI_1 i) h2
    · rw [oh_S_t (p := fun b => decide (aw b < 1000)) (decide_eq_true (Int32.not_le.mp h0))] at h2
      exact nm_e (nm_r (nI_1 i) h2)
theorem oy_found {post : Int32 → Prop} (hp : post (oh_S (fun b => decide (aw b < 1000)) (fun _ => 1) 24)) : wpY_found post (yr, yf, yp, aw) :=
  ⟨25, oy_fo4 hp 24 0 (by omega)⟩
theorem oy_reach {post : Int32 → SY → Prop} (hyr : ∀ r, r < 8 → oh_val (yr r)) (hv : ∀ k, k < 72 → oh_val (yf k)) (hp : ∀ w, oh_Yd (oh_P (oh_ysrc yr (-1)) yf) w → post (oh_S (fun b => decide (w b < 1000)) (fun _ => 1) 24) (yr, yf, yp, w)) : wpY_reachable post (yr, yf, yp, aw) := by
  unfold wpY_reachable
  dsimp only
  refine oy_spread hyr hv (fun w hY => ?_)
  exact oy_found (hp w hY)
theorem oy_sum9 {post : Int32 → SY → Prop} (hp : post (oh_S (fun b => decide (aw b < 1000)) yp 24) (yr, yf, yp, aw)) : ∀ m i, i + m = 24 → wY_sum_9 post yr yf yp aw (m + 1) (oh_S (fun b => decide (aw b < 1000)) yp i) (nI i) := by
  intro m
  induction m with
  | zero =>
    intro i hi
    have e : i = 24 := by omega
    rw [e]
    exact pk_le 24 24 (fun _ => hp) (fun h => absurd h (by omega))
  | succ m ih =>
    intro i hi
    refine pk_le 24 i (fun h => absurd h (by omega)) (fun h => ⟨pk_in i 24 (by omega), ?_⟩)
    have h2 := ih (i + 1) (by omega)
    rw [nI_clamp (show i < 2 ^ 31 by omega)]
    refine br_c (fun h0 => ?_) (fun h0 => ⟨pk_in i 24 (by omega), ?_⟩)
    · rw [oh_S_f (p := fun b => decide (aw b < 1000)) (decide_eq_false (fun z => Int32.not_le.mpr z h0))] at h2
      exact nm_r (nI_1 i) h2
    · rw [oh_S_t (p := fun b => decide (aw b < 1000)) (decide_eq_true (Int32.not_le.mp h0))] at h2
      exact nm_e (nm_r (nI_1 i) h2)
/-! make -/
theorem oy_ma59 {post : Int32 → SY → Prop} {r p : Nat} {v : Int32} (hr : r < 8) (hp : p < 24) (h : ∀ yf', (∀ k, k < 72 → yf' k = if k / 3 = p then -1 else yf k) → post 0 (upd yr r (nI p), yf', upd yp p v, aw)) : ∀ m t yf', t + m = 3 → (∀ k, k < 72 → yf' k = if k / 3 = p ∧ k % 3 < t then -1 else yf k) → wY_make_59 post (nI r) v (nI p) (m + 1) (nI t) yr yf' yp aw := by
  intro m
  induction m with
  | zero =>
    intro t yf' ht hf
    refine pk_le 3 t (fun _ => ⟨pk_in p 24 hp, ?_⟩) (fun h => absurd h (by omega))
    rw [nI_clamp (show p < 2 ^ 31 by omega), nI_clamp (show r < 2 ^ 31 by omega)]
    refine nm_e ⟨pk_in r 8 hr, nm_e (h yf' (fun k hk => ?_))⟩
    rw [hf k hk]
    by_cases e : k / 3 = p
    · rw [if_pos e, if_pos ⟨e, by omega⟩]
    · rw [if_neg e, if_neg (fun z => e z.1)]
  | succ m ih =>
    intro t yf' ht hf
    refine pk_le 3 t (fun h => absurd h (by omega)) (fun h => ⟨?_, ?_⟩)
    · rw [oh_ix]
      exact pk_in (p * 3 + t) 72 (by omega)
    · rw [oh_ix, nI_clamp (show p * 3 + t < 2 ^ 31 by omega)]
      intro a ea x ex
      rw [ea, ex, nI_1]
      refine ih (t + 1) _ (by omega) (fun k hk => ?_)
      by_cases ek : k = p * 3 + t
      · rw [ek, pk_us, if_pos ⟨by omega, by omega⟩]
      · rw [pk_un ek, hf k hk]
        by_cases e : k / 3 = p ∧ k % 3 < t
        · rw [if_pos e, if_pos ⟨e.1, by omega⟩]
        · rw [if_neg e, if_neg (fun z => e ⟨z.1, by omega⟩)]
theorem oy_ma27 {post : Int32 → SY → Prop} {r : Nat} {v : Int32} (hr : r < 8) (hn : ¬ ∀ q, q < 24 → aw q ≠ 1000) (h : ∀ p yf', p < 24 → aw p = 1000 → (∀ k, k < 72 → yf' k = if k / 3 = p then -1 else yf k) → post 0 (upd yr r (nI p), yf', upd yp p v, aw)) : ∀ m i x, i + m = 24 → ((x = -1 ∧ ∀ q, q < i → aw q ≠ 1000) ∨ ∃ p, p < 24 ∧ x = nI p ∧ aw p = 1000) → wY_make_27 post (nI r) v yr yf yp aw (m + 1) x (nI i) := by
  intro m
  induction m with
  | zero =>
    intro i x hi hx
    refine pk_le 24 i (fun _ => ?_) (fun h => absurd h (by omega))
    rcases hx with ⟨_, hall⟩ | ⟨p, hp, e, ew⟩
    · exact absurd (fun q hq => hall q (by omega)) hn
    · rw [e]
      refine ⟨4, oy_ma59 hr hp (fun yf' hf => h p yf' hp ew hf) 3 0 yf (by omega) (fun k hk => ?_)⟩
      rw [if_neg (fun z => absurd z.2 (by omega))]
  | succ m ih =>
    intro i x hi hx
    refine pk_le 24 i (fun h => absurd h (by omega)) (fun hlt => ⟨pk_in i 24 hlt, ?_⟩)
    rw [nI_clamp (show i < 2 ^ 31 by omega)]
    refine br_c (fun h0 => nm_r (nI_1 i) (ih (i + 1) _ (by omega) (Or.inr ⟨i, hlt, rfl, h0⟩))) (fun h0 => nm_r (nI_1 i) (ih (i + 1) _ (by omega) ?_))
    rcases hx with ⟨e, hall⟩ | hx
    · refine Or.inl ⟨e, fun q hq => ?_⟩
      by_cases eq : q = i
      · rw [eq]
        exact h0
      · exact hall q (by omega)
    · exact Or.inr hx
end
