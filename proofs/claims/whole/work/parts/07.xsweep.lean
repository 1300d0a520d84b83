section
variable {wz ws sc : Int32} {xr xt xp xf sn ds : Nat → Int32}
/-! sweepWindow -/
theorem ox_sw49 {post : Int32 → SX → Prop} {J : Int32 → Int32 → Int32 → (Nat → Int32) → (Nat → Int32) → (Nat → Int32) → (Nat → Int32) → (Nat → Int32) → (Nat → Int32) → Prop} {fr : Int32} {i w : Nat} (hw : w < 24) (hJ : ∀ w', w' = (if w + 1 < 24 then w + 1 else 0) → J fr (nI (i + 1)) (nI w') xr xt xp xf sn ds) : wX_sweepWindow_49 post J fr (nI i) wz (nI w) sc xr xt xp xf sn ds := by
  unfold wX_sweepWindow_49
  rw [nI_1 w, nI_1 i]
  refine pk_le 24 (w + 1) (fun h => nm_e ?_) (fun h => nm_e (nm_e ?_))
  · exact hJ 0 (by rw [if_neg (by omega)])
  · exact hJ (w + 1) (by rw [if_pos (by omega)])
theorem oh_SW_fr {xt0 d : Nat → Int32} {z v : Nat} {xt : Nat → Int32} {w : Nat} {fr : Int32} (h : oh_SW xt0 d z v xt w fr) : narrow .boolean (.int fr) = .int fr := by
  rcases h.2.2 with ⟨e, _⟩ | ⟨e, _⟩
  · rw [e]; rfl
  · rw [e]; rfl
theorem ox_sw4 {post : Int32 → SX → Prop} {k z : Nat} (hk : k ≤ 8) (hp : ∀ fr xt' w', oh_SW xt ds z k xt' w' fr → post fr (nI k, nI w', sc, xr, xt', xp, xf, sn, ds)) : ∀ m i xt' w' fr, i + m = k → oh_SW xt ds z i xt' w' fr → wX_sweepWindow_4 post (nI k) sc (m + 1) fr (nI i) (nI w') xr xt' xp xf sn ds := by
  intro m
  induction m with
  | zero =>
    intro i xt' w' fr hi hS
    have e : i = k := by omega
    rw [e] at hS
    exact pk_le k i (fun _ => ⟨oh_SW_fr hS, hp _ _ _ hS⟩) (fun h => absurd h (by omega))
  | succ m ih =>
    intro i xt' w' fr hi hS
    have hw := oh_SW_lt hS
    refine pk_le k i (fun h => absurd h (by omega)) (fun h => ⟨pk_in w' 24 hw, ?_⟩)
    rw [nI_clamp (show w' < 2 ^ 31 by omega)]
    refine br_c (fun h0 => ?_) (fun h0 => ⟨pk_in w' 24 hw, br_c (fun h1 => ⟨pk_in w' 24 hw, ?_⟩) (fun h1 => ?_)⟩)
    · exact ox_sw49 hw (fun w2 e2 => ih (i + 1) xt' w2 fr (by omega) (oh_SW_n hS (Or.inl h0) e2))
    · intro a ea
      rw [ox_b0] at ea
      rw [ea]
      exact ox_sw49 hw (fun w2 e2 => ih (i + 1) _ w2 1 (by omega) (oh_SW_s hS h1 e2))
    · exact ox_sw49 hw (fun w2 e2 => ih (i + 1) xt' w2 fr (by omega) (oh_SW_n hS (Or.inr h1) e2))
theorem ox_sweep {post : Int32 → SX → Prop} {k z : Nat} (hk : k ≤ 8) (hz : z < 24) (hp : ∀ fr xt' w', oh_SW xt ds z k xt' w' fr → post fr (nI k, nI w', sc, xr, xt', xp, xf, sn, ds)) : wpX_sweepWindow post (nI k, nI z, sc, xr, xt, xp, xf, sn, ds) :=
  ⟨k + 1, ox_sw4 hk hp k 0 xt z 0 (by omega) (oh_SW_0 xt ds hz)⟩
/-! clean -/
theorem oh_CW_lt {xt0 d : Nat → Int32} {i : Nat} {xt : Nat → Int32} {w : Nat} {fr : Int32} (h : oh_CW xt0 d i xt w fr) : w < 24 := by
  obtain ⟨z, v, _, _, h⟩ := h
  exact oh_SW_lt h
theorem ox_cl8 {post : SX → Prop} {k : Nat} (hk : k ≤ 8) (hk1 : 1 ≤ k) (hp : ∀ xt' w', w' < 24 → oh_CL xt ds xt' → post (nI k, nI w', sc, xr, xt', xp, xf, sn, ds)) : ∀ m i xt' w' fr, i + m = 24 → oh_CW xt ds i xt' w' fr → wX_clean_8 post (m + 1) fr (nI i) (nI k) (nI w') sc xr xt' xp xf sn ds := by
  intro m
  induction m with
  | zero =>
    intro i xt' w' fr hi hC
    exact pk_le 24 i (fun h => hp _ _ (oh_CW_lt hC) (oh_CW_24 hC (Or.inl h))) (fun h => absurd h (by omega))
  | succ m ih =>
    intro i xt' w' fr hi hC
    refine pk_le 24 i (fun h => absurd h (by omega)) (fun h => br_c (fun h0 => ?_) (fun h0 => ?_))
    · rw [h0] at hC
      refine ox_sweep hk (oh_CW_lt hC) (fun fr' xt2 w2 hS => ?_)
      exact nm_r (nI_1 i) (ih (i + 1) xt2 w2 fr' (by omega) (oh_CW_s hC hk1 hS))
    · exact hp _ _ (oh_CW_lt hC) (oh_CW_24 hC (Or.inr h0))
theorem ox_clean {post : SX → Prop} (hW : oh_W ws wz) (hr : ∀ r, r < 8 → oh_val (xr r)) (hv : ∀ k, k < 72 → oh_val (xf k)) (hp : ∀ ws' c xt' s d, oh_W ws' wz → oh_Xd (oh_P (oh_src xr 8) xf) c s d → oh_CL xt d xt' → post (wz, ws', nI c, xr, xt', xp, xf, s, d)) : wpX_clean post (wz, ws, sc, xr, xt, xp, xf, sn, ds) := by
  unfold wpX_clean
  dsimp only
  refine ox_all hr hv (fun c s d hX => ?_)
  obtain ⟨⟨z, hz, ez⟩, k, hk1, hk8, ek⟩ := hW
  rw [ez, ek]
  rw [ek] at hp
  exact ⟨25, ox_cl8 hk8 hk1 (fun xt' w' hw hL => hp (nI w') c xt' s d ⟨⟨w', hw, rfl⟩, k, hk1, hk8, rfl⟩ hX hL) 24 0 xt z 0 (by omega) ⟨z, 0, hz, by omega, oh_SW_0 xt d hz⟩⟩
/-! fillSlot -/
theorem ox_fi16 {post : SX → Prop} {s : Nat} (hs : s < 24) (hp : ∀ xf', (∀ k, k < 72 → xf' k = if k / 3 = s then -1 else xf k) → post (wz, ws, sc, xr, xt, xp, xf', sn, ds)) : ∀ m t xf', t + m = 3 → (∀ k, k < 72 → xf' k = if k / 3 = s ∧ k % 3 < t then -1 else xf k) → wX_fillSlot_16 post (nI s) wz ws sc (m + 1) (nI t) xr xt xp xf' sn ds := by
  intro m
  induction m with
  | zero =>
    intro t xf' ht hf
    refine pk_le 3 t (fun _ => hp xf' (fun k hk => ?_)) (fun h => absurd h (by omega))
    rw [hf k hk]
    by_cases e : k / 3 = s
    · rw [if_pos e, if_pos ⟨e, by omega⟩]
    · rw [if_neg e, if_neg (fun z => e z.1)]
  | succ m ih =>
    intro t xf' ht hf
    refine pk_le 3 t (fun h => absurd h (by omega)) (fun h => ⟨?_, ?_⟩)
    · rw [oh_ix]
      exact pk_in (s * 3 + t) 72 (by omega)
    · rw [oh_ix, nI_clamp (show s * 3 + t < 2 ^ 31 by omega)]
      intro a ea x ex
      rw [ea, ex, nI_1]
      refine ih (t + 1) _ (by omega) (fun k hk => ?_)
      by_cases ek : k = s * 3 + t
      · rw [ek, pk_us, if_pos ⟨by omega, by omega⟩]
      · rw [pk_un ek, hf k hk]
        by_cases e : k / 3 = s ∧ k % 3 < t
        · rw [if_pos e, if_pos ⟨e.1, by omega⟩]
        · rw [if_neg e, if_neg (fun z => e ⟨z.1, by omega⟩)]
theorem ox_fill {post : SX → Prop} {s : Nat} {v : Int32} (hs : s < 24) (hp : ∀ xf', (∀ k, k < 72 → xf' k = if k / 3 = s then -1 else xf k) → post (wz, ws, sc, xr, upd xt s 1, upd xp s v, xf', sn, ds)) : wpX_fillSlot post (wz, ws, sc, xr, xt, xp, xf, sn, ds) (nI s) v := by
  unfold wpX_fillSlot
  dsimp only
  rw [nI_clamp (show s < 2 ^ 31 by omega), ox_b1]
  refine ⟨pk_in s 24 hs, ?_⟩
  intro a ea
  refine ⟨pk_in s 24 hs, ?_⟩
  intro b eb
  rw [ea, eb]
  refine ⟨4, ox_fi16 hs hp 3 0 xf (by omega) (fun k hk => ?_)⟩
  rw [if_neg (fun z => absurd z.2 (by omega))]
/-! the sum's loop -/
theorem ox_sum8 {post : Int32 → SX → Prop} {c : Nat} (hc : c ≤ 24) (hs : ∀ i, i < c → ∃ j, j < 24 ∧ sn i = nI j) (hp : post (oh_S (fun _ => true) (fun i => xp (sn i).toNatClampNeg) c) (wz, ws, nI c, xr, xt, xp, xf, sn, ds)) : ∀ m i, i + m = c → wX_sum_8 post wz ws (nI c) xr xt xp xf sn ds (m + 1) (oh_S (fun _ => true) (fun i => xp (sn i).toNatClampNeg) i) (nI i) := by
  intro m
  induction m with
  | zero =>
    intro i hi
    have e : i = c := by omega
    rw [e]
    exact pk_le c c (fun _ => hp) (fun h => absurd h (by omega))
  | succ m ih =>
    intro i hi
    obtain ⟨j, hj, ej⟩ := hs i (by omega)
    refine pk_le c i (fun h => absurd h (by omega)) (fun h => ⟨pk_in i 24 (by omega), ?_⟩)
    have h2 := ih (i + 1) (by omega)
    rw [oh_S_t rfl] at h2
    rw [nI_clamp (show i < 2 ^ 31 by omega)]
    refine ⟨by rw [ej]; exact pk_in j 24 hj, nm_e (nm_r (nI_1 i) h2)⟩
end
