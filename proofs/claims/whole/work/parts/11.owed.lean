/-! shortest, without, and what is owed -/
theorem cg_x28 (post : Int32 → SX → Prop) {c m : Nat} {g r : Nat → Nat} (hc : c ≤ 9) (hm : 1 ≤ m) (hm9 : m ≤ 9) (hg : cg_Bd c g) (hr : cg_Rk c g r) (nx L hs gs : Nat → Int32) (hx : ∀ j, j < c → nx j = nI (g j))
    (HP : ∀ k G, cg_L g m k (2 ^ c - 1) → post (nI k) (nI c, nx, L, hs, G)) : wX_shortest_28 post (nI m) (nI c) nx L hs gs := by
  have p := Nat.two_pow_pos c
  unfold wX_shortest_28
  refine nm_r (cg_mask (by omega)) ?_
  refine cg_xf _ hc hm hm9 g r hg hr (by omega) nx L hs gs hx ?_
  intro k G hk
  exact HP k G hk
theorem cg_y28 (post : Int32 → SY → Prop) {c m : Nat} {g r : Nat → Nat} (hc : c ≤ 9) (hm : 1 ≤ m) (hm9 : m ≤ 9) (hg : cg_Bd c g) (hr : cg_Rk c g r) (ny ly sl : Nat → Int32) (hy : ∀ j, j < c → ny j = nI (g j))
    (HP : ∀ k SL, cg_L g m k (2 ^ c - 1) → post (nI k) (nI c, ny, ly, SL)) : wY_shortest_28 post (nI m) (nI c) ny ly sl := by
  have p := Nat.two_pow_pos c
  unfold wY_shortest_28
  rw [cg_mask (by omega)]
  refine cg_yl _ hc hm hm9 g r hg hr (by omega) ny ly sl hy ?_
  intro k SL hk
  exact HP k SL hk
theorem cg_vshortest {u : SX} {v : SY} (I : cg_S u v) (v1 : Int32) : wpX_shortest (fun r u' => wpY_shortest (fun r' v' => r' = r ∧ cg_S u' v') v v1) u v1 := by
  obtain ⟨c, g, l, nx, L, hs, gs, ny, ly, sl, rfl, rfl, hR, hx, hy, hL⟩ := I
  have hR' := hR
  obtain ⟨hc, hg, hl, r, hr⟩ := hR'
  unfold wpX_shortest wpY_shortest
  dsimp only
  by_cases h1 : v1 < 1
  · refine br_t h1 ?_
    refine br_t h1 ?_
    exact ⟨rfl, cg_Smk hR hx hy hL⟩
  · by_cases h9 : v1 ≤ 9
    · have hn : ¬ v1 < 0 := fun z => h1 (Int32.lt_trans z (by decide))
      obtain ⟨m, hm9, e⟩ := nI_of2 (M := 9) (n := 9) (by decide) hn h9
      subst e
      have hm : 1 ≤ m := by
        rcases Nat.lt_or_ge m 1 with z | z
        · exact absurd (nI_lt (b := 1) z (by decide)) h1
        · exact z
      by_cases h2 : m ≤ 2
      · have a1 : nI m ≤ 2 := nI_le (b := 2) h2 (by decide)
        have a2 : nI m < 3 := nI_lt (b := 3) (by omega) (by decide)
        refine br_f h1 (br_t h9 (br_t a1 ?_))
        refine cg_x28 _ hc hm hm9 hg hr nx L hs gs hx ?_
        intro k G hk
        refine br_f h1 (br_t h9 (br_t a2 ?_))
        refine cg_y28 _ hc hm hm9 hg hr ny ly sl hy ?_
        intro k' SL hk'
        rw [cg_Lu hk' hk]
        exact ⟨rfl, cg_Smk hR hx hy hL⟩
      · have a1 : ¬ nI m ≤ 2 := nI_ge (a := 2) (b := m) (by omega) (by omega)
        have a2 : ¬ nI m < 3 := nI_nlt (a := m) (b := 3) (by omega) (by omega)
        refine br_f h1 (br_t h9 (br_f a1 ?_))
        refine cg_xt _ hR nx L hs gs hx hL (fun z => ?_) (fun z => ?_)
        · refine br_f (by decide) ?_
          refine cg_x28 _ hc hm hm9 hg hr nx L hs gs hx ?_
          intro k G hk
          refine br_f h1 (br_t h9 (br_f a2 ?_))
          refine cg_yt _ hR ny ly sl hy (fun _ L' => ?_) (fun z' => absurd z z')
          refine br_f (by decide) ?_
          refine cg_y28 _ hc hm hm9 hg hr ny L' sl hy ?_
          intro k' SL hk'
          rw [cg_Lu hk' hk]
          exact ⟨rfl, cg_Smk hR hx hy hL⟩
        · refine br_t rfl ?_
          refine br_f h1 (br_t h9 (br_f a2 ?_))
          refine cg_yt _ hR ny ly sl hy (fun z' => absurd z' z) (fun _ L' => ?_)
          refine br_t rfl ?_
          exact ⟨rfl, cg_Smk hR hx hy hL⟩
    · refine br_f h1 (br_f h9 ?_)
      refine br_f h1 (br_f h9 ?_)
      exact ⟨rfl, cg_Smk hR hx hy hL⟩
theorem cg_vwithout {u : SX} {v : SY} (I : cg_S u v) (v1 : Int32) : wpX_without (fun r u' => wpY_without (fun r' v' => r' = r ∧ cg_S u' v') v v1) u v1 := by
  obtain ⟨c, g, l, nx, L, hs, gs, ny, ly, sl, rfl, rfl, hR, hx, hy, hL⟩ := I
  have hR' := hR
  obtain ⟨hc, hg, hl, r, hr⟩ := hR'
  have p := Nat.two_pow_pos c
  unfold wpX_without wpY_without
  dsimp only
  rcases cg_ix v1 hc with h | ⟨a, ha, rfl⟩
  · refine cg_tF c rfl h ?_
    refine cg_sF c rfl h ?_
    exact ⟨rfl, cg_Smk hR hx hy hL⟩
  · have hT : cg_d (2 ^ c - 1) (2 ^ a) < 2 ^ c := Nat.lt_of_le_of_lt (cg_dle _ _) (by omega)
    have e : (((1 : Int32) <<< (nI c &&& 31)) - 1) &&& (((1 : Int32) <<< (nI a &&& 31)) ^^^ (-1)) = nI (cg_d (2 ^ c - 1) (2 ^ a)) := by
      rw [cg_mask (by omega), cg_one (by omega), cg_nt]
    refine cg_tT c rfl hc ha ?_
    refine nm_e ?_
    rw [e]
    refine cg_xf (m := 2) _ hc (by omega) (by omega) g r hg hr hT nx L hs gs hx ?_
    intro k G hk
    refine cg_sT c rfl hc ha ?_
    refine cg_yl (m := 2) _ hc (by omega) (by omega) g r hg hr hT ny ly sl hy ?_
    intro k' SL hk'
    dsimp only
    rw [cg_Lu hk' hk]
    exact ⟨rfl, cg_Smk hR hx hy hL⟩
def i_Rel (k : Nat) (u : SX) (v : SY) : Prop := cg_S u v
theorem i_up {k : Nat} {u : SX} {v : SY} (h : i_Rel k u v) : i_Rel (k + 3) u v := h
theorem i_vc0 (k0 : Int32) : wpX_init (fun u => wpY_init (fun v => i_Rel 1 u v) k0) k0 := cg_vc0 k0
theorem i_vc_addTask {k : Nat} {u : SX} {v : SY} (I : i_Rel k u v) (hk : k + 3 ≤ 1537) : wpX_addTask (fun r u' => wpY_addTask (fun r' v' => r' = r ∧ i_Rel (k + 3) u' v') v) u := cg_vaddTask I
theorem i_vc_removeTask {k : Nat} {u : SX} {v : SY} (I : i_Rel k u v) (hk : k + 3 ≤ 1537) (v1 : Int32) : wpX_removeTask (fun r u' => wpY_removeTask (fun r' v' => r' = r ∧ i_Rel (k + 3) u' v') v v1) u v1 := cg_vremoveTask I v1
theorem i_vc_addOrder {k : Nat} {u : SX} {v : SY} (I : i_Rel k u v) (hk : k + 3 ≤ 1537) (v1 : Int32) (v2 : Int32) : wpX_addOrder (fun r u' => wpY_addOrder (fun r' v' => r' = r ∧ i_Rel (k + 3) u' v') v v1 v2) u v1 v2 := cg_vaddOrder I v1 v2
theorem i_vc_removeOrder {k : Nat} {u : SX} {v : SY} (I : i_Rel k u v) (hk : k + 3 ≤ 1537) (v1 : Int32) (v2 : Int32) : wpX_removeOrder (fun r u' => wpY_removeOrder (fun r' v' => r' = r ∧ i_Rel (k + 3) u' v') v v1 v2) u v1 v2 := cg_vremoveOrder I v1 v2
theorem i_vc_tasks {k : Nat} {u : SX} {v : SY} (I : i_Rel k u v) (hk : k + 3 ≤ 1537) : wpX_tasks (fun r => wpY_tasks (fun r' => r' = r ∧ i_Rel (k + 3) u v) v) u := cg_vtasks I
theorem i_vc_after {k : Nat} {u : SX} {v : SY} (I : i_Rel k u v) (hk : k + 3 ≤ 1537) (v1 : Int32) (v2 : Int32) : wpX_after (fun r => wpY_after (fun r' v' => r' = r ∧ i_Rel (k + 3) u v') v v1 v2) u v1 v2 := cg_vafter I v1 v2
theorem i_vc_height {k : Nat} {u : SX} {v : SY} (I : i_Rel k u v) (hk : k + 3 ≤ 1537) (v1 : Int32) : wpX_height (fun r u' => wpY_height (fun r' => r' = r ∧ i_Rel (k + 3) u' v) v v1) u v1 := cg_vheight I v1
theorem i_vc_superfluous {k : Nat} {u : SX} {v : SY} (I : i_Rel k u v) (hk : k + 3 ≤ 1537) : wpX_superfluous (fun r => wpY_superfluous (fun r' v' => r' = r ∧ i_Rel (k + 3) u v') v) u := cg_vsuperfluous I
theorem i_vc_inTrees {k : Nat} {u : SX} {v : SY} (I : i_Rel k u v) (hk : k + 3 ≤ 1537) : wpX_inTrees (fun r => wpY_inTrees (fun r' v' => r' = r ∧ i_Rel (k + 3) u v') v) u := cg_vinTrees I
theorem i_vc_shortest {k : Nat} {u : SX} {v : SY} (I : i_Rel k u v) (hk : k + 3 ≤ 1537) (v1 : Int32) : wpX_shortest (fun r u' => wpY_shortest (fun r' v' => r' = r ∧ i_Rel (k + 3) u' v') v v1) u v1 := cg_vshortest I v1
theorem i_vc_without {k : Nat} {u : SX} {v : SY} (I : i_Rel k u v) (hk : k + 3 ≤ 1537) (v1 : Int32) : wpX_without (fun r u' => wpY_without (fun r' v' => r' = r ∧ i_Rel (k + 3) u' v') v v1) u v1 := cg_vwithout I v1
