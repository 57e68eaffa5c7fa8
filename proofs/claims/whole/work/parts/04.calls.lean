/-! the relation -/
def cg_R (c : Nat) (g l : Nat → Nat) : Prop := c ≤ 9 ∧ cg_Bd c g ∧ cg_Cl c g l ∧ ∃ r, cg_Rk c g r
def cg_S (u : SX) (v : SY) : Prop := ∃ (c : Nat) (g l : Nat → Nat) (nx L hs gs ny ly sl : Nat → Int32), u = (nI c, nx, L, hs, gs) ∧ v = (nI c, ny, ly, sl) ∧ cg_R c g l ∧ (∀ j, j < c → nx j = nI (g j)) ∧ (∀ j, j < c → ny j = nI (g j)) ∧ (∀ j, j < c → L j = nI (l j))
theorem cg_Smk {c : Nat} {g l : Nat → Nat} {nx L hs gs ny ly sl : Nat → Int32} (hR : cg_R c g l) (hx : ∀ j, j < c → nx j = nI (g j)) (hy : ∀ j, j < c → ny j = nI (g j)) (hL : ∀ j, j < c → L j = nI (l j)) : cg_S (nI c, nx, L, hs, gs) (nI c, ny, ly, sl) := ⟨c, g, l, nx, L, hs, gs, ny, ly, sl, rfl, rfl, hR, hx, hy, hL⟩
theorem cg_rk2 {c : Nat} {g l : Nat → Nat} (h : cg_R c g l) : ∃ r, cg_Rk c g r ∧ ∀ i, i < c → r i < c := by
  obtain ⟨_, hg, hl, r, hr⟩ := h
  exact cg_rkc hg hl hr
theorem cg_R0 {c : Nat} (hc : c ≤ 9) : cg_R c (fun _ => 0) (fun _ => 0) := by
  refine ⟨hc, fun j _ => Nat.two_pow_pos c, ?_, fun _ => 0, ?_⟩
  · intro i hi j
    constructor
    · intro h
      rw [Nat.zero_testBit] at h
      exact absurd h (by decide)
    · intro h
      exfalso
      induction h with
      | single h => exact absurd h.2 (by rw [Nat.zero_testBit]; decide)
      | tail _ h _ => exact absurd h.2 (by rw [Nat.zero_testBit]; decide)
  · intro a b h
    exact absurd h.2 (by rw [Nat.zero_testBit]; decide)
theorem cg_S0 {c : Nat} (hc : c ≤ 9) : cg_S (nI c, (fun _ => 0), (fun _ => 0), (fun _ => 0), (fun _ => 0)) (nI c, (fun _ => 0), (fun _ => 0), (fun _ => 0)) := cg_Smk (cg_R0 hc) (fun _ _ => rfl) (fun _ _ => rfl) (fun _ _ => rfl)
theorem cg_vc0 (k0 : Int32) : wpX_init (fun u => wpY_init (fun v => cg_S u v) k0) k0 := by
  refine br_c (fun h0 => br_c (fun h9 => br_t h0 (br_t h9 ?_)) (fun h9 => br_t h0 (br_f h9 ?_))) (fun h0 => br_f h0 ?_)
  · obtain ⟨j, hj, e⟩ := nI_of2 (M := 9) (n := 9) (by decide) (Int32.not_lt.mpr h0) h9
    subst e
    exact cg_S0 hj
  · exact cg_S0 (c := 9) (by omega)
  · exact cg_S0 (c := 0) (by omega)
theorem cg_addE {c : Nat} {g : Nat → Nat} : cg_E (c + 1) (cg_u g c 0) = cg_E c g := by
  funext a b
  apply propext
  unfold cg_E
  by_cases e : a = c
  · subst e
    rw [cg_us, Nat.zero_testBit]
    constructor
    · intro h; exact absurd h.2 (by decide)
    · intro h; exact absurd h.1 (Nat.lt_irrefl a)
  · rw [cg_un e]
    constructor
    · intro h; exact ⟨by omega, h.2⟩
    · intro h; exact ⟨by omega, h.2⟩
theorem cg_addR {c : Nat} {g l : Nat → Nat} (h : cg_R c g l) (hc : c < 9) : cg_R (c + 1) (cg_u g c 0) (cg_u l c 0) := by
  obtain ⟨_, hg, hl, r, hr⟩ := h
  refine ⟨hc, ?_, ?_, r, ?_⟩
  · intro j hj
    by_cases e : j = c
    · subst e
      rw [cg_us]
      exact Nat.two_pow_pos _
    · rw [cg_un e]
      exact Nat.lt_trans (hg j (by omega)) (Nat.pow_lt_pow_right (by decide) (by omega))
  · intro i hi j
    rw [cg_addE]
    by_cases e : i = c
    · subst e
      rw [cg_us, Nat.zero_testBit]
      constructor
      · intro h; exact absurd h (by decide)
      · intro h; exact absurd (cg_Tlt hg h).1 (Nat.lt_irrefl i)
    · rw [cg_un e]
      exact hl i (by omega) j
  · intro a b
    rw [cg_addE]
    exact hr a b
theorem cg_vaddTask {u : SX} {v : SY} (I : cg_S u v) : wpX_addTask (fun r u' => wpY_addTask (fun r' v' => r' = r ∧ cg_S u' v') v) u := by
  obtain ⟨c, g, l, nx, L, hs, gs, ny, ly, sl, rfl, rfl, hR, hx, hy, hL⟩ := I
  have hc := hR.1
  by_cases h9 : c < 9
  · have hi : vp_in (nI c) 9 := vp_in_nI h9 (by omega)
    have ha : nI c < 9 := nI_lt (b := 9) h9 (by decide)
    have hb : ¬ nI c = 9 := fun z => by
      have := (nI_eq (b := 9) (by omega) (by decide)).mp z
      omega
    have hu : ∀ {a : Nat → Int32} {f : Nat → Nat}, (∀ j, j < c → a j = nI (f j)) → ∀ j, j < c + 1 → upd a (nI c).toNatClampNeg 0 j = nI (cg_u f c 0 j) := by
      intro a f h j hj
      rw [nI_clamp (by omega)]
      by_cases e : j = c
      · subst e
        rw [pk_us, cg_us]
        rfl
      · rw [pk_un e, cg_un e]
        exact h j (by omega)
    refine br_t ha ⟨hi, nm_e ⟨hi, nm_e (nm_r (nI_1 c) ?_)⟩⟩
    refine br_f hb ⟨hi, nm_e (nm_r (nI_1 c) ⟨nI_pred c, ?_⟩)⟩
    exact cg_Smk (cg_addR hR h9) (hu hx) (hu hy) (hu hL)
  · have e : c = 9 := by omega
    subst e
    exact br_f (nI_nlt (a := 9) (b := 9) (by omega) (by decide)) (br_t rfl ⟨rfl, cg_Smk hR hx hy hL⟩)
theorem cg_vtasks {u : SX} {v : SY} (I : cg_S u v) : wpX_tasks (fun r => wpY_tasks (fun r' => r' = r ∧ cg_S u v) v) u := by
  obtain ⟨c, g, l, nx, L, hs, gs, ny, ly, sl, rfl, rfl, hR, hx, hy, hL⟩ := I
  exact ⟨rfl, cg_Smk hR hx hy hL⟩
/-! removeTask -/
def cg_sh (v j : Nat) : Nat := if j < v then j else j + 1
def cg_rm (g : Nat → Nat) (v : Nat) : Nat → Nat := fun j => cg_gap (g (cg_sh v j)) v
theorem cg_rmt (g : Nat → Nat) (v a b : Nat) : (cg_rm g v a).testBit b = (g (cg_sh v a)).testBit (cg_sh v b) := by
  unfold cg_rm
  rw [cg_gapt]
  show _ = (g (cg_sh v a)).testBit (if b < v then b else b + 1)
  split <;> rfl
theorem cg_shl {v j c : Nat} (hv : v < c + 1) (hj : j < c) : cg_sh v j < c + 1 := by
  unfold cg_sh
  split <;> omega
theorem cg_shr2 {v j c : Nat} (hv : v < c + 1) (hj : cg_sh v j < c + 1) : j < c := by
  unfold cg_sh at hj
  split at hj <;> omega
theorem cg_rmB {c v : Nat} {g : Nat → Nat} (hg : cg_Bd (c + 1) g) (hv : v < c + 1) : cg_Bd c (cg_rm g v) := by
  intro j hj
  apply cg_small
  intro b hb
  rw [cg_rmt] at hb
  exact cg_shr2 hv (cg_big (hg _ (cg_shl hv hj)) hb)
theorem cg_rmK {c v : Nat} {g r : Nat → Nat} (hr : cg_Rk (c + 1) g r) (hv : v < c + 1) : cg_Rk c (cg_rm g v) (fun j => r (cg_sh v j)) := by
  intro a b h
  have h2 := h.2
  rw [cg_rmt] at h2
  exact hr _ _ ⟨cg_shl hv h.1, h2⟩
theorem cg_xr54 (post : Int32 → SX → Prop) {c v : Nat} (hc : c < 9) (hv : v < c + 1) (g : Nat → Nat) (hg : cg_Bd (c + 1) g) (L hs gs : Nat → Int32)
    (HP : ∀ N L' l', (∀ j, j < c → N j = nI (cg_rm g v j)) → (∀ j, j < c → L' j = nI (l' j)) → cg_Cl c (cg_rm g v) l' → post (nI c) (nI c, N, L', hs, gs)) :
    ∀ (d u : Nat) (N : Nat → Int32), u + d = c → (∀ j, j < c → N j = nI (if j < u then cg_rm g v j else g (cg_sh v j))) → wX_removeTask_54 post (nI v) (nI c) (d + 1) (nI u) N L hs gs := by
  have p9 := cg_p9 (c := c + 1) hc
  intro d
  induction d with
  | zero =>
    intro u N hu hN
    have e : u = c := by omega
    subst e
    have hN' : ∀ j, j < u → N j = nI (cg_rm g v j) := by
      intro j hj
      rw [hN j hj, if_pos hj]
    refine br_t (nI_le (by omega) (by omega)) (cg_xfl _ (by omega) (cg_rm g v) (cg_rmB hg hv) N L hs gs hN' ?_)
    intro L' l' h1 h2
    exact HP N L' l' hN' h1 h2
  | succ d ih =>
    intro u N hu hN
    have hub : u < c := by omega
    have hi : vp_in (nI u) 9 := vp_in_nI (by omega) (by omega)
    have h1 : N (nI u).toNatClampNeg = nI (g (cg_sh v u)) := by
      rw [nI_clamp (by omega), hN u hub, if_neg (Nat.lt_irrefl u)]
    have h2 := hg _ (cg_shl hv hub)
    refine br_f (nI_ge hub (by omega)) ⟨hi, nm_e (nm_e ⟨hi, nm_e (nm_r (nI_1 u) (ih (u + 1) _ (by omega) ?_))⟩)⟩
    intro j hj
    rw [h1, cg_gapw (by omega) (by omega), nI_clamp (by omega)]
    by_cases e : j = u
    · subst e
      rw [pk_us, if_pos (by omega)]
      rfl
    · rw [pk_un e, hN j hj]
      by_cases e2 : j < u
      · rw [if_pos e2, if_pos (by omega)]
      · rw [if_neg e2, if_neg (by omega)]
theorem cg_xr12 (post : Int32 → SX → Prop) {c v : Nat} (hc : c < 9) (hv : v < c + 1) (g : Nat → Nat) (hg : cg_Bd (c + 1) g) (L hs gs : Nat → Int32)
    (HP : ∀ N L' l', (∀ j, j < c → N j = nI (cg_rm g v j)) → (∀ j, j < c → L' j = nI (l' j)) → cg_Cl c (cg_rm g v) l' → post (nI c) (nI c, N, L', hs, gs)) :
    ∀ (d u : Nat) (N : Nat → Int32), u + d = c → v ≤ u → (∀ j, j < c + 1 → N j = nI (if j < u then g (cg_sh v j) else g j)) → wX_removeTask_12 post (nI v) (nI (c + 1)) (d + 1) (nI u) N L hs gs := by
  intro d
  induction d with
  | zero =>
    intro u N hu hvu hN
    have e : u = c := by omega
    subst e
    have h : nI (u + 1) - 1 ≤ nI u := by rw [nI_pred]; exact nI_le (by omega) (by omega)
    refine br_t h (nm_r (nI_pred u) ⟨u + 1, cg_xr54 post hc hv g hg L hs gs HP u 0 N (by omega) ?_⟩)
    intro j hj
    rw [hN j (by omega), if_pos hj, if_neg (Nat.not_lt_zero j)]
  | succ d ih =>
    intro u N hu hvu hN
    have h : ¬ nI (c + 1) - 1 ≤ nI u := by rw [nI_pred]; exact nI_ge (by omega) (by omega)
    have hi : vp_in (nI u) 9 := vp_in_nI (by omega) (by omega)
    have hi1 : vp_in (nI u + 1) 9 := by rw [nI_1]; exact vp_in_nI (by omega) (by omega)
    refine br_f h ⟨hi1, hi, nm_e (nm_r (nI_1 u) (ih (u + 1) _ (by omega) (by omega) ?_))⟩
    intro j hj
    rw [nI_1, nI_clamp (by omega), nI_clamp (by omega)]
    by_cases e : j = u
    · subst e
      rw [pk_us, if_pos (by omega), hN (j + 1) (by omega), if_neg (by omega)]
      unfold cg_sh
      rw [if_neg (by omega)]
    · rw [pk_un e, hN j hj]
      by_cases e2 : j < u
      · rw [if_pos e2, if_pos (by omega)]
      · rw [if_neg e2, if_neg (by omega)]
theorem cg_yr64 (post : Int32 → SY → Prop) {c v : Nat} (hc : c < 9) (hv : v < c + 1) (g : Nat → Nat) (hg : cg_Bd (c + 1) g) (L sl : Nat → Int32)
    (HP : ∀ N, (∀ j, j < c → N j = nI (cg_rm g v j)) → post (nI c) (nI c, N, L, sl)) :
    ∀ (d u : Nat) (N : Nat → Int32), u + d = c → (∀ j, j < c → N j = nI (if j < u then cg_rm g v j else g (cg_sh v j))) → wY_removeTask_64 post (nI v) (nI c) (d + 1) (nI u) N L sl := by
  have p9 := cg_p9 (c := c + 1) hc
  intro d
  induction d with
  | zero =>
    intro u N hu hN
    have e : u = c := by omega
    subst e
    refine br_t (nI_le (by omega) (by omega)) (HP N ?_)
    intro j hj
    rw [hN j hj, if_pos hj]
  | succ d ih =>
    intro u N hu hN
    have hub : u < c := by omega
    have hi : vp_in (nI u) 9 := vp_in_nI (by omega) (by omega)
    have h1 : N (nI u).toNatClampNeg = nI (g (cg_sh v u)) := by
      rw [nI_clamp (by omega), hN u hub, if_neg (Nat.lt_irrefl u)]
    have h2 := hg _ (cg_shl hv hub)
    refine br_f (nI_ge hub (by omega)) ⟨hi, hi, nm_e (nm_r (nI_1 u) (ih (u + 1) _ (by omega) ?_))⟩
    intro j hj
    rw [h1, cg_gapw (by omega) (by omega), nI_clamp (by omega)]
    by_cases e : j = u
    · subst e
      rw [pk_us, if_pos (by omega)]
      rfl
    · rw [pk_un e, hN j hj]
      by_cases e2 : j < u
      · rw [if_pos e2, if_pos (by omega)]
      · rw [if_neg e2, if_neg (by omega)]
theorem cg_yr12 (post : Int32 → SY → Prop) {c v : Nat} (hc : c < 9) (hv : v < c + 1) (g : Nat → Nat) (hg : cg_Bd (c + 1) g) (L sl : Nat → Int32)
    (HP : ∀ N, (∀ j, j < c → N j = nI (cg_rm g v j)) → post (nI c) (nI c, N, L, sl)) :
    ∀ (d u : Nat) (N : Nat → Int32), u + d = c → v ≤ u → (∀ j, j < c + 1 → N j = nI (if j < u then g (cg_sh v j) else g j)) → wY_removeTask_12 post (nI v) (nI (c + 1)) (d + 1) (nI u) N L sl := by
  intro d
  induction d with
  | zero =>
    intro u N hu hvu hN
    have e : u = c := by omega
    subst e
    have h : nI (u + 1) - 1 ≤ nI u := by rw [nI_pred]; exact nI_le (by omega) (by omega)
    refine br_t h (nm_r (nI_pred u) ⟨vp_in_nI (by omega) (by omega), nm_e ⟨u + 1, cg_yr64 post hc hv g hg L sl HP u 0 _ (by omega) ?_⟩⟩)
    intro j hj
    rw [nI_clamp (by omega), pk_un (by omega), hN j (by omega), if_pos hj, if_neg (Nat.not_lt_zero j)]
  | succ d ih =>
    intro u N hu hvu hN
    have h : ¬ nI (c + 1) - 1 ≤ nI u := by rw [nI_pred]; exact nI_ge (by omega) (by omega)
    have hi : vp_in (nI u) 9 := vp_in_nI (by omega) (by omega)
    have hi1 : vp_in (nI u + 1) 9 := by rw [nI_1]; exact vp_in_nI (by omega) (by omega)
    refine br_f h ⟨hi1, hi, nm_e (nm_r (nI_1 u) (ih (u + 1) _ (by omega) (by omega) ?_))⟩
    intro j hj
    rw [nI_1, nI_clamp (by omega), nI_clamp (by omega)]
    by_cases e : j = u
    · subst e
      rw [pk_us, if_pos (by omega), hN (j + 1) (by omega), if_neg (by omega)]
      unfold cg_sh
      rw [if_neg (by omega)]
    · rw [pk_un e, hN j hj]
      by_cases e2 : j < u
      · rw [if_pos e2, if_pos (by omega)]
      · rw [if_neg e2, if_neg (by omega)]
theorem cg_rm0 {c v : Nat} {g : Nat → Nat} {N : Nat → Int32} (h : ∀ j, j < c → N j = nI (g j)) : ∀ j, j < c → N j = nI (if j < v then g (cg_sh v j) else g j) := by
  intro j hj
  rw [h j hj]
  split
  · unfold cg_sh
    rw [if_pos (by assumption)]
  · rfl
theorem cg_vremoveTask {u : SX} {v : SY} (I : cg_S u v) (v1 : Int32) : wpX_removeTask (fun r u' => wpY_removeTask (fun r' v' => r' = r ∧ cg_S u' v') v v1) u v1 := by
  obtain ⟨c, g, l, nx, L, hs, gs, ny, ly, sl, rfl, rfl, hR, hx, hy, hL⟩ := I
  have hc := hR.1
  unfold wpX_removeTask wpY_removeTask
  dsimp only
  rcases cg_ix v1 hc with h | ⟨w, hw, rfl⟩
  · refine cg_tF c rfl h ?_
    refine cg_sF c rfl h ?_
    exact ⟨rfl, cg_Smk hR hx hy hL⟩
  · obtain ⟨c, rfl⟩ : ∃ d, c = d + 1 := ⟨c - 1, by omega⟩
    refine cg_tT (c + 1) rfl hc hw ?_
    refine ⟨c - w + 1, ?_⟩
    refine cg_xr12 _ (by omega) hw g hR.2.1 L hs gs ?_ (c - w) w nx (by omega) (by omega) (cg_rm0 hx)
    intro N L' l' h1 h2 h3
    refine cg_sT (c + 1) rfl hc hw ?_
    refine ⟨c - w + 1, ?_⟩
    refine cg_yr12 _ (by omega) hw g hR.2.1 ly sl ?_ (c - w) w ny (by omega) (by omega) (cg_rm0 hy)
    intro N' h1'
    obtain ⟨_, hg, _, r, hr⟩ := hR
    exact ⟨rfl, cg_Smk ⟨by omega, cg_rmB hg hw, h3, _, cg_rmK hr hw⟩ h1 h1' h2⟩
