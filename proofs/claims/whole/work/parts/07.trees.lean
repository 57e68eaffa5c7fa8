/-! superfluous and inTrees: one pure answer for both sides -/
def cg_any (p : Nat → Bool) : Nat → Bool
  | 0 => false
  | k + 1 => cg_any p k || p k
theorem cg_any_iff {p : Nat → Bool} : ∀ k, cg_any p k = true ↔ ∃ w, w < k ∧ p w = true := by
  intro k
  induction k with
  | zero =>
    constructor
    · intro h; exact absurd (show false = true from h) (by decide)
    · rintro ⟨w, h, _⟩; exact absurd h (Nat.not_lt_zero w)
  | succ k ih =>
    show (cg_any p k || p k) = true ↔ _
    rw [Bool.or_eq_true, ih]
    constructor
    · rintro (⟨w, h1, h2⟩ | h)
      · exact ⟨w, by omega, h2⟩
      · exact ⟨k, by omega, h⟩
    · rintro ⟨w, h1, h2⟩
      by_cases e : w = k
      · subst e; exact Or.inr h2
      · exact Or.inl ⟨w, by omega, h2⟩
def cg_b (l : Nat → Nat) (c u v : Nat) : Bool := cg_any (fun w => (l u).testBit w && (l w).testBit v) c
theorem cg_bT {l : Nat → Nat} {c u v w : Nat} (hw : w < c) (h1 : (l u).testBit w = true) (h2 : (l w).testBit v = true) : cg_b l c u v = true := (cg_any_iff c).mpr ⟨w, hw, by rw [h1, h2]; rfl⟩
theorem cg_bF {l : Nat → Nat} {c u v : Nat} (h : ∀ w, w < c → (l u).testBit w = true → (l w).testBit v = true → False) : cg_b l c u v = false := by
  apply cg_f
  intro z
  obtain ⟨w, hw, h2⟩ := (cg_any_iff c).mp z
  rw [Bool.and_eq_true] at h2
  exact h w hw h2.1 h2.2
theorem cg_xb2 (post : Int32 → Prop) {c u v : Nat} (hc : c ≤ 9) (hu : u < c) (hv : v < c) (l : Nat → Nat) (hl : cg_Bd c l) (nx L hs gs : Nat → Int32) (hL : ∀ j, j < c → L j = nI (l j))
    (hf : cg_b l c u v = false → post 0) (ht : cg_b l c u v = true → post 1) :
    ∀ d w : Nat, w + d = c → (∀ k, k < w → (l u).testBit k = true → (l k).testBit v = true → False) → wX_isBridged_2 post (nI u) (nI v) (nI c) nx L hs gs (d + 1) (nI w) := by
  have p9 := cg_p9 hc
  intro d
  induction d with
  | zero =>
    intro w hw h
    exact br_t (nI_le (by omega) (by omega)) (hf (cg_bF (fun k hk => h k (by omega))))
  | succ d ih =>
    intro w hw h
    have hwc : w < c := by omega
    have h1 := hl u hu
    have h2 := hl w hwc
    refine br_f (nI_ge hwc (by omega)) ⟨vp_in_nI (by omega) (by omega), ?_⟩
    refine cg_h (l u) w (cg_at hL (by omega) hu) (by omega) (by omega) (fun z => ?_) (fun z => ?_)
    · refine nm_r (nI_1 w) (ih (w + 1) (by omega) ?_)
      intro k hk a b
      by_cases e : k = w
      · subst e; rw [z] at a; exact absurd a (by decide)
      · exact h k (by omega) a b
    · refine ⟨vp_in_nI (by omega) (by omega), ?_⟩
      refine cg_h (l w) v (cg_at hL (by omega) hwc) (by omega) (by omega) (fun z2 => ?_) (fun z2 => ?_)
      · refine nm_r (nI_1 w) (ih (w + 1) (by omega) ?_)
        intro k hk a b
        by_cases e : k = w
        · subst e; rw [z2] at b; exact absurd b (by decide)
        · exact h k (by omega) a b
      · exact ht (cg_bT hwc z z2)
theorem cg_yb2 (post : Int32 → Prop) {c u v : Nat} (hc : c ≤ 9) (hu : u < c) (hv : v < c) (l : Nat → Nat) (hl : cg_Bd c l) (nx L sl : Nat → Int32) (hL : ∀ j, j < c → L j = nI (l j))
    (hf : cg_b l c u v = false → post 0) (ht : cg_b l c u v = true → post 1) :
    ∀ d w : Nat, w + d = c → (∀ k, k < w → (l u).testBit k = true → (l k).testBit v = true → False) → wY_extra_2 post (nI u) (nI v) (nI c) nx L sl (d + 1) (nI w) := by
  have p9 := cg_p9 hc
  intro d
  induction d with
  | zero =>
    intro w hw h
    exact br_t (nI_le (by omega) (by omega)) (hf (cg_bF (fun k hk => h k (by omega))))
  | succ d ih =>
    intro w hw h
    have hwc : w < c := by omega
    have h1 := hl u hu
    have h2 := hl w hwc
    refine br_f (nI_ge hwc (by omega)) ⟨vp_in_nI (by omega) (by omega), ?_⟩
    refine cg_i _ (l u) w (cg_at hL (by omega) hu) (by omega) (by omega) (fun z => ?_) (fun z => ?_)
    · refine nm_r (nI_1 w) (ih (w + 1) (by omega) ?_)
      intro k hk a b
      by_cases e : k = w
      · subst e; rw [z] at a; exact absurd a (by decide)
      · exact h k (by omega) a b
    · refine ⟨vp_in_nI (by omega) (by omega), ?_⟩
      refine cg_i _ (l w) v (cg_at hL (by omega) hwc) (by omega) (by omega) (fun z2 => ?_) (fun z2 => ?_)
      · refine nm_r (nI_1 w) (ih (w + 1) (by omega) ?_)
        intro k hk a b
        by_cases e : k = w
        · subst e; rw [z2] at b; exact absurd b (by decide)
        · exact h k (by omega) a b
      · exact ht (cg_bT hwc z z2)
theorem cg_xb {A B : Prop} {c u v : Nat} (hc : c ≤ 9) (hu : u < c) (hv : v < c) (l : Nat → Nat) (hl : cg_Bd c l) (nx L hs gs : Nat → Int32) (hL : ∀ j, j < c → L j = nI (l j))
    (hf : cg_b l c u v = false → A) (ht : cg_b l c u v = true → B) : wpX_isBridged (fun r => (r = 0 → A) ∧ (¬ r = 0 → B)) (nI c, nx, L, hs, gs) (nI u) (nI v) :=
  ⟨c + 1, cg_xb2 _ hc hu hv l hl nx L hs gs hL (fun z => br_t rfl (hf z)) (fun z => br_f (by decide) (ht z)) c 0 (by omega) (fun k hk => absurd hk (Nat.not_lt_zero k))⟩
theorem cg_yb {A B : Prop} {c u v : Nat} (hc : c ≤ 9) (hu : u < c) (hv : v < c) (l : Nat → Nat) (hl : cg_Bd c l) (nx L sl : Nat → Int32) (hL : ∀ j, j < c → L j = nI (l j))
    (hf : cg_b l c u v = false → A) (ht : cg_b l c u v = true → B) : wpY_extra (fun r => (r = 0 → A) ∧ (¬ r = 0 → B)) (nI c, nx, L, sl) (nI u) (nI v) :=
  ⟨c + 1, cg_yb2 _ hc hu hv l hl nx L sl hL (fun z => br_t rfl (hf z)) (fun z => br_f (by decide) (ht z)) c 0 (by omega) (fun k hk => absurd hk (Nat.not_lt_zero k))⟩
def cg_fs (g l : Nat → Nat) (c u : Nat) : Nat → Bool := fun v => (g u).testBit v && cg_b l c u v
def cg_fn (g l : Nat → Nat) (c u : Nat) : Nat → Bool := fun v => (g u).testBit v && !(cg_b l c u v)
def cg_sum (f : Nat → Nat) : Nat → Nat
  | 0 => 0
  | k + 1 => cg_sum f k + f k
theorem cg_nT {p : Nat → Bool} {k : Nat} (h : p k = true) : cg_n p (k + 1) = cg_n p k + 1 := by rw [cg_n_s, if_pos h]
theorem cg_nF {p : Nat → Bool} {k : Nat} (h : p k = false) : cg_n p (k + 1) = cg_n p k := by rw [cg_n_s, if_neg (by rw [h]; decide), Nat.add_zero]
theorem cg_xs14 (post : Int32 → Prop) (J : Int32 → Int32 → Prop) {c u a : Nat} (hc : c ≤ 9) (hu : u < c) (g l : Nat → Nat) (hg : cg_Bd c g) (hl : cg_Bd c l) (nx L hs gs : Nat → Int32) (hx : ∀ j, j < c → nx j = nI (g j)) (hL : ∀ j, j < c → L j = nI (l j))
    (HJ : J (nI (a + cg_n (cg_fs g l c u) c)) (nI (u + 1))) :
    ∀ d v : Nat, v + d = c → wX_superfluous_14 post J (nI u) (nI c) nx L hs gs (d + 1) (nI (a + cg_n (cg_fs g l c u) v)) (nI v) := by
  have p9 := cg_p9 hc
  have h1 := hg u hu
  intro d
  induction d with
  | zero =>
    intro v hv
    have e : v = c := by omega
    subst e
    exact br_t (nI_le (by omega) (by omega)) (nm_r (nI_1 u) HJ)
  | succ d ih =>
    intro v hv
    have hvc : v < c := by omega
    have i := ih (v + 1) (by omega)
    refine br_f (nI_ge hvc (by omega)) ⟨vp_in_nI (by omega) (by omega), ?_⟩
    refine cg_h (g u) v (cg_at hx (by omega) hu) (by omega) (by omega) (fun z => ?_) (fun z => ?_)
    · rw [cg_nF (by unfold cg_fs; rw [z]; rfl)] at i
      exact nm_r (nI_1 v) i
    · refine cg_xb hc hu hvc l hl nx L hs gs hL (fun z2 => ?_) (fun z2 => ?_)
      · rw [cg_nF (by unfold cg_fs; rw [z, z2]; rfl)] at i
        exact nm_r (nI_1 v) i
      · rw [cg_nT (by unfold cg_fs; rw [z, z2]; rfl)] at i
        exact nm_r (nI_1 _) (nm_r (nI_1 v) i)
theorem cg_ys18 (post : Int32 → SY → Prop) (J : Int32 → Int32 → Prop) {c u a : Nat} (hc : c ≤ 9) (hu : u < c) (g l : Nat → Nat) (hg : cg_Bd c g) (hl : cg_Bd c l) (nx L sl : Nat → Int32) (hx : ∀ j, j < c → nx j = nI (g j)) (hL : ∀ j, j < c → L j = nI (l j))
    (HJ : J (nI (a + cg_n (cg_fs g l c u) c)) (nI (u + 1))) :
    ∀ d v : Nat, v + d = c → wY_superfluous_18 post J (nI u) (nI c) nx L sl (d + 1) (nI (a + cg_n (cg_fs g l c u) v)) (nI v) := by
  have p9 := cg_p9 hc
  have h1 := hg u hu
  intro d
  induction d with
  | zero =>
    intro v hv
    have e : v = c := by omega
    subst e
    exact br_t (nI_le (by omega) (by omega)) (nm_r (nI_1 u) HJ)
  | succ d ih =>
    intro v hv
    have hvc : v < c := by omega
    have i := ih (v + 1) (by omega)
    refine br_f (nI_ge hvc (by omega)) ⟨vp_in_nI (by omega) (by omega), ?_⟩
    refine cg_i _ (g u) v (cg_at hx (by omega) hu) (by omega) (by omega) (fun z => ?_) (fun z => ?_)
    · rw [cg_nF (by unfold cg_fs; rw [z]; rfl)] at i
      exact nm_r (nI_1 v) i
    · refine cg_yb hc hu hvc l hl nx L sl hL (fun z2 => ?_) (fun z2 => ?_)
      · rw [cg_nF (by unfold cg_fs; rw [z, z2]; rfl)] at i
        exact nm_r (nI_1 v) i
      · rw [cg_nT (by unfold cg_fs; rw [z, z2]; rfl)] at i
        exact nm_r (nI_1 _) (nm_r (nI_1 v) i)
def cg_tot (g l : Nat → Nat) (c : Nat) : Nat → Nat := cg_sum (fun u => cg_n (cg_fs g l c u) c)
theorem cg_xs4 (post : Int32 → Prop) {c : Nat} (hc : c ≤ 9) (g l : Nat → Nat) (hg : cg_Bd c g) (hl : cg_Bd c l) (nx L hs gs : Nat → Int32) (hx : ∀ j, j < c → nx j = nI (g j)) (hL : ∀ j, j < c → L j = nI (l j))
    (HP : post (nI (cg_tot g l c c))) :
    ∀ d u : Nat, u + d = c → wX_superfluous_4 post (nI c) nx L hs gs (d + 1) (nI (cg_tot g l c u)) (nI u) := by
  intro d
  induction d with
  | zero =>
    intro u hu
    have e : u = c := by omega
    subst e
    exact br_t (nI_le (by omega) (by omega)) HP
  | succ d ih =>
    intro u hu
    have huc : u < c := by omega
    refine br_f (nI_ge huc (by omega)) ⟨c + 1, ?_⟩
    exact cg_xs14 (a := cg_tot g l c u) post _ hc huc g l hg hl nx L hs gs hx hL (ih (u + 1) (by omega)) c 0 (by omega)
theorem cg_ys8 (post : Int32 → SY → Prop) {c : Nat} (hc : c ≤ 9) (g l : Nat → Nat) (hg : cg_Bd c g) (hl : cg_Bd c l) (nx L sl : Nat → Int32) (hx : ∀ j, j < c → nx j = nI (g j)) (hL : ∀ j, j < c → L j = nI (l j))
    (HP : post (nI (cg_tot g l c c)) (nI c, nx, L, sl)) :
    ∀ d u : Nat, u + d = c → wY_superfluous_8 post (nI c) nx L sl (d + 1) (nI (cg_tot g l c u)) (nI u) := by
  intro d
  induction d with
  | zero =>
    intro u hu
    have e : u = c := by omega
    subst e
    exact br_t (nI_le (by omega) (by omega)) HP
  | succ d ih =>
    intro u hu
    have huc : u < c := by omega
    refine br_f (nI_ge huc (by omega)) ⟨c + 1, ?_⟩
    exact cg_ys18 (a := cg_tot g l c u) post _ hc huc g l hg hl nx L sl hx hL (ih (u + 1) (by omega)) c 0 (by omega)
theorem cg_vsuperfluous {u : SX} {v : SY} (I : cg_S u v) : wpX_superfluous (fun r => wpY_superfluous (fun r' v' => r' = r ∧ cg_S u v') v) u := by
  obtain ⟨c, g, l, nx, L, hs, gs, ny, ly, sl, rfl, rfl, hR, hx, hy, hL⟩ := I
  obtain ⟨q, hq1, hq2⟩ := cg_rk2 hR
  have hc := hR.1
  have hg := hR.2.1
  have hl := hR.2.2.1
  have hB := cg_ClB hg hl
  unfold wpX_superfluous wpY_superfluous
  dsimp only
  refine ⟨c + 1, ?_⟩
  refine cg_xs4 _ hc g l hg hB nx L hs gs hx hL ?_ c 0 (by omega)
  refine cg_yfl _ hc g q hg hq1 hq2 ny ly sl hy ?_
  intro L' l' h1 h2
  have h3 : ∀ j, j < c → L' j = nI (l j) := by
    intro j hj
    rw [h1 j hj, cg_Clu h2 hl j hj]
  refine ⟨c + 1, ?_⟩
  refine cg_ys8 _ hc g l hg hB ny L' sl hy h3 ?_ c 0 (by omega)
  exact ⟨rfl, cg_Smk hR hx hy hL⟩
def cg_nd (g l : Nat → Nat) (c u : Nat) : Nat := cg_n (cg_fn g l c u) c
def cg_tr (g l : Nat → Nat) (c : Nat) : Prop := ∀ u, u < c → cg_nd g l c u ≤ 1
theorem cg_xn4 (post : Int32 → Prop) {c u : Nat} (hc : c ≤ 9) (hu : u < c) (g l : Nat → Nat) (hg : cg_Bd c g) (hl : cg_Bd c l) (nx L hs gs : Nat → Int32) (hx : ∀ j, j < c → nx j = nI (g j)) (hL : ∀ j, j < c → L j = nI (l j))
    (HP : post (nI (cg_nd g l c u))) :
    ∀ d v : Nat, v + d = c → wX_neededOrdersFrom_4 post (nI u) (nI c) nx L hs gs (d + 1) (nI (cg_n (cg_fn g l c u) v)) (nI v) := by
  have p9 := cg_p9 hc
  have h1 := hg u hu
  intro d
  induction d with
  | zero =>
    intro v hv
    have e : v = c := by omega
    subst e
    exact br_t (nI_le (by omega) (by omega)) HP
  | succ d ih =>
    intro v hv
    have hvc : v < c := by omega
    have i := ih (v + 1) (by omega)
    refine br_f (nI_ge hvc (by omega)) ⟨vp_in_nI (by omega) (by omega), ?_⟩
    refine cg_h (g u) v (cg_at hx (by omega) hu) (by omega) (by omega) (fun z => ?_) (fun z => ?_)
    · rw [cg_nF (by unfold cg_fn; rw [z]; rfl)] at i
      exact nm_r (nI_1 v) i
    · refine cg_xb hc hu hvc l hl nx L hs gs hL (fun z2 => ?_) (fun z2 => ?_)
      · rw [cg_nT (by unfold cg_fn; rw [z, z2]; rfl)] at i
        exact nm_r (nI_1 _) (nm_r (nI_1 v) i)
      · rw [cg_nF (by unfold cg_fn; rw [z, z2]; rfl)] at i
        exact nm_r (nI_1 v) i
theorem cg_yn18 (post : Int32 → SY → Prop) (J : Int32 → Prop) {c u : Nat} (hc : c ≤ 9) (hu : u < c) (g l : Nat → Nat) (hg : cg_Bd c g) (hl : cg_Bd c l) (nx L sl : Nat → Int32) (hx : ∀ j, j < c → nx j = nI (g j)) (hL : ∀ j, j < c → L j = nI (l j))
    (HJ : cg_nd g l c u ≤ 1 → J (nI (u + 1))) (HP : ¬ cg_nd g l c u ≤ 1 → post 0 (nI c, nx, L, sl)) :
    ∀ d v : Nat, v + d = c → wY_inTrees_18 post J (nI u) (nI c) nx L sl (d + 1) (nI (cg_n (cg_fn g l c u) v)) (nI v) := by
  have p9 := cg_p9 hc
  have h1 := hg u hu
  intro d
  induction d with
  | zero =>
    intro v hv
    have e : v = c := by omega
    subst e
    have h2 := cg_n_le (cg_fn g l v u) v
    refine br_t (nI_le (by omega) (by omega)) ?_
    refine pk_le (cg_nd g l v u) 1 (fun z => ?_) (fun z => ?_) rfl rfl (by unfold cg_nd; omega)
    · exact nm_r (nI_1 u) (HJ z)
    · exact HP (by omega)
  | succ d ih =>
    intro v hv
    have hvc : v < c := by omega
    have i := ih (v + 1) (by omega)
    refine br_f (nI_ge hvc (by omega)) ⟨vp_in_nI (by omega) (by omega), ?_⟩
    refine cg_i _ (g u) v (cg_at hx (by omega) hu) (by omega) (by omega) (fun z => ?_) (fun z => ?_)
    · rw [cg_nF (by unfold cg_fn; rw [z]; rfl)] at i
      exact nm_r (nI_1 v) i
    · refine cg_yb hc hu hvc l hl nx L sl hL (fun z2 => ?_) (fun z2 => ?_)
      · rw [cg_nT (by unfold cg_fn; rw [z, z2]; rfl)] at i
        exact nm_r (nI_1 _) (nm_r (nI_1 v) i)
      · rw [cg_nF (by unfold cg_fn; rw [z, z2]; rfl)] at i
        exact nm_r (nI_1 v) i
theorem cg_xt2 (post : Int32 → Prop) {c : Nat} (hc : c ≤ 9) (g l : Nat → Nat) (hg : cg_Bd c g) (hl : cg_Bd c l) (nx L hs gs : Nat → Int32) (hx : ∀ j, j < c → nx j = nI (g j)) (hL : ∀ j, j < c → L j = nI (l j))
    (H1 : cg_tr g l c → post 1) (H0 : ¬ cg_tr g l c → post 0) :
    ∀ d u : Nat, u + d = c → (∀ k, k < u → cg_nd g l c k ≤ 1) → wX_inTrees_2 post (nI c) nx L hs gs (d + 1) (nI u) := by
  intro d
  induction d with
  | zero =>
    intro u hu h
    exact br_t (nI_le (by omega) (by omega)) (H1 (fun k hk => h k (by omega)))
  | succ d ih =>
    intro u hu h
    have huc : u < c := by omega
    have h2 := cg_n_le (cg_fn g l c u) c
    refine br_f (nI_ge huc (by omega)) ?_
    refine ⟨c + 1, ?_⟩
    refine cg_xn4 _ hc huc g l hg hl nx L hs gs hx hL ?_ c 0 (by omega)
    refine pk_le (cg_nd g l c u) 1 (fun z => ?_) (fun z => ?_) rfl rfl (by unfold cg_nd; omega)
    · refine nm_r (nI_1 u) (ih (u + 1) (by omega) ?_)
      intro k hk
      by_cases e : k = u
      · subst e; exact z
      · exact h k (by omega)
    · refine H0 (fun t => ?_)
      have := t u huc
      omega
theorem cg_yt6 (post : Int32 → SY → Prop) {c : Nat} (hc : c ≤ 9) (g l : Nat → Nat) (hg : cg_Bd c g) (hl : cg_Bd c l) (nx L sl : Nat → Int32) (hx : ∀ j, j < c → nx j = nI (g j)) (hL : ∀ j, j < c → L j = nI (l j))
    (H1 : cg_tr g l c → post 1 (nI c, nx, L, sl)) (H0 : ¬ cg_tr g l c → post 0 (nI c, nx, L, sl)) :
    ∀ d u : Nat, u + d = c → (∀ k, k < u → cg_nd g l c k ≤ 1) → wY_inTrees_6 post (nI c) nx L sl (d + 1) (nI u) := by
  intro d
  induction d with
  | zero =>
    intro u hu h
    exact br_t (nI_le (by omega) (by omega)) (H1 (fun k hk => h k (by omega)))
  | succ d ih =>
    intro u hu h
    have huc : u < c := by omega
    refine br_f (nI_ge huc (by omega)) ?_
    refine ⟨c + 1, ?_⟩
    refine cg_yn18 post _ hc huc g l hg hl nx L sl hx hL (fun z => ?_) (fun z => ?_) c 0 (by omega)
    · refine ih (u + 1) (by omega) ?_
      intro k hk
      by_cases e : k = u
      · subst e; exact z
      · exact h k (by omega)
    · exact H0 (fun t => z (t u huc))
theorem cg_xt (post : Int32 → Prop) {c : Nat} {g l : Nat → Nat} (hR : cg_R c g l) (nx L hs gs : Nat → Int32) (hx : ∀ j, j < c → nx j = nI (g j)) (hL : ∀ j, j < c → L j = nI (l j))
    (H1 : cg_tr g l c → post 1) (H0 : ¬ cg_tr g l c → post 0) : wpX_inTrees post (nI c, nx, L, hs, gs) :=
  ⟨c + 1, cg_xt2 post hR.1 g l hR.2.1 (cg_ClB hR.2.1 hR.2.2.1) nx L hs gs hx hL H1 H0 c 0 (by omega) (fun k hk => absurd hk (Nat.not_lt_zero k))⟩
theorem cg_yt (post : Int32 → SY → Prop) {c : Nat} {g l : Nat → Nat} (hR : cg_R c g l) (ny ly sl : Nat → Int32) (hy : ∀ j, j < c → ny j = nI (g j))
    (H1 : cg_tr g l c → ∀ L, post 1 (nI c, ny, L, sl)) (H0 : ¬ cg_tr g l c → ∀ L, post 0 (nI c, ny, L, sl)) : wpY_inTrees post (nI c, ny, ly, sl) := by
  obtain ⟨q, hq1, hq2⟩ := cg_rk2 hR
  have hc := hR.1
  have hg := hR.2.1
  have hl := hR.2.2.1
  unfold wpY_inTrees
  dsimp only
  refine cg_yfl _ hc g q hg hq1 hq2 ny ly sl hy ?_
  intro L' l' h1 h2
  have h3 : ∀ j, j < c → L' j = nI (l j) := by
    intro j hj
    rw [h1 j hj, cg_Clu h2 hl j hj]
  refine ⟨c + 1, ?_⟩
  exact cg_yt6 post hc g l hg (cg_ClB hg hl) ny L' sl hy h3 (fun z => H1 z L') (fun z => H0 z L') c 0 (by omega) (fun k hk => absurd hk (Nat.not_lt_zero k))
theorem cg_vinTrees {u : SX} {v : SY} (I : cg_S u v) : wpX_inTrees (fun r => wpY_inTrees (fun r' v' => r' = r ∧ cg_S u v') v) u := by
  obtain ⟨c, g, l, nx, L, hs, gs, ny, ly, sl, rfl, rfl, hR, hx, hy, hL⟩ := I
  refine cg_xt _ hR nx L hs gs hx hL (fun z => ?_) (fun z => ?_)
  · refine cg_yt _ hR ny ly sl hy (fun _ L' => ?_) (fun z' => absurd z z')
    exact ⟨rfl, cg_Smk hR hx hy hL⟩
  · refine cg_yt _ hR ny ly sl hy (fun z' => absurd z' z) (fun _ L' => ?_)
    exact ⟨rfl, cg_Smk hR hx hy hL⟩
