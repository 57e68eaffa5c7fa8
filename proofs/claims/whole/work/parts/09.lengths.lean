/-! the component's table -/
theorem cg_xz4 (post : Int32 → Prop) {A : Nat} (hA : A < 512) (HP : post (nI (cg_z A))) :
    ∀ d v : Nat, v + d = 9 → wX_sizeOf_4 post (nI A) (d + 1) (nI (cg_n (fun v => A.testBit v) v)) (nI v) := by
  intro d
  induction d with
  | zero =>
    intro v hv
    have e : v = 9 := by omega
    subst e
    exact br_t (nI_le (a := 9) (by omega) (by omega)) HP
  | succ d ih =>
    intro v hv
    have e : nI (cg_n (fun v => A.testBit v) v) + ((nI A >>> (nI v &&& 31)) &&& 1) = nI (cg_n (fun v => A.testBit v) (v + 1)) := by
      rw [cg_bv (by omega) (by omega), nI_add]
      rfl
    exact br_f (nI_ge (b := 9) (by omega) (by omega)) (nm_r e (nm_r (nI_1 v) (ih (v + 1) (by omega))))
theorem cg_xz (post : Int32 → Prop) {A : Nat} (hA : A < 512) (HP : post (nI (cg_z A))) : wpX_sizeOf post (nI A) := ⟨10, cg_xz4 post hA HP 9 0 (by omega)⟩
theorem cg_and0 {a b : Nat} : a &&& b = 0 ↔ ∀ i, a.testBit i = true → b.testBit i = true → False := by
  constructor
  · intro h i h1 h2
    have h3 : (a &&& b).testBit i = true := by rw [Nat.testBit_and, h1, h2]; rfl
    rw [h, Nat.zero_testBit] at h3
    exact absurd h3 (by decide)
  · intro h
    apply cg_ext
    intro i
    rw [Nat.testBit_and, Nat.zero_testBit, Bool.and_eq_true]
    constructor
    · rintro ⟨h1, h2⟩; exact (h i h1 h2).elim
    · intro z; exact absurd z (by decide)
theorem cg_xe4 (post : Int32 → Prop) {c S : Nat} (hc : c ≤ 9) (g : Nat → Nat) (hg : cg_Bd c g) (hS : S < 512) (nx L hs gs : Nat → Int32) (hx : ∀ j, j < c → nx j = nI (g j))
    (HP : ∀ F, F < 2 ^ c → (∀ i, F.testBit i = true ↔ i < c ∧ S.testBit i = true ∧ g i &&& S = 0) → post (nI F)) :
    ∀ d u F : Nat, u + d = c → F < 2 ^ c → (∀ i, F.testBit i = true ↔ i < u ∧ S.testBit i = true ∧ g i &&& S = 0) → wX_endsOf_4 post (nI S) (nI c) nx L hs gs (d + 1) (nI F) (nI u) := by
  have p9 := cg_p9 hc
  intro d
  induction d with
  | zero =>
    intro u F hu hF hb
    have e : u = c := by omega
    subst e
    exact br_t (nI_le (by omega) (by omega)) (HP F hF hb)
  | succ d ih =>
    intro u F hu hF hb
    have huc : u < c := by omega
    have h1 := hg u huc
    have keep : (S.testBit u = true → g u &&& S = 0 → False) → ∀ i, F.testBit i = true ↔ i < u + 1 ∧ S.testBit i = true ∧ g i &&& S = 0 := by
      intro hn i
      rw [hb i]
      constructor
      · rintro ⟨x, y⟩; exact ⟨by omega, y⟩
      · rintro ⟨x, y⟩
        refine ⟨?_, y⟩
        have : i ≠ u := by
          intro e
          subst e
          exact hn y.1 y.2
        omega
    refine br_f (nI_ge huc (by omega)) ?_
    refine cg_h S u rfl (by omega) (by omega) (fun hf => ?_) (fun ht => ?_)
    · refine nm_r (nI_1 u) (ih (u + 1) F (by omega) hF (keep ?_))
      intro z
      exact (cg_tf z hf).elim
    · have e1 : nx (nI u).toNatClampNeg &&& nI S = nI (g u &&& S) := by
        rw [cg_at hx (by omega) huc, nx_and]
      have h2 : g u &&& S ≤ g u := Nat.and_le_left
      refine ⟨vp_in_nI (by omega) (by omega), ?_⟩
      refine pk_eq (g u &&& S) 0 (fun z => ?_) (fun z => ?_) e1 nI_0.symm
      · have e2 : nI F ||| ((1 : Int32) <<< (nI u &&& 31)) = nI (F ||| 2 ^ u) := by
          rw [cg_one (by omega), cg_or]
        refine nm_r e2 (nm_r (nI_1 u) (ih (u + 1) (F ||| 2 ^ u) (by omega) (Nat.or_lt_two_pow hF (Nat.pow_lt_pow_right (by decide) huc)) ?_))
        intro i
        rw [cg_oI, hb i, Nat.testBit_two_pow, decide_eq_true_eq]
        constructor
        · rintro (⟨x, y⟩ | x)
          · exact ⟨by omega, y⟩
          · subst x
            exact ⟨by omega, ht, z⟩
        · rintro ⟨x, y⟩
          by_cases e : i = u
          · exact Or.inr e.symm
          · exact Or.inl ⟨by omega, y⟩
      · refine nm_r (nI_1 u) (ih (u + 1) F (by omega) hF (keep ?_))
        intro _ y
        exact z y
theorem cg_ends {c S F A : Nat} {g : Nat → Nat} (hS : S < 2 ^ c) (hF : ∀ i, F.testBit i = true ↔ i < c ∧ S.testBit i = true ∧ g i &&& S = 0) : cg_sb A F ↔ cg_sb A S ∧ cg_ne g A S := by
  constructor
  · intro h
    refine ⟨fun i hi => ((hF i).mp (h i hi)).2.1, ?_⟩
    intro a b ha hb hab
    exact cg_and0.mp ((hF a).mp (h a ha)).2.2 b hab hb
  · rintro ⟨h1, h2⟩ i hi
    refine (hF i).mpr ⟨cg_big hS (h1 i hi), h1 i hi, ?_⟩
    exact cg_and0.mpr (fun b x y => h2 i b hi y x)
def cg_TB (g : Nat → Nat) (m s : Nat) (G : Nat → Int32) (f : Nat → Nat) : Prop := ∀ S, S < s → G S = nI (f S) ∧ cg_L g m (f S) S
theorem cg_d0 {a b : Nat} : cg_d a b = 0 ↔ cg_sb a b := by
  constructor
  · intro h i hi
    cases e : b.testBit i
    · have := cg_dI.mpr ⟨hi, e⟩
      rw [h, Nat.zero_testBit] at this
      exact absurd this (by decide)
    · rfl
  · intro h
    apply cg_ext
    intro i
    rw [cg_dI, Nat.zero_testBit]
    constructor
    · rintro ⟨x, y⟩; exact (cg_tf (h i x) y).elim
    · intro z; exact absurd z (by decide)
theorem cg_xl13 (post : Int32 → Prop) {c m S e : Nat} (hc : c ≤ 9) (hm : 1 ≤ m) (hm9 : m ≤ 9) (g r : Nat → Nat) (hr : cg_Rk c g r) (hS : S < 2 ^ c) (hS0 : S ≠ 0) (he : e < 2 ^ c) (hF : ∀ i, e.testBit i = true ↔ i < c ∧ S.testBit i = true ∧ g i &&& S = 0) (nx L hs G : Nat → Int32) (f : Nat → Nat) (hT : cg_TB g m S G f)
    (HP : ∀ k, cg_L g m k S → post (nI k)) :
    ∀ d a b : Nat, a + d = e + 1 → 1 ≤ a → b ≤ 9 → (b = 9 ∨ cg_CX g m b S) → (∀ A, A < a → A ≠ 0 → cg_sb A e → cg_z A ≤ m → b ≤ f (cg_d S A) + 1) → wX_lengthFromSubsets_13 post (nI S) (nI m) (nI e) (nI c) nx L hs G (d + 1) (nI b) (nI a) := by
  have p9 := cg_p9 hc
  intro d
  induction d with
  | zero =>
    intro a b ha a1 hb hb2 hall
    refine br_t (nI_lt (by omega) (by omega)) (HP b ?_)
    have least : ∀ j, j < b → ¬ cg_CX g m j S := by
      intro j hj hC
      cases j with
      | zero => exact hS0 hC
      | succ j =>
        obtain ⟨A, h0, h1, h2, h3, h4⟩ := hC
        have hsb : cg_sb A e := (cg_ends hS hF).mpr ⟨h1, h3⟩
        have hAe : A ≤ e := Nat.le_of_testBit hsb
        have h5 := hall A (by omega) h0 hsb h2
        have h6 := (hT (cg_d S A) (cg_dlt h0 h1)).2
        have h7 : f (cg_d S A) ≤ j := by
          rcases Nat.lt_or_ge j (f (cg_d S A)) with z | z
          · exact absurd h4 (h6.2 j z)
          · exact z
        omega
    refine ⟨?_, least⟩
    rcases hb2 with hb2 | hb2
    · obtain ⟨k, hk, hC⟩ := cg_some9 hc hr hm hS
      have h8 : k = b := by
        rcases Nat.lt_or_ge k b with z | z
        · exact absurd hC (least k z)
        · omega
      subst h8
      exact hC
    · exact hb2
  | succ d ih =>
    intro a b ha a1 hb hb2 hall
    have skip : (cg_sb a e → cg_z a ≤ m → b ≤ f (cg_d S a) + 1) → ∀ A, A < a + 1 → A ≠ 0 → cg_sb A e → cg_z A ≤ m → b ≤ f (cg_d S A) + 1 := by
      intro h A hA h0 h1 h2
      by_cases z : A = a
      · subst z; exact h h1 h2
      · exact hall A (by omega) h0 h1 h2
    have e1 : nI a &&& (nI e ^^^ (-1)) = nI (cg_d a e) := cg_nt a e
    have hd := cg_dle a e
    refine br_f (nI_nlt (by omega) (by omega)) ?_
    refine pk_eq (cg_d a e) 0 (fun z => ?_) (fun z => ?_) e1 nI_0.symm
    · have hsb := cg_d0.mp z
      have hz := cg_n_le (fun v => a.testBit v) 9
      refine cg_xz _ (by omega) ?_
      refine pk_lt m (cg_z a) (fun z2 => ?_) (fun z2 => ?_) rfl rfl (by omega) (by unfold cg_z; omega)
      · exact nm_r (nI_1 a) (ih (a + 1) b (by omega) (by omega) hb hb2 (skip (fun _ h => by omega)))
      · obtain ⟨h1, h2⟩ := (cg_ends hS hF).mp hsb
        have hlt := cg_dlt (by omega) h1
        have e2 : nI S &&& (nI a ^^^ (-1)) = nI (cg_d S a) := cg_nt S a
        obtain ⟨h3, h4⟩ := hT (cg_d S a) hlt
        have h5 := cg_L9 hc hr hm (Nat.lt_trans hlt hS) h4
        have e3 : G (nI S &&& (nI a ^^^ (-1))).toNatClampNeg + 1 = nI (f (cg_d S a) + 1) := by
          rw [e2, nI_clamp (by omega), h3, nI_1]
        refine ⟨by rw [e2]; exact vp_in_nI (by omega) (by omega), nm_r e3 ?_⟩
        refine pk_le b (f (cg_d S a) + 1) (fun z3 => ?_) (fun z3 => ?_)
        · exact nm_r (nI_1 a) (ih (a + 1) b (by omega) (by omega) hb hb2 (skip (fun _ _ => z3)))
        · refine nm_r (nI_1 a) (ih (a + 1) (f (cg_d S a) + 1) (by omega) (by omega) (by omega) (Or.inr ⟨a, by omega, h1, z2, h2, h4.1⟩) ?_)
          intro A hA h0 h1' h2'
          by_cases z4 : A = a
          · subst z4
            exact Nat.le_refl _
          · have := hall A (by omega) h0 h1' h2'
            omega
    · exact nm_r (nI_1 a) (ih (a + 1) b (by omega) (by omega) hb hb2 (skip (fun h => absurd (cg_d0.mpr h) z)))
theorem cg_xl (post : Int32 → Prop) {c m S : Nat} (hc : c ≤ 9) (hm : 1 ≤ m) (hm9 : m ≤ 9) (g r : Nat → Nat) (hg : cg_Bd c g) (hr : cg_Rk c g r) (hS : S < 2 ^ c) (hS0 : S ≠ 0) (nx L hs G : Nat → Int32) (hx : ∀ j, j < c → nx j = nI (g j)) (f : Nat → Nat) (hT : cg_TB g m S G f)
    (HP : ∀ k, cg_L g m k S → post (nI k)) : wpX_lengthFromSubsets post (nI c, nx, L, hs, G) (nI S) (nI m) := by
  have p9 := cg_p9 hc
  unfold wpX_lengthFromSubsets
  dsimp only
  refine ⟨c + 1, ?_⟩
  refine cg_xe4 _ hc g hg (by omega) nx L hs G hx ?_ c 0 0 (by omega) (Nat.two_pow_pos c) ?_
  · intro F hF hFb
    refine ⟨F + 1, ?_⟩
    refine cg_xl13 post hc hm hm9 g r hr hS hS0 hF hFb nx L hs G f hT HP F 1 9 (by omega) (by omega) (by omega) (Or.inl rfl) ?_
    intro A hA h0
    omega
  · intro i
    rw [Nat.zero_testBit]
    constructor
    · intro z; exact absurd z (by decide)
    · rintro ⟨z, _⟩; exact absurd z (Nat.not_lt_zero i)
theorem cg_xf9 (post : Int32 → SX → Prop) {c m T : Nat} (hc : c ≤ 9) (hm : 1 ≤ m) (hm9 : m ≤ 9) (g r : Nat → Nat) (hg : cg_Bd c g) (hr : cg_Rk c g r) (hTc : T < 2 ^ c) (nx L hs : Nat → Int32) (hx : ∀ j, j < c → nx j = nI (g j))
    (HP : ∀ k G, cg_L g m k T → post (nI k) (nI c, nx, L, hs, G)) :
    ∀ (d s : Nat) (G : Nat → Int32) (f : Nat → Nat), s + d = T + 1 → 1 ≤ s → cg_TB g m s G f → wX_lengthFor_9 post (nI T) (nI m) (nI c) (d + 1) (nI s) nx L hs G := by
  have p9 := cg_p9 hc
  intro d
  induction d with
  | zero =>
    intro s G f hs' h1 hT
    obtain ⟨h2, h3⟩ := hT T (by omega)
    refine br_t (nI_lt (by omega) (by omega)) ⟨vp_in_nI (by omega) (by omega), ?_⟩
    rw [nI_clamp (by omega), h2]
    exact HP (f T) G h3
  | succ d ih =>
    intro s G f hs' h1 hT
    refine br_f (nI_nlt (by omega) (by omega)) ?_
    refine cg_xl _ hc hm hm9 g r hg hr (by omega) (by omega) nx L hs G hx f hT ?_
    intro k hk
    refine ⟨vp_in_nI (by omega) (by omega), nm_e (nm_r (nI_1 s) (ih (s + 1) _ (cg_u f s k) (by omega) (by omega) ?_))⟩
    intro S hS
    rw [nI_clamp (by omega)]
    by_cases e : S = s
    · subst e
      rw [pk_us, cg_us]
      exact ⟨rfl, hk⟩
    · rw [pk_un e, cg_un e]
      exact hT S (by omega)
theorem cg_xf (post : Int32 → SX → Prop) {c m T : Nat} (hc : c ≤ 9) (hm : 1 ≤ m) (hm9 : m ≤ 9) (g r : Nat → Nat) (hg : cg_Bd c g) (hr : cg_Rk c g r) (hTc : T < 2 ^ c) (nx L hs gs : Nat → Int32) (hx : ∀ j, j < c → nx j = nI (g j))
    (HP : ∀ k G, cg_L g m k T → post (nI k) (nI c, nx, L, hs, G)) : wpX_lengthFor post (nI c, nx, L, hs, gs) (nI T) (nI m) := by
  unfold wpX_lengthFor
  dsimp only
  refine nm_e ⟨T + 1, ?_⟩
  refine cg_xf9 post hc hm hm9 g r hg hr hTc nx L hs hx HP T 1 _ (fun _ => 0) (by omega) (by omega) ?_
  intro S hS
  have e : S = 0 := by omega
  subst e
  refine ⟨pk_us, rfl, ?_⟩
  intro j hj
  exact absurd hj (Nat.not_lt_zero j)
