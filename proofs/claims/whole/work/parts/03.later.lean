/-! the component's closure -/
theorem cg_wsw (l : Nat → Nat) (w : Nat) : cg_ws l w w = l w := by
  unfold cg_ws
  split
  · exact Nat.or_self _
  · rfl
theorem cg_x40 (post : SX → Prop) (J : Int32 → (Nat → Int32) → (Nat → Int32) → (Nat → Int32) → (Nat → Int32) → Prop) {c w : Nat} (hc : c ≤ 9) (hw : w < c) (nx hs gs : Nat → Int32) (l0 : Nat → Nat) (hl : cg_Bd c l0)
    (HJ : ∀ L', (∀ j, j < c → L' j = nI (cg_ws l0 w j)) → J (nI (w + 1)) nx L' hs gs) :
    ∀ (d u : Nat) (L : Nat → Int32), u + d = c → (∀ j, j < c → L j = nI (if j < u then cg_ws l0 w j else l0 j)) → wX_findLater_40 post J (nI w) (nI c) (d + 1) (nI u) nx L hs gs := by
  have p9 := cg_p9 hc
  intro d
  induction d with
  | zero =>
    intro u L hu hL
    refine br_t (nI_le (by omega) (by omega)) (nm_r (nI_1 w) (HJ L ?_))
    intro j hj
    rw [hL j hj, if_pos (by omega)]
  | succ d ih =>
    intro u L hu hL
    have hub : u < c := by omega
    have hiu : vp_in (nI u) 9 := vp_in_nI (by omega) (by omega)
    have hiw : vp_in (nI w) 9 := vp_in_nI (by omega) (by omega)
    have h1 : L (nI u).toNatClampNeg = nI (l0 u) := by
      rw [nI_clamp (by omega), hL u hub, if_neg (Nat.lt_irrefl u)]
    have h2 : L (nI w).toNatClampNeg = nI (l0 w) := by
      rw [nI_clamp (by omega), hL w hw]
      split
      · rw [cg_wsw]
      · rfl
    have h3 := hl u hub
    refine br_f (nI_ge hub (by omega)) ⟨hiu, cg_h (l0 u) w h1 (by omega) (by omega) (fun hf => ?_) (fun ht => ?_)⟩
    · refine nm_r (nI_1 u) (ih (u + 1) L (by omega) ?_)
      intro j hj
      rw [hL j hj]
      by_cases e : j = u
      · subst e
        rw [if_neg (Nat.lt_irrefl j), if_pos (by omega)]
        unfold cg_ws
        rw [if_neg (by rw [hf]; decide)]
      · by_cases e2 : j < u
        · rw [if_pos e2, if_pos (by omega)]
        · rw [if_neg e2, if_neg (by omega)]
    · refine ⟨hiu, hiw, hiu, nm_e (nm_r (nI_1 u) (ih (u + 1) _ (by omega) ?_))⟩
      intro j hj
      rw [h1, h2, cg_or, nI_clamp (by omega)]
      by_cases e : j = u
      · subst e
        rw [pk_us, if_pos (by omega)]
        unfold cg_ws
        rw [if_pos ht]
      · rw [pk_un e, hL j hj]
        by_cases e2 : j < u
        · rw [if_pos e2, if_pos (by omega)]
        · rw [if_neg e2, if_neg (by omega)]
theorem cg_x30 (post : SX → Prop) {c : Nat} (hc : c ≤ 9) (g : Nat → Nat) (hg : cg_Bd c g) (nx hs gs : Nat → Int32)
    (HP : ∀ L' l', (∀ j, j < c → L' j = nI (l' j)) → cg_Cl c g l' → post (nI c, nx, L', hs, gs)) :
    ∀ (d w : Nat) (L : Nat → Int32) (l : Nat → Nat), w + d = c → (∀ j, j < c → L j = nI (l j)) → cg_Bd c l → cg_V w c l → (∀ i, i < c → ∀ j, (g i).testBit j = true → (l i).testBit j = true) → (∀ i, i < c → ∀ j, (l i).testBit j = true → Relation.TransGen (cg_E c g) i j) → wX_findLater_30 post (nI c) (d + 1) (nI w) nx L hs gs := by
  intro d
  induction d with
  | zero =>
    intro w L l hw hL hB hV hE hT
    have e : w = c := by omega
    subst e
    exact br_t (nI_le (by omega) (by omega)) (HP L l hL (cg_wCl hg hV hE hT))
  | succ d ih =>
    intro w L l hw hL hB hV hE hT
    have hwc : w < c := by omega
    refine br_f (nI_ge hwc (by omega)) ⟨c + 1, cg_x40 post _ hc hwc nx hs gs l hB ?_ c 0 L (by omega) ?_⟩
    · intro L' hL'
      have hT' : ∀ i, i < c → ∀ j, (cg_ws l w i).testBit j = true → Relation.TransGen (cg_E c g) i j := by
        intro i hi j h
        rcases cg_wst.mp h with h | ⟨h, h'⟩
        · exact hT i hi j h
        · exact Relation.TransGen.trans (hT i hi w h) (hT w hwc j h')
      refine ih (w + 1) L' (cg_ws l w) (by omega) hL' ?_ (cg_wV hwc hV) ?_ hT'
      · intro i hi
        exact cg_small (fun j hj => (cg_Tlt hg (hT' i hi j hj)).2)
      · intro i hi j h
        exact cg_wst.mpr (Or.inl (hE i hi j h))
    · intro j hj
      rw [if_neg (Nat.not_lt_zero j)]
      exact hL j hj
theorem cg_x2 (post : SX → Prop) {c : Nat} (hc : c ≤ 9) (g : Nat → Nat) (hg : cg_Bd c g) (nx hs gs : Nat → Int32) (hn : ∀ j, j < c → nx j = nI (g j))
    (HP : ∀ L' l', (∀ j, j < c → L' j = nI (l' j)) → cg_Cl c g l' → post (nI c, nx, L', hs, gs)) :
    ∀ (d u : Nat) (L : Nat → Int32), u + d = c → (∀ j, j < u → L j = nI (g j)) → wX_findLater_2 post (nI c) (d + 1) (nI u) nx L hs gs := by
  intro d
  induction d with
  | zero =>
    intro u L hu hL
    have e : u = c := by omega
    subst e
    refine br_t (nI_le (by omega) (by omega)) ⟨u + 1, cg_x30 post hc g hg nx hs gs HP u 0 L g (by omega) hL hg ?_ ?_ ?_⟩
    · intro w hw
      exact absurd hw (Nat.not_lt_zero w)
    · intro i hi j h
      exact h
    · intro i hi j h
      exact Relation.TransGen.single ⟨hi, h⟩
  | succ d ih =>
    intro u L hu hL
    have hub : u < c := by omega
    have hiu : vp_in (nI u) 9 := vp_in_nI (by omega) (by omega)
    refine br_f (nI_ge hub (by omega)) ⟨hiu, hiu, nm_e (nm_r (nI_1 u) (ih (u + 1) _ (by omega) ?_))⟩
    intro j hj
    rw [nI_clamp (by omega)]
    by_cases e : j = u
    · subst e
      rw [pk_us]
      exact hn j hub
    · rw [pk_un e]
      exact hL j (by omega)
theorem cg_xfl (post : SX → Prop) {c : Nat} (hc : c ≤ 9) (g : Nat → Nat) (hg : cg_Bd c g) (nx L hs gs : Nat → Int32) (hn : ∀ j, j < c → nx j = nI (g j))
    (HP : ∀ L' l', (∀ j, j < c → L' j = nI (l' j)) → cg_Cl c g l' → post (nI c, nx, L', hs, gs)) : wpX_findLater post (nI c, nx, L, hs, gs) :=
  ⟨c + 1, cg_x2 post hc g hg nx hs gs hn HP c 0 L (by omega) (fun j hj => absurd hj (Nat.not_lt_zero j))⟩
/-! the reference's closure -/
def cg_P (k c : Nat) (g l : Nat → Nat) : Prop := ∀ i, i < c → ∀ n, n ≤ k → ∀ j, cg_W c g (n + 1) i j → (l i).testBit j = true
def cg_Q (k m c : Nat) (g l : Nat → Nat) : Prop := ∀ u v, u < c → v < c → u * c + v < m → (∃ n, n ≤ k ∧ cg_W c g (n + 1) u v) → ∀ j, (g v).testBit j = true → (l u).testBit j = true
def cg_YI (c : Nat) (g : Nat → Nat) (L : Nat → Int32) (l : Nat → Nat) : Prop := (∀ j, j < c → L j = nI (l j)) ∧ ∀ i, i < c → ∀ j, (l i).testBit j = true → Relation.TransGen (cg_E c g) i j
theorem cg_YB {c : Nat} {g : Nat → Nat} (hg : cg_Bd c g) {L : Nat → Int32} {l : Nat → Nat} (h : cg_YI c g L l) : cg_Bd c l := by
  intro i hi
  exact cg_small (fun j hj => (cg_Tlt hg (h.2 i hi j hj)).2)
theorem cg_y38 (post : SY → Prop) (J : Int32 → (Nat → Int32) → (Nat → Int32) → (Nat → Int32) → Prop) {c k : Nat} (hc : c ≤ 9) (hk : k < 9) (g : Nat → Nat) (hg : cg_Bd c g) (nx sl : Nat → Int32) (hn : ∀ j, j < c → nx j = nI (g j))
    (HJ : ∀ L' l', cg_YI c g L' l' → cg_P (k + 1) c g l' → J (nI (k + 1)) nx L' sl) :
    ∀ (d m : Nat) (L : Nat → Int32) (l : Nat → Nat), m + d = c * c → cg_YI c g L l → cg_P k c g l → cg_Q k m c g l → wY_findLater_38 post J (nI k) (nI c) (d + 1) (nI m) nx L sl := by
  have p9 := cg_p9 hc
  have pc : c * c ≤ 9 * 9 := Nat.mul_le_mul hc hc
  intro d
  induction d with
  | zero =>
    intro m L l hm hI hP hQ
    have h : nI c * nI c ≤ nI m := by
      rw [pk_mul]
      exact nI_le (by omega) (by omega)
    refine br_t h (nm_r (nI_1 k) (HJ L l hI ?_))
    intro i hi n hnk j hW
    cases n with
    | zero => exact hP i hi 0 (by omega) j hW
    | succ n =>
      obtain ⟨w, h1, h2⟩ := (cg_Wb (n + 1) i j).mp hW
      have h3 : i * c + w < c * c := by
        have h4 : (i + 1) * c ≤ c * c := Nat.mul_le_mul hi (Nat.le_refl c)
        rw [Nat.succ_mul] at h4
        have := h2.1
        omega
      exact hQ i w hi h2.1 (by omega) ⟨n, by omega, h1⟩ j h2.2
  | succ d ih =>
    intro m L l hm hI hP hQ
    have h : ¬ nI c * nI c ≤ nI m := by
      rw [pk_mul]
      exact nI_ge (by omega) (by omega)
    have c0 : 0 < c := by
      rcases Nat.eq_zero_or_pos c with e | e
      · subst e; omega
      · exact e
    have hz : ¬ nI c = 0 := nI_ne0 c0 (by omega)
    have e1 : nI m / nI c = nI (m / c) := pk_div (by omega) c0 (by omega)
    have e2 : nI m - nI m / nI c * nI c = nI (m % c) := pk_rem (by omega) c0 (by omega)
    have hu : m / c < c := Nat.div_lt_of_lt_mul (by omega)
    have hv : m % c < c := Nat.mod_lt m c0
    have hdm : m / c * c + m % c = m := Nat.div_add_mod' m c
    generalize hu' : m / c = u at e1 hu hdm
    generalize hv' : m % c = v at e2 hv hdm
    have hiu : vp_in (nI m / nI c) 9 := by rw [e1]; exact vp_in_nI (by omega) (by omega)
    have hiv : vp_in (nI m - nI m / nI c * nI c) 9 := by rw [e2]; exact vp_in_nI (by omega) (by omega)
    have h1 : L (nI m / nI c).toNatClampNeg = nI (l u) := by rw [e1]; exact cg_at hI.1 (by omega) hu
    have h2 : nx (nI m - nI m / nI c * nI c).toNatClampNeg = nI (g v) := by rw [e2]; exact cg_at hn (by omega) hv
    have hlu := cg_YB hg hI u hu
    have key : ∀ u' v', u' * c + v' < m + 1 → u' < c → v' < c → u' * c + v' < m ∨ (u' = u ∧ v' = v) := by
      intro u' v' a b b'
      rcases Nat.lt_or_ge (u' * c + v') m with z | z
      · exact Or.inl z
      · right
        have e : m = u' * c + v' := by omega
        have q1 : m / c = u' := by
          rw [e, Nat.mul_comm, Nat.mul_add_div c0, Nat.div_eq_of_lt b', Nat.add_zero]
        have q2 : m % c = v' := by
          rw [e, Nat.mul_comm, Nat.mul_add_mod, Nat.mod_eq_of_lt b']
        omega
    refine br_f h ⟨hz, hiu, hz, cg_i _ (l u) v h1 (by omega) (by omega) (fun hf => ?_) (fun ht => ?_) e2⟩
    · refine nm_r (nI_1 m) (ih (m + 1) L l (by omega) hI hP ?_)
      intro u' v' a b hm' hw j hj
      rcases key u' v' hm' a b with z | ⟨z1, z2⟩
      · exact hQ u' v' a b z hw j hj
      · subst z1 z2
        obtain ⟨n, hn1, hn2⟩ := hw
        have := hP u' a n hn1 v' hn2
        rw [hf] at this
        exact absurd this (by decide)
    · have e3 : upd L (nI m / nI c).toNatClampNeg (L (nI m / nI c).toNatClampNeg ||| nx (nI m - nI m / nI c * nI c).toNatClampNeg) = upd L (nI u).toNatClampNeg (nI (l u ||| g v)) := by
        rw [h1, h2, cg_or, e1]
      have grow : ∀ i j, (l i).testBit j = true → (cg_u l u (l u ||| g v) i).testBit j = true := by
        intro i j hj
        by_cases e : i = u
        · subst e
          rw [cg_us, Nat.testBit_or, hj]
          rfl
        · rw [cg_un e]
          exact hj
      refine ⟨hz, hz, hiu, hz, hiv, hiu, nm_r e3 (nm_r (nI_1 m) (ih (m + 1) _ (cg_u l u (l u ||| g v)) (by omega) ⟨cg_uh hI.1 (by omega) rfl, ?_⟩ ?_ ?_))⟩
      · intro i hi j hj
        by_cases e : i = u
        · subst e
          rw [cg_us, Nat.testBit_or, Bool.or_eq_true] at hj
          rcases hj with hj | hj
          · exact hI.2 i hi j hj
          · exact Relation.TransGen.tail (hI.2 i hi v ht) ⟨hv, hj⟩
        · rw [cg_un e] at hj
          exact hI.2 i hi j hj
      · intro i hi n hnk j hW
        exact grow i j (hP i hi n hnk j hW)
      · intro u' v' a b hm' hw j hj
        rcases key u' v' hm' a b with z | ⟨z1, z2⟩
        · exact grow u' j (hQ u' v' a b z hw j hj)
        · subst z1 z2
          rw [cg_us, Nat.testBit_or, hj, Bool.or_true]
theorem cg_y30 (post : SY → Prop) {c : Nat} (hc : c ≤ 9) (g r : Nat → Nat) (hg : cg_Bd c g) (hr : cg_Rk c g r) (hrc : ∀ i, i < c → r i < c) (nx sl : Nat → Int32) (hn : ∀ j, j < c → nx j = nI (g j))
    (HP : ∀ L' l', (∀ j, j < c → L' j = nI (l' j)) → cg_Cl c g l' → post (nI c, nx, L', sl)) :
    ∀ (d k : Nat) (L : Nat → Int32) (l : Nat → Nat), k + d = 9 → cg_YI c g L l → cg_P k c g l → wY_findLater_30 post (nI c) (d + 1) (nI k) nx L sl := by
  intro d
  induction d with
  | zero =>
    intro k L l hk hI hP
    have e : k = 9 := by omega
    subst e
    refine br_t (nI_le (a := 9) (by omega) (by omega)) (HP L l hI.1 ?_)
    intro i hi j
    refine ⟨hI.2 i hi j, ?_⟩
    intro hT
    obtain ⟨n, hW⟩ := cg_TW hT
    have h1 := cg_Wr hr _ _ _ hW
    have h2 := hrc i hi
    exact hP i hi n (by omega) j hW
  | succ d ih =>
    intro k L l hk hI hP
    refine br_f (nI_ge (b := 9) (by omega) (by omega)) ⟨c * c + 1, cg_y38 post _ hc (by omega) g hg nx sl hn ?_ (c * c) 0 L l (by omega) hI hP ?_⟩
    · intro L' l' hI' hP'
      exact ih (k + 1) L' l' (by omega) hI' hP'
    · intro u v _ _ h
      exact absurd h (Nat.not_lt_zero _)
theorem cg_y2 (post : SY → Prop) {c : Nat} (hc : c ≤ 9) (g r : Nat → Nat) (hg : cg_Bd c g) (hr : cg_Rk c g r) (hrc : ∀ i, i < c → r i < c) (nx sl : Nat → Int32) (hn : ∀ j, j < c → nx j = nI (g j))
    (HP : ∀ L' l', (∀ j, j < c → L' j = nI (l' j)) → cg_Cl c g l' → post (nI c, nx, L', sl)) :
    ∀ (d u : Nat) (L : Nat → Int32), u + d = c → (∀ j, j < u → L j = nI (g j)) → wY_findLater_2 post (nI c) (d + 1) (nI u) nx L sl := by
  intro d
  induction d with
  | zero =>
    intro u L hu hL
    have e : u = c := by omega
    subst e
    refine br_t (nI_le (by omega) (by omega)) ⟨10, cg_y30 post hc g r hg hr hrc nx sl hn HP 9 0 L g (by omega) ⟨hL, ?_⟩ ?_⟩
    · intro i hi j h
      exact Relation.TransGen.single ⟨hi, h⟩
    · intro i hi n hn0 j hW
      have e : n = 0 := by omega
      subst e
      obtain ⟨w, h1, h2⟩ := hW
      have e' : w = j := h2
      subst e'
      exact h1.2
  | succ d ih =>
    intro u L hu hL
    have hub : u < c := by omega
    have hiu : vp_in (nI u) 9 := vp_in_nI (by omega) (by omega)
    refine br_f (nI_ge hub (by omega)) ⟨hiu, hiu, nm_e (nm_r (nI_1 u) (ih (u + 1) _ (by omega) ?_))⟩
    intro j hj
    rw [nI_clamp (by omega)]
    by_cases e : j = u
    · subst e
      rw [pk_us]
      exact hn j hub
    · rw [pk_un e]
      exact hL j (by omega)
theorem cg_yfl (post : SY → Prop) {c : Nat} (hc : c ≤ 9) (g r : Nat → Nat) (hg : cg_Bd c g) (hr : cg_Rk c g r) (hrc : ∀ i, i < c → r i < c) (nx L sl : Nat → Int32) (hn : ∀ j, j < c → nx j = nI (g j))
    (HP : ∀ L' l', (∀ j, j < c → L' j = nI (l' j)) → cg_Cl c g l' → post (nI c, nx, L', sl)) : wpY_findLater post (nI c, nx, L, sl) :=
  ⟨c + 1, cg_y2 post hc g r hg hr hrc nx sl hn HP c 0 L (by omega) (fun j hj => absurd hj (Nat.not_lt_zero j))⟩
