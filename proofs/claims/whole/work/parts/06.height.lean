/-! height: the component -/
def cg_HI (c : Nat) (g : Nat → Nat) (k u : Nat) (H : Nat → Int32) (h : Nat → Nat) : Prop := (∀ j, j < c → H j = nI (h j)) ∧ (∀ j, j < c → 1 ≤ h j ∧ ∃ b, cg_W c g (h j - 1) j b) ∧ (∀ j, j < c → ∀ n, n ≤ k + (if j < u then 1 else 0) → (∃ b, cg_W c g n j b) → n + 1 ≤ h j)
theorem cg_HB {c k u : Nat} {g h q : Nat → Nat} {H : Nat → Int32} (hq : cg_Rk c g q) (hqc : ∀ i, i < c → q i < c) (I : cg_HI c g k u H h) : ∀ j, j < c → h j ≤ c := by
  intro j hj
  obtain ⟨_, b, hb⟩ := I.2.1 j hj
  have h1 := cg_Wr hq _ _ _ hb
  have h2 := hqc j hj
  omega
theorem cg_xh12 (post : SX → Prop) (J : Int32 → (Nat → Int32) → (Nat → Int32) → (Nat → Int32) → (Nat → Int32) → Prop) {c k u : Nat} (hc : c ≤ 9) (hu : u < c) (g q : Nat → Nat) (hg : cg_Bd c g) (hq : cg_Rk c g q) (hqc : ∀ i, i < c → q i < c) (nx L gs : Nat → Int32) (hn : ∀ j, j < c → nx j = nI (g j))
    (HJ : ∀ H' h', cg_HI c g k (u + 1) H' h' → J (nI (u + 1)) nx L H' gs) :
    ∀ (d v : Nat) (H : Nat → Int32) (h : Nat → Nat), v + d = c → cg_HI c g k u H h → (∀ w, w < v → (g u).testBit w = true → h w + 1 ≤ h u) → wX_raiseHeights_12 post J (nI u) (nI c) (d + 1) (nI v) nx L H gs := by
  have p9 := cg_p9 hc
  intro d
  induction d with
  | zero =>
    intro v H h hv I D
    refine br_t (nI_le (by omega) (by omega)) (nm_r (nI_1 u) (HJ H h ⟨I.1, I.2.1, ?_⟩))
    intro j hj n hnk hW
    by_cases e : j = u
    · subst e
      rw [if_pos (by omega)] at hnk
      obtain ⟨b, hW⟩ := hW
      cases n with
      | zero => exact (I.2.1 j hj).1
      | succ n =>
        obtain ⟨w, h1, h2⟩ := hW
        have hw := cg_Elt hg h1
        have h3 := D w (by omega) h1.2
        have h4 := I.2.2 w hw n (by omega) ⟨b, h2⟩
        omega
    · refine I.2.2 j hj n ?_ hW
      by_cases e2 : j < u
      · rw [if_pos (by omega)] at hnk
        rw [if_pos e2]
        exact hnk
      · rw [if_neg (by omega)] at hnk
        rw [if_neg e2]
        exact hnk
  | succ d ih =>
    intro v H h hv I D
    have hvc : v < c := by omega
    have hiu : vp_in (nI u) 9 := vp_in_nI (by omega) (by omega)
    have hiv : vp_in (nI v) 9 := vp_in_nI (by omega) (by omega)
    have h1 : nx (nI u).toNatClampNeg = nI (g u) := cg_at hn (by omega) hu
    have h2 : H (nI u).toNatClampNeg = nI (h u) := cg_at I.1 (by omega) hu
    have h3 : H (nI v).toNatClampNeg = nI (h v) := cg_at I.1 (by omega) hvc
    have h4 := hg u hu
    have h5 := cg_HB hq hqc I u hu
    have h6 := cg_HB hq hqc I v hvc
    refine br_f (nI_ge hvc (by omega)) ⟨hiu, ?_⟩
    refine cg_h (g u) v h1 (by omega) (by omega) (fun hf => ?_) (fun ht => ?_)
    · refine nm_r (nI_1 v) (ih (v + 1) H h (by omega) I ?_)
      intro w hw hb
      by_cases e : w = v
      · subst e
        rw [hf] at hb
        exact absurd hb (by decide)
      · exact D w (by omega) hb
    · refine ⟨hiu, hiv, ?_⟩
      refine pk_lt (h v) (h u) (fun hlt => ?_) (fun hge => ?_) h3 h2
      · refine nm_r (nI_1 v) (ih (v + 1) H h (by omega) I ?_)
        intro w hw hb
        by_cases e : w = v
        · subst e
          exact hlt
        · exact D w (by omega) hb
      · have huv : v ≠ u := by
          intro e
          subst e
          exact absurd (hq v v ⟨hvc, ht⟩) (Nat.lt_irrefl _)
        have grow : ∀ j, h j ≤ cg_u h u (h v + 1) j := by
          intro j
          by_cases e : j = u
          · subst e
            rw [cg_us]
            omega
          · rw [cg_un e]
            exact Nat.le_refl _
        have e1 : upd H (nI u).toNatClampNeg (H (nI v).toNatClampNeg + 1) = upd H (nI u).toNatClampNeg (nI (h v + 1)) := by
          rw [h3, nI_1]
        refine ⟨hiv, hiu, nm_r e1 (nm_r (nI_1 v) (ih (v + 1) _ (cg_u h u (h v + 1)) (by omega) ⟨cg_uh I.1 (by omega) rfl, ?_, ?_⟩ ?_))⟩
        · intro j hj
          by_cases e : j = u
          · subst e
            rw [cg_us]
            obtain ⟨h7, b, h8⟩ := I.2.1 v hvc
            refine ⟨by omega, b, ?_⟩
            have e3 : h v + 1 - 1 = (h v - 1) + 1 := by omega
            rw [e3]
            exact ⟨v, ⟨hj, ht⟩, h8⟩
          · rw [cg_un e]
            exact I.2.1 j hj
        · intro j hj n hnk hW
          exact Nat.le_trans (I.2.2 j hj n hnk hW) (grow j)
        · intro w hw hb
          have hwu : w ≠ u := by
            intro e
            subst e
            exact absurd (hq w w ⟨hu, hb⟩) (Nat.lt_irrefl _)
          rw [cg_us, cg_un hwu]
          by_cases e : w = v
          · subst e
            exact Nat.le_refl _
          · have := D w (by omega) hb
            omega
theorem cg_xh2 (post : SX → Prop) {c k : Nat} (hc : c ≤ 9) (g q : Nat → Nat) (hg : cg_Bd c g) (hq : cg_Rk c g q) (hqc : ∀ i, i < c → q i < c) (nx L gs : Nat → Int32) (hn : ∀ j, j < c → nx j = nI (g j))
    (HP : ∀ H' h', cg_HI c g (k + 1) 0 H' h' → post (nI c, nx, L, H', gs)) :
    ∀ (d u : Nat) (H : Nat → Int32) (h : Nat → Nat), u + d = c → cg_HI c g k u H h → wX_raiseHeights_2 post (nI c) (d + 1) (nI u) nx L H gs := by
  intro d
  induction d with
  | zero =>
    intro u H h hu I
    refine br_t (nI_le (by omega) (by omega)) (HP H h ⟨I.1, I.2.1, ?_⟩)
    intro j hj n hnk hW
    rw [if_neg (Nat.not_lt_zero j)] at hnk
    refine I.2.2 j hj n ?_ hW
    rw [if_pos (by omega)]
    exact hnk
  | succ d ih =>
    intro u H h hu I
    have hub : u < c := by omega
    refine br_f (nI_ge hub (by omega)) ⟨c + 1, ?_⟩
    refine cg_xh12 post _ hc hub g q hg hq hqc nx L gs hn ?_ c 0 H h (by omega) I (fun w hw => absurd hw (Nat.not_lt_zero w))
    intro H' h' I'
    exact ih (u + 1) H' h' (by omega) I'
theorem cg_xh (post : SX → Prop) {c k : Nat} (hc : c ≤ 9) (g q : Nat → Nat) (hg : cg_Bd c g) (hq : cg_Rk c g q) (hqc : ∀ i, i < c → q i < c) (nx L gs : Nat → Int32) (hn : ∀ j, j < c → nx j = nI (g j))
    (HP : ∀ H' h', cg_HI c g (k + 1) 0 H' h' → post (nI c, nx, L, H', gs)) (H : Nat → Int32) (h : Nat → Nat) (I : cg_HI c g k 0 H h) : wpX_raiseHeights post (nI c, nx, L, H, gs) :=
  ⟨c + 1, cg_xh2 post hc g q hg hq hqc nx L gs hn HP c 0 H h (by omega) I⟩
theorem cg_xh35 (post : Int32 → SX → Prop) {c u : Nat} (hc : c ≤ 9) (hu : u < c) (g q : Nat → Nat) (hg : cg_Bd c g) (hq : cg_Rk c g q) (hqc : ∀ i, i < c → q i < c) (nx L gs : Nat → Int32) (hn : ∀ j, j < c → nx j = nI (g j))
    (HP : ∀ h H', cg_H c g u h → post (nI h) (nI c, nx, L, H', gs)) :
    ∀ (d k : Nat) (H : Nat → Int32) (h : Nat → Nat), k + d = c → cg_HI c g k 0 H h → wX_height_35 post (nI u) (d + 1) (nI k) (nI c) nx L H gs := by
  intro d
  induction d with
  | zero =>
    intro k H h hk I
    have e : H (nI u).toNatClampNeg = nI (h u) := cg_at I.1 (by omega) hu
    refine br_t (nI_le (by omega) (by omega)) ⟨vp_in_nI (by omega) (by omega), ?_⟩
    rw [e]
    refine HP (h u) H ⟨(I.2.1 u hu).1, (I.2.1 u hu).2, ?_⟩
    intro hW
    have h1 := cg_HB hq hqc I u hu
    have h2 := I.2.2 u hu (h u) (by omega) hW
    omega
  | succ d ih =>
    intro k H h hk I
    refine br_f (nI_ge (by omega) (by omega)) ?_
    refine cg_xh (k := k) _ hc g q hg hq hqc nx L gs hn ?_ H h I
    intro H' h' I'
    exact nm_r (nI_1 k) (ih (k + 1) H' h' (by omega) I')
theorem cg_xhi (post : Int32 → SX → Prop) {c u : Nat} (hc : c ≤ 9) (hu : u < c) (g q : Nat → Nat) (hg : cg_Bd c g) (hq : cg_Rk c g q) (hqc : ∀ i, i < c → q i < c) (nx L gs : Nat → Int32) (hn : ∀ j, j < c → nx j = nI (g j))
    (HP : ∀ h H', cg_H c g u h → post (nI h) (nI c, nx, L, H', gs)) :
    ∀ (d j : Nat) (H : Nat → Int32), j + d = c → (∀ i, i < j → H i = 1) → wX_height_12 post (nI u) (nI c) (d + 1) (nI j) nx L H gs := by
  intro d
  induction d with
  | zero =>
    intro j H hj hH
    refine br_t (nI_le (by omega) (by omega)) ⟨c + 1, ?_⟩
    refine cg_xh35 post hc hu g q hg hq hqc nx L gs hn HP c 0 H (fun _ => 1) (by omega) ⟨?_, ?_, ?_⟩
    · intro i hi
      exact hH i (by omega)
    · intro i hi
      exact ⟨Nat.le_refl 1, i, rfl⟩
    · intro i hi n hn0 _
      rw [if_neg (Nat.not_lt_zero i)] at hn0
      show n + 1 ≤ 1
      omega
  | succ d ih =>
    intro j H hj hH
    refine br_f (nI_ge (by omega) (by omega)) ⟨vp_in_nI (by omega) (by omega), nm_e (nm_r (nI_1 j) (ih (j + 1) _ (by omega) ?_))⟩
    intro i hi
    rw [nI_clamp (by omega)]
    by_cases e : i = j
    · subst e
      exact pk_us
    · rw [pk_un e]
      exact hH i (by omega)
/-! height: the reference -/
theorem cg_yh28 (post : Int32 → Prop) (J : Int32 → Int32 → Prop) {c R h : Nat} (hc : c ≤ 9) (g : Nat → Nat) (hg : cg_Bd c g) (hR : R < 512) (ny ly sl : Nat → Int32) (hn : ∀ j, j < c → ny j = nI (g j))
    (H0 : (∀ b, ¬ ∃ w, R.testBit w = true ∧ cg_E c g w b) → post (nI h)) (HJ : ∀ F, F < 2 ^ c → F ≠ 0 → (∀ b, F.testBit b = true ↔ ∃ w, R.testBit w = true ∧ cg_E c g w b) → J (nI F) (nI (h + 1))) :
    ∀ (d v F : Nat), v + d = c → F < 2 ^ c → (∀ b, F.testBit b = true ↔ ∃ w, w < v ∧ R.testBit w = true ∧ cg_E c g w b) → wY_height_28 post J (nI R) (nI h) (nI c) ny ly sl (d + 1) (nI F) (nI v) := by
  have p9 := cg_p9 hc
  intro d
  induction d with
  | zero =>
    intro v F hv hF hb
    have e : v = c := by omega
    subst e
    have hb' : ∀ b, F.testBit b = true ↔ ∃ w, R.testBit w = true ∧ cg_E v g w b := by
      intro b
      rw [hb b]
      constructor
      · rintro ⟨w, _, h⟩; exact ⟨w, h⟩
      · rintro ⟨w, h⟩; exact ⟨w, h.2.1, h⟩
    refine br_t (nI_le (by omega) (by omega)) ?_
    refine pk_eq F 0 (fun e => ?_) (fun e => ?_) rfl nI_0.symm
    · refine H0 ?_
      intro b z
      have := (hb' b).mpr z
      rw [e, Nat.zero_testBit] at this
      exact absurd this (by decide)
    · exact nm_r (nI_1 h) (HJ F hF e hb')
  | succ d ih =>
    intro v F hv hF hb
    have hvc : v < c := by omega
    refine br_f (nI_ge hvc (by omega)) ?_
    refine cg_i _ R v rfl (by omega) (by omega) (fun hf => ?_) (fun ht => ?_)
    · refine nm_r (nI_1 v) (ih (v + 1) F (by omega) hF ?_)
      intro b
      rw [hb b]
      constructor
      · rintro ⟨w, h1, h2⟩; exact ⟨w, by omega, h2⟩
      · rintro ⟨w, h1, h2, h3⟩
        refine ⟨w, ?_, h2, h3⟩
        have : w ≠ v := by
          intro e
          rw [e, hf] at h2
          exact absurd h2 (by decide)
        omega
    · have e1 : nI F ||| ny (nI v).toNatClampNeg = nI (F ||| g v) := by
        rw [cg_at hn (by omega) hvc, cg_or]
      refine ⟨vp_in_nI (by omega) (by omega), nm_r e1 (nm_r (nI_1 v) (ih (v + 1) _ (by omega) (Nat.or_lt_two_pow hF (hg v hvc)) ?_))⟩
      intro b
      rw [Nat.testBit_or, Bool.or_eq_true, hb b]
      constructor
      · rintro (⟨w, h1, h2⟩ | h1)
        · exact ⟨w, by omega, h2⟩
        · exact ⟨v, by omega, ht, hvc, h1⟩
      · rintro ⟨w, h1, h2, h3⟩
        by_cases e : w = v
        · subst e
          exact Or.inr h3.2
        · exact Or.inl ⟨w, by omega, h2, h3⟩
theorem cg_yh16 (post : Int32 → Prop) {c u : Nat} (hc : c ≤ 9) (hu : u < c) (g q : Nat → Nat) (hg : cg_Bd c g) (hq : cg_Rk c g q) (hqc : ∀ i, i < c → q i < c) (ny ly sl : Nat → Int32) (hn : ∀ j, j < c → ny j = nI (g j))
    (HP : ∀ h, cg_H c g u h → post (nI h)) :
    ∀ (d h R : Nat), h + d = 10 → 1 ≤ h → R < 2 ^ c → (∃ b, cg_W c g (h - 1) u b) → (∀ b, R.testBit b = true ↔ cg_W c g (h - 1) u b) → wY_height_16 post (nI c) ny ly sl (d + 1) (nI R) (nI h) := by
  have p9 := cg_p9 hc
  intro d
  induction d with
  | zero =>
    intro h R hh h1 hR hW hb
    obtain ⟨b, hW⟩ := hW
    have h2 := cg_Wr hq _ _ _ hW
    have h3 := hqc u hu
    omega
  | succ d ih =>
    intro h R hh h1 hR hW hb
    have key : ∀ b, (∃ w, R.testBit w = true ∧ cg_E c g w b) ↔ cg_W c g h u b := by
      intro b
      have e : h = (h - 1) + 1 := by omega
      rw [e, cg_Wb]
      constructor
      · rintro ⟨w, h1, h2⟩; exact ⟨w, (hb w).mp h1, h2⟩
      · rintro ⟨w, h1, h2⟩; exact ⟨w, (hb w).mpr h1, h2⟩
    refine br_f (nI_nlt (b := h) (a := 9) (by omega) (by omega)) ⟨c + 1, ?_⟩
    refine cg_yh28 post _ hc g hg (by omega) ny ly sl hn ?_ ?_ c 0 0 (by omega) (Nat.two_pow_pos c) ?_
    · intro z
      refine HP h ⟨h1, hW, ?_⟩
      rintro ⟨b, h2⟩
      exact z b ((key b).mpr h2)
    · intro F hF hF0 hFb
      have hFb' : ∀ b, F.testBit b = true ↔ cg_W c g (h + 1 - 1) u b := by
        intro b
        rw [hFb b, key b, Nat.add_sub_cancel]
      obtain ⟨b, h2⟩ := Nat.exists_testBit_of_ne_zero hF0
      exact ih (h + 1) F (by omega) (by omega) hF ⟨b, (hFb' b).mp h2⟩ hFb'
    · intro b
      rw [Nat.zero_testBit]
      constructor
      · intro z; exact absurd z (by decide)
      · rintro ⟨w, h1, _⟩; exact absurd h1 (Nat.not_lt_zero w)
theorem cg_vheight {u : SX} {v : SY} (I : cg_S u v) (v1 : Int32) : wpX_height (fun r u' => wpY_height (fun r' => r' = r ∧ cg_S u' v) v v1) u v1 := by
  obtain ⟨c, g, l, nx, L, hs, gs, ny, ly, sl, rfl, rfl, hR, hx, hy, hL⟩ := I
  obtain ⟨q, hq1, hq2⟩ := cg_rk2 hR
  have hc := hR.1
  have hg := hR.2.1
  unfold wpX_height wpY_height
  dsimp only
  rcases cg_ix v1 hc with h | ⟨a, ha, rfl⟩
  · refine cg_tF c rfl h ?_
    refine cg_sF c rfl h ?_
    exact ⟨rfl, cg_Smk hR hx hy hL⟩
  · refine cg_tT c rfl hc ha ?_
    refine ⟨c + 1, ?_⟩
    refine cg_xhi _ hc ha g q hg hq1 hq2 nx L gs hx ?_ c 0 hs (by omega) (fun i hi => absurd hi (Nat.not_lt_zero i))
    intro h H' hh
    refine cg_sT c rfl hc ha ?_
    refine nm_r (cg_one (by omega)) ⟨10, ?_⟩
    refine cg_yh16 _ hc ha g q hg hq1 hq2 ny ly sl hy ?_ 9 1 (2 ^ a) (by omega) (by omega) (Nat.pow_lt_pow_right (by decide) ha) ⟨a, rfl⟩ ?_
    · intro h' hh'
      rw [cg_Hu hh' hh]
      exact ⟨rfl, cg_Smk hR hx hy hL⟩
    · intro b
      rw [Nat.testBit_two_pow, decide_eq_true_eq]
      exact Iff.rfl
