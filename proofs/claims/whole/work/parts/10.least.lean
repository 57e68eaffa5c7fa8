/-! the reference's table -/
theorem cg_yz4 (post : Int32 → Prop) (f0 : Int32) (ny ly sl : Nat → Int32) {A : Nat} (hA : A < 512) (HP : post (nI (cg_z A))) :
    ∀ d v : Nat, v + d = 9 → wY_sizeOf_4 post (nI A) f0 ny ly sl (d + 1) (nI (cg_n (fun v => A.testBit v) v)) (nI v) := by
  intro d
  induction d with
  | zero =>
    intro v hv
    have e : v = 9 := by omega
    subst e
    exact br_t (nI_le (a := 9) (by omega) (by omega)) HP
  | succ d ih =>
    intro v hv
    have i := ih (v + 1) (by omega)
    refine br_f (nI_ge (b := 9) (by omega) (by omega)) ?_
    refine cg_i _ A v rfl (by omega) (by omega) (fun z => ?_) (fun z => ?_)
    · rw [cg_nF (p := fun v => A.testBit v) z] at i
      exact nm_r (nI_1 v) i
    · rw [cg_nT (p := fun v => A.testBit v) z] at i
      exact nm_r (nI_1 _) (nm_r (nI_1 v) i)
theorem cg_yz (post : Int32 → Prop) (f0 : Int32) (ny ly sl : Nat → Int32) {A : Nat} (hA : A < 512) (HP : post (nI (cg_z A))) : wpY_sizeOf post (f0, ny, ly, sl) (nI A) := ⟨10, cg_yz4 post f0 ny ly sl hA HP 9 0 (by omega)⟩
theorem cg_yo5 (post : Int32 → Prop) {c T D : Nat} (hc : c ≤ 9) (g : Nat → Nat) (hg : cg_Bd c g) (hT : T < 2 ^ c) (hD : D < 512) (ny ly sl : Nat → Int32) (hy : ∀ j, j < c → ny j = nI (g j))
    (HP : ∀ O, O ≤ T → (∀ A, cg_sb A O ↔ cg_sb A (cg_d T D) ∧ cg_ne g (cg_d T D) A) → post (nI O)) :
    ∀ d v F : Nat, v + d = c → F < 2 ^ c → (∀ b, F.testBit b = true ↔ ∃ a, a < v ∧ (cg_d T D).testBit a = true ∧ (g a).testBit b = true) → wY_open_5 post (nI T) (nI D) (nI c) ny ly sl (d + 1) (nI F) (nI v) := by
  have p9 := cg_p9 hc
  intro d
  induction d with
  | zero =>
    intro v F hv hF hb
    have e : v = c := by omega
    subst e
    have e1 : (nI T &&& (nI D ^^^ (-1))) &&& (nI F ^^^ (-1)) = nI (cg_d (cg_d T D) F) := by
      rw [cg_nt, cg_nt]
    refine br_t (nI_le (by omega) (by omega)) ?_
    rw [e1]
    refine HP _ (Nat.le_trans (cg_dle _ _) (cg_dle _ _)) ?_
    intro A
    constructor
    · intro h
      refine ⟨fun i hi => (cg_dI.mp (h i hi)).1, ?_⟩
      intro a b ha hbA hab
      have h1 : F.testBit b = true := (hb b).mpr ⟨a, cg_big hT (cg_dI.mp ha).1, ha, hab⟩
      exact cg_tf h1 (cg_dI.mp (h b hbA)).2
    · rintro ⟨h1, h2⟩ i hi
      refine cg_dI.mpr ⟨h1 i hi, ?_⟩
      apply cg_f
      intro z
      obtain ⟨a, _, h3, h4⟩ := (hb i).mp z
      exact h2 a i h3 hi h4
  | succ d ih =>
    intro v F hv hF hb
    have hvc : v < c := by omega
    have keep : ((cg_d T D).testBit v = true → False) → ∀ b, F.testBit b = true ↔ ∃ a, a < v + 1 ∧ (cg_d T D).testBit a = true ∧ (g a).testBit b = true := by
      intro hn b
      rw [hb b]
      constructor
      · rintro ⟨a, x, y⟩; exact ⟨a, by omega, y⟩
      · rintro ⟨a, x, y⟩
        refine ⟨a, ?_, y⟩
        have : a ≠ v := by
          intro e
          subst e
          exact hn y.1
        omega
    refine br_f (nI_ge hvc (by omega)) ?_
    refine cg_i _ T v rfl (by omega) (by omega) (fun z => ?_) (fun z => ?_)
    · exact nm_r (nI_1 v) (ih (v + 1) F (by omega) hF (keep (fun y => cg_tf (cg_dI.mp y).1 z)))
    · refine cg_i _ D v rfl (by omega) (by omega) (fun z2 => ?_) (fun z2 => ?_)
      · have e1 : nI F ||| ny (nI v).toNatClampNeg = nI (F ||| g v) := by
          rw [cg_at hy (by omega) hvc, cg_or]
        refine ⟨vp_in_nI (by omega) (by omega), nm_r e1 (nm_r (nI_1 v) (ih (v + 1) _ (by omega) (Nat.or_lt_two_pow hF (hg v hvc)) ?_))⟩
        intro b
        rw [cg_oI, hb b]
        constructor
        · rintro (⟨a, x, y⟩ | x)
          · exact ⟨a, by omega, y⟩
          · exact ⟨v, by omega, cg_dI.mpr ⟨z, z2⟩, x⟩
        · rintro ⟨a, x, y⟩
          by_cases e : a = v
          · subst e; exact Or.inr y.2
          · exact Or.inl ⟨a, by omega, y⟩
      · exact nm_r (nI_1 v) (ih (v + 1) F (by omega) hF (keep (fun y => cg_tf z2 (cg_dI.mp y).2)))
theorem cg_yo (post : Int32 → Prop) {c T D : Nat} (hc : c ≤ 9) (g : Nat → Nat) (hg : cg_Bd c g) (hT : T < 2 ^ c) (hD : D < 512) (ny ly sl : Nat → Int32) (hy : ∀ j, j < c → ny j = nI (g j))
    (HP : ∀ O, O ≤ T → (∀ A, cg_sb A O ↔ cg_sb A (cg_d T D) ∧ cg_ne g (cg_d T D) A) → post (nI O)) : wpY_open post (nI c, ny, ly, sl) (nI T) (nI D) := by
  unfold wpY_open
  dsimp only
  refine ⟨c + 1, ?_⟩
  refine cg_yo5 post hc g hg hT hD ny ly sl hy HP c 0 0 (by omega) (Nat.two_pow_pos c) ?_
  intro b
  rw [Nat.zero_testBit]
  constructor
  · intro z; exact absurd z (by decide)
  · rintro ⟨a, x, _⟩; exact absurd x (Nat.not_lt_zero a)
def cg_ok (g : Nat → Nat) (m T P A : Nat) : Prop := A ≠ 0 ∧ cg_sb A (cg_d T P) ∧ cg_z A ≤ m ∧ cg_ne g (cg_d T P) A
def cg_YS (g : Nat → Nat) (m T : Nat) (SL : Nat → Int32) (s : Nat → Nat) : Prop := ∀ S, S < 512 → SL S = nI (s S) ∧ s S ≤ 100 ∧ (s S = 100 ∨ cg_CY g m T (s S) S) ∧ (S = 0 → s S = 0)
def cg_YD (g : Nat → Nat) (m T D : Nat) (s : Nat → Nat) : Prop := ∀ P, P < D → s P ≠ 100 → ∀ A, cg_ok g m T P A → s (P ||| A) ≤ s P + 1
theorem cg_okB {g : Nat → Nat} {m T P A : Nat} (hT : T < 512) (hP : P < 512) (h : cg_ok g m T P A) : A < 512 ∧ P ||| A < 512 ∧ P < P ||| A := by
  have h1 : A < 2 ^ 9 := cg_small (fun i hi => cg_big (c := 9) hT (cg_dI.mp (h.2.1 i hi)).1)
  refine ⟨h1, Nat.or_lt_two_pow (n := 9) hP h1, ?_⟩
  refine Nat.lt_of_le_of_ne Nat.left_le_or ?_
  intro e
  obtain ⟨i, hi⟩ := Nat.exists_testBit_of_ne_zero h.1
  have h2 : (P ||| A).testBit i = true := cg_oI.mpr (Or.inr hi)
  rw [← e] at h2
  exact cg_tf h2 (cg_dI.mp (h.2.1 i hi)).2
theorem cg_yl67 (post : Int32 → SY → Prop) (J : Int32 → (Nat → Int32) → (Nat → Int32) → (Nat → Int32) → Prop) {c m T D O : Nat} (hm9 : m ≤ 9) (g : Nat → Nat) (hT : T < 512) (hD : D < 512) (hO : O ≤ T) (hOk : ∀ A, cg_sb A O → cg_sb A (cg_d T D) ∧ cg_ne g (cg_d T D) A) (ny ly : Nat → Int32) (s0 : Nat → Nat)
    (HJ : ∀ SL s, cg_YS g m T SL s → cg_YD g m T D s → s D = s0 D → (s D ≠ 100 → ∀ A, cg_sb A O → A ≠ 0 → cg_z A ≤ m → s (D ||| A) ≤ s D + 1) → J (nI (D + 1)) ny ly SL) (hs0 : O ≠ 0 → s0 D ≠ 100) :
    ∀ (n w : Nat) (SL : Nat → Int32) (s : Nat → Nat), w < n → cg_sb w O → cg_YS g m T SL s → cg_YD g m T D s → s D = s0 D → (∀ A, w < A → cg_sb A O → A ≠ 0 → cg_z A ≤ m → s (D ||| A) ≤ s D + 1) → wY_least_67 post J (nI T) (nI m) (nI D) (nI O) (nI c) n (nI w) ny ly SL := by
  intro n
  induction n with
  | zero =>
    intro w SL s hw
    omega
  | succ n ih =>
    intro w SL s hw hwO hS hY hD0 hall
    have hwle : w ≤ O := Nat.le_of_testBit hwO
    by_cases w0 : w = 0
    · subst w0
      refine br_t (nI_le (b := 0) (by omega) (by omega)) (nm_r (nI_1 D) (HJ SL s hS hY hD0 ?_))
      intro _ A h1 h2 h3
      exact hall A (by omega) h1 h2 h3
    · have hsD := hs0 (by omega)
      rw [← hD0] at hsD
      have e1 : (nI w - 1) &&& nI O = nI ((w - 1) &&& O) := by
        rw [show nI w - 1 = nI (w - 1) from pk_sub (b := 1) (by omega), nx_and]
      have hw' : ((w - 1) &&& O) ≤ w - 1 := Nat.and_le_left
      have hwO' : cg_sb ((w - 1) &&& O) O := by
        intro i hi
        rw [Nat.testBit_and, Bool.and_eq_true] at hi
        exact hi.2
      have nxt : ∀ (SL' : Nat → Int32) (s' : Nat → Nat), cg_YS g m T SL' s' → cg_YD g m T D s' → s' D = s0 D → (∀ A, w < A → cg_sb A O → A ≠ 0 → cg_z A ≤ m → s' (D ||| A) ≤ s' D + 1) → (cg_z w ≤ m → s' (D ||| w) ≤ s' D + 1) → wY_least_67 post J (nI T) (nI m) (nI D) (nI O) (nI c) n (nI ((w - 1) &&& O)) ny ly SL' := by
        intro SL' s' a1 a2 a3 a4 a5
        refine ih _ SL' s' (by omega) hwO' a1 a2 a3 ?_
        intro A b1 b2 b3 b4
        rcases Nat.lt_trichotomy A w with z | z | z
        · have := cg_enum w A O b2 hwO z
          omega
        · subst z
          exact a5 b4
        · exact a4 A z b2 b3 b4
      have hz := cg_n_le (fun v => w.testBit v) 9
      refine br_f (nI_nle (by omega) (by omega)) ?_
      refine cg_yz _ _ _ _ _ (by omega) ?_
      refine pk_lt m (cg_z w) (fun z => ?_) (fun z => ?_) rfl rfl (by omega) (by unfold cg_z; omega)
      · exact nm_r e1 (nxt SL s hS hY hD0 hall (fun y => by omega))
      · have hok : cg_ok g m T D w := ⟨w0, (hOk w hwO).1, z, (hOk w hwO).2⟩
        obtain ⟨q1, q2, q3⟩ := cg_okB hT hD hok
        obtain ⟨t1, t2, t3, _⟩ := hS D hD
        obtain ⟨t4, t5, t6, _⟩ := hS (D ||| w) q2
        have e2 : SL (nI D ||| nI w).toNatClampNeg = nI (s (D ||| w)) := by
          rw [cg_or, nI_clamp (by omega), t4]
        have e3 : SL (nI D).toNatClampNeg + 1 = nI (s D + 1) := by
          rw [nI_clamp (by omega), t1, nI_1]
        have hi1 : vp_in (nI D) 512 := vp_in_nI hD (by omega)
        have hi2 : vp_in (nI D ||| nI w) 512 := by rw [cg_or]; exact vp_in_nI q2 (by omega)
        refine ⟨hi1, hi2, ?_⟩
        refine pk_le (s (D ||| w)) (s D + 1) (fun y => ?_) (fun y => ?_) e2 e3
        · exact nm_r e1 (nxt SL s hS hY hD0 hall (fun _ => y))
        · have e4 : upd SL (nI D ||| nI w).toNatClampNeg (SL (nI D).toNatClampNeg + 1) = upd SL (nI (D ||| w)).toNatClampNeg (nI (s D + 1)) := by
            rw [e3, cg_or]
          have hDn : D ≠ D ||| w := by omega
          have low : ∀ S, cg_u s (D ||| w) (s D + 1) S ≤ s S := by
            intro S
            by_cases e : S = D ||| w
            · rw [e, cg_us]; omega
            · rw [cg_un e]; exact Nat.le_refl _
          refine ⟨hi1, hi2, nm_r e4 (nm_r e1 (nxt _ (cg_u s (D ||| w) (s D + 1)) ?_ ?_ ?_ ?_ ?_))⟩
          · intro S hS'
            refine ⟨cg_uh (c := 512) (fun j hj => (hS j hj).1) (by omega) rfl S hS', ?_⟩
            by_cases e : S = D ||| w
            · subst e
              rw [cg_us]
              refine ⟨by omega, Or.inr ⟨D, w, w0, hok.2.1, z, hok.2.2.2, rfl, ?_⟩, fun x => by omega⟩
              exact t3.resolve_left hsD
            · rw [cg_un e]
              exact (hS S hS').2
          · intro P hP hP1 A hA
            rw [cg_un (j := P) (by omega)] at hP1 ⊢
            exact Nat.le_trans (low _) (hY P hP hP1 A hA)
          · rw [cg_un hDn]
            exact hD0
          · intro A b1 b2 b3 b4
            rw [cg_un hDn]
            exact Nat.le_trans (low _) (hall A b1 b2 b3 b4)
          · intro _
            rw [cg_us, cg_un hDn]
            exact Nat.le_refl _
theorem cg_yl33 (post : Int32 → SY → Prop) {c m T : Nat} (hc : c ≤ 9) (hm9 : m ≤ 9) (g : Nat → Nat) (hg : cg_Bd c g) (hT : T < 2 ^ c) (ny ly : Nat → Int32) (hy : ∀ j, j < c → ny j = nI (g j))
    (HP : ∀ SL s, cg_YS g m T SL s → cg_YD g m T 512 s → post (nI (s T)) (nI c, ny, ly, SL)) :
    ∀ (d D : Nat) (SL : Nat → Int32) (s : Nat → Nat), D + d = 512 → cg_YS g m T SL s → cg_YD g m T D s → wY_least_33 post (nI T) (nI m) (nI c) (d + 1) (nI D) ny ly SL := by
  have p9 := cg_p9 hc
  intro d
  induction d with
  | zero =>
    intro D SL s hD hS hY
    have e : D = 512 := by omega
    subst e
    refine br_t (nI_le (a := 512) (by omega) (by omega)) ⟨vp_in_nI (by omega) (by omega), ?_⟩
    rw [nI_clamp (by omega), (hS T (by omega)).1]
    exact HP SL s hS hY
  | succ d ih =>
    intro D SL s hD hS hY
    have hD5 : D < 512 := by omega
    obtain ⟨t1, t2, t3, _⟩ := hS D hD5
    have e1 : SL (nI D).toNatClampNeg = nI (s D) := by
      rw [nI_clamp (by omega), t1]
    refine br_f (nI_ge (b := 512) (by omega) (by omega)) ⟨vp_in_nI hD5 (by omega), ?_⟩
    refine pk_eq (s D) 100 (fun z => ?_) (fun z => ?_) e1 rfl
    · refine ⟨1, ?_⟩
      refine cg_yl67 (O := 0) post _ hm9 g (by omega) hD5 (Nat.zero_le _) ?_ ny ly s ?_ (fun h => absurd rfl h) 1 0 SL s (by omega) (fun i hi => hi) hS hY rfl ?_
      · intro A hA
        constructor
        · intro i hi
          have := hA i hi
          rw [Nat.zero_testBit] at this
          exact absurd this (by decide)
        · intro a b _ hb
          have := hA b hb
          rw [Nat.zero_testBit] at this
          exact absurd this (by decide)
      · intro SL' s' a1 a2 a3 a4
        refine ih (D + 1) SL' s' (by omega) a1 ?_
        intro P hP hP1 A hA
        by_cases e : P = D
        · subst e
          rw [a3] at hP1
          exact absurd z hP1
        · exact a2 P (by omega) hP1 A hA
      · intro A _ hA h0
        exfalso
        obtain ⟨i, hi⟩ := Nat.exists_testBit_of_ne_zero h0
        have := hA i hi
        rw [Nat.zero_testBit] at this
        exact absurd this (by decide)
    · refine cg_yo _ hc g hg hT hD5 ny ly SL hy ?_
      intro O hO hOk
      refine ⟨O + 1, ?_⟩
      refine cg_yl67 (O := O) post _ hm9 g (by omega) hD5 hO (fun A hA => (hOk A).mp hA) ny ly s ?_ (fun _ => z) (O + 1) O SL s (by omega) (fun i hi => hi) hS hY rfl ?_
      · intro SL' s' a1 a2 a3 a4
        refine ih (D + 1) SL' s' (by omega) a1 ?_
        intro P hP hP1 A hA
        by_cases e : P = D
        · subst e
          exact a4 hP1 A ((hOk A).mpr ⟨hA.2.1, hA.2.2.2⟩) hA.1 hA.2.2.1
        · exact a2 P (by omega) hP1 A hA
      · intro A hlt hA
        have := Nat.le_of_testBit hA
        omega
theorem cg_yl2 (post : Int32 → SY → Prop) {c m T : Nat} (hc : c ≤ 9) (hm9 : m ≤ 9) (g : Nat → Nat) (hg : cg_Bd c g) (hT : T < 2 ^ c) (ny ly : Nat → Int32) (hy : ∀ j, j < c → ny j = nI (g j))
    (HP : ∀ SL s, cg_YS g m T SL s → cg_YD g m T 512 s → post (nI (s T)) (nI c, ny, ly, SL)) :
    ∀ (d D : Nat) (SL : Nat → Int32), D + d = 512 → (∀ S, S < D → SL S = nI (if S = 0 then 0 else 100)) → wY_least_2 post (nI T) (nI m) (nI c) (d + 1) (nI D) ny ly SL := by
  intro d
  induction d with
  | zero =>
    intro D SL hD h
    have e : D = 512 := by omega
    subst e
    refine br_t (nI_le (a := 512) (by omega) (by omega)) ⟨513, ?_⟩
    refine cg_yl33 post hc hm9 g hg hT ny ly hy HP 512 0 SL (fun S => if S = 0 then 0 else 100) (by omega) ?_ ?_
    · intro S hS
      refine ⟨h S hS, ?_⟩
      show (if S = 0 then 0 else 100) ≤ 100 ∧ ((if S = 0 then 0 else 100) = 100 ∨ cg_CY g m T (if S = 0 then 0 else 100) S) ∧ (S = 0 → (if S = 0 then 0 else 100) = 0)
      by_cases e : S = 0
      · rw [if_pos e]
        exact ⟨by omega, Or.inr e, fun _ => rfl⟩
      · rw [if_neg e]
        exact ⟨by omega, Or.inl rfl, fun x => absurd x e⟩
    · intro P hP
      exact absurd hP (Nat.not_lt_zero P)
  | succ d ih =>
    intro D SL hD h
    refine br_f (nI_ge (b := 512) (by omega) (by omega)) ?_
    refine pk_eq D 0 (fun z => ?_) (fun z => ?_) rfl nI_0.symm
    · refine ⟨vp_in_nI (by omega) (by omega), nm_e (nm_r (nI_1 D) (ih (D + 1) _ (by omega) ?_))⟩
      intro S hS
      rw [nI_clamp (by omega)]
      have e : S = D := by omega
      subst e
      rw [pk_us, if_pos z]
      rfl
    · refine ⟨vp_in_nI (by omega) (by omega), nm_e (nm_r (nI_1 D) (ih (D + 1) _ (by omega) ?_))⟩
      intro S hS
      rw [nI_clamp (by omega)]
      by_cases e : S = D
      · subst e
        rw [pk_us, if_neg z]
        rfl
      · rw [pk_un e]
        exact h S (by omega)
theorem cg_full {g s : Nat → Nat} {m T : Nat} {SL : Nat → Int32} (hT : T < 512) (hY : cg_YD g m T 512 s) (hS : cg_YS g m T SL s) : ∀ k S, k < 100 → cg_CY g m T k S → s S ≤ k := by
  intro k
  induction k with
  | zero =>
    intro S _ h
    have e : S = 0 := h
    have h0 := (hS S (by omega)).2.2.2 e
    omega
  | succ k ih =>
    rintro S hk ⟨P, A, a1, a2, a3, a4, a5, a6⟩
    subst a5
    have h1 := ih P (by omega) a6
    have h2 : P ≤ T := Nat.le_of_testBit (cg_YX k P a6).1
    have h3 := hY P (by omega) (by omega) A ⟨a1, a2, a3, a4⟩
    omega
theorem cg_yl (post : Int32 → SY → Prop) {c m T : Nat} (hc : c ≤ 9) (hm : 1 ≤ m) (hm9 : m ≤ 9) (g r : Nat → Nat) (hg : cg_Bd c g) (hr : cg_Rk c g r) (hT : T < 2 ^ c) (ny ly sl : Nat → Int32) (hy : ∀ j, j < c → ny j = nI (g j))
    (HP : ∀ k SL, cg_L g m k T → post (nI k) (nI c, ny, ly, SL)) : wpY_least post (nI c, ny, ly, sl) (nI T) (nI m) := by
  have p9 := cg_p9 hc
  unfold wpY_least
  dsimp only
  refine ⟨513, ?_⟩
  refine cg_yl2 post hc hm9 g hg hT ny ly hy ?_ 512 0 sl (by omega) (fun S hS => absurd hS (Nat.not_lt_zero S))
  intro SL s hS hY
  refine HP (s T) SL ?_
  obtain ⟨k, hk, hC⟩ := cg_some9 hc hr hm hT
  have h1 := cg_full (by omega) hY hS k T (by omega) (cg_XYT hC)
  refine ⟨?_, ?_⟩
  · rcases (hS T (by omega)).2.2.1 with z | z
    · omega
    · exact (cg_YX (s T) T z).2.2
  · intro j hj hC'
    have := cg_full (by omega) hY hS j T (by omega) (cg_XYT hC')
    omega
