/-! schedules: peeled from the end (CX), grown from the start (CY) -/
def cg_sb (A B : Nat) : Prop := ∀ i, A.testBit i = true → B.testBit i = true
def cg_z (A : Nat) : Nat := cg_n (fun v => A.testBit v) 9
def cg_ne (g : Nat → Nat) (A S : Nat) : Prop := ∀ a b, A.testBit a = true → S.testBit b = true → (g a).testBit b = true → False
def cg_CX (g : Nat → Nat) (m : Nat) : Nat → Nat → Prop
  | 0 => fun S => S = 0
  | k + 1 => fun S => ∃ A, A ≠ 0 ∧ cg_sb A S ∧ cg_z A ≤ m ∧ cg_ne g A S ∧ cg_CX g m k (cg_d S A)
def cg_CY (g : Nat → Nat) (m T : Nat) : Nat → Nat → Prop
  | 0 => fun D => D = 0
  | k + 1 => fun D => ∃ P A, A ≠ 0 ∧ cg_sb A (cg_d T P) ∧ cg_z A ≤ m ∧ cg_ne g (cg_d T P) A ∧ D = P ||| A ∧ cg_CY g m T k P
theorem cg_dI {a b i : Nat} : (cg_d a b).testBit i = true ↔ a.testBit i = true ∧ b.testBit i = false := by
  rw [cg_dt]
  cases a.testBit i <;> cases b.testBit i <;> simp
theorem cg_oI {a b i : Nat} : (a ||| b).testBit i = true ↔ a.testBit i = true ∨ b.testBit i = true := by
  rw [Nat.testBit_or, Bool.or_eq_true]
theorem cg_tf {b : Bool} (h : b = true) (h2 : b = false) : False := by
  rw [h] at h2
  exact absurd h2 (by decide)
theorem cg_YX {g : Nat → Nat} {m T : Nat} : ∀ k D, cg_CY g m T k D → cg_sb D T ∧ cg_ne g (cg_d T D) D ∧ cg_CX g m k D := by
  intro k
  induction k with
  | zero =>
    intro D h
    have e : D = 0 := h
    subst e
    refine ⟨?_, ?_, rfl⟩
    · intro i hi
      rw [Nat.zero_testBit] at hi
      exact absurd hi (by decide)
    · intro a b _ hb
      rw [Nat.zero_testBit] at hb
      exact absurd hb (by decide)
  | succ k ih =>
    rintro D ⟨P, A, h0, h1, h2, h3, e, h4⟩
    subst e
    obtain ⟨i1, i2, i3⟩ := ih P h4
    have key : ∀ a b, (cg_d T P).testBit a = true → (P ||| A).testBit b = true → (g a).testBit b = true → False := by
      intro a b ha hb hab
      rcases cg_oI.mp hb with hb | hb
      · exact i2 a b ha hb hab
      · exact h3 a b ha hb hab
    refine ⟨?_, ?_, A, h0, ?_, h2, ?_, ?_⟩
    · intro i hi
      rcases cg_oI.mp hi with hi | hi
      · exact i1 i hi
      · exact (cg_dI.mp (h1 i hi)).1
    · intro a b ha hb hab
      refine key a b ?_ hb hab
      obtain ⟨x1, x2⟩ := cg_dI.mp ha
      refine cg_dI.mpr ⟨x1, ?_⟩
      apply cg_f
      intro z
      exact cg_tf (cg_oI.mpr (Or.inl z)) x2
    · intro i hi
      exact cg_oI.mpr (Or.inr hi)
    · intro a b ha hb hab
      exact key a b (h1 a ha) hb hab
    · have e : cg_d (P ||| A) A = P := by
        apply cg_ext
        intro i
        rw [cg_dI, cg_oI]
        constructor
        · rintro ⟨x | x, y⟩
          · exact x
          · exact (cg_tf x y).elim
        · intro x
          refine ⟨Or.inl x, ?_⟩
          apply cg_f
          intro z
          exact cg_tf x (cg_dI.mp (h1 i z)).2
      rw [e]
      exact i3
theorem cg_XY {g : Nat → Nat} {m T : Nat} : ∀ k D, cg_CX g m k D → cg_sb D T → cg_ne g (cg_d T D) D → cg_CY g m T k D := by
  intro k
  induction k with
  | zero =>
    intro D h _ _
    exact h
  | succ k ih =>
    rintro D ⟨A, h0, h1, h2, h3, h4⟩ hs hn
    have key : ∀ a b, (cg_d T (cg_d D A)).testBit a = true → D.testBit b = true → (g a).testBit b = true → False := by
      intro a b ha hb hab
      obtain ⟨x1, x2⟩ := cg_dI.mp ha
      cases hA : A.testBit a
      · refine hn a b (cg_dI.mpr ⟨x1, ?_⟩) hb hab
        apply cg_f
        intro z
        exact cg_tf (cg_dI.mpr ⟨z, hA⟩) x2
      · exact h3 a b hA hb hab
    refine ⟨cg_d D A, A, h0, ?_, h2, ?_, ?_, ih (cg_d D A) h4 ?_ ?_⟩
    · intro i hi
      refine cg_dI.mpr ⟨hs i (h1 i hi), ?_⟩
      apply cg_f
      intro z
      exact cg_tf hi (cg_dI.mp z).2
    · intro a b ha hb hab
      exact key a b ha (h1 b hb) hab
    · apply cg_ext
      intro i
      rw [cg_oI, cg_dI]
      constructor
      · intro x
        cases hA : A.testBit i
        · exact Or.inl ⟨x, rfl⟩
        · exact Or.inr rfl
      · rintro (⟨x, _⟩ | x)
        · exact x
        · exact h1 i x
    · intro i hi
      exact hs i (cg_dI.mp hi).1
    · intro a b ha hb hab
      exact key a b ha (cg_dI.mp hb).1 hab
theorem cg_XYT {g : Nat → Nat} {m T k : Nat} (h : cg_CX g m k T) : cg_CY g m T k T := by
  refine cg_XY k T h (fun i hi => hi) ?_
  intro a b ha
  exact (cg_tf (cg_dI.mp ha).1 (cg_dI.mp ha).2).elim
theorem cg_z2 : ∀ u, u < 9 → cg_z (2 ^ u) = 1 := by decide +kernel
theorem cg_zlt {S A : Nat} (hS : S < 512) (h0 : A ≠ 0) (h : cg_sb A S) : cg_z (cg_d S A) < cg_z S := by
  obtain ⟨i, hi⟩ := Nat.exists_testBit_of_ne_zero h0
  refine cg_n_lt (w := i) ?_ (cg_big (c := 9) hS (h i hi)) (h i hi) ?_
  · intro j _ hj
    exact (cg_dI.mp hj).1
  · apply cg_f
    intro z
    exact cg_tf hi (cg_dI.mp z).2
theorem cg_dle (S A : Nat) : cg_d S A ≤ S := Nat.le_of_testBit (fun i hi => (cg_dI.mp hi).1)
theorem cg_dlt {S A : Nat} (h0 : A ≠ 0) (h : cg_sb A S) : cg_d S A < S := by
  refine Nat.lt_of_le_of_ne (cg_dle S A) ?_
  intro e
  obtain ⟨i, hi⟩ := Nat.exists_testBit_of_ne_zero h0
  have h1 := h i hi
  rw [← e] at h1
  exact cg_tf hi (cg_dI.mp h1).2
theorem cg_sink {c S : Nat} {g r : Nat → Nat} (hr : cg_Rk c g r) (hS : S < 2 ^ c) (h0 : S ≠ 0) : ∃ u, S.testBit u = true ∧ ∀ b, S.testBit b = true → (g u).testBit b = true → False := by
  obtain ⟨i, hi⟩ := Nat.exists_testBit_of_ne_zero h0
  obtain ⟨k, ⟨u, hu, hk⟩, hm⟩ := pk_least (fun k => ∃ u, S.testBit u = true ∧ r u = k) ⟨r i, i, hi, rfl⟩
  refine ⟨u, hu, ?_⟩
  intro b hb hub
  have h1 := hr u b ⟨cg_big hS hu, hub⟩
  exact hm (r b) (by omega) ⟨b, hb, rfl⟩
theorem cg_some {c m : Nat} {g r : Nat → Nat} (hc : c ≤ 9) (hr : cg_Rk c g r) (hm : 1 ≤ m) : ∀ n S, cg_z S ≤ n → S < 2 ^ c → ∃ k, k ≤ cg_z S ∧ cg_CX g m k S := by
  have p9 := cg_p9 hc
  intro n
  induction n with
  | zero =>
    intro S hz hS
    by_cases h0 : S = 0
    · exact ⟨0, Nat.zero_le _, h0⟩
    · have := cg_zlt (A := S) (by omega) h0 (fun i hi => hi)
      omega
  | succ n ih =>
    intro S hz hS
    by_cases h0 : S = 0
    · exact ⟨0, Nat.zero_le _, h0⟩
    · obtain ⟨u, hu, hn⟩ := cg_sink hr hS h0
      have hA : (2 : Nat) ^ u ≠ 0 := Nat.pos_iff_ne_zero.mp (Nat.two_pow_pos u)
      have hsb : cg_sb (2 ^ u) S := by
        intro i hi
        rw [Nat.testBit_two_pow, decide_eq_true_eq] at hi
        subst hi
        exact hu
      have h1 := cg_zlt (by omega) hA hsb
      obtain ⟨k, hk, hC⟩ := ih (cg_d S (2 ^ u)) (by omega) (Nat.lt_of_le_of_lt (cg_dle _ _) hS)
      refine ⟨k + 1, by omega, 2 ^ u, hA, hsb, ?_, ?_, hC⟩
      · have h2 := cg_big hS hu
        rw [cg_z2 u (by omega)]
        exact hm
      · intro a b ha hb hab
        rw [Nat.testBit_two_pow, decide_eq_true_eq] at ha
        subst ha
        exact hn b hb hab
theorem cg_some9 {c m S : Nat} {g r : Nat → Nat} (hc : c ≤ 9) (hr : cg_Rk c g r) (hm : 1 ≤ m) (hS : S < 2 ^ c) : ∃ k, k ≤ 9 ∧ cg_CX g m k S := by
  obtain ⟨k, h1, h2⟩ := cg_some hc hr hm (cg_z S) S (Nat.le_refl _) hS
  exact ⟨k, Nat.le_trans h1 (cg_n_le _ 9), h2⟩
def cg_L (g : Nat → Nat) (m k S : Nat) : Prop := cg_CX g m k S ∧ ∀ j, j < k → ¬ cg_CX g m j S
theorem cg_Lu {g : Nat → Nat} {m k k' S : Nat} (h : cg_L g m k S) (h' : cg_L g m k' S) : k = k' := by
  rcases Nat.lt_trichotomy k k' with e | e | e
  · exact absurd h.1 (h'.2 k e)
  · exact e
  · exact absurd h'.1 (h.2 k' e)
theorem cg_L9 {c m k S : Nat} {g r : Nat → Nat} (hc : c ≤ 9) (hr : cg_Rk c g r) (hm : 1 ≤ m) (hS : S < 2 ^ c) (h : cg_L g m k S) : k ≤ 9 := by
  obtain ⟨k', h1, h2⟩ := cg_some9 hc hr hm hS
  rcases Nat.lt_or_ge k' k with z | z
  · exact absurd h2 (h.2 k' z)
  · omega
/-! the next smaller subset -/
theorem cg_enum : ∀ (n A B : Nat), cg_sb A B → cg_sb n B → A < n → A ≤ (n - 1) &&& B := by
  intro n
  induction n using Nat.strongRecOn with
  | ind n ih =>
    intro A B hA hn hlt
    rcases Nat.mod_two_eq_zero_or_one n with e | e
    · have h1 : A / 2 ≤ (n / 2 - 1) &&& (B / 2) := by
        refine ih (n / 2) (by omega) (A / 2) (B / 2) ?_ ?_ (by omega)
        · intro i hi
          rw [Nat.testBit_div_two] at hi ⊢
          exact hA _ hi
        · intro i hi
          rw [Nat.testBit_div_two] at hi ⊢
          exact hn _ hi
      have h2 : ((n - 1) &&& B) / 2 = (n / 2 - 1) &&& (B / 2) := by
        rw [Nat.and_div_two]
        congr 1
        omega
      have h3 : A % 2 = 1 → ((n - 1) &&& B) % 2 = 1 := by
        intro z
        rw [Nat.and_mod_two_eq_one]
        refine ⟨by omega, ?_⟩
        rw [Nat.mod_two_eq_one_iff_testBit_zero] at z ⊢
        exact hA 0 z
      generalize (n - 1) &&& B = R at h2 h3 ⊢
      omega
    · have h1 : n - 1 ≤ (n - 1) &&& B := by
        apply Nat.le_of_testBit
        intro i hi
        rw [Nat.testBit_and, hi, Bool.true_and]
        apply hn
        cases i with
        | zero =>
          rw [← Nat.mod_two_eq_one_iff_testBit_zero]
          exact e
        | succ i =>
          rw [← Nat.testBit_div_two] at hi ⊢
          rw [show n / 2 = (n - 1) / 2 by omega]
          exact hi
      omega
