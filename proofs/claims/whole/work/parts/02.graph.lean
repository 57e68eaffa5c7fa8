/-! orders as a relation -/
def cg_E (c : Nat) (g : Nat → Nat) (a b : Nat) : Prop := a < c ∧ (g a).testBit b = true
def cg_Bd (c : Nat) (g : Nat → Nat) : Prop := ∀ j, j < c → g j < 2 ^ c
def cg_Rk (c : Nat) (g r : Nat → Nat) : Prop := ∀ a b, cg_E c g a b → r b < r a
def cg_Cl (c : Nat) (g l : Nat → Nat) : Prop := ∀ i, i < c → ∀ j, (l i).testBit j = true ↔ Relation.TransGen (cg_E c g) i j
theorem cg_Elt {c : Nat} {g : Nat → Nat} (hg : cg_Bd c g) {a b : Nat} (h : cg_E c g a b) : b < c := cg_big (hg a h.1) h.2
theorem cg_Tlt {c : Nat} {g : Nat → Nat} (hg : cg_Bd c g) {a b : Nat} (h : Relation.TransGen (cg_E c g) a b) : a < c ∧ b < c := by
  induction h with
  | single h => exact ⟨h.1, cg_Elt hg h⟩
  | tail _ h ih => exact ⟨ih.1, cg_Elt hg h⟩
theorem cg_Clu {c : Nat} {g l l' : Nat → Nat} (h : cg_Cl c g l) (h' : cg_Cl c g l') : ∀ i, i < c → l i = l' i := by
  intro i hi
  apply cg_ext
  intro j
  rw [h i hi j, h' i hi j]
theorem cg_ClB {c : Nat} {g l : Nat → Nat} (hg : cg_Bd c g) (h : cg_Cl c g l) : cg_Bd c l := by
  intro i hi
  apply cg_small
  intro j hj
  exact (cg_Tlt hg ((h i hi j).mp hj)).2
theorem cg_rkT {c : Nat} {g r : Nat → Nat} (hr : cg_Rk c g r) {a b : Nat} (h : Relation.TransGen (cg_E c g) a b) : r b < r a := by
  induction h with
  | single h => exact hr _ _ h
  | tail _ h ih => exact Nat.lt_trans (hr _ _ h) ih
theorem cg_head {c : Nat} {g : Nat → Nat} {a b d : Nat} (h : cg_E c g a b) (h2 : Relation.TransGen (cg_E c g) b d) : Relation.TransGen (cg_E c g) a d := Relation.TransGen.trans (Relation.TransGen.single h) h2
/-! counting -/
def cg_n (p : Nat → Bool) : Nat → Nat
  | 0 => 0
  | k + 1 => cg_n p k + (if p k = true then 1 else 0)
theorem cg_n_s (p : Nat → Bool) (k : Nat) : cg_n p (k + 1) = cg_n p k + (if p k = true then 1 else 0) := rfl
theorem cg_n_le (p : Nat → Bool) (k : Nat) : cg_n p k ≤ k := by
  induction k with
  | zero => exact Nat.le_refl _
  | succ k ih =>
    rw [cg_n_s]
    split <;> omega
theorem cg_n_mono {p q : Nat → Bool} {k : Nat} (h : ∀ j, j < k → p j = true → q j = true) : cg_n p k ≤ cg_n q k := by
  induction k with
  | zero => exact Nat.le_refl _
  | succ k ih =>
    have i := ih (fun j hj => h j (by omega))
    have e := h k (by omega)
    rw [cg_n_s, cg_n_s]
    cases hp : p k <;> cases hq : q k <;> simp_all <;> omega
theorem cg_n_lt {p q : Nat → Bool} {k w : Nat} (h : ∀ j, j < k → p j = true → q j = true) (hw : w < k) (hq : q w = true) (hp : p w = false) : cg_n p k < cg_n q k := by
  induction k with
  | zero => omega
  | succ k ih =>
    rw [cg_n_s, cg_n_s]
    by_cases e : w = k
    · subst e
      have i := cg_n_mono (p := p) (q := q) (k := w) (fun j hj => h j (by omega))
      simp [hp, hq]
      omega
    · have i := ih (fun j hj => h j (by omega)) (by omega)
      have e2 := h k (by omega)
      cases hp : p k <;> cases hq : q k <;> simp_all <;> omega
theorem cg_n_ltk {p : Nat → Bool} {k w : Nat} (hw : w < k) (hp : p w = false) : cg_n p k < k := Nat.lt_of_lt_of_le (cg_n_lt (q := fun _ => true) (fun _ _ _ => rfl) hw rfl hp) (cg_n_le _ _)
theorem cg_n_congr {p q : Nat → Bool} {k : Nat} (h : ∀ j, j < k → p j = q j) : cg_n p k = cg_n q k := by
  apply Nat.le_antisymm
  · exact cg_n_mono (fun j hj e => by rw [← h j hj]; exact e)
  · exact cg_n_mono (fun j hj e => by rw [h j hj]; exact e)
/-! a rank below c -/
theorem cg_rkc {c : Nat} {g l r : Nat → Nat} (hg : cg_Bd c g) (hl : cg_Cl c g l) (hr : cg_Rk c g r) : ∃ q, cg_Rk c g q ∧ ∀ i, i < c → q i < c := by
  refine ⟨fun i => cg_n (fun j => (l i).testBit j) c, ?_, ?_⟩
  · intro a b h
    have hb := cg_Elt hg h
    refine cg_n_lt (w := b) ?_ hb ?_ ?_
    · intro j _ e
      exact (hl a h.1 j).mpr (cg_head h ((hl b hb j).mp e))
    · exact (hl a h.1 b).mpr (Relation.TransGen.single h)
    · apply cg_f
      intro e
      exact Nat.lt_irrefl _ (cg_rkT hr ((hl b hb b).mp e))
  · intro i hi
    refine cg_n_ltk (w := i) hi ?_
    apply cg_f
    intro e
    exact Nat.lt_irrefl _ (cg_rkT hr ((hl i hi i).mp e))
/-! walks -/
def cg_W (c : Nat) (g : Nat → Nat) : Nat → Nat → Nat → Prop
  | 0 => fun a b => a = b
  | n + 1 => fun a b => ∃ w, cg_E c g a w ∧ cg_W c g n w b
theorem cg_Wb {c : Nat} {g : Nat → Nat} : ∀ (n a b : Nat), cg_W c g (n + 1) a b ↔ ∃ w, cg_W c g n a w ∧ cg_E c g w b := by
  intro n
  induction n with
  | zero =>
    intro a b
    constructor
    · rintro ⟨w, h, e⟩
      have e' : w = b := e
      subst e'
      exact ⟨a, rfl, h⟩
    · rintro ⟨w, e, h⟩
      have e' : a = w := e
      subst e'
      exact ⟨b, h, rfl⟩
  | succ n ih =>
    intro a b
    constructor
    · rintro ⟨w, h, h2⟩
      obtain ⟨x, h3, h4⟩ := (ih w b).mp h2
      exact ⟨x, ⟨w, h, h3⟩, h4⟩
    · rintro ⟨x, ⟨w, h, h3⟩, h4⟩
      exact ⟨w, h, (ih w b).mpr ⟨x, h3, h4⟩⟩
theorem cg_Wr {c : Nat} {g r : Nat → Nat} (hr : cg_Rk c g r) : ∀ (n a b : Nat), cg_W c g n a b → n + r b ≤ r a := by
  intro n
  induction n with
  | zero =>
    intro a b h
    have e : a = b := h
    subst e
    omega
  | succ n ih =>
    rintro a b ⟨w, h, h2⟩
    have h3 := ih w b h2
    have h4 := hr _ _ h
    omega
theorem cg_WT {c : Nat} {g : Nat → Nat} : ∀ (n a b : Nat), cg_W c g (n + 1) a b → Relation.TransGen (cg_E c g) a b := by
  intro n
  induction n with
  | zero =>
    rintro a b ⟨w, h, e⟩
    have e' : w = b := e
    subst e'
    exact Relation.TransGen.single h
  | succ n ih =>
    rintro a b ⟨w, h, h2⟩
    exact cg_head h (ih w b h2)
theorem cg_TW {c : Nat} {g : Nat → Nat} {a b : Nat} (h : Relation.TransGen (cg_E c g) a b) : ∃ n, cg_W c g (n + 1) a b := by
  induction h with
  | single h => exact ⟨0, _, h, rfl⟩
  | tail _ h ih =>
    obtain ⟨n, ih⟩ := ih
    exact ⟨n + 1, (cg_Wb (n + 1) _ _).mpr ⟨_, ih, h⟩⟩
theorem cg_Wd {c : Nat} {g : Nat → Nat} {a : Nat} : ∀ d n : Nat, (∃ b, cg_W c g (n + d) a b) → ∃ b, cg_W c g n a b := by
  intro d
  induction d with
  | zero => intro n h; exact h
  | succ d ih =>
    rintro n ⟨b, h⟩
    obtain ⟨w, h1, _⟩ := (cg_Wb (n + d) a b).mp h
    exact ih n ⟨w, h1⟩
def cg_H (c : Nat) (g : Nat → Nat) (u h : Nat) : Prop := 1 ≤ h ∧ (∃ b, cg_W c g (h - 1) u b) ∧ ¬ ∃ b, cg_W c g h u b
theorem cg_Hu {c : Nat} {g : Nat → Nat} {u h k : Nat} (a : cg_H c g u h) (b : cg_H c g u k) : h = k := by
  obtain ⟨a1, a2, a3⟩ := a
  obtain ⟨b1, b2, b3⟩ := b
  rcases Nat.lt_trichotomy h k with e | e | e
  · exact absurd (cg_Wd (k - 1 - h) h (by rw [show h + (k - 1 - h) = k - 1 by omega]; exact b2)) a3
  · exact e
  · exact absurd (cg_Wd (h - 1 - k) k (by rw [show k + (h - 1 - k) = h - 1 by omega]; exact a2)) b3
/-! Warshall's step -/
def cg_V (k : Nat) (c : Nat) (l : Nat → Nat) : Prop := ∀ w, w < k → ∀ i j, i < c → (l i).testBit w = true → (l w).testBit j = true → (l i).testBit j = true
def cg_ws (l : Nat → Nat) (k : Nat) : Nat → Nat := fun i => if (l i).testBit k = true then l i ||| l k else l i
theorem cg_wst {l : Nat → Nat} {k i j : Nat} : (cg_ws l k i).testBit j = true ↔ (l i).testBit j = true ∨ ((l i).testBit k = true ∧ (l k).testBit j = true) := by
  unfold cg_ws
  cases e : (l i).testBit k
  · simp
  · simp [Nat.testBit_or]
theorem cg_wV {c k : Nat} {l : Nat → Nat} (hk : k < c) (h : cg_V k c l) : cg_V (k + 1) c (cg_ws l k) := by
  intro w hw i j hi h1 h2
  rw [cg_wst] at h1 h2 ⊢
  by_cases e : w = k
  · subst e
    have a : (l i).testBit w = true := h1.elim id (fun z => z.1)
    have b : (l w).testBit j = true := h2.elim id (fun z => z.2)
    exact Or.inr ⟨a, b⟩
  · have hw' : w < k := by omega
    rcases h1 with h1 | ⟨h1, h1'⟩ <;> rcases h2 with h2 | ⟨h2, h2'⟩
    · exact Or.inl (h w hw' i j hi h1 h2)
    · exact Or.inr ⟨h w hw' i k hi h1 h2, h2'⟩
    · exact Or.inr ⟨h1, h w hw' k j hk h1' h2⟩
    · exact Or.inr ⟨h1, h2'⟩
theorem cg_wCl {c : Nat} {g l : Nat → Nat} (hg : cg_Bd c g) (h : cg_V c c l) (hE : ∀ i, i < c → ∀ j, (g i).testBit j = true → (l i).testBit j = true) (hT : ∀ i, i < c → ∀ j, (l i).testBit j = true → Relation.TransGen (cg_E c g) i j) : cg_Cl c g l := by
  intro i hi j
  refine ⟨hT i hi j, ?_⟩
  intro z
  induction z with
  | single z => exact hE i hi _ z.2
  | tail z1 z2 ih => exact h _ z2.1 i _ hi ih (hE _ z2.1 _ z2.2)
