section
/-! rows taken from kit/rows -/
theorem pk_us {f : Nat → Int32} {k : Nat} {x : Int32} : upd f k x k = x := if_pos rfl
theorem pk_un {f : Nat → Int32} {k j : Nat} {x : Int32} (h : j ≠ k) : upd f k x j = f j := if_neg h
theorem pk_sub {a b : Nat} (h : b ≤ a) : nI a - nI b = nI (a - b) := by
  obtain ⟨c, rfl⟩ : ∃ c, a = c + b := ⟨a - b, by omega⟩
  rw [← nI_add, Int32.add_sub_cancel, Nat.add_sub_cancel]
theorem pk_mul (a b : Nat) : nI a * nI b = nI (a * b) := (Int32.ofNat_mul a b).symm
theorem pk_div {a d : Nat} (ha : a < 2 ^ 31) (h0 : 0 < d) (hd : d < 2 ^ 31) : nI a / nI d = nI (a / d) := by
  apply Int32.toInt_inj.mp
  rw [lg_idiv_nonneg (by rw [nI_toInt ha]; omega) (by rw [nI_toInt hd]; omega), nI_toInt ha, nI_toInt hd, nI_toInt (Nat.lt_of_le_of_lt (Nat.div_le_self a d) ha)]
  first | rfl | exact (Int.natCast_ediv _ _).symm
theorem pk_rem {a d : Nat} (ha : a < 2 ^ 31) (h0 : 0 < d) (hd : d < 2 ^ 31) : nI a - nI a / nI d * nI d = nI (a % d) := by
  rw [pk_div ha h0 hd, pk_mul, pk_sub (Nat.div_mul_le_self a d)]
  exact congrArg nI (by have := Nat.div_add_mod' a d; omega)
theorem pk_ix (x : Int32) {n : Nat} (hn : n < 2 ^ 31) : x < 0 ∨ nI n ≤ x ∨ ∃ j : Nat, j < n ∧ x = nI j := by
  by_cases h : x < 0
  · exact Or.inl h
  · obtain ⟨j, hj, rfl⟩ := nI_of h
    by_cases h2 : j < n
    · exact Or.inr (Or.inr ⟨j, h2, rfl⟩)
    · exact Or.inr (Or.inl (nI_le (by omega) hj))
theorem pk_le {x y : Int32} {A B : Prop} (a b : Nat) (f : a ≤ b → A) (g : b < a → B) (hx : x = nI a := by rfl) (hy : y = nI b := by rfl) (ha : a < 2 ^ 31 := by omega) (hb : b < 2 ^ 31 := by omega) : (x ≤ y → A) ∧ (¬ x ≤ y → B) := by
  subst hx hy
  rw [nI_leI ha hb]
  exact ⟨f, fun z => g (by omega)⟩
theorem pk_lt {x y : Int32} {A B : Prop} (a b : Nat) (f : a < b → A) (g : b ≤ a → B) (hx : x = nI a := by rfl) (hy : y = nI b := by rfl) (ha : a < 2 ^ 31 := by omega) (hb : b < 2 ^ 31 := by omega) : (x < y → A) ∧ (¬ x < y → B) := by
  subst hx hy
  rw [nI_ltI ha hb]
  exact ⟨f, fun z => g (by omega)⟩
theorem pk_eq {x y : Int32} {A B : Prop} (a b : Nat) (f : a = b → A) (g : a ≠ b → B) (hx : x = nI a := by rfl) (hy : y = nI b := by rfl) (ha : a < 2 ^ 31 := by omega) (hb : b < 2 ^ 31 := by omega) : (x = y → A) ∧ (¬ x = y → B) := by
  subst hx hy
  rw [nI_eq ha hb]
  exact ⟨f, g⟩
theorem pk_in {x : Int32} (n N : Nat) (h : n < N) (hx : x = nI n := by rfl) (hN : N < 2 ^ 31 := by omega) : vp_in x N := by
  subst hx
  exact vp_in_nI h hN
theorem pk_cl {x : Int32} (n : Nat) (hx : x = nI n := by rfl) (h : n < 2 ^ 31 := by omega) : x.toNatClampNeg = n := by
  subst hx
  exact nI_clamp h
theorem pk_tn {n : Nat} (h : n < 2 ^ 32) : (nI n).toBitVec.toNat = n := Nat.mod_eq_of_lt h
theorem pk_shl (a s : Int32) (k : Nat) (hs : (s.toBitVec.smod 32).toNat = k) : (a <<< s).toBitVec.toNat = a.toBitVec.toNat * 2 ^ k % 2 ^ 32 := by
  show (a.toBitVec <<< (s.toBitVec.smod 32).toNat).toNat = _
  rw [hs, BitVec.toNat_shiftLeft, Nat.shiftLeft_eq]
theorem pk_shlN {n : Nat} (s : Int32) (k : Nat) (hs : (s.toBitVec.smod 32).toNat = k) (h : n * 2 ^ k < 2 ^ 32) : nI n <<< s = nI (n * 2 ^ k) := by
  apply Int32.toBitVec_inj.mp
  apply BitVec.eq_of_toNat_eq
  have hn : n < 2 ^ 32 := Nat.lt_of_le_of_lt (Nat.le_mul_of_pos_right n (Nat.two_pow_pos k)) h
  rw [pk_shl _ _ k hs, pk_tn hn, pk_tn h, Nat.mod_eq_of_lt h]
theorem pk_shr (a s : Int32) (k : Nat) (hs : (s.toBitVec.smod 32).toNat = k) : (a >>> s).toInt = a.toInt >>> k := by
  show (a.toBitVec.sshiftRight (s.toBitVec.smod 32).toNat).toInt = _
  rw [hs, BitVec.toInt_sshiftRight]
  rfl
theorem pk_shrN {n : Nat} (h : n < 2 ^ 31) (s : Int32) (k : Nat) (hs : (s.toBitVec.smod 32).toNat = k) : nI n >>> s = nI (n / 2 ^ k) := by
  apply Int32.toInt_inj.mp
  have h2 : n / 2 ^ k ≤ n := Nat.div_le_self _ _
  rw [pk_shr _ _ k hs, nI_toInt h, nI_toInt (by omega), Int.shiftRight_eq_div_pow]
  rfl
theorem pk_loop {σ : Type} (W : Nat → Nat → σ → Prop) (I : Nat → σ → Prop) (e i0 : Nat) (s : σ) (hi : i0 ≤ e) (h0 : I i0 s) (hx : ∀ n s, I e s → W (n + 1) e s)
    (hs : ∀ n i s, i < e → I i s → (∀ s', I (i + 1) s' → W n (i + 1) s') → W (n + 1) i s) : ∃ n, W n i0 s :=
  ⟨e + 1, loop_i W I e hx hs (e + 1) i0 s hi (by omega) h0⟩
theorem pk_least (P : Nat → Prop) (h : ∃ k, P k) : ∃ k, P k ∧ ∀ j, j < k → ¬ P j := by
  obtain ⟨k, hk⟩ := h
  induction k using Nat.strongRecOn with
  | ind k ih =>
    by_cases e : ∃ j, j < k ∧ P j
    · obtain ⟨j, hj, pj⟩ := e
      exact ih j hj pj
    · exact ⟨k, hk, fun j hj pj => e ⟨j, hj, pj⟩⟩
theorem nx_and (a b : Nat) : nI a &&& nI b = nI (a &&& b) := by
  apply Int32.toBitVec_inj.1
  show BitVec.ofNat 32 a &&& BitVec.ofNat 32 b = BitVec.ofNat 32 (a &&& b)
  apply BitVec.eq_of_getLsbD_eq
  intro i hi
  simp [hi]
theorem nx_xor (a b : Nat) : nI a ^^^ nI b = nI (a ^^^ b) := by
  apply Int32.toBitVec_inj.1
  show BitVec.ofNat 32 a ^^^ BitVec.ofNat 32 b = BitVec.ofNat 32 (a ^^^ b)
  apply BitVec.eq_of_getLsbD_eq
  intro i hi
  simp [hi]
theorem s_l : ∀ n, n < 32 → ((nI n &&& 31).toBitVec.smod 32).toNat = n := by decide +kernel
/-! words as naturals -/
theorem cg_or (a b : Nat) : nI a ||| nI b = nI (a ||| b) := by
  apply Int32.toBitVec_inj.1
  show BitVec.ofNat 32 a ||| BitVec.ofNat 32 b = BitVec.ofNat 32 (a ||| b)
  apply BitVec.eq_of_getLsbD_eq
  intro i hi
  simp [hi]
def cg_d (a b : Nat) : Nat := a ^^^ (a &&& b)
theorem cg_dt (a b i : Nat) : (cg_d a b).testBit i = (a.testBit i && !(b.testBit i)) := by
  unfold cg_d
  rw [Nat.testBit_xor, Nat.testBit_and]
  cases a.testBit i <;> cases b.testBit i <;> rfl
theorem cg_nt (a b : Nat) : nI a &&& (nI b ^^^ (-1)) = nI (cg_d a b) := by
  apply Int32.toBitVec_inj.1
  show BitVec.ofNat 32 a &&& (BitVec.ofNat 32 b ^^^ BitVec.allOnes 32) = BitVec.ofNat 32 (cg_d a b)
  apply BitVec.eq_of_getLsbD_eq
  intro i hi
  have h := cg_dt a b i
  rw [BitVec.getLsbD_and, BitVec.getLsbD_xor, BitVec.getLsbD_ofNat, BitVec.getLsbD_ofNat, BitVec.getLsbD_ofNat, BitVec.getLsbD_allOnes, h]
  simp [hi]
theorem cg_shr {s j : Nat} (hs : s < 2 ^ 31) (hj : j < 32) : nI s >>> (nI j &&& 31) = nI (s / 2 ^ j) := pk_shrN hs _ j (s_l j hj)
theorem cg_bv {s j : Nat} (hs : s < 2 ^ 31) (hj : j < 32) : (nI s >>> (nI j &&& 31)) &&& 1 = nI (if s.testBit j = true then 1 else 0) := by
  rw [cg_shr hs hj]
  show nI _ &&& nI 1 = _
  rw [nx_and, Nat.and_one_is_mod, Nat.testBit_eq_decide_div_mod_eq]
  generalize s / 2 ^ j = z
  have h : z % 2 = 0 ∨ z % 2 = 1 := by omega
  rcases h with h | h <;> simp [h]
theorem cg_bit {s j : Nat} (hs : s < 2 ^ 31) (hj : j < 32) : (nI s >>> (nI j &&& 31)) &&& 1 = 1 ↔ s.testBit j = true := by
  rw [cg_bv hs hj]
  cases s.testBit j
  · exact ⟨fun z => absurd z (by decide), fun z => absurd z (by decide)⟩
  · exact ⟨fun _ => rfl, fun _ => by decide⟩
theorem cg_one {j : Nat} (hj : j < 31) : (1 : Int32) <<< (nI j &&& 31) = nI (2 ^ j) := by
  show nI 1 <<< (nI j &&& 31) = _
  have h : 2 ^ j < 2 ^ 31 := Nat.pow_lt_pow_right (by decide) hj
  rw [pk_shlN _ j (s_l j (by omega)) (by omega), Nat.one_mul]
theorem cg_mask {j : Nat} (hj : j < 31) : (1 : Int32) <<< (nI j &&& 31) - 1 = nI (2 ^ j - 1) := by
  rw [cg_one hj]
  exact pk_sub (b := 1) (Nat.two_pow_pos j)
def cg_gap (s v : Nat) : Nat := (s &&& (2 ^ v - 1)) ||| (s / 2 ^ (v + 1) * 2 ^ v)
theorem cg_gapw {s v : Nat} (hs : s < 512) (hv : v < 9) : (nI s &&& (((1 : Int32) <<< (nI v &&& 31)) - 1)) ||| ((nI s >>> ((nI v + 1) &&& 31)) <<< (nI v &&& 31)) = nI (cg_gap s v) := by
  have h1 : s / 2 ^ (v + 1) ≤ s := Nat.div_le_self _ _
  have h2 : 2 ^ v < 2 ^ 9 := Nat.pow_lt_pow_right (by decide) hv
  have h3 : s / 2 ^ (v + 1) * 2 ^ v ≤ 512 * 2 ^ 9 := Nat.mul_le_mul (by omega) (by omega)
  rw [cg_mask (by omega), nx_and, nI_1, cg_shr (by omega) (by omega), pk_shlN _ v (s_l v (by omega)) (by omega), cg_or]
  rfl
theorem cg_gapt (s v b : Nat) : (cg_gap s v).testBit b = if b < v then s.testBit b else s.testBit (b + 1) := by
  unfold cg_gap
  rw [Nat.testBit_or, Nat.testBit_and, Nat.testBit_two_pow_sub_one, Nat.testBit_mul_two_pow, Nat.testBit_div_two_pow]
  by_cases h : b < v
  · simp [h, Nat.not_le.mpr h]
  · have h' : v ≤ b := by omega
    have e : b - v + (v + 1) = b + 1 := by omega
    simp [h, h', e]
theorem cg_big {x c i : Nat} (h : x < 2 ^ c) (hi : x.testBit i = true) : i < c := by
  rcases Nat.lt_or_ge i c with z | z
  · exact z
  · have := Nat.testBit_lt_two_pow (Nat.lt_of_lt_of_le h (Nat.pow_le_pow_right (by decide) z))
    rw [this] at hi
    exact absurd hi (by decide)
theorem cg_small {x c : Nat} (h : ∀ i, x.testBit i = true → i < c) : x < 2 ^ c := by
  apply Nat.lt_pow_two_of_testBit
  intro i hi
  cases e : x.testBit i
  · rfl
  · exact absurd (h i e) (by omega)
theorem cg_p9 {c : Nat} (h : c ≤ 9) : 2 ^ c ≤ 512 := Nat.pow_le_pow_right (n := 2) (by decide) h
theorem cg_ext {x y : Nat} (h : ∀ i, x.testBit i = true ↔ y.testBit i = true) : x = y := by
  apply Nat.eq_of_testBit_eq
  intro i
  have := h i
  cases e : x.testBit i <;> cases f : y.testBit i <;> simp_all
theorem cg_f {b : Bool} (h : ¬ b = true) : b = false := by cases b <;> simp_all
/-! terms for the walks -/
theorem cg_h {A B : Prop} {x y : Int32} (s j : Nat) (hx : x = nI s) (hs : s < 2 ^ 31) (hj : j < 32) (hf : s.testBit j = false → A) (ht : s.testBit j = true → B) (hy : y = nI j := by rfl) : wpX_has (fun r => (r = 0 → A) ∧ (¬ r = 0 → B)) x y := by
  subst hx hy
  unfold wpX_has
  rw [cg_bit hs hj]
  exact ⟨fun z => br_f (by decide) (ht z), fun z => br_t rfl (hf (cg_f z))⟩
theorem cg_i {A B : Prop} {x y : Int32} (u : SY) (s j : Nat) (hx : x = nI s) (hs : s < 2 ^ 31) (hj : j < 32) (hf : s.testBit j = false → A) (ht : s.testBit j = true → B) (hy : y = nI j := by rfl) : wpY_in (fun r => (r = 0 → A) ∧ (¬ r = 0 → B)) u x y := by
  subst hx hy
  obtain ⟨u1, u2, u3, u4⟩ := u
  unfold wpY_in
  dsimp only
  rw [cg_bit hs hj]
  exact ⟨fun z => br_f (by decide) (ht z), fun z => br_t rfl (hf (cg_f z))⟩
theorem cg_tF {A B : Prop} {u : SX} (c : Nat) (hu : u.1 = nI c) {x : Int32} (h : x < 0 ∨ nI c ≤ x) (hf : A) : wpX_isTask (fun r => (r = 0 → A) ∧ (¬ r = 0 → B)) u x := by
  obtain ⟨u1, u2, u3, u4, u5⟩ := u
  unfold wpX_isTask
  dsimp only at hu ⊢
  subst hu
  refine br_c (fun z => br_t rfl hf) (fun h1 => br_c (fun z => br_t rfl hf) (fun h2 => ?_))
  exact absurd h (fun z => z.elim h1 h2)
theorem cg_tT {A B : Prop} {u : SX} (c : Nat) (hu : u.1 = nI c) (hc : c ≤ 9) {j : Nat} (h : j < c) (ht : B) : wpX_isTask (fun r => (r = 0 → A) ∧ (¬ r = 0 → B)) u (nI j) := by
  obtain ⟨u1, u2, u3, u4, u5⟩ := u
  unfold wpX_isTask
  dsimp only at hu ⊢
  subst hu
  exact br_f (nI_pos (by omega)) (br_f (nI_ge h (by omega)) (br_f (by decide) ht))
theorem cg_sF {A B : Prop} {u : SY} (c : Nat) (hu : u.1 = nI c) {x : Int32} (h : x < 0 ∨ nI c ≤ x) (hf : A) : wpY_isTask (fun r => (r = 0 → A) ∧ (¬ r = 0 → B)) u x := by
  obtain ⟨u1, u2, u3, u4⟩ := u
  unfold wpY_isTask
  dsimp only at hu ⊢
  subst hu
  refine br_c (fun z => br_t rfl hf) (fun h1 => br_c (fun z => br_t rfl hf) (fun h2 => ?_))
  exact absurd h (fun z => z.elim h1 h2)
theorem cg_sT {A B : Prop} {u : SY} (c : Nat) (hu : u.1 = nI c) (hc : c ≤ 9) {j : Nat} (h : j < c) (ht : B) : wpY_isTask (fun r => (r = 0 → A) ∧ (¬ r = 0 → B)) u (nI j) := by
  obtain ⟨u1, u2, u3, u4⟩ := u
  unfold wpY_isTask
  dsimp only at hu ⊢
  subst hu
  exact br_f (nI_pos (by omega)) (br_f (nI_ge h (by omega)) (br_f (by decide) ht))
theorem cg_ix (x : Int32) {c : Nat} (hc : c ≤ 9) : (x < 0 ∨ nI c ≤ x) ∨ ∃ j : Nat, j < c ∧ x = nI j := by
  rcases pk_ix x (n := c) (by omega) with h | h | h
  · exact Or.inl (Or.inl h)
  · exact Or.inl (Or.inr h)
  · exact Or.inr h
theorem cg_at {a : Nat → Int32} {g : Nat → Nat} {c u : Nat} (h : ∀ j, j < c → a j = nI (g j)) (hc : c ≤ 512) (hu : u < c) : a (nI u).toNatClampNeg = nI (g u) := by
  rw [nI_clamp (by omega)]
  exact h u hu
def cg_u (f : Nat → Nat) (k x : Nat) : Nat → Nat := fun j => if j = k then x else f j
theorem cg_us {f : Nat → Nat} {k x : Nat} : cg_u f k x k = x := if_pos rfl
theorem cg_un {f : Nat → Nat} {k j x : Nat} (h : j ≠ k) : cg_u f k x j = f j := if_neg h
theorem cg_uh {a : Nat → Int32} {g : Nat → Nat} {c u s : Nat} {x : Int32} (h : ∀ j, j < c → a j = nI (g j)) (hu : u < 2 ^ 31) (hx : x = nI s) : ∀ j, j < c → upd a (nI u).toNatClampNeg x j = nI (cg_u g u s j) := by
  intro j hj
  rw [nI_clamp hu]
  by_cases e : j = u
  · subst e
    rw [pk_us, cg_us]
    exact hx
  · rw [pk_un e, cg_un e]
    exact h j hj
end
section
/-! orders as a relation -/
def cg_E (c : Nat) (g : Nat → Nat) (a b : Nat) : Prop := a < c ∧ (g a).testBit b = true
def cg_Bd (c : Nat) (g : Nat → Nat) : Prop := ∀ j, j < c → g j < 2 ^ c
def cg_Rk (c : Nat) (g r : Nat → Nat) : Prop := ∀ a b, cg_E c g a b → r b < r a
def cg_Cl (c : Nat) (g l : Nat → Nat) : Prop := ∀ i, i < c → ∀ j, (l i).testBit j = true ↔ Relation.TransGen (cg_E c g) i j
theorem cg_Elt {c : Nat} {g : Nat → Nat} (hg : cg_Bd c g) {a b : Nat} (h : cg_E c g a b) : b < c := cg_big (hg a h.1) h.2
theorem cg_Tlt {c : Nat} {g : Nat → Nat} (hg : cg_Bd c g) {a b : Nat} (h : Relation.TransGen (cg_E c g) a b) : a < c ∧ b < c := by
  induction h with
  | single h => exact ⟨h.1, cg_Elt hg h⟩
  | tail _ h ih => exact ⟨ih.1, cg_Elt hg h⟩
theorem cg_Clu {c : Nat} {g l l' : Nat → Nat} (h : cg_Cl c g l) (h' : cg_Cl c g l') : ∀ i, i < c → l i = l' i := by
  intro i hi
  apply cg_ext
  intro j
  rw [h i hi j, h' i hi j]
theorem cg_ClB {c : Nat} {g l : Nat → Nat} (hg : cg_Bd c g) (h : cg_Cl c g l) : cg_Bd c l := by
  intro i hi
  apply cg_small
  intro j hj
  exact (cg_Tlt hg ((h i hi j).mp hj)).2
theorem cg_rkT {c : Nat} {g r : Nat → Nat} (hr : cg_Rk c g r) {a b : Nat} (h : Relation.TransGen (cg_E c g) a b) : r b < r a := by
  induction h with
  | single h => exact hr _ _ h
  | tail _ h ih => exact Nat.lt_trans (hr _ _ h) ih
theorem cg_head {c : Nat} {g : Nat → Nat} {a b d : Nat} (h : cg_E c g a b) (h2 : Relation.TransGen (cg_E c g) b d) : Relation.TransGen (cg_E c g) a d := Relation.TransGen.trans (Relation.TransGen.single h) h2
/-! counting -/
def cg_n (p : Nat → Bool) : Nat → Nat
  | 0 => 0
  | k + 1 => cg_n p k + (if p k = true then 1 else 0)
theorem cg_n_s (p : Nat → Bool) (k : Nat) : cg_n p (k + 1) = cg_n p k + (if p k = true then 1 else 0) := rfl
theorem cg_n_le (p : Nat → Bool) (k : Nat) : cg_n p k ≤ k := by
  induction k with
  | zero => exact Nat.le_refl _
  | succ k ih =>
    rw [cg_n_s]
    split <;> omega
theorem cg_n_mono {p q : Nat → Bool} {k : Nat} (h : ∀ j, j < k → p j = true → q j = true) : cg_n p k ≤ cg_n q k := by
  induction k with
  | zero => exact Nat.le_refl _
  | succ k ih =>
    have i := ih (fun j hj => h j (by omega))
    have e := h k (by omega)
    rw [cg_n_s, cg_n_s]
    cases hp : p k <;> cases hq : q k <;> simp_all <;> omega
theorem cg_n_lt {p q : Nat → Bool} {k w : Nat} (h : ∀ j, j < k → p j = true → q j = true) (hw : w < k) (hq : q w = true) (hp : p w = false) : cg_n p k < cg_n q k := by
  induction k with
  | zero => omega
  | succ k ih =>
    rw [cg_n_s, cg_n_s]
    by_cases e : w = k
    · subst e
      have i := cg_n_mono (p := p) (q := q) (k := w) (fun j hj => h j (by omega))
      simp [hp, hq]
      omega
    · have i := ih (fun j hj => h j (by omega)) (by omega)
      have e2 := h k (by omega)
      cases hp : p k <;> cases hq : q k <;> simp_all <;> omega
theorem cg_n_ltk {p : Nat → Bool} {k w : Nat} (hw : w < k) (hp : p w = false) : cg_n p k < k := Nat.lt_of_lt_of_le (cg_n_lt (q := fun _ => true) (fun _ _ _ => rfl) hw rfl hp) (cg_n_le _ _)
theorem cg_n_congr {p q : Nat → Bool} {k : Nat} (h : ∀ j, j < k → p j = q j) : cg_n p k = cg_n q k := by
  apply Nat.le_antisymm
  · exact cg_n_mono (fun j hj e => by rw [← h j hj]; exact e)
  · exact cg_n_mono (fun j hj e => by rw [h j hj]; exact e)
/-! a rank below c -/
theorem cg_rkc {c : Nat} {g l r : Nat → Nat} (hg : cg_Bd c g) (hl : cg_Cl c g l) (hr : cg_Rk c g r) : ∃ q, cg_Rk c g q ∧ ∀ i, i < c → q i < c := by
  refine ⟨fun i => cg_n (fun j => (l i).testBit j) c, ?_, ?_⟩
  · intro a b h
    have hb := cg_Elt hg h
    refine cg_n_lt (w := b) ?_ hb ?_ ?_
    · intro j _ e
      exact (hl a h.1 j).mpr (cg_head h ((hl b hb j).mp e))
    · exact (hl a h.1 b).mpr (Relation.TransGen.single h)
    · apply cg_f
      intro e
      exact Nat.lt_irrefl _ (cg_rkT hr ((hl b hb b).mp e))
  · intro i hi
    refine cg_n_ltk (w := i) hi ?_
    apply cg_f
    intro e
    exact Nat.lt_irrefl _ (cg_rkT hr ((hl i hi i).mp e))
/-! walks -/
def cg_W (c : Nat) (g : Nat → Nat) : Nat → Nat → Nat → Prop
  | 0 => fun a b => a = b
  | n + 1 => fun a b => ∃ w, cg_E c g a w ∧ cg_W c g n w b
theorem cg_Wb {c : Nat} {g : Nat → Nat} : ∀ (n a b : Nat), cg_W c g (n + 1) a b ↔ ∃ w, cg_W c g n a w ∧ cg_E c g w b := by
  intro n
  induction n with
  | zero =>
    intro a b
    constructor
    · rintro ⟨w, h, e⟩
      have e' : w = b := e
      subst e'
      exact ⟨a, rfl, h⟩
    · rintro ⟨w, e, h⟩
      have e' : a = w := e
      subst e'
      exact ⟨b, h, rfl⟩
  | succ n ih =>
    intro a b
    constructor
    · rintro ⟨w, h, h2⟩
      obtain ⟨x, h3, h4⟩ := (ih w b).mp h2
      exact ⟨x, ⟨w, h, h3⟩, h4⟩
    · rintro ⟨x, ⟨w, h, h3⟩, h4⟩
      exact ⟨w, h, (ih w b).mpr ⟨x, h3, h4⟩⟩
theorem cg_Wr {c : Nat} {g r : Nat → Nat} (hr : cg_Rk c g r) : ∀ (n a b : Nat), cg_W c g n a b → n + r b ≤ r a := by
  intro n
  induction n with
  | zero =>
    intro a b h
    have e : a = b := h
    subst e
    omega
  | succ n ih =>
    rintro a b ⟨w, h, h2⟩
    have h3 := ih w b h2
    have h4 := hr _ _ h
    omega
theorem cg_WT {c : Nat} {g : Nat → Nat} : ∀ (n a b : Nat), cg_W c g (n + 1) a b → Relation.TransGen (cg_E c g) a b := by
  intro n
  induction n with
  | zero =>
    rintro a b ⟨w, h, e⟩
    have e' : w = b := e
    subst e'
    exact Relation.TransGen.single h
  | succ n ih =>
    rintro a b ⟨w, h, h2⟩
    exact cg_head h (ih w b h2)
theorem cg_TW {c : Nat} {g : Nat → Nat} {a b : Nat} (h : Relation.TransGen (cg_E c g) a b) : ∃ n, cg_W c g (n + 1) a b := by
  induction h with
  | single h => exact ⟨0, _, h, rfl⟩
  | tail _ h ih =>
    obtain ⟨n, ih⟩ := ih
    exact ⟨n + 1, (cg_Wb (n + 1) _ _).mpr ⟨_, ih, h⟩⟩
theorem cg_Wd {c : Nat} {g : Nat → Nat} {a : Nat} : ∀ d n : Nat, (∃ b, cg_W c g (n + d) a b) → ∃ b, cg_W c g n a b := by
  intro d
  induction d with
  | zero => intro n h; exact h
  | succ d ih =>
    rintro n ⟨b, h⟩
    obtain ⟨w, h1, _⟩ := (cg_Wb (n + d) a b).mp h
    exact ih n ⟨w, h1⟩
def cg_H (c : Nat) (g : Nat → Nat) (u h : Nat) : Prop := 1 ≤ h ∧ (∃ b, cg_W c g (h - 1) u b) ∧ ¬ ∃ b, cg_W c g h u b
theorem cg_Hu {c : Nat} {g : Nat → Nat} {u h k : Nat} (a : cg_H c g u h) (b : cg_H c g u k) : h = k := by
  obtain ⟨a1, a2, a3⟩ := a
  obtain ⟨b1, b2, b3⟩ := b
  rcases Nat.lt_trichotomy h k with e | e | e
  · exact absurd (cg_Wd (k - 1 - h) h (by rw [show h + (k - 1 - h) = k - 1 by omega]; exact b2)) a3
  · exact e
  · exact absurd (cg_Wd (h - 1 - k) k (by rw [show k + (h - 1 - k) = h - 1 by omega]; exact a2)) b3
/-! Warshall's step -/
def cg_V (k : Nat) (c : Nat) (l : Nat → Nat) : Prop := ∀ w, w < k → ∀ i j, i < c → (l i).testBit w = true → (l w).testBit j = true → (l i).testBit j = true
def cg_ws (l : Nat → Nat) (k : Nat) : Nat → Nat := fun i => if (l i).testBit k = true then l i ||| l k else l i
theorem cg_wst {l : Nat → Nat} {k i j : Nat} : (cg_ws l k i).testBit j = true ↔ (l i).testBit j = true ∨ ((l i).testBit k = true ∧ (l k).testBit j = true) := by
  unfold cg_ws
  cases e : (l i).testBit k
  · simp
  · simp [Nat.testBit_or]
theorem cg_wV {c k : Nat} {l : Nat → Nat} (hk : k < c) (h : cg_V k c l) : cg_V (k + 1) c (cg_ws l k) := by
  intro w hw i j hi h1 h2
  rw [cg_wst] at h1 h2 ⊢
  by_cases e : w = k
  · subst e
    have a : (l i).testBit w = true := h1.elim id (fun z => z.1)
    have b : (l w).testBit j = true := h2.elim id (fun z => z.2)
    exact Or.inr ⟨a, b⟩
  · have hw' : w < k := by omega
    rcases h1 with h1 | ⟨h1, h1'⟩ <;> rcases h2 with h2 | ⟨h2, h2'⟩
    · exact Or.inl (h w hw' i j hi h1 h2)
    · exact Or.inr ⟨h w hw' i k hi h1 h2, h2'⟩
    · exact Or.inr ⟨h1, h w hw' k j hk h1' h2⟩
    · exact Or.inr ⟨h1, h2'⟩
theorem cg_wCl {c : Nat} {g l : Nat → Nat} (hg : cg_Bd c g) (h : cg_V c c l) (hE : ∀ i, i < c → ∀ j, (g i).testBit j = true → (l i).testBit j = true) (hT : ∀ i, i < c → ∀ j, (l i).testBit j = true → Relation.TransGen (cg_E c g) i j) : cg_Cl c g l := by
  intro i hi j
  refine ⟨hT i hi j, ?_⟩
  intro z
  induction z with
  | single z => exact hE i hi _ z.2
  | tail z1 z2 ih => exact h _ z2.1 i _ hi ih (hE _ z2.1 _ z2.2)
end
section
/-! the component's closure -/
theorem cg_wsw (l : Nat → Nat) (w : Nat) : cg_ws l w w = l w := by
  unfold cg_ws
  split
  · exact Nat.or_self _
  · rfl
theorem cg_x40 (post : SX → Prop) (J : Int32 → (Nat → Int32) → (Nat → Int32) → (Nat → Int32) → (Nat → Int32) → Prop) {c w : Nat} (hc : c ≤ 9) (hw : w < c) (nx hs gs : Nat → Int32) (l0 : Nat → Nat) (hl : cg_Bd c l0)
    (HJ : ∀ L', (∀ j, j < c → L' j = nI (cg_ws l0 w j)) → J (nI (w + 1)) nx L' hs gs) :
    ∀ (d u : Nat) (L : Nat → Int32), u + d = c → (∀ j, j < c → L j = nI (if j < u then cg_ws l0 w j else l0 j)) → wX_findLater_40 post J (nI w) (nI c) (d + 1) (nI u) nx L hs gs := by
  have p9 := cg_p9 hc
  intro d
  induction d with
  | zero =>
    intro u L hu hL
    refine br_t (nI_le (by omega) (by omega)) (nm_r (nI_1 w) (HJ L ?_))
    intro j hj
    rw [hL j hj, if_pos (by omega)]
  | succ d ih =>
    intro u L hu hL
    have hub : u < c := by omega
    have hiu : vp_in (nI u) 9 := vp_in_nI (by omega) (by omega)
    have hiw : vp_in (nI w) 9 := vp_in_nI (by omega) (by omega)
    have h1 : L (nI u).toNatClampNeg = nI (l0 u) := by
      rw [nI_clamp (by omega), hL u hub, if_neg (Nat.lt_irrefl u)]
    have h2 : L (nI w).toNatClampNeg = nI (l0 w) := by
      rw [nI_clamp (by omega), hL w hw]
      split
      · rw [cg_wsw]
      · rfl
    have h3 := hl u hub
    refine br_f (nI_ge hub (by omega)) ⟨hiu, cg_h (l0 u) w h1 (by omega) (by omega) (fun hf => ?_) (fun ht => ?_)⟩
    · refine nm_r (nI_1 u) (ih (u + 1) L (by omega) ?_)
      intro j hj
      rw [hL j hj]
      by_cases e : j = u
      · subst e
        rw [if_neg (Nat.lt_irrefl j), if_pos (by omega)]
        unfold cg_ws
        rw [if_neg (by rw [hf]; decide)]
      · by_cases e2 : j < u
        · rw [if_pos e2, if_pos (by omega)]
        · rw [if_neg e2, if_neg (by omega)]
    · refine ⟨hiu, hiw, hiu, nm_e (nm_r (nI_1 u) (ih (u + 1) _ (by omega) ?_))⟩
      intro j hj
      rw [h1, h2, cg_or, nI_clamp (by omega)]
      by_cases e : j = u
      · subst e
        rw [pk_us, if_pos (by omega)]
        unfold cg_ws
        rw [if_pos ht]
      · rw [pk_un e, hL j hj]
        by_cases e2 : j < u
        · rw [if_pos e2, if_pos (by omega)]
        · rw [if_neg e2, if_neg (by omega)]
theorem cg_x30 (post : SX → Prop) {c : Nat} (hc : c ≤ 9) (g : Nat → Nat) (hg : cg_Bd c g) (nx hs gs : Nat → Int32)
    (HP : ∀ L' l', (∀ j, j < c → L' j = nI (l' j)) → cg_Cl c g l' → post (nI c, nx, L', hs, gs)) :
    ∀ (d w : Nat) (L : Nat → Int32) (l : Nat → Nat), w + d = c → (∀ j, j < c → L j = nI (l j)) → cg_Bd c l → cg_V w c l → (∀ i, i < c → ∀ j, (g i).testBit j = true → (l i).testBit j = true) → (∀ i, i < c → ∀ j, (l i).testBit j = true → Relation.TransGen (cg_E c g) i j) → wX_findLater_30 post (nI c) (d + 1) (nI w) nx L hs gs := by
  intro d
  induction d with
  | zero =>
    intro w L l hw hL hB hV hE hT
    have e : w = c := by omega
    subst e
    exact br_t (nI_le (by omega) (by omega)) (HP L l hL (cg_wCl hg hV hE hT))
  | succ d ih =>
    intro w L l hw hL hB hV hE hT
    have hwc : w < c := by omega
    refine br_f (nI_ge hwc (by omega)) ⟨c + 1, cg_x40 post _ hc hwc nx hs gs l hB ?_ c 0 L (by omega) ?_⟩
    · intro L' hL'
      have hT' : ∀ i, i < c → ∀ j, (cg_ws l w i).testBit j = true → Relation.TransGen (cg_E c g) i j := by
        intro i hi j h
        rcases cg_wst.mp h with h | ⟨h, h'⟩
        · exact hT i hi j h
        · exact Relation.TransGen.trans (hT i hi w h) (hT w hwc j h')
      refine ih (w + 1) L' (cg_ws l w) (by omega) hL' ?_ (cg_wV hwc hV) ?_ hT'
      · intro i hi
        exact cg_small (fun j hj => (cg_Tlt hg (hT' i hi j hj)).2)
      · intro i hi j h
        exact cg_wst.mpr (Or.inl (hE i hi j h))
    · intro j hj
      rw [if_neg (Nat.not_lt_zero j)]
      exact hL j hj
theorem cg_x2 (post : SX → Prop) {c : Nat} (hc : c ≤ 9) (g : Nat → Nat) (hg : cg_Bd c g) (nx hs gs : Nat → Int32) (hn : ∀ j, j < c → nx j = nI (g j))
    (HP : ∀ L' l', (∀ j, j < c → L' j = nI (l' j)) → cg_Cl c g l' → post (nI c, nx, L', hs, gs)) :
    ∀ (d u : Nat) (L : Nat → Int32), u + d = c → (∀ j, j < u → L j = nI (g j)) → wX_findLater_2 post (nI c) (d + 1) (nI u) nx L hs gs := by
  intro d
  induction d with
  | zero =>
    intro u L hu hL
    have e : u = c := by omega
    subst e
    refine br_t (nI_le (by omega) (by omega)) ⟨u + 1, cg_x30 post hc g hg nx hs gs HP u 0 L g (by omega) hL hg ?_ ?_ ?_⟩
    · intro w hw
      exact absurd hw (Nat.not_lt_zero w)
    · intro i hi j h
      exact h
    · intro i hi j h
      exact Relation.TransGen.single ⟨hi, h⟩
  | succ d ih =>
    intro u L hu hL
    have hub : u < c := by omega
    have hiu : vp_in (nI u) 9 := vp_in_nI (by omega) (by omega)
    refine br_f (nI_ge hub (by omega)) ⟨hiu, hiu, nm_e (nm_r (nI_1 u) (ih (u + 1) _ (by omega) ?_))⟩
    intro j hj
    rw [nI_clamp (by omega)]
    by_cases e : j = u
    · subst e
      rw [pk_us]
      exact hn j hub
    · rw [pk_un e]
      exact hL j (by omega)
theorem cg_xfl (post : SX → Prop) {c : Nat} (hc : c ≤ 9) (g : Nat → Nat) (hg : cg_Bd c g) (nx L hs gs : Nat → Int32) (hn : ∀ j, j < c → nx j = nI (g j))
    (HP : ∀ L' l', (∀ j, j < c → L' j = nI (l' j)) → cg_Cl c g l' → post (nI c, nx, L', hs, gs)) : wpX_findLater post (nI c, nx, L, hs, gs) :=
  ⟨c + 1, cg_x2 post hc g hg nx hs gs hn HP c 0 L (by omega) (fun j hj => absurd hj (Nat.not_lt_zero j))⟩
/-! the reference's closure -/
def cg_P (k c : Nat) (g l : Nat → Nat) : Prop := ∀ i, i < c → ∀ n, n ≤ k → ∀ j, cg_W c g (n + 1) i j → (l i).testBit j = true
def cg_Q (k m c : Nat) (g l : Nat → Nat) : Prop := ∀ u v, u < c → v < c → u * c + v < m → (∃ n, n ≤ k ∧ cg_W c g (n + 1) u v) → ∀ j, (g v).testBit j = true → (l u).testBit j = true
def cg_YI (c : Nat) (g : Nat → Nat) (L : Nat → Int32) (l : Nat → Nat) : Prop := (∀ j, j < c → L j = nI (l j)) ∧ ∀ i, i < c → ∀ j, (l i).testBit j = true → Relation.TransGen (cg_E c g) i j
theorem cg_YB {c : Nat} {g : Nat → Nat} (hg : cg_Bd c g) {L : Nat → Int32} {l : Nat → Nat} (h : cg_YI c g L l) : cg_Bd c l := by
  intro i hi
  exact cg_small (fun j hj => (cg_Tlt hg (h.2 i hi j hj)).2)
theorem cg_y38 (post : SY → Prop) (J : Int32 → (Nat → Int32) → (Nat → Int32) → (Nat → Int32) → Prop) {c k : Nat} (hc : c ≤ 9) (hk : k < 9) (g : Nat → Nat) (hg : cg_Bd c g) (nx sl : Nat → Int32) (hn : ∀ j, j < c → nx j = nI (g j))
    (HJ : ∀ L' l', cg_YI c g L' l' → cg_P (k + 1) c g l' → J (nI (k + 1)) nx L' sl) :
    ∀ (d m : Nat) (L : Nat → Int32) (l : Nat → Nat), m + d = c * c → cg_YI c g L l → cg_P k c g l → cg_Q k m c g l → wY_findLater_38 post J (nI k) (nI c) (d + 1) (nI m) nx L sl := by
  have p9 := cg_p9 hc
  have pc : c * c ≤ 9 * 9 := Nat.mul_le_mul hc hc
  intro d
  induction d with
  | zero =>
    intro m L l hm hI hP hQ
    have h : nI c * nI c ≤ nI m := by
      rw [pk_mul]
      exact nI_le (by omega) (by omega)
    refine br_t h (nm_r (nI_1 k) (HJ L l hI ?_))
    intro i hi n hnk j hW
    cases n with
    | zero => exact hP i hi 0 (by omega) j hW
    | succ n =>
      obtain ⟨w, h1, h2⟩ := (cg_Wb (n + 1) i j).mp hW
      have h3 : i * c + w < c * c := by
        have h4 : (i + 1) * c ≤ c * c := Nat.mul_le_mul hi (Nat.le_refl c)
        rw [Nat.succ_mul] at h4
        have := h2.1
        omega
      exact hQ i w hi h2.1 (by omega) ⟨n, by omega, h1⟩ j h2.2
  | succ d ih =>
    intro m L l hm hI hP hQ
    have h : ¬ nI c * nI c ≤ nI m := by
      rw [pk_mul]
      exact nI_ge (by omega) (by omega)
    have c0 : 0 < c := by
      rcases Nat.eq_zero_or_pos c with e | e
      · subst e; omega
      · exact e
    have hz : ¬ nI c = 0 := nI_ne0 c0 (by omega)
    have e1 : nI m / nI c = nI (m / c) := pk_div (by omega) c0 (by omega)
    have e2 : nI m - nI m / nI c * nI c = nI (m % c) := pk_rem (by omega) c0 (by omega)
    have hu : m / c < c := Nat.div_lt_of_lt_mul (by omega)
    have hv : m % c < c := Nat.mod_lt m c0
    have hdm : m / c * c + m % c = m := Nat.div_add_mod' m c
    generalize hu' : m / c = u at e1 hu hdm
    generalize hv' : m % c = v at e2 hv hdm
    have hiu : vp_in (nI m / nI c) 9 := by rw [e1]; exact vp_in_nI (by omega) (by omega)
    have hiv : vp_in (nI m - nI m / nI c * nI c) 9 := by rw [e2]; exact vp_in_nI (by omega) (by omega)
    have h1 : L (nI m / nI c).toNatClampNeg = nI (l u) := by rw [e1]; exact cg_at hI.1 (by omega) hu
    have h2 : nx (nI m - nI m / nI c * nI c).toNatClampNeg = nI (g v) := by rw [e2]; exact cg_at hn (by omega) hv
    have hlu := cg_YB hg hI u hu
    have key : ∀ u' v', u' * c + v' < m + 1 → u' < c → v' < c → u' * c + v' < m ∨ (u' = u ∧ v' = v) := by
      intro u' v' a b b'
      rcases Nat.lt_or_ge (u' * c + v') m with z | z
      · exact Or.inl z
      · right
        have e : m = u' * c + v' := by omega
        have q1 : m / c = u' := by
          rw [e, Nat.mul_comm, Nat.mul_add_div c0, Nat.div_eq_of_lt b', Nat.add_zero]
        have q2 : m % c = v' := by
          rw [e, Nat.mul_comm, Nat.mul_add_mod, Nat.mod_eq_of_lt b']
        omega
    refine br_f h ⟨hz, hiu, hz, cg_i _ (l u) v h1 (by omega) (by omega) (fun hf => ?_) (fun ht => ?_) e2⟩
    · refine nm_r (nI_1 m) (ih (m + 1) L l (by omega) hI hP ?_)
      intro u' v' a b hm' hw j hj
      rcases key u' v' hm' a b with z | ⟨z1, z2⟩
      · exact hQ u' v' a b z hw j hj
      · subst z1 z2
        obtain ⟨n, hn1, hn2⟩ := hw
        have := hP u' a n hn1 v' hn2
        rw [hf] at this
        exact absurd this (by decide)
    · have e3 : upd L (nI m / nI c).toNatClampNeg (L (nI m / nI c).toNatClampNeg ||| nx (nI m - nI m / nI c * nI c).toNatClampNeg) = upd L (nI u).toNatClampNeg (nI (l u ||| g v)) := by
        rw [h1, h2, cg_or, e1]
      have grow : ∀ i j, (l i).testBit j = true → (cg_u l u (l u ||| g v) i).testBit j = true := by
        intro i j hj
        by_cases e : i = u
        · subst e
          rw [cg_us, Nat.testBit_or, hj]
          rfl
        · rw [cg_un e]
          exact hj
      refine ⟨hz, hz, hiu, hz, hiv, hiu, nm_r e3 (nm_r (nI_1 m) (ih (m + 1) _ (cg_u l u (l u ||| g v)) (by omega) ⟨cg_uh hI.1 (by omega) rfl, ?_⟩ ?_ ?_))⟩
      · intro i hi j hj
        by_cases e : i = u
        · subst e
          rw [cg_us, Nat.testBit_or, Bool.or_eq_true] at hj
          rcases hj with hj | hj
          · exact hI.2 i hi j hj
          · exact Relation.TransGen.tail (hI.2 i hi v ht) ⟨hv, hj⟩
        · rw [cg_un e] at hj
          exact hI.2 i hi j hj
      · intro i hi n hnk j hW
        exact grow i j (hP i hi n hnk j hW)
      · intro u' v' a b hm' hw j hj
        rcases key u' v' hm' a b with z | ⟨z1, z2⟩
        · exact grow u' j (hQ u' v' a b z hw j hj)
        · subst z1 z2
          rw [cg_us, Nat.testBit_or, hj, Bool.or_true]
theorem cg_y30 (post : SY → Prop) {c : Nat} (hc : c ≤ 9) (g r : Nat → Nat) (hg : cg_Bd c g) (hr : cg_Rk c g r) (hrc : ∀ i, i < c → r i < c) (nx sl : Nat → Int32) (hn : ∀ j, j < c → nx j = nI (g j))
    (HP : ∀ L' l', (∀ j, j < c → L' j = nI (l' j)) → cg_Cl c g l' → post (nI c, nx, L', sl)) :
    ∀ (d k : Nat) (L : Nat → Int32) (l : Nat → Nat), k + d = 9 → cg_YI c g L l → cg_P k c g l → wY_findLater_30 post (nI c) (d + 1) (nI k) nx L sl := by
  intro d
  induction d with
  | zero =>
    intro k L l hk hI hP
    have e : k = 9 := by omega
    subst e
    refine br_t (nI_le (a := 9) (by omega) (by omega)) (HP L l hI.1 ?_)
    intro i hi j
    refine ⟨hI.2 i hi j, ?_⟩
    intro hT
    obtain ⟨n, hW⟩ := cg_TW hT
    have h1 := cg_Wr hr _ _ _ hW
    have h2 := hrc i hi
    exact hP i hi n (by omega) j hW
  | succ d ih =>
    intro k L l hk hI hP
    refine br_f (nI_ge (b := 9) (by omega) (by omega)) ⟨c * c + 1, cg_y38 post _ hc (by omega) g hg nx sl hn ?_ (c * c) 0 L l (by omega) hI hP ?_⟩
    · intro L' l' hI' hP'
      exact ih (k + 1) L' l' (by omega) hI' hP'
    · intro u v _ _ h
      exact absurd h (Nat.not_lt_zero _)
theorem cg_y2 (post : SY → Prop) {c : Nat} (hc : c ≤ 9) (g r : Nat → Nat) (hg : cg_Bd c g) (hr : cg_Rk c g r) (hrc : ∀ i, i < c → r i < c) (nx sl : Nat → Int32) (hn : ∀ j, j < c → nx j = nI (g j))
    (HP : ∀ L' l', (∀ j, j < c → L' j = nI (l' j)) → cg_Cl c g l' → post (nI c, nx, L', sl)) :
    ∀ (d u : Nat) (L : Nat → Int32), u + d = c → (∀ j, j < u → L j = nI (g j)) → wY_findLater_2 post (nI c) (d + 1) (nI u) nx L sl := by
  intro d
  induction d with
  | zero =>
    intro u L hu hL
    have e : u = c := by omega
    subst e
    refine br_t (nI_le (by omega) (by omega)) ⟨10, cg_y30 post hc g r hg hr hrc nx sl hn HP 9 0 L g (by omega) ⟨hL, ?_⟩ ?_⟩
    · intro i hi j h
      exact Relation.TransGen.single ⟨hi, h⟩
    · intro i hi n hn0 j hW
      have e : n = 0 := by omega
      subst e
      obtain ⟨w, h1, h2⟩ := hW
      have e' : w = j := h2
      subst e'
      exact h1.2
  | succ d ih =>
    intro u L hu hL
    have hub : u < c := by omega
    have hiu : vp_in (nI u) 9 := vp_in_nI (by omega) (by omega)
    refine br_f (nI_ge hub (by omega)) ⟨hiu, hiu, nm_e (nm_r (nI_1 u) (ih (u + 1) _ (by omega) ?_))⟩
    intro j hj
    rw [nI_clamp (by omega)]
    by_cases e : j = u
    · subst e
      rw [pk_us]
      exact hn j hub
    · rw [pk_un e]
      exact hL j (by omega)
theorem cg_yfl (post : SY → Prop) {c : Nat} (hc : c ≤ 9) (g r : Nat → Nat) (hg : cg_Bd c g) (hr : cg_Rk c g r) (hrc : ∀ i, i < c → r i < c) (nx L sl : Nat → Int32) (hn : ∀ j, j < c → nx j = nI (g j))
    (HP : ∀ L' l', (∀ j, j < c → L' j = nI (l' j)) → cg_Cl c g l' → post (nI c, nx, L', sl)) : wpY_findLater post (nI c, nx, L, sl) :=
  ⟨c + 1, cg_y2 post hc g r hg hr hrc nx sl hn HP c 0 L (by omega) (fun j hj => absurd hj (Nat.not_lt_zero j))⟩
end
section
/-! the relation -/
def cg_R (c : Nat) (g l : Nat → Nat) : Prop := c ≤ 9 ∧ cg_Bd c g ∧ cg_Cl c g l ∧ ∃ r, cg_Rk c g r
def cg_S (u : SX) (v : SY) : Prop := ∃ (c : Nat) (g l : Nat → Nat) (nx L hs gs ny ly sl : Nat → Int32), u = (nI c, nx, L, hs, gs) ∧ v = (nI c, ny, ly, sl) ∧ cg_R c g l ∧ (∀ j, j < c → nx j = nI (g j)) ∧ (∀ j, j < c → ny j = nI (g j)) ∧ (∀ j, j < c → L j = nI (l j))
theorem cg_Smk {c : Nat} {g l : Nat → Nat} {nx L hs gs ny ly sl : Nat → Int32} (hR : cg_R c g l) (hx : ∀ j, j < c → nx j = nI (g j)) (hy : ∀ j, j < c → ny j = nI (g j)) (hL : ∀ j, j < c → L j = nI (l j)) : cg_S (nI c, nx, L, hs, gs) (nI c, ny, ly, sl) := ⟨c, g, l, nx, L, hs, gs, ny, ly, sl, rfl, rfl, hR, hx, hy, hL⟩
theorem cg_rk2 {c : Nat} {g l : Nat → Nat} (h : cg_R c g l) : ∃ r, cg_Rk c g r ∧ ∀ i, i < c → r i < c := by
  obtain ⟨_, hg, hl, r, hr⟩ := h
  exact cg_rkc hg hl hr
theorem cg_R0 {c : Nat} (hc : c ≤ 9) : cg_R c (fun _ => 0) (fun _ => 0) := by
  refine ⟨hc, fun j _ => Nat.two_pow_pos c, ?_, fun _ => 0, ?_⟩
  · intro i hi j
    constructor
    · intro h
      rw [Nat.zero_testBit] at h
      exact absurd h (by decide)
    · intro h
      exfalso
      induction h with
      | single h => exact absurd h.2 (by rw [Nat.zero_testBit]; decide)
      | tail _ h _ => exact absurd h.2 (by rw [Nat.zero_testBit]; decide)
  · intro a b h
    exact absurd h.2 (by rw [Nat.zero_testBit]; decide)
theorem cg_S0 {c : Nat} (hc : c ≤ 9) : cg_S (nI c, (fun _ => 0), (fun _ => 0), (fun _ => 0), (fun _ => 0)) (nI c, (fun _ => 0), (fun _ => 0), (fun _ => 0)) := cg_Smk (cg_R0 hc) (fun _ _ => rfl) (fun _ _ => rfl) (fun _ _ => rfl)
theorem cg_vc0 (k0 : Int32) : wpX_init (fun u => wpY_init (fun v => cg_S u v) k0) k0 := by
  refine br_c (fun h0 => br_c (fun h9 => br_t h0 (br_t h9 ?_)) (fun h9 => br_t h0 (br_f h9 ?_))) (fun h0 => br_f h0 ?_)
  · obtain ⟨j, hj, e⟩ := nI_of2 (M := 9) (n := 9) (by decide) (Int32.not_lt.mpr h0) h9
    subst e
    exact cg_S0 hj
  · exact cg_S0 (c := 9) (by omega)
  · exact cg_S0 (c := 0) (by omega)
theorem cg_addE {c : Nat} {g : Nat → Nat} : cg_E (c + 1) (cg_u g c 0) = cg_E c g := by
  funext a b
  apply propext
  unfold cg_E
  by_cases e : a = c
  · subst e
    rw [cg_us, Nat.zero_testBit]
    constructor
    · intro h; exact absurd h.2 (by decide)
    · intro h; exact absurd h.1 (Nat.lt_irrefl a)
  · rw [cg_un e]
    constructor
    · intro h; exact ⟨by omega, h.2⟩
    · intro h; exact ⟨by omega, h.2⟩
theorem cg_addR {c : Nat} {g l : Nat → Nat} (h : cg_R c g l) (hc : c < 9) : cg_R (c + 1) (cg_u g c 0) (cg_u l c 0) := by
  obtain ⟨_, hg, hl, r, hr⟩ := h
  refine ⟨hc, ?_, ?_, r, ?_⟩
  · intro j hj
    by_cases e : j = c
    · subst e
      rw [cg_us]
      exact Nat.two_pow_pos _
    · rw [cg_un e]
      exact Nat.lt_trans (hg j (by omega)) (Nat.pow_lt_pow_right (by decide) (by omega))
  · intro i hi j
    rw [cg_addE]
    by_cases e : i = c
    · subst e
      rw [cg_us, Nat.zero_testBit]
      constructor
      · intro h; exact absurd h (by decide)
      · intro h; exact absurd (cg_Tlt hg h).1 (Nat.lt_irrefl i)
    · rw [cg_un e]
      exact hl i (by omega) j
  · intro a b
    rw [cg_addE]
    exact hr a b
theorem cg_vaddTask {u : SX} {v : SY} (I : cg_S u v) : wpX_addTask (fun r u' => wpY_addTask (fun r' v' => r' = r ∧ cg_S u' v') v) u := by
  obtain ⟨c, g, l, nx, L, hs, gs, ny, ly, sl, rfl, rfl, hR, hx, hy, hL⟩ := I
  have hc := hR.1
  by_cases h9 : c < 9
  · have hi : vp_in (nI c) 9 := vp_in_nI h9 (by omega)
    have ha : nI c < 9 := nI_lt (b := 9) h9 (by decide)
    have hb : ¬ nI c = 9 := fun z => by
      have := (nI_eq (b := 9) (by omega) (by decide)).mp z
      omega
    have hu : ∀ {a : Nat → Int32} {f : Nat → Nat}, (∀ j, j < c → a j = nI (f j)) → ∀ j, j < c + 1 → upd a (nI c).toNatClampNeg 0 j = nI (cg_u f c 0 j) := by
      intro a f h j hj
      rw [nI_clamp (by omega)]
      by_cases e : j = c
      · subst e
        rw [pk_us, cg_us]
        rfl
      · rw [pk_un e, cg_un e]
        exact h j (by omega)
    refine br_t ha ⟨hi, nm_e ⟨hi, nm_e (nm_r (nI_1 c) ?_)⟩⟩
    refine br_f hb ⟨hi, nm_e (nm_r (nI_1 c) ⟨nI_pred c, ?_⟩)⟩
    exact cg_Smk (cg_addR hR h9) (hu hx) (hu hy) (hu hL)
  · have e : c = 9 := by omega
    subst e
    exact br_f (nI_nlt (a := 9) (b := 9) (by omega) (by decide)) (br_t rfl ⟨rfl, cg_Smk hR hx hy hL⟩)
theorem cg_vtasks {u : SX} {v : SY} (I : cg_S u v) : wpX_tasks (fun r => wpY_tasks (fun r' => r' = r ∧ cg_S u v) v) u := by
  obtain ⟨c, g, l, nx, L, hs, gs, ny, ly, sl, rfl, rfl, hR, hx, hy, hL⟩ := I
  exact ⟨rfl, cg_Smk hR hx hy hL⟩
/-! removeTask -/
def cg_sh (v j : Nat) : Nat := if j < v then j else j + 1
def cg_rm (g : Nat → Nat) (v : Nat) : Nat → Nat := fun j => cg_gap (g (cg_sh v j)) v
theorem cg_rmt (g : Nat → Nat) (v a b : Nat) : (cg_rm g v a).testBit b = (g (cg_sh v a)).testBit (cg_sh v b) := by
  unfold cg_rm
  rw [cg_gapt]
  show _ = (g (cg_sh v a)).testBit (if b < v then b else b + 1)
  split <;> rfl
theorem cg_shl {v j c : Nat} (hv : v < c + 1) (hj : j < c) : cg_sh v j < c + 1 := by
  unfold cg_sh
  split <;> omega
theorem cg_shr2 {v j c : Nat} (hv : v < c + 1) (hj : cg_sh v j < c + 1) : j < c := by
  unfold cg_sh at hj
  split at hj <;> omega
theorem cg_rmB {c v : Nat} {g : Nat → Nat} (hg : cg_Bd (c + 1) g) (hv : v < c + 1) : cg_Bd c (cg_rm g v) := by
  intro j hj
  apply cg_small
  intro b hb
  rw [cg_rmt] at hb
  exact cg_shr2 hv (cg_big (hg _ (cg_shl hv hj)) hb)
theorem cg_rmK {c v : Nat} {g r : Nat → Nat} (hr : cg_Rk (c + 1) g r) (hv : v < c + 1) : cg_Rk c (cg_rm g v) (fun j => r (cg_sh v j)) := by
  intro a b h
  have h2 := h.2
  rw [cg_rmt] at h2
  exact hr _ _ ⟨cg_shl hv h.1, h2⟩
theorem cg_xr54 (post : Int32 → SX → Prop) {c v : Nat} (hc : c < 9) (hv : v < c + 1) (g : Nat → Nat) (hg : cg_Bd (c + 1) g) (L hs gs : Nat → Int32)
    (HP : ∀ N L' l', (∀ j, j < c → N j = nI (cg_rm g v j)) → (∀ j, j < c → L' j = nI (l' j)) → cg_Cl c (cg_rm g v) l' → post (nI c) (nI c, N, L', hs, gs)) :
    ∀ (d u : Nat) (N : Nat → Int32), u + d = c → (∀ j, j < c → N j = nI (if j < u then cg_rm g v j else g (cg_sh v j))) → wX_removeTask_54 post (nI v) (nI c) (d + 1) (nI u) N L hs gs := by
  have p9 := cg_p9 (c := c + 1) hc
  intro d
  induction d with
  | zero =>
    intro u N hu hN
    have e : u = c := by omega
    subst e
    have hN' : ∀ j, j < u → N j = nI (cg_rm g v j) := by
      intro j hj
      rw [hN j hj, if_pos hj]
    refine br_t (nI_le (by omega) (by omega)) (cg_xfl _ (by omega) (cg_rm g v) (cg_rmB hg hv) N L hs gs hN' ?_)
    intro L' l' h1 h2
    exact HP N L' l' hN' h1 h2
  | succ d ih =>
    intro u N hu hN
    have hub : u < c := by omega
    have hi : vp_in (nI u) 9 := vp_in_nI (by omega) (by omega)
    have h1 : N (nI u).toNatClampNeg = nI (g (cg_sh v u)) := by
      rw [nI_clamp (by omega), hN u hub, if_neg (Nat.lt_irrefl u)]
    have h2 := hg _ (cg_shl hv hub)
    refine br_f (nI_ge hub (by omega)) ⟨hi, nm_e (nm_e ⟨hi, nm_e (nm_r (nI_1 u) (ih (u + 1) _ (by omega) ?_))⟩)⟩
    intro j hj
    rw [h1, cg_gapw (by omega) (by omega), nI_clamp (by omega)]
    by_cases e : j = u
    · subst e
      rw [pk_us, if_pos (by omega)]
      rfl
    · rw [pk_un e, hN j hj]
      by_cases e2 : j < u
      · rw [if_pos e2, if_pos (by omega)]
      · rw [if_neg e2, if_neg (by omega)]
theorem cg_xr12 (post : Int32 → SX → Prop) {c v : Nat} (hc : c < 9) (hv : v < c + 1) (g : Nat → Nat) (hg : cg_Bd (c + 1) g) (L hs gs : Nat → Int32)
    (HP : ∀ N L' l', (∀ j, j < c → N j = nI (cg_rm g v j)) → (∀ j, j < c → L' j = nI (l' j)) → cg_Cl c (cg_rm g v) l' → post (nI c) (nI c, N, L', hs, gs)) :
    ∀ (d u : Nat) (N : Nat → Int32), u + d = c → v ≤ u → (∀ j, j < c + 1 → N j = nI (if j < u then g (cg_sh v j) else g j)) → wX_removeTask_12 post (nI v) (nI (c + 1)) (d + 1) (nI u) N L hs gs := by
  intro d
  induction d with
  | zero =>
    intro u N hu hvu hN
    have e : u = c := by omega
    subst e
    have h : nI (u + 1) - 1 ≤ nI u := by rw [nI_pred]; exact nI_le (by omega) (by omega)
    refine br_t h (nm_r (nI_pred u) ⟨u + 1, cg_xr54 post hc hv g hg L hs gs HP u 0 N (by omega) ?_⟩)
    intro j hj
    rw [hN j (by omega), if_pos hj, if_neg (Nat.not_lt_zero j)]
  | succ d ih =>
    intro u N hu hvu hN
    have h : ¬ nI (c + 1) - 1 ≤ nI u := by rw [nI_pred]; exact nI_ge (by omega) (by omega)
    have hi : vp_in (nI u) 9 := vp_in_nI (by omega) (by omega)
    have hi1 : vp_in (nI u + 1) 9 := by rw [nI_1]; exact vp_in_nI (by omega) (by omega)
    refine br_f h ⟨hi1, hi, nm_e (nm_r (nI_1 u) (ih (u + 1) _ (by omega) (by omega) ?_))⟩
    intro j hj
    rw [nI_1, nI_clamp (by omega), nI_clamp (by omega)]
    by_cases e : j = u
    · subst e
      rw [pk_us, if_pos (by omega), hN (j + 1) (by omega), if_neg (by omega)]
      unfold cg_sh
      rw [if_neg (by omega)]
    · rw [pk_un e, hN j hj]
      by_cases e2 : j < u
      · rw [if_pos e2, if_pos (by omega)]
      · rw [if_neg e2, if_neg (by omega)]
theorem cg_yr64 (post : Int32 → SY → Prop) {c v : Nat} (hc : c < 9) (hv : v < c + 1) (g : Nat → Nat) (hg : cg_Bd (c + 1) g) (L sl : Nat → Int32)
    (HP : ∀ N, (∀ j, j < c → N j = nI (cg_rm g v j)) → post (nI c) (nI c, N, L, sl)) :
    ∀ (d u : Nat) (N : Nat → Int32), u + d = c → (∀ j, j < c → N j = nI (if j < u then cg_rm g v j else g (cg_sh v j))) → wY_removeTask_64 post (nI v) (nI c) (d + 1) (nI u) N L sl := by
  have p9 := cg_p9 (c := c + 1) hc
  intro d
  induction d with
  | zero =>
    intro u N hu hN
    have e : u = c := by omega
    subst e
    refine br_t (nI_le (by omega) (by omega)) (HP N ?_)
    intro j hj
    rw [hN j hj, if_pos hj]
  | succ d ih =>
    intro u N hu hN
    have hub : u < c := by omega
    have hi : vp_in (nI u) 9 := vp_in_nI (by omega) (by omega)
    have h1 : N (nI u).toNatClampNeg = nI (g (cg_sh v u)) := by
      rw [nI_clamp (by omega), hN u hub, if_neg (Nat.lt_irrefl u)]
    have h2 := hg _ (cg_shl hv hub)
    refine br_f (nI_ge hub (by omega)) ⟨hi, hi, nm_e (nm_r (nI_1 u) (ih (u + 1) _ (by omega) ?_))⟩
    intro j hj
    rw [h1, cg_gapw (by omega) (by omega), nI_clamp (by omega)]
    by_cases e : j = u
    · subst e
      rw [pk_us, if_pos (by omega)]
      rfl
    · rw [pk_un e, hN j hj]
      by_cases e2 : j < u
      · rw [if_pos e2, if_pos (by omega)]
      · rw [if_neg e2, if_neg (by omega)]
theorem cg_yr12 (post : Int32 → SY → Prop) {c v : Nat} (hc : c < 9) (hv : v < c + 1) (g : Nat → Nat) (hg : cg_Bd (c + 1) g) (L sl : Nat → Int32)
    (HP : ∀ N, (∀ j, j < c → N j = nI (cg_rm g v j)) → post (nI c) (nI c, N, L, sl)) :
    ∀ (d u : Nat) (N : Nat → Int32), u + d = c → v ≤ u → (∀ j, j < c + 1 → N j = nI (if j < u then g (cg_sh v j) else g j)) → wY_removeTask_12 post (nI v) (nI (c + 1)) (d + 1) (nI u) N L sl := by
  intro d
  induction d with
  | zero =>
    intro u N hu hvu hN
    have e : u = c := by omega
    subst e
    have h : nI (u + 1) - 1 ≤ nI u := by rw [nI_pred]; exact nI_le (by omega) (by omega)
    refine br_t h (nm_r (nI_pred u) ⟨vp_in_nI (by omega) (by omega), nm_e ⟨u + 1, cg_yr64 post hc hv g hg L sl HP u 0 _ (by omega) ?_⟩⟩)
    intro j hj
    rw [nI_clamp (by omega), pk_un (by omega), hN j (by omega), if_pos hj, if_neg (Nat.not_lt_zero j)]
  | succ d ih =>
    intro u N hu hvu hN
    have h : ¬ nI (c + 1) - 1 ≤ nI u := by rw [nI_pred]; exact nI_ge (by omega) (by omega)
    have hi : vp_in (nI u) 9 := vp_in_nI (by omega) (by omega)
    have hi1 : vp_in (nI u + 1) 9 := by rw [nI_1]; exact vp_in_nI (by omega) (by omega)
    refine br_f h ⟨hi1, hi, nm_e (nm_r (nI_1 u) (ih (u + 1) _ (by omega) (by omega) ?_))⟩
    intro j hj
    rw [nI_1, nI_clamp (by omega), nI_clamp (by omega)]
    by_cases e : j = u
    · subst e
      rw [pk_us, if_pos (by omega), hN (j + 1) (by omega), if_neg (by omega)]
      unfold cg_sh
      rw [if_neg (by omega)]
    · rw [pk_un e, hN j hj]
      by_cases e2 : j < u
      · rw [if_pos e2, if_pos (by omega)]
      · rw [if_neg e2, if_neg (by omega)]
theorem cg_rm0 {c v : Nat} {g : Nat → Nat} {N : Nat → Int32} (h : ∀ j, j < c → N j = nI (g j)) : ∀ j, j < c → N j = nI (if j < v then g (cg_sh v j) else g j) := by
  intro j hj
  rw [h j hj]
  split
  · unfold cg_sh
    rw [if_pos (by assumption)]
  · rfl
theorem cg_vremoveTask {u : SX} {v : SY} (I : cg_S u v) (v1 : Int32) : wpX_removeTask (fun r u' => wpY_removeTask (fun r' v' => r' = r ∧ cg_S u' v') v v1) u v1 := by
  obtain ⟨c, g, l, nx, L, hs, gs, ny, ly, sl, rfl, rfl, hR, hx, hy, hL⟩ := I
  have hc := hR.1
  unfold wpX_removeTask wpY_removeTask
  dsimp only
  rcases cg_ix v1 hc with h | ⟨w, hw, rfl⟩
  · refine cg_tF c rfl h ?_
    refine cg_sF c rfl h ?_
    exact ⟨rfl, cg_Smk hR hx hy hL⟩
  · obtain ⟨c, rfl⟩ : ∃ d, c = d + 1 := ⟨c - 1, by omega⟩
    refine cg_tT (c + 1) rfl hc hw ?_
    refine ⟨c - w + 1, ?_⟩
    refine cg_xr12 _ (by omega) hw g hR.2.1 L hs gs ?_ (c - w) w nx (by omega) (by omega) (cg_rm0 hx)
    intro N L' l' h1 h2 h3
    refine cg_sT (c + 1) rfl hc hw ?_
    refine ⟨c - w + 1, ?_⟩
    refine cg_yr12 _ (by omega) hw g hR.2.1 ly sl ?_ (c - w) w ny (by omega) (by omega) (cg_rm0 hy)
    intro N' h1'
    obtain ⟨_, hg, _, r, hr⟩ := hR
    exact ⟨rfl, cg_Smk ⟨by omega, cg_rmB hg hw, h3, _, cg_rmK hr hw⟩ h1 h1' h2⟩
end
section
/-! addOrder, removeOrder, after -/
theorem cg_ig {post : Int32 → Prop} {x y : Int32} (u : SY) (s j : Nat) (hx : x = nI s) (hs : s < 2 ^ 31) (hj : j < 32) (hf : s.testBit j = false → post 0) (ht : s.testBit j = true → post 1) (hy : y = nI j := by rfl) : wpY_in post u x y := by
  subst hx hy
  obtain ⟨u1, u2, u3, u4⟩ := u
  unfold wpY_in
  dsimp only
  rw [cg_bit hs hj]
  exact ⟨fun z => ht z, fun z => hf (cg_f z)⟩
theorem cg_adB {c u v : Nat} {g : Nat → Nat} (hg : cg_Bd c g) (hu : u < c) (hv : v < c) : cg_Bd c (cg_u g u (g u ||| 2 ^ v)) := by
  intro j hj
  by_cases e : j = u
  · subst e
    rw [cg_us]
    exact Nat.or_lt_two_pow (hg j hj) (Nat.pow_lt_pow_right (by decide) hv)
  · rw [cg_un e]
    exact hg j hj
theorem cg_adE {c u v a b : Nat} {g : Nat → Nat} (h : cg_E c (cg_u g u (g u ||| 2 ^ v)) a b) : cg_E c g a b ∨ (a = u ∧ b = v) := by
  obtain ⟨h1, h2⟩ := h
  by_cases e : a = u
  · subst e
    rw [cg_us, Nat.testBit_or, Bool.or_eq_true, Nat.testBit_two_pow, decide_eq_true_eq] at h2
    rcases h2 with h2 | h2
    · exact Or.inl ⟨h1, h2⟩
    · exact Or.inr ⟨rfl, h2.symm⟩
  · rw [cg_un e] at h2
    exact Or.inl ⟨h1, h2⟩
theorem cg_adK {c u v : Nat} {g l r : Nat → Nat} (hg : cg_Bd c g) (hl : cg_Cl c g l) (hr : cg_Rk c g r) (hv : v < c) (huv : u ≠ v) (hn : (l v).testBit u = false) : cg_Rk c (cg_u g u (g u ||| 2 ^ v)) (fun a => r a + (if a = u ∨ (l a).testBit u = true then r v + 1 else 0)) := by
  intro a b h
  rcases cg_adE h with h' | ⟨rfl, rfl⟩
  · clear h
    have h := h'
    have h1 := hr a b h
    have hb := cg_Elt hg h
    show r b + (if b = u ∨ (l b).testBit u = true then r v + 1 else 0) < r a + (if a = u ∨ (l a).testBit u = true then r v + 1 else 0)
    by_cases z : b = u ∨ (l b).testBit u = true
    · have z2 : a = u ∨ (l a).testBit u = true := by
        right
        rw [hl a h.1 u]
        rcases z with z | z
        · rw [← z]
          exact Relation.TransGen.single h
        · exact cg_head h ((hl b hb u).mp z)
      rw [if_pos z, if_pos z2]
      omega
    · rw [if_neg z]
      omega
  · show r b + (if b = a ∨ (l b).testBit a = true then r b + 1 else 0) < r a + (if a = a ∨ (l a).testBit a = true then r b + 1 else 0)
    rw [if_pos (Or.inl rfl), if_neg]
    · omega
    · rintro (z | z)
      · exact huv z.symm
      · rw [hn] at z
        exact absurd z (by decide)
theorem cg_rmOB {c u v : Nat} {g : Nat → Nat} (hg : cg_Bd c g) : cg_Bd c (cg_u g u (cg_d (g u) (2 ^ v))) := by
  intro j hj
  by_cases e : j = u
  · subst e
    rw [cg_us]
    apply cg_small
    intro b hb
    rw [cg_dt, Bool.and_eq_true] at hb
    exact cg_big (hg j hj) hb.1
  · rw [cg_un e]
    exact hg j hj
theorem cg_rmOK {c u v : Nat} {g r : Nat → Nat} (hr : cg_Rk c g r) : cg_Rk c (cg_u g u (cg_d (g u) (2 ^ v))) r := by
  intro a b h
  refine hr a b ⟨h.1, ?_⟩
  have h2 := h.2
  by_cases e : a = u
  · subst e
    rw [cg_us, cg_dt, Bool.and_eq_true] at h2
    exact h2.1
  · rw [cg_un e] at h2
    exact h2
theorem cg_vaddOrder {u : SX} {v : SY} (I : cg_S u v) (v1 v2 : Int32) : wpX_addOrder (fun r u' => wpY_addOrder (fun r' v' => r' = r ∧ cg_S u' v') v v1 v2) u v1 v2 := by
  obtain ⟨c, g, l, nx, L, hs, gs, ny, ly, sl, rfl, rfl, hR, hx, hy, hL⟩ := I
  obtain ⟨q, hq1, hq2⟩ := cg_rk2 hR
  have hR' := hR
  obtain ⟨hc, hg, hl, r, hr⟩ := hR'
  have p9 := cg_p9 hc
  unfold wpX_addOrder wpY_addOrder
  dsimp only
  rcases cg_ix v1 hc with h | ⟨a, ha, rfl⟩
  · refine cg_tF c rfl h ?_
    refine cg_sF c rfl h ?_
    exact ⟨rfl, cg_Smk hR hx hy hL⟩
  · rcases cg_ix v2 hc with h | ⟨b, hb, rfl⟩
    · refine cg_tT c rfl hc ha ?_
      refine cg_tF c rfl h ?_
      refine cg_sT c rfl hc ha ?_
      refine cg_sF c rfl h ?_
      exact ⟨rfl, cg_Smk hR hx hy hL⟩
    · have hia : vp_in (nI a) 9 := vp_in_nI (by omega) (by omega)
      have hib : vp_in (nI b) 9 := vp_in_nI (by omega) (by omega)
      have hlB := cg_ClB hg hl
      have hl1 := hlB b hb
      have hg1 := hg a ha
      refine cg_tT c rfl hc ha ?_
      refine cg_tT c rfl hc hb ?_
      by_cases e : a = b
      · subst e
        refine br_t rfl ?_
        refine cg_sT c rfl hc ha ?_
        refine cg_sT c rfl hc ha ?_
        refine cg_yfl _ hc g q hg hq1 hq2 ny ly sl hy ?_
        intro L' l' h1 h2
        refine br_t rfl ?_
        exact ⟨rfl, cg_Smk hR hx hy hL⟩
      · have hne : ¬ nI a = nI b := fun z => e ((nI_eq (by omega) (by omega)).mp z)
        have xb : L (nI b).toNatClampNeg = nI (l b) := cg_at hL (by omega) hb
        have xa : nx (nI a).toNatClampNeg = nI (g a) := cg_at hx (by omega) ha
        have ya : ny (nI a).toNatClampNeg = nI (g a) := cg_at hy (by omega) ha
        have yl : ∀ (L' : Nat → Int32) (l' : Nat → Nat), (∀ j, j < c → L' j = nI (l' j)) → cg_Cl c g l' → L' (nI b).toNatClampNeg = nI (l b) := by
          intro L' l' h1 h2
          rw [cg_at h1 (by omega) hb, cg_Clu h2 hl b hb]
        refine br_f hne ⟨hib, ?_⟩
        refine cg_h (l b) a xb (by omega) (by omega) (fun hf => ?_) (fun ht => ?_)
        · refine ⟨hia, ?_⟩
          refine cg_h (g a) b xa (by omega) (by omega) (fun hf2 => ?_) (fun ht2 => ?_)
          · have e1 : upd nx (nI a).toNatClampNeg (nx (nI a).toNatClampNeg ||| ((1 : Int32) <<< (nI b &&& 31))) = upd nx (nI a).toNatClampNeg (nI (g a ||| 2 ^ b)) := by
              rw [xa, cg_one (by omega), cg_or]
            have e2 : upd ny (nI a).toNatClampNeg (ny (nI a).toNatClampNeg ||| ((1 : Int32) <<< (nI b &&& 31))) = upd ny (nI a).toNatClampNeg (nI (g a ||| 2 ^ b)) := by
              rw [ya, cg_one (by omega), cg_or]
            have x1 := cg_uh (x := nI (g a ||| 2 ^ b)) (u := a) hx (by omega) rfl
            have y1 := cg_uh (x := nI (g a ||| 2 ^ b)) (u := a) hy (by omega) rfl
            refine ⟨hia, hia, nm_r e1 ?_⟩
            refine cg_xfl _ hc (cg_u g a (g a ||| 2 ^ b)) (cg_adB hg ha hb) _ L hs gs x1 ?_
            intro L2 l2 k1 k2
            refine cg_sT c rfl hc ha ?_
            refine cg_sT c rfl hc hb ?_
            refine cg_yfl _ hc g q hg hq1 hq2 ny ly sl hy ?_
            intro L' l' h1 h2
            refine br_f hne ⟨hib, ?_⟩
            refine cg_i _ (l b) a (yl L' l' h1 h2) (by omega) (by omega) (fun _ => ?_) (fun ht => ?_)
            · refine ⟨hia, ?_⟩
              refine cg_i _ (g a) b ya (by omega) (by omega) (fun _ => ?_) (fun ht2 => ?_)
              · refine ⟨hia, hia, nm_r e2 ?_⟩
                exact ⟨rfl, cg_Smk ⟨hc, cg_adB hg ha hb, k2, _, cg_adK hg hl hr hb e hf⟩ x1 y1 k1⟩
              · rw [hf2] at ht2
                exact absurd ht2 (by decide)
            · rw [hf] at ht
              exact absurd ht (by decide)
          · refine cg_sT c rfl hc ha ?_
            refine cg_sT c rfl hc hb ?_
            refine cg_yfl _ hc g q hg hq1 hq2 ny ly sl hy ?_
            intro L' l' h1 h2
            refine br_f hne ⟨hib, ?_⟩
            refine cg_i _ (l b) a (yl L' l' h1 h2) (by omega) (by omega) (fun _ => ?_) (fun ht => ?_)
            · refine ⟨hia, ?_⟩
              refine cg_i _ (g a) b ya (by omega) (by omega) (fun hf2 => ?_) (fun _ => ?_)
              · rw [hf2] at ht2
                exact absurd ht2 (by decide)
              · exact ⟨rfl, cg_Smk hR hx hy hL⟩
            · rw [hf] at ht
              exact absurd ht (by decide)
        · refine cg_sT c rfl hc ha ?_
          refine cg_sT c rfl hc hb ?_
          refine cg_yfl _ hc g q hg hq1 hq2 ny ly sl hy ?_
          intro L' l' h1 h2
          refine br_f hne ⟨hib, ?_⟩
          refine cg_i _ (l b) a (yl L' l' h1 h2) (by omega) (by omega) (fun hf => ?_) (fun _ => ?_)
          · rw [hf] at ht
            exact absurd ht (by decide)
          · exact ⟨rfl, cg_Smk hR hx hy hL⟩
theorem cg_vremoveOrder {u : SX} {v : SY} (I : cg_S u v) (v1 v2 : Int32) : wpX_removeOrder (fun r u' => wpY_removeOrder (fun r' v' => r' = r ∧ cg_S u' v') v v1 v2) u v1 v2 := by
  obtain ⟨c, g, l, nx, L, hs, gs, ny, ly, sl, rfl, rfl, hR, hx, hy, hL⟩ := I
  have hR' := hR
  obtain ⟨hc, hg, hl, r, hr⟩ := hR'
  have p9 := cg_p9 hc
  unfold wpX_removeOrder wpY_removeOrder
  dsimp only
  rcases cg_ix v1 hc with h | ⟨a, ha, rfl⟩
  · refine cg_tF c rfl h ?_
    refine cg_sF c rfl h ?_
    exact ⟨rfl, cg_Smk hR hx hy hL⟩
  · rcases cg_ix v2 hc with h | ⟨b, hb, rfl⟩
    · refine cg_tT c rfl hc ha ?_
      refine cg_tF c rfl h ?_
      refine cg_sT c rfl hc ha ?_
      refine cg_sF c rfl h ?_
      exact ⟨rfl, cg_Smk hR hx hy hL⟩
    · have hia : vp_in (nI a) 9 := vp_in_nI (by omega) (by omega)
      have hg1 := hg a ha
      have xa : nx (nI a).toNatClampNeg = nI (g a) := cg_at hx (by omega) ha
      have ya : ny (nI a).toNatClampNeg = nI (g a) := cg_at hy (by omega) ha
      refine cg_tT c rfl hc ha ?_
      refine cg_tT c rfl hc hb ?_
      refine ⟨hia, ?_⟩
      refine cg_h (g a) b xa (by omega) (by omega) (fun hf => ?_) (fun ht => ?_)
      · refine cg_sT c rfl hc ha ?_
        refine cg_sT c rfl hc hb ?_
        refine ⟨hia, ?_⟩
        refine cg_i _ (g a) b ya (by omega) (by omega) (fun _ => ?_) (fun ht => ?_)
        · exact ⟨rfl, cg_Smk hR hx hy hL⟩
        · rw [hf] at ht
          exact absurd ht (by decide)
      · have e1 : upd nx (nI a).toNatClampNeg (nx (nI a).toNatClampNeg &&& (((1 : Int32) <<< (nI b &&& 31)) ^^^ (-1))) = upd nx (nI a).toNatClampNeg (nI (cg_d (g a) (2 ^ b))) := by
          rw [xa, cg_one (by omega), cg_nt]
        have e2 : upd ny (nI a).toNatClampNeg (ny (nI a).toNatClampNeg &&& (((1 : Int32) <<< (nI b &&& 31)) ^^^ (-1))) = upd ny (nI a).toNatClampNeg (nI (cg_d (g a) (2 ^ b))) := by
          rw [ya, cg_one (by omega), cg_nt]
        have x1 := cg_uh (x := nI (cg_d (g a) (2 ^ b))) (u := a) hx (by omega) rfl
        have y1 := cg_uh (x := nI (cg_d (g a) (2 ^ b))) (u := a) hy (by omega) rfl
        refine ⟨hia, hia, nm_r e1 ?_⟩
        refine cg_xfl _ hc (cg_u g a (cg_d (g a) (2 ^ b))) (cg_rmOB hg) _ L hs gs x1 ?_
        intro L2 l2 k1 k2
        refine cg_sT c rfl hc ha ?_
        refine cg_sT c rfl hc hb ?_
        refine ⟨hia, ?_⟩
        refine cg_i _ (g a) b ya (by omega) (by omega) (fun hf => ?_) (fun _ => ?_)
        · rw [hf] at ht
          exact absurd ht (by decide)
        · refine ⟨hia, hia, nm_r e2 ?_⟩
          exact ⟨rfl, cg_Smk ⟨hc, cg_rmOB hg, k2, r, cg_rmOK hr⟩ x1 y1 k1⟩
theorem cg_vafter {u : SX} {v : SY} (I : cg_S u v) (v1 v2 : Int32) : wpX_after (fun r => wpY_after (fun r' v' => r' = r ∧ cg_S u v') v v1 v2) u v1 v2 := by
  obtain ⟨c, g, l, nx, L, hs, gs, ny, ly, sl, rfl, rfl, hR, hx, hy, hL⟩ := I
  obtain ⟨q, hq1, hq2⟩ := cg_rk2 hR
  have hR' := hR
  obtain ⟨hc, hg, hl, r, hr⟩ := hR'
  have p9 := cg_p9 hc
  unfold wpX_after wpY_after
  dsimp only
  rcases cg_ix v1 hc with h | ⟨a, ha, rfl⟩
  · refine cg_tF c rfl h ?_
    refine cg_sF c rfl h ?_
    exact ⟨rfl, cg_Smk hR hx hy hL⟩
  · rcases cg_ix v2 hc with h | ⟨b, hb, rfl⟩
    · refine cg_tT c rfl hc ha ?_
      refine cg_tF c rfl h ?_
      refine cg_sT c rfl hc ha ?_
      refine cg_sF c rfl h ?_
      exact ⟨rfl, cg_Smk hR hx hy hL⟩
    · have hia : vp_in (nI a) 9 := vp_in_nI (by omega) (by omega)
      have hl1 := cg_ClB hg hl a ha
      have xa : L (nI a).toNatClampNeg = nI (l a) := cg_at hL (by omega) ha
      have yl : ∀ (L' : Nat → Int32) (l' : Nat → Nat), (∀ j, j < c → L' j = nI (l' j)) → cg_Cl c g l' → L' (nI a).toNatClampNeg = nI (l a) := by
        intro L' l' h1 h2
        rw [cg_at h1 (by omega) ha, cg_Clu h2 hl a ha]
      refine cg_tT c rfl hc ha ?_
      refine cg_tT c rfl hc hb ?_
      refine ⟨hia, ?_⟩
      refine cg_h (l a) b xa (by omega) (by omega) (fun hf => ?_) (fun ht => ?_)
      · refine cg_sT c rfl hc ha ?_
        refine cg_sT c rfl hc hb ?_
        refine cg_yfl _ hc g q hg hq1 hq2 ny ly sl hy ?_
        intro L' l' h1 h2
        refine ⟨hia, ?_⟩
        refine cg_ig _ (l a) b (yl L' l' h1 h2) (by omega) (by omega) (fun _ => ?_) (fun ht => ?_)
        · exact ⟨rfl, rfl, cg_Smk hR hx hy hL⟩
        · rw [hf] at ht
          exact absurd ht (by decide)
      · refine cg_sT c rfl hc ha ?_
        refine cg_sT c rfl hc hb ?_
        refine cg_yfl _ hc g q hg hq1 hq2 ny ly sl hy ?_
        intro L' l' h1 h2
        refine ⟨hia, ?_⟩
        refine cg_ig _ (l a) b (yl L' l' h1 h2) (by omega) (by omega) (fun hf => ?_) (fun _ => ?_)
        · rw [hf] at ht
          exact absurd ht (by decide)
        · exact ⟨rfl, rfl, cg_Smk hR hx hy hL⟩
end
section
/-! height: the component -/
def cg_HI (c : Nat) (g : Nat → Nat) (k u : Nat) (H : Nat → Int32) (h : Nat → Nat) : Prop := (∀ j, j < c → H j = nI (h j)) ∧ (∀ j, j < c → 1 ≤ h j ∧ ∃ b, cg_W c g (h j - 1) j b) ∧ (∀ j, j < c → ∀ n, n ≤ k + (if j < u then 1 else 0) → (∃ b, cg_W c g n j b) → n + 1 ≤ h j)
theorem cg_HB {c k u : Nat} {g h q : Nat → Nat} {H : Nat → Int32} (hq : cg_Rk c g q) (hqc : ∀ i, i < c → q i < c) (I : cg_HI c g k u H h) : ∀ j, j < c → h j ≤ c := by
  intro j hj
  obtain ⟨_, b, hb⟩ := I.2.1 j hj
  have h1 := cg_Wr hq _ _ _ hb
  have h2 := hqc j hj
  omega
theorem cg_xh12 (post : SX → Prop) (J : Int32 → (Nat → Int32) → (Nat → Int32) → (Nat → Int32) → (Nat → Int32) → Prop) {c k u : Nat} (hc : c ≤ 9) (hu : u < c) (g q : Nat → Nat) (hg : cg_Bd c g) (hq : cg_Rk c g q) (hqc : ∀ i, i < c → q i < c) (nx L gs : Nat → Int32) (hn : ∀ j, j < c → nx j = nI (g j))
    (HJ : ∀ H' h', cg_HI c g k (u + 1) H' h' → J (nI (u + 1)) nx L H' gs) :
    ∀ (d v : Nat) (H : Nat → Int32) (h : Nat → Nat), v + d = c → cg_HI c g k u H h → (∀ w, w < v → (g u).testBit w = true → h w + 1 ≤ h u) → wX_raiseHeights_12 post J (nI u) (nI c) (d + 1) (nI v) nx L H gs := by
  have p9 := cg_p9 hc
  intro d
  induction d with
  | zero =>
    intro v H h hv I D
    refine br_t (nI_le (by omega) (by omega)) (nm_r (nI_1 u) (HJ H h ⟨I.1, I.2.1, ?_⟩))
    intro j hj n hnk hW
    by_cases e : j = u
    · subst e
      rw [if_pos (by omega)] at hnk
      obtain ⟨b, hW⟩ := hW
      cases n with
      | zero => exact (I.2.1 j hj).1
      | succ n =>
        obtain ⟨w, h1, h2⟩ := hW
        have hw := cg_Elt hg h1
        have h3 := D w (by omega) h1.2
        have h4 := I.2.2 w hw n (by omega) ⟨b, h2⟩
        omega
    · refine I.2.2 j hj n ?_ hW
      by_cases e2 : j < u
      · rw [if_pos (by omega)] at hnk
        rw [if_pos e2]
        exact hnk
      · rw [if_neg (by omega)] at hnk
        rw [if_neg e2]
        exact hnk
  | succ d ih =>
    intro v H h hv I D
    have hvc : v < c := by omega
    have hiu : vp_in (nI u) 9 := vp_in_nI (by omega) (by omega)
    have hiv : vp_in (nI v) 9 := vp_in_nI (by omega) (by omega)
    have h1 : nx (nI u).toNatClampNeg = nI (g u) := cg_at hn (by omega) hu
    have h2 : H (nI u).toNatClampNeg = nI (h u) := cg_at I.1 (by omega) hu
    have h3 : H (nI v).toNatClampNeg = nI (h v) := cg_at I.1 (by omega) hvc
    have h4 := hg u hu
    have h5 := cg_HB hq hqc I u hu
    have h6 := cg_HB hq hqc I v hvc
    refine br_f (nI_ge hvc (by omega)) ⟨hiu, ?_⟩
    refine cg_h (g u) v h1 (by omega) (by omega) (fun hf => ?_) (fun ht => ?_)
    · refine nm_r (nI_1 v) (ih (v + 1) H h (by omega) I ?_)
      intro w hw hb
      by_cases e : w = v
      · subst e
        rw [hf] at hb
        exact absurd hb (by decide)
      · exact D w (by omega) hb
    · refine ⟨hiu, hiv, ?_⟩
      refine pk_lt (h v) (h u) (fun hlt => ?_) (fun hge => ?_) h3 h2
      · refine nm_r (nI_1 v) (ih (v + 1) H h (by omega) I ?_)
        intro w hw hb
        by_cases e : w = v
        · subst e
          exact hlt
        · exact D w (by omega) hb
      · have huv : v ≠ u := by
          intro e
          subst e
          exact absurd (hq v v ⟨hvc, ht⟩) (Nat.lt_irrefl _)
        have grow : ∀ j, h j ≤ cg_u h u (h v + 1) j := by
          intro j
          by_cases e : j = u
          · subst e
            rw [cg_us]
            omega
          · rw [cg_un e]
            exact Nat.le_refl _
        have e1 : upd H (nI u).toNatClampNeg (H (nI v).toNatClampNeg + 1) = upd H (nI u).toNatClampNeg (nI (h v + 1)) := by
          rw [h3, nI_1]
        refine ⟨hiv, hiu, nm_r e1 (nm_r (nI_1 v) (ih (v + 1) _ (cg_u h u (h v + 1)) (by omega) ⟨cg_uh I.1 (by omega) rfl, ?_, ?_⟩ ?_))⟩
        · intro j hj
          by_cases e : j = u
          · subst e
            rw [cg_us]
            obtain ⟨h7, b, h8⟩ := I.2.1 v hvc
            refine ⟨by omega, b, ?_⟩
            have e3 : h v + 1 - 1 = (h v - 1) + 1 := by omega
            rw [e3]
            exact ⟨v, ⟨hj, ht⟩, h8⟩
          · rw [cg_un e]
            exact I.2.1 j hj
        · intro j hj n hnk hW
          exact Nat.le_trans (I.2.2 j hj n hnk hW) (grow j)
        · intro w hw hb
          have hwu : w ≠ u := by
            intro e
            subst e
            exact absurd (hq w w ⟨hu, hb⟩) (Nat.lt_irrefl _)
          rw [cg_us, cg_un hwu]
          by_cases e : w = v
          · subst e
            exact Nat.le_refl _
          · have := D w (by omega) hb
            omega
theorem cg_xh2 (post : SX → Prop) {c k : Nat} (hc : c ≤ 9) (g q : Nat → Nat) (hg : cg_Bd c g) (hq : cg_Rk c g q) (hqc : ∀ i, i < c → q i < c) (nx L gs : Nat → Int32) (hn : ∀ j, j < c → nx j = nI (g j))
    (HP : ∀ H' h', cg_HI c g (k + 1) 0 H' h' → post (nI c, nx, L, H', gs)) :
    ∀ (d u : Nat) (H : Nat → Int32) (h : Nat → Nat), u + d = c → cg_HI c g k u H h → wX_raiseHeights_2 post (nI c) (d + 1) (nI u) nx L H gs := by
  intro d
  induction d with
  | zero =>
    intro u H h hu I
    refine br_t (nI_le (by omega) (by omega)) (HP H h ⟨I.1, I.2.1, ?_⟩)
    intro j hj n hnk hW
    rw [if_neg (Nat.not_lt_zero j)] at hnk
    refine I.2.2 j hj n ?_ hW
    rw [if_pos (by omega)]
    exact hnk
  | succ d ih =>
    intro u H h hu I
    have hub : u < c := by omega
    refine br_f (nI_ge hub (by omega)) ⟨c + 1, ?_⟩
    refine cg_xh12 post _ hc hub g q hg hq hqc nx L gs hn ?_ c 0 H h (by omega) I (fun w hw => absurd hw (Nat.not_lt_zero w))
    intro H' h' I'
    exact ih (u + 1) H' h' (by omega) I'
theorem cg_xh (post : SX → Prop) {c k : Nat} (hc : c ≤ 9) (g q : Nat → Nat) (hg : cg_Bd c g) (hq : cg_Rk c g q) (hqc : ∀ i, i < c → q i < c) (nx L gs : Nat → Int32) (hn : ∀ j, j < c → nx j = nI (g j))
    (HP : ∀ H' h', cg_HI c g (k + 1) 0 H' h' → post (nI c, nx, L, H', gs)) (H : Nat → Int32) (h : Nat → Nat) (I : cg_HI c g k 0 H h) : wpX_raiseHeights post (nI c, nx, L, H, gs) :=
  ⟨c + 1, cg_xh2 post hc g q hg hq hqc nx L gs hn HP c 0 H h (by omega) I⟩
theorem cg_xh35 (post : Int32 → SX → Prop) {c u : Nat} (hc : c ≤ 9) (hu : u < c) (g q : Nat → Nat) (hg : cg_Bd c g) (hq : cg_Rk c g q) (hqc : ∀ i, i < c → q i < c) (nx L gs : Nat → Int32) (hn : ∀ j, j < c → nx j = nI (g j))
    (HP : ∀ h H', cg_H c g u h → post (nI h) (nI c, nx, L, H', gs)) :
    ∀ (d k : Nat) (H : Nat → Int32) (h : Nat → Nat), k + d = c → cg_HI c g k 0 H h → wX_height_35 post (nI u) (d + 1) (nI k) (nI c) nx L H gs := by
  intro d
  induction d with
  | zero =>
    intro k H h hk I
    have e : H (nI u).toNatClampNeg = nI (h u) := cg_at I.1 (by omega) hu
    refine br_t (nI_le (by omega) (by omega)) ⟨vp_in_nI (by omega) (by omega), ?_⟩
    rw [e]
    refine HP (h u) H ⟨(I.2.1 u hu).1, (I.2.1 u hu).2, ?_⟩
    intro hW
    have h1 := cg_HB hq hqc I u hu
    have h2 := I.2.2 u hu (h u) (by omega) hW
    omega
  | succ d ih =>
    intro k H h hk I
    refine br_f (nI_ge (by omega) (by omega)) ?_
    refine cg_xh (k := k) _ hc g q hg hq hqc nx L gs hn ?_ H h I
    intro H' h' I'
    exact nm_r (nI_1 k) (ih (k + 1) H' h' (by omega) I')
theorem cg_xhi (post : Int32 → SX → Prop) {c u : Nat} (hc : c ≤ 9) (hu : u < c) (g q : Nat → Nat) (hg : cg_Bd c g) (hq : cg_Rk c g q) (hqc : ∀ i, i < c → q i < c) (nx L gs : Nat → Int32) (hn : ∀ j, j < c → nx j = nI (g j))
    (HP : ∀ h H', cg_H c g u h → post (nI h) (nI c, nx, L, H', gs)) :
    ∀ (d j : Nat) (H : Nat → Int32), j + d = c → (∀ i, i < j → H i = 1) → wX_height_12 post (nI u) (nI c) (d + 1) (nI j) nx L H gs := by
  intro d
  induction d with
  | zero =>
    intro j H hj hH
    refine br_t (nI_le (by omega) (by omega)) ⟨c + 1, ?_⟩
    refine cg_xh35 post hc hu g q hg hq hqc nx L gs hn HP c 0 H (fun _ => 1) (by omega) ⟨?_, ?_, ?_⟩
    · intro i hi
      exact hH i (by omega)
    · intro i hi
      exact ⟨Nat.le_refl 1, i, rfl⟩
    · intro i hi n hn0 _
      rw [if_neg (Nat.not_lt_zero i)] at hn0
      show n + 1 ≤ 1
      omega
  | succ d ih =>
    intro j H hj hH
    refine br_f (nI_ge (by omega) (by omega)) ⟨vp_in_nI (by omega) (by omega), nm_e (nm_r (nI_1 j) (ih (j + 1) _ (by omega) ?_))⟩
    intro i hi
    rw [nI_clamp (by omega)]
    by_cases e : i = j
    · subst e
      exact pk_us
    · rw [pk_un e]
      exact hH i (by omega)
/-! height: the reference -/
theorem cg_yh28 (post : Int32 → Prop) (J : Int32 → Int32 → Prop) {c R h : Nat} (hc : c ≤ 9) (g : Nat → Nat) (hg : cg_Bd c g) (hR : R < 512) (ny ly sl : Nat → Int32) (hn : ∀ j, j < c → ny j = nI (g j))
    (H0 : (∀ b, ¬ ∃ w, R.testBit w = true ∧ cg_E c g w b) → post (nI h)) (HJ : ∀ F, F < 2 ^ c → F ≠ 0 → (∀ b, F.testBit b = true ↔ ∃ w, R.testBit w = true ∧ cg_E c g w b) → J (nI F) (nI (h + 1))) :
    ∀ (d v F : Nat), v + d = c → F < 2 ^ c → (∀ b, F.testBit b = true ↔ ∃ w, w < v ∧ R.testBit w = true ∧ cg_E c g w b) → wY_height_28 post J (nI R) (nI h) (nI c) ny ly sl (d + 1) (nI F) (nI v) := by
  have p9 := cg_p9 hc
  intro d
  induction d with
  | zero =>
    intro v F hv hF hb
    have e : v = c := by omega
    subst e
    have hb' : ∀ b, F.testBit b = true ↔ ∃ w, R.testBit w = true ∧ cg_E v g w b := by
      intro b
      rw [hb b]
      constructor
      · rintro ⟨w, _, h⟩; exact ⟨w, h⟩
      · rintro ⟨w, h⟩; exact ⟨w, h.2.1, h⟩
    refine br_t (nI_le (by omega) (by omega)) ?_
    refine pk_eq F 0 (fun e => ?_) (fun e => ?_) rfl nI_0.symm
    · refine H0 ?_
      intro b z
      have := (hb' b).mpr z
      rw [e, Nat.zero_testBit] at this
      exact absurd this (by decide)
    · exact nm_r (nI_1 h) (HJ F hF e hb')
  | succ d ih =>
    intro v F hv hF hb
    have hvc : v < c := by omega
    refine br_f (nI_ge hvc (by omega)) ?_
    refine cg_i _ R v rfl (by omega) (by omega) (fun hf => ?_) (fun ht => ?_)
    · refine nm_r (nI_1 v) (ih (v + 1) F (by omega) hF ?_)
      intro b
      rw [hb b]
      constructor
      · rintro ⟨w, h1, h2⟩; exact ⟨w, by omega, h2⟩
      · rintro ⟨w, h1, h2, h3⟩
        refine ⟨w, ?_, h2, h3⟩
        have : w ≠ v := by
          intro e
          rw [e, hf] at h2
          exact absurd h2 (by decide)
        omega
    · have e1 : nI F ||| ny (nI v).toNatClampNeg = nI (F ||| g v) := by
        rw [cg_at hn (by omega) hvc, cg_or]
      refine ⟨vp_in_nI (by omega) (by omega), nm_r e1 (nm_r (nI_1 v) (ih (v + 1) _ (by omega) (Nat.or_lt_two_pow hF (hg v hvc)) ?_))⟩
      intro b
      rw [Nat.testBit_or, Bool.or_eq_true, hb b]
      constructor
      · rintro (⟨w, h1, h2⟩ | h1)
        · exact ⟨w, by omega, h2⟩
        · exact ⟨v, by omega, ht, hvc, h1⟩
      · rintro ⟨w, h1, h2, h3⟩
        by_cases e : w = v
        · subst e
          exact Or.inr h3.2
        · exact Or.inl ⟨w, by omega, h2, h3⟩
theorem cg_yh16 (post : Int32 → Prop) {c u : Nat} (hc : c ≤ 9) (hu : u < c) (g q : Nat → Nat) (hg : cg_Bd c g) (hq : cg_Rk c g q) (hqc : ∀ i, i < c → q i < c) (ny ly sl : Nat → Int32) (hn : ∀ j, j < c → ny j = nI (g j))
    (HP : ∀ h, cg_H c g u h → post (nI h)) :
    ∀ (d h R : Nat), h + d = 10 → 1 ≤ h → R < 2 ^ c → (∃ b, cg_W c g (h - 1) u b) → (∀ b, R.testBit b = true ↔ cg_W c g (h - 1) u b) → wY_height_16 post (nI c) ny ly sl (d + 1) (nI R) (nI h) := by
  have p9 := cg_p9 hc
  intro d
  induction d with
  | zero =>
    intro h R hh h1 hR hW hb
    obtain ⟨b, hW⟩ := hW
    have h2 := cg_Wr hq _ _ _ hW
    have h3 := hqc u hu
    omega
  | succ d ih =>
    intro h R hh h1 hR hW hb
    have key : ∀ b, (∃ w, R.testBit w = true ∧ cg_E c g w b) ↔ cg_W c g h u b := by
      intro b
      have e : h = (h - 1) + 1 := by omega
      rw [e, cg_Wb]
      constructor
      · rintro ⟨w, h1, h2⟩; exact ⟨w, (hb w).mp h1, h2⟩
      · rintro ⟨w, h1, h2⟩; exact ⟨w, (hb w).mpr h1, h2⟩
    refine br_f (nI_nlt (b := h) (a := 9) (by omega) (by omega)) ⟨c + 1, ?_⟩
    refine cg_yh28 post _ hc g hg (by omega) ny ly sl hn ?_ ?_ c 0 0 (by omega) (Nat.two_pow_pos c) ?_
    · intro z
      refine HP h ⟨h1, hW, ?_⟩
      rintro ⟨b, h2⟩
      exact z b ((key b).mpr h2)
    · intro F hF hF0 hFb
      have hFb' : ∀ b, F.testBit b = true ↔ cg_W c g (h + 1 - 1) u b := by
        intro b
        rw [hFb b, key b, Nat.add_sub_cancel]
      obtain ⟨b, h2⟩ := Nat.exists_testBit_of_ne_zero hF0
      exact ih (h + 1) F (by omega) (by omega) hF ⟨b, (hFb' b).mp h2⟩ hFb'
    · intro b
      rw [Nat.zero_testBit]
      constructor
      · intro z; exact absurd z (by decide)
      · rintro ⟨w, h1, _⟩; exact absurd h1 (Nat.not_lt_zero w)
theorem cg_vheight {u : SX} {v : SY} (I : cg_S u v) (v1 : Int32) : wpX_height (fun r u' => wpY_height (fun r' => r' = r ∧ cg_S u' v) v v1) u v1 := by
  obtain ⟨c, g, l, nx, L, hs, gs, ny, ly, sl, rfl, rfl, hR, hx, hy, hL⟩ := I
  obtain ⟨q, hq1, hq2⟩ := cg_rk2 hR
  have hc := hR.1
  have hg := hR.2.1
  unfold wpX_height wpY_height
  dsimp only
  rcases cg_ix v1 hc with h | ⟨a, ha, rfl⟩
  · refine cg_tF c rfl h ?_
    refine cg_sF c rfl h ?_
    exact ⟨rfl, cg_Smk hR hx hy hL⟩
  · refine cg_tT c rfl hc ha ?_
    refine ⟨c + 1, ?_⟩
    refine cg_xhi _ hc ha g q hg hq1 hq2 nx L gs hx ?_ c 0 hs (by omega) (fun i hi => absurd hi (Nat.not_lt_zero i))
    intro h H' hh
    refine cg_sT c rfl hc ha ?_
    refine nm_r (cg_one (by omega)) ⟨10, ?_⟩
    refine cg_yh16 _ hc ha g q hg hq1 hq2 ny ly sl hy ?_ 9 1 (2 ^ a) (by omega) (by omega) (Nat.pow_lt_pow_right (by decide) ha) ⟨a, rfl⟩ ?_
    · intro h' hh'
      rw [cg_Hu hh' hh]
      exact ⟨rfl, cg_Smk hR hx hy hL⟩
    · intro b
      rw [Nat.testBit_two_pow, decide_eq_true_eq]
      exact Iff.rfl
end
section
/-! superfluous and inTrees: one pure answer for both sides -/
def cg_any (p : Nat → Bool) : Nat → Bool
  | 0 => false
  | k + 1 => cg_any p k || p k
theorem cg_any_iff {p : Nat → Bool} : ∀ k, cg_any p k = true ↔ ∃ w, w < k ∧ p w = true := by
  intro k
  induction k with
  | zero =>
    constructor
    · intro h; exact absurd (show false = true from h) (by decide)
    · rintro ⟨w, h, _⟩; exact absurd h (Nat.not_lt_zero w)
  | succ k ih =>
    show (cg_any p k || p k) = true ↔ _
    rw [Bool.or_eq_true, ih]
    constructor
    · rintro (⟨w, h1, h2⟩ | h)
      · exact ⟨w, by omega, h2⟩
      · exact ⟨k, by omega, h⟩
    · rintro ⟨w, h1, h2⟩
      by_cases e : w = k
      · subst e; exact Or.inr h2
      · exact Or.inl ⟨w, by omega, h2⟩
def cg_b (l : Nat → Nat) (c u v : Nat) : Bool := cg_any (fun w => (l u).testBit w && (l w).testBit v) c
theorem cg_bT {l : Nat → Nat} {c u v w : Nat} (hw : w < c) (h1 : (l u).testBit w = true) (h2 : (l w).testBit v = true) : cg_b l c u v = true := (cg_any_iff c).mpr ⟨w, hw, by rw [h1, h2]; rfl⟩
theorem cg_bF {l : Nat → Nat} {c u v : Nat} (h : ∀ w, w < c → (l u).testBit w = true → (l w).testBit v = true → False) : cg_b l c u v = false := by
  apply cg_f
  intro z
  obtain ⟨w, hw, h2⟩ := (cg_any_iff c).mp z
  rw [Bool.and_eq_true] at h2
  exact h w hw h2.1 h2.2
theorem cg_xb2 (post : Int32 → Prop) {c u v : Nat} (hc : c ≤ 9) (hu : u < c) (hv : v < c) (l : Nat → Nat) (hl : cg_Bd c l) (nx L hs gs : Nat → Int32) (hL : ∀ j, j < c → L j = nI (l j))
    (hf : cg_b l c u v = false → post 0) (ht : cg_b l c u v = true → post 1) :
    ∀ d w : Nat, w + d = c → (∀ k, k < w → (l u).testBit k = true → (l k).testBit v = true → False) → wX_isBridged_2 post (nI u) (nI v) (nI c) nx L hs gs (d + 1) (nI w) := by
  have p9 := cg_p9 hc
  intro d
  induction d with
  | zero =>
    intro w hw h
    exact br_t (nI_le (by omega) (by omega)) (hf (cg_bF (fun k hk => h k (by omega))))
  | succ d ih =>
    intro w hw h
    have hwc : w < c := by omega
    have h1 := hl u hu
    have h2 := hl w hwc
    refine br_f (nI_ge hwc (by omega)) ⟨vp_in_nI (by omega) (by omega), ?_⟩
    refine cg_h (l u) w (cg_at hL (by omega) hu) (by omega) (by omega) (fun z => ?_) (fun z => ?_)
    · refine nm_r (nI_1 w) (ih (w + 1) (by omega) ?_)
      intro k hk a b
      by_cases e : k = w
      · subst e; rw [z] at a; exact absurd a (by decide)
      · exact h k (by omega) a b
    · refine ⟨vp_in_nI (by omega) (by omega), ?_⟩
      refine cg_h (l w) v (cg_at hL (by omega) hwc) (by omega) (by omega) (fun z2 => ?_) (fun z2 => ?_)
      · refine nm_r (nI_1 w) (ih (w + 1) (by omega) ?_)
        intro k hk a b
        by_cases e : k = w
        · subst e; rw [z2] at b; exact absurd b (by decide)
        · exact h k (by omega) a b
      · exact ht (cg_bT hwc z z2)
theorem cg_yb2 (post : Int32 → Prop) {c u v : Nat} (hc : c ≤ 9) (hu : u < c) (hv : v < c) (l : Nat → Nat) (hl : cg_Bd c l) (nx L sl : Nat → Int32) (hL : ∀ j, j < c → L j = nI (l j))
    (hf : cg_b l c u v = false → post 0) (ht : cg_b l c u v = true → post 1) :
    ∀ d w : Nat, w + d = c → (∀ k, k < w → (l u).testBit k = true → (l k).testBit v = true → False) → wY_extra_2 post (nI u) (nI v) (nI c) nx L sl (d + 1) (nI w) := by
  have p9 := cg_p9 hc
  intro d
  induction d with
  | zero =>
    intro w hw h
    exact br_t (nI_le (by omega) (by omega)) (hf (cg_bF (fun k hk => h k (by omega))))
  | succ d ih =>
    intro w hw h
    have hwc : w < c := by omega
    have h1 := hl u hu
    have h2 := hl w hwc
    refine br_f (nI_ge hwc (by omega)) ⟨vp_in_nI (by omega) (by omega), ?_⟩
    refine cg_i _ (l u) w (cg_at hL (by omega) hu) (by omega) (by omega) (fun z => ?_) (fun z => ?_)
    · refine nm_r (nI_1 w) (ih (w + 1) (by omega) ?_)
      intro k hk a b
      by_cases e : k = w
      · subst e; rw [z] at a; exact absurd a (by decide)
      · exact h k (by omega) a b
    · refine ⟨vp_in_nI (by omega) (by omega), ?_⟩
      refine cg_i _ (l w) v (cg_at hL (by omega) hwc) (by omega) (by omega) (fun z2 => ?_) (fun z2 => ?_)
      · refine nm_r (nI_1 w) (ih (w + 1) (by omega) ?_)
        intro k hk a b
        by_cases e : k = w
        · subst e; rw [z2] at b; exact absurd b (by decide)
        · exact h k (by omega) a b
      · exact ht (cg_bT hwc z z2)
theorem cg_xb {A B : Prop} {c u v : Nat} (hc : c ≤ 9) (hu : u < c) (hv : v < c) (l : Nat → Nat) (hl : cg_Bd c l) (nx L hs gs : Nat → Int32) (hL : ∀ j, j < c → L j = nI (l j))
    (hf : cg_b l c u v = false → A) (ht : cg_b l c u v = true → B) : wpX_isBridged (fun r => (r = 0 → A) ∧ (¬ r = 0 → B)) (nI c, nx, L, hs, gs) (nI u) (nI v) :=
  ⟨c + 1, cg_xb2 _ hc hu hv l hl nx L hs gs hL (fun z => br_t rfl (hf z)) (fun z => br_f (by decide) (ht z)) c 0 (by omega) (fun k hk => absurd hk (Nat.not_lt_zero k))⟩
theorem cg_yb {A B : Prop} {c u v : Nat} (hc : c ≤ 9) (hu : u < c) (hv : v < c) (l : Nat → Nat) (hl : cg_Bd c l) (nx L sl : Nat → Int32) (hL : ∀ j, j < c → L j = nI (l j))
    (hf : cg_b l c u v = false → A) (ht : cg_b l c u v = true → B) : wpY_extra (fun r => (r = 0 → A) ∧ (¬ r = 0 → B)) (nI c, nx, L, sl) (nI u) (nI v) :=
  ⟨c + 1, cg_yb2 _ hc hu hv l hl nx L sl hL (fun z => br_t rfl (hf z)) (fun z => br_f (by decide) (ht z)) c 0 (by omega) (fun k hk => absurd hk (Nat.not_lt_zero k))⟩
def cg_fs (g l : Nat → Nat) (c u : Nat) : Nat → Bool := fun v => (g u).testBit v && cg_b l c u v
def cg_fn (g l : Nat → Nat) (c u : Nat) : Nat → Bool := fun v => (g u).testBit v && !(cg_b l c u v)
def cg_sum (f : Nat → Nat) : Nat → Nat
  | 0 => 0
  | k + 1 => cg_sum f k + f k
theorem cg_nT {p : Nat → Bool} {k : Nat} (h : p k = true) : cg_n p (k + 1) = cg_n p k + 1 := by rw [cg_n_s, if_pos h]
theorem cg_nF {p : Nat → Bool} {k : Nat} (h : p k = false) : cg_n p (k + 1) = cg_n p k := by rw [cg_n_s, if_neg (by rw [h]; decide), Nat.add_zero]
theorem cg_xs14 (post : Int32 → Prop) (J : Int32 → Int32 → Prop) {c u a : Nat} (hc : c ≤ 9) (hu : u < c) (g l : Nat → Nat) (hg : cg_Bd c g) (hl : cg_Bd c l) (nx L hs gs : Nat → Int32) (hx : ∀ j, j < c → nx j = nI (g j)) (hL : ∀ j, j < c → L j = nI (l j))
    (HJ : J (nI (a + cg_n (cg_fs g l c u) c)) (nI (u + 1))) :
    ∀ d v : Nat, v + d = c → wX_superfluous_14 post J (nI u) (nI c) nx L hs gs (d + 1) (nI (a + cg_n (cg_fs g l c u) v)) (nI v) := by
  have p9 := cg_p9 hc
  have h1 := hg u hu
  intro d
  induction d with
  | zero =>
    intro v hv
    have e : v = c := by omega
    subst e
    exact br_t (nI_le (by omega) (by omega)) (nm_r (nI_1 u) HJ)
  | succ d ih =>
    intro v hv
    have hvc : v < c := by omega
    have i := ih (v + 1) (by omega)
    refine br_f (nI_ge hvc (by omega)) ⟨vp_in_nI (by omega) (by omega), ?_⟩
    refine cg_h (g u) v (cg_at hx (by omega) hu) (by omega) (by omega) (fun z => ?_) (fun z => ?_)
    · rw [cg_nF (by unfold cg_fs; rw [z]; rfl)] at i
      exact nm_r (nI_1 v) i
    · refine cg_xb hc hu hvc l hl nx L hs gs hL (fun z2 => ?_) (fun z2 => ?_)
      · rw [cg_nF (by unfold cg_fs; rw [z, z2]; rfl)] at i
        exact nm_r (nI_1 v) i
      · rw [cg_nT (by unfold cg_fs; rw [z, z2]; rfl)] at i
        exact nm_r (nI_1 _) (nm_r (nI_1 v) i)
theorem cg_ys18 (post : Int32 → SY → Prop) (J : Int32 → Int32 → Prop) {c u a : Nat} (hc : c ≤ 9) (hu : u < c) (g l : Nat → Nat) (hg : cg_Bd c g) (hl : cg_Bd c l) (nx L sl : Nat → Int32) (hx : ∀ j, j < c → nx j = nI (g j)) (hL : ∀ j, j < c → L j = nI (l j))
    (HJ : J (nI (a + cg_n (cg_fs g l c u) c)) (nI (u + 1))) :
    ∀ d v : Nat, v + d = c → wY_superfluous_18 post J (nI u) (nI c) nx L sl (d + 1) (nI (a + cg_n (cg_fs g l c u) v)) (nI v) := by
  have p9 := cg_p9 hc
  have h1 := hg u hu
  intro d
  induction d with
  | zero =>
    intro v hv
    have e : v = c := by omega
    subst e
    exact br_t (nI_le (by omega) (by omega)) (nm_r (nI_1 u) HJ)
  | succ d ih =>
    intro v hv
    have hvc : v < c := by omega
    have i := ih (v + 1) (by omega)
    refine br_f (nI_ge hvc (by omega)) ⟨vp_in_nI (by omega) (by omega), ?_⟩
    refine cg_i _ (g u) v (cg_at hx (by omega) hu) (by omega) (by omega) (fun z => ?_) (fun z => ?_)
    · rw [cg_nF (by unfold cg_fs; rw [z]; rfl)] at i
      exact nm_r (nI_1 v) i
    · refine cg_yb hc hu hvc l hl nx L sl hL (fun z2 => ?_) (fun z2 => ?_)
      · rw [cg_nF (by unfold cg_fs; rw [z, z2]; rfl)] at i
        exact nm_r (nI_1 v) i
      · rw [cg_nT (by unfold cg_fs; rw [z, z2]; rfl)] at i
        exact nm_r (nI_1 _) (nm_r (nI_1 v) i)
def cg_tot (g l : Nat → Nat) (c : Nat) : Nat → Nat := cg_sum (fun u => cg_n (cg_fs g l c u) c)
theorem cg_xs4 (post : Int32 → Prop) {c : Nat} (hc : c ≤ 9) (g l : Nat → Nat) (hg : cg_Bd c g) (hl : cg_Bd c l) (nx L hs gs : Nat → Int32) (hx : ∀ j, j < c → nx j = nI (g j)) (hL : ∀ j, j < c → L j = nI (l j))
    (HP : post (nI (cg_tot g l c c))) :
    ∀ d u : Nat, u + d = c → wX_superfluous_4 post (nI c) nx L hs gs (d + 1) (nI (cg_tot g l c u)) (nI u) := by
  intro d
  induction d with
  | zero =>
    intro u hu
    have e : u = c := by omega
    subst e
    exact br_t (nI_le (by omega) (by omega)) HP
  | succ d ih =>
    intro u hu
    have huc : u < c := by omega
    refine br_f (nI_ge huc (by omega)) ⟨c + 1, ?_⟩
    exact cg_xs14 (a := cg_tot g l c u) post _ hc huc g l hg hl nx L hs gs hx hL (ih (u + 1) (by omega)) c 0 (by omega)
theorem cg_ys8 (post : Int32 → SY → Prop) {c : Nat} (hc : c ≤ 9) (g l : Nat → Nat) (hg : cg_Bd c g) (hl : cg_Bd c l) (nx L sl : Nat → Int32) (hx : ∀ j, j < c → nx j = nI (g j)) (hL : ∀ j, j < c → L j = nI (l j))
    (HP : post (nI (cg_tot g l c c)) (nI c, nx, L, sl)) :
    ∀ d u : Nat, u + d = c → wY_superfluous_8 post (nI c) nx L sl (d + 1) (nI (cg_tot g l c u)) (nI u) := by
  intro d
  induction d with
  | zero =>
    intro u hu
    have e : u = c := by omega
    subst e
    exact br_t (nI_le (by omega) (by omega)) HP
  | succ d ih =>
    intro u hu
    have huc : u < c := by omega
    refine br_f (nI_ge huc (by omega)) ⟨c + 1, ?_⟩
    exact cg_ys18 (a := cg_tot g l c u) post _ hc huc g l hg hl nx L sl hx hL (ih (u + 1) (by omega)) c 0 (by omega)
theorem cg_vsuperfluous {u : SX} {v : SY} (I : cg_S u v) : wpX_superfluous (fun r => wpY_superfluous (fun r' v' => r' = r ∧ cg_S u v') v) u := by
  obtain ⟨c, g, l, nx, L, hs, gs, ny, ly, sl, rfl, rfl, hR, hx, hy, hL⟩ := I
  obtain ⟨q, hq1, hq2⟩ := cg_rk2 hR
  have hc := hR.1
  have hg := hR.2.1
  have hl := hR.2.2.1
  have hB := cg_ClB hg hl
  unfold wpX_superfluous wpY_superfluous
  dsimp only
  refine ⟨c + 1, ?_⟩
  refine cg_xs4 _ hc g l hg hB nx L hs gs hx hL ?_ c 0 (by omega)
  refine cg_yfl _ hc g q hg hq1 hq2 ny ly sl hy ?_
  intro L' l' h1 h2
  have h3 : ∀ j, j < c → L' j = nI (l j) := by
    intro j hj
    rw [h1 j hj, cg_Clu h2 hl j hj]
  refine ⟨c + 1, ?_⟩
  refine cg_ys8 _ hc g l hg hB ny L' sl hy h3 ?_ c 0 (by omega)
  exact ⟨rfl, cg_Smk hR hx hy hL⟩
def cg_nd (g l : Nat → Nat) (c u : Nat) : Nat := cg_n (cg_fn g l c u) c
def cg_tr (g l : Nat → Nat) (c : Nat) : Prop := ∀ u, u < c → cg_nd g l c u ≤ 1
theorem cg_xn4 (post : Int32 → Prop) {c u : Nat} (hc : c ≤ 9) (hu : u < c) (g l : Nat → Nat) (hg : cg_Bd c g) (hl : cg_Bd c l) (nx L hs gs : Nat → Int32) (hx : ∀ j, j < c → nx j = nI (g j)) (hL : ∀ j, j < c → L j = nI (l j))
    (HP : post (nI (cg_nd g l c u))) :
    ∀ d v : Nat, v + d = c → wX_neededOrdersFrom_4 post (nI u) (nI c) nx L hs gs (d + 1) (nI (cg_n (cg_fn g l c u) v)) (nI v) := by
  have p9 := cg_p9 hc
  have h1 := hg u hu
  intro d
  induction d with
  | zero =>
    intro v hv
    have e : v = c := by omega
    subst e
    exact br_t (nI_le (by omega) (by omega)) HP
  | succ d ih =>
    intro v hv
    have hvc : v < c := by omega
    have i := ih (v + 1) (by omega)
    refine br_f (nI_ge hvc (by omega)) ⟨vp_in_nI (by omega) (by omega), ?_⟩
    refine cg_h (g u) v (cg_at hx (by omega) hu) (by omega) (by omega) (fun z => ?_) (fun z => ?_)
    · rw [cg_nF (by unfold cg_fn; rw [z]; rfl)] at i
      exact nm_r (nI_1 v) i
    · refine cg_xb hc hu hvc l hl nx L hs gs hL (fun z2 => ?_) (fun z2 => ?_)
      · rw [cg_nT (by unfold cg_fn; rw [z, z2]; rfl)] at i
        exact nm_r (nI_1 _) (nm_r (nI_1 v) i)
      · rw [cg_nF (by unfold cg_fn; rw [z, z2]; rfl)] at i
        exact nm_r (nI_1 v) i
theorem cg_yn18 (post : Int32 → SY → Prop) (J : Int32 → Prop) {c u : Nat} (hc : c ≤ 9) (hu : u < c) (g l : Nat → Nat) (hg : cg_Bd c g) (hl : cg_Bd c l) (nx L sl : Nat → Int32) (hx : ∀ j, j < c → nx j = nI (g j)) (hL : ∀ j, j < c → L j = nI (l j))
    (HJ : cg_nd g l c u ≤ 1 → J (nI (u + 1))) (HP : ¬ cg_nd g l c u ≤ 1 → post 0 (nI c, nx, L, sl)) :
    ∀ d v : Nat, v + d = c → wY_inTrees_18 post J (nI u) (nI c) nx L sl (d + 1) (nI (cg_n (cg_fn g l c u) v)) (nI v) := by
  have p9 := cg_p9 hc
  have h1 := hg u hu
  intro d
  induction d with
  | zero =>
    intro v hv
    have e : v = c := by omega
    subst e
    have h2 := cg_n_le (cg_fn g l v u) v
    refine br_t (nI_le (by omega) (by omega)) ?_
    refine pk_le (cg_nd g l v u) 1 (fun z => ?_) (fun z => ?_) rfl rfl (by unfold cg_nd; omega)
    · exact nm_r (nI_1 u) (HJ z)
    · exact HP (by omega)
  | succ d ih =>
    intro v hv
    have hvc : v < c := by omega
    have i := ih (v + 1) (by omega)
    refine br_f (nI_ge hvc (by omega)) ⟨vp_in_nI (by omega) (by omega), ?_⟩
    refine cg_i _ (g u) v (cg_at hx (by omega) hu) (by omega) (by omega) (fun z => ?_) (fun z => ?_)
    · rw [cg_nF (by unfold cg_fn; rw [z]; rfl)] at i
      exact nm_r (nI_1 v) i
    · refine cg_yb hc hu hvc l hl nx L sl hL (fun z2 => ?_) (fun z2 => ?_)
      · rw [cg_nT (by unfold cg_fn; rw [z, z2]; rfl)] at i
        exact nm_r (nI_1 _) (nm_r (nI_1 v) i)
      · rw [cg_nF (by unfold cg_fn; rw [z, z2]; rfl)] at i
        exact nm_r (nI_1 v) i
theorem cg_xt2 (post : Int32 → Prop) {c : Nat} (hc : c ≤ 9) (g l : Nat → Nat) (hg : cg_Bd c g) (hl : cg_Bd c l) (nx L hs gs : Nat → Int32) (hx : ∀ j, j < c → nx j = nI (g j)) (hL : ∀ j, j < c → L j = nI (l j))
    (H1 : cg_tr g l c → post 1) (H0 : ¬ cg_tr g l c → post 0) :
    ∀ d u : Nat, u + d = c → (∀ k, k < u → cg_nd g l c k ≤ 1) → wX_inTrees_2 post (nI c) nx L hs gs (d + 1) (nI u) := by
  intro d
  induction d with
  | zero =>
    intro u hu h
    exact br_t (nI_le (by omega) (by omega)) (H1 (fun k hk => h k (by omega)))
  | succ d ih =>
    intro u hu h
    have huc : u < c := by omega
    have h2 := cg_n_le (cg_fn g l c u) c
    refine br_f (nI_ge huc (by omega)) ?_
    refine ⟨c + 1, ?_⟩
    refine cg_xn4 _ hc huc g l hg hl nx L hs gs hx hL ?_ c 0 (by omega)
    refine pk_le (cg_nd g l c u) 1 (fun z => ?_) (fun z => ?_) rfl rfl (by unfold cg_nd; omega)
    · refine nm_r (nI_1 u) (ih (u + 1) (by omega) ?_)
      intro k hk
      by_cases e : k = u
      · subst e; exact z
      · exact h k (by omega)
    · refine H0 (fun t => ?_)
      have := t u huc
      omega
theorem cg_yt6 (post : Int32 → SY → Prop) {c : Nat} (hc : c ≤ 9) (g l : Nat → Nat) (hg : cg_Bd c g) (hl : cg_Bd c l) (nx L sl : Nat → Int32) (hx : ∀ j, j < c → nx j = nI (g j)) (hL : ∀ j, j < c → L j = nI (l j))
    (H1 : cg_tr g l c → post 1 (nI c, nx, L, sl)) (H0 : ¬ cg_tr g l c → post 0 (nI c, nx, L, sl)) :
    ∀ d u : Nat, u + d = c → (∀ k, k < u → cg_nd g l c k ≤ 1) → wY_inTrees_6 post (nI c) nx L sl (d + 1) (nI u) := by
  intro d
  induction d with
  | zero =>
    intro u hu h
    exact br_t (nI_le (by omega) (by omega)) (H1 (fun k hk => h k (by omega)))
  | succ d ih =>
    intro u hu h
    have huc : u < c := by omega
    refine br_f (nI_ge huc (by omega)) ?_
    refine ⟨c + 1, ?_⟩
    refine cg_yn18 post _ hc huc g l hg hl nx L sl hx hL (fun z => ?_) (fun z => ?_) c 0 (by omega)
    · refine ih (u + 1) (by omega) ?_
      intro k hk
      by_cases e : k = u
      · subst e; exact z
      · exact h k (by omega)
    · exact H0 (fun t => z (t u huc))
theorem cg_xt (post : Int32 → Prop) {c : Nat} {g l : Nat → Nat} (hR : cg_R c g l) (nx L hs gs : Nat → Int32) (hx : ∀ j, j < c → nx j = nI (g j)) (hL : ∀ j, j < c → L j = nI (l j))
    (H1 : cg_tr g l c → post 1) (H0 : ¬ cg_tr g l c → post 0) : wpX_inTrees post (nI c, nx, L, hs, gs) :=
  ⟨c + 1, cg_xt2 post hR.1 g l hR.2.1 (cg_ClB hR.2.1 hR.2.2.1) nx L hs gs hx hL H1 H0 c 0 (by omega) (fun k hk => absurd hk (Nat.not_lt_zero k))⟩
theorem cg_yt (post : Int32 → SY → Prop) {c : Nat} {g l : Nat → Nat} (hR : cg_R c g l) (ny ly sl : Nat → Int32) (hy : ∀ j, j < c → ny j = nI (g j))
    (H1 : cg_tr g l c → ∀ L, post 1 (nI c, ny, L, sl)) (H0 : ¬ cg_tr g l c → ∀ L, post 0 (nI c, ny, L, sl)) : wpY_inTrees post (nI c, ny, ly, sl) := by
  obtain ⟨q, hq1, hq2⟩ := cg_rk2 hR
  have hc := hR.1
  have hg := hR.2.1
  have hl := hR.2.2.1
  unfold wpY_inTrees
  dsimp only
  refine cg_yfl _ hc g q hg hq1 hq2 ny ly sl hy ?_
  intro L' l' h1 h2
  have h3 : ∀ j, j < c → L' j = nI (l j) := by
    intro j hj
    rw [h1 j hj, cg_Clu h2 hl j hj]
  refine ⟨c + 1, ?_⟩
  exact cg_yt6 post hc g l hg (cg_ClB hg hl) ny L' sl hy h3 (fun z => H1 z L') (fun z => H0 z L') c 0 (by omega) (fun k hk => absurd hk (Nat.not_lt_zero k))
theorem cg_vinTrees {u : SX} {v : SY} (I : cg_S u v) : wpX_inTrees (fun r => wpY_inTrees (fun r' v' => r' = r ∧ cg_S u v') v) u := by
  obtain ⟨c, g, l, nx, L, hs, gs, ny, ly, sl, rfl, rfl, hR, hx, hy, hL⟩ := I
  refine cg_xt _ hR nx L hs gs hx hL (fun z => ?_) (fun z => ?_)
  · refine cg_yt _ hR ny ly sl hy (fun _ L' => ?_) (fun z' => absurd z z')
    exact ⟨rfl, cg_Smk hR hx hy hL⟩
  · refine cg_yt _ hR ny ly sl hy (fun z' => absurd z' z) (fun _ L' => ?_)
    exact ⟨rfl, cg_Smk hR hx hy hL⟩
end
section
/-! schedules: peeled from the end (CX), grown from the start (CY) -/
def cg_sb (A B : Nat) : Prop := ∀ i, A.testBit i = true → B.testBit i = true
def cg_z (A : Nat) : Nat := cg_n (fun v => A.testBit v) 9
def cg_ne (g : Nat → Nat) (A S : Nat) : Prop := ∀ a b, A.testBit a = true → S.testBit b = true → (g a).testBit b = true → False
def cg_CX (g : Nat → Nat) (m : Nat) : Nat → Nat → Prop
  | 0 => fun S => S = 0
  | k + 1 => fun S => ∃ A, A ≠ 0 ∧ cg_sb A S ∧ cg_z A ≤ m ∧ cg_ne g A S ∧ cg_CX g m k (cg_d S A)
def cg_CY (g : Nat → Nat) (m T : Nat) : Nat → Nat → Prop
  | 0 => fun D => D = 0
  | k + 1 => fun D => ∃ P A, A ≠ 0 ∧ cg_sb A (cg_d T P) ∧ cg_z A ≤ m ∧ cg_ne g (cg_d T P) A ∧ D = P ||| A ∧ cg_CY g m T k P
theorem cg_dI {a b i : Nat} : (cg_d a b).testBit i = true ↔ a.testBit i = true ∧ b.testBit i = false := by
  rw [cg_dt]
  cases a.testBit i <;> cases b.testBit i <;> simp
theorem cg_oI {a b i : Nat} : (a ||| b).testBit i = true ↔ a.testBit i = true ∨ b.testBit i = true := by
  rw [Nat.testBit_or, Bool.or_eq_true]
theorem cg_tf {b : Bool} (h : b = true) (h2 : b = false) : False := by
  rw [h] at h2
  exact absurd h2 (by decide)
theorem cg_YX {g : Nat → Nat} {m T : Nat} : ∀ k D, cg_CY g m T k D → cg_sb D T ∧ cg_ne g (cg_d T D) D ∧ cg_CX g m k D := by
  intro k
  induction k with
  | zero =>
    intro D h
    have e : D = 0 := h
    subst e
    refine ⟨?_, ?_, rfl⟩
    · intro i hi
      rw [Nat.zero_testBit] at hi
      exact absurd hi (by decide)
    · intro a b _ hb
      rw [Nat.zero_testBit] at hb
      exact absurd hb (by decide)
  | succ k ih =>
    rintro D ⟨P, A, h0, h1, h2, h3, e, h4⟩
    subst e
    obtain ⟨i1, i2, i3⟩ := ih P h4
    have key : ∀ a b, (cg_d T P).testBit a = true → (P ||| A).testBit b = true → (g a).testBit b = true → False := by
      intro a b ha hb hab
      rcases cg_oI.mp hb with hb | hb
      · exact i2 a b ha hb hab
      · exact h3 a b ha hb hab
    refine ⟨?_, ?_, A, h0, ?_, h2, ?_, ?_⟩
    · intro i hi
      rcases cg_oI.mp hi with hi | hi
      · exact i1 i hi
      · exact (cg_dI.mp (h1 i hi)).1
    · intro a b ha hb hab
      refine key a b ?_ hb hab
      obtain ⟨x1, x2⟩ := cg_dI.mp ha
      refine cg_dI.mpr ⟨x1, ?_⟩
      apply cg_f
      intro z
      exact cg_tf (cg_oI.mpr (Or.inl z)) x2
    · intro i hi
      exact cg_oI.mpr (Or.inr hi)
    · intro a b ha hb hab
      exact key a b (h1 a ha) hb hab
    · have e : cg_d (P ||| A) A = P := by
        apply cg_ext
        intro i
        rw [cg_dI, cg_oI]
        constructor
        · rintro ⟨x | x, y⟩
          · exact x
          · exact (cg_tf x y).elim
        · intro x
          refine ⟨Or.inl x, ?_⟩
          apply cg_f
          intro z
          exact cg_tf x (cg_dI.mp (h1 i z)).2
      rw [e]
      exact i3
theorem cg_XY {g : Nat → Nat} {m T : Nat} : ∀ k D, cg_CX g m k D → cg_sb D T → cg_ne g (cg_d T D) D → cg_CY g m T k D := by
  intro k
  induction k with
  | zero =>
    intro D h _ _
    exact h
  | succ k ih =>
    rintro D ⟨A, h0, h1, h2, h3, h4⟩ hs hn
    have key : ∀ a b, (cg_d T (cg_d D A)).testBit a = true → D.testBit b = true → (g a).testBit b = true → False := by
      intro a b ha hb hab
      obtain ⟨x1, x2⟩ := cg_dI.mp ha
      cases hA : A.testBit a
      · refine hn a b (cg_dI.mpr ⟨x1, ?_⟩) hb hab
        apply cg_f
        intro z
        exact cg_tf (cg_dI.mpr ⟨z, hA⟩) x2
      · exact h3 a b hA hb hab
    refine ⟨cg_d D A, A, h0, ?_, h2, ?_, ?_, ih (cg_d D A) h4 ?_ ?_⟩
    · intro i hi
      refine cg_dI.mpr ⟨hs i (h1 i hi), ?_⟩
      apply cg_f
      intro z
      exact cg_tf hi (cg_dI.mp z).2
    · intro a b ha hb hab
      exact key a b ha (h1 b hb) hab
    · apply cg_ext
      intro i
      rw [cg_oI, cg_dI]
      constructor
      · intro x
        cases hA : A.testBit i
        · exact Or.inl ⟨x, rfl⟩
        · exact Or.inr rfl
      · rintro (⟨x, _⟩ | x)
        · exact x
        · exact h1 i x
    · intro i hi
      exact hs i (cg_dI.mp hi).1
    · intro a b ha hb hab
      exact key a b ha (cg_dI.mp hb).1 hab
theorem cg_XYT {g : Nat → Nat} {m T k : Nat} (h : cg_CX g m k T) : cg_CY g m T k T := by
  refine cg_XY k T h (fun i hi => hi) ?_
  intro a b ha
  exact (cg_tf (cg_dI.mp ha).1 (cg_dI.mp ha).2).elim
theorem cg_z2 : ∀ u, u < 9 → cg_z (2 ^ u) = 1 := by decide +kernel
theorem cg_zlt {S A : Nat} (hS : S < 512) (h0 : A ≠ 0) (h : cg_sb A S) : cg_z (cg_d S A) < cg_z S := by
  obtain ⟨i, hi⟩ := Nat.exists_testBit_of_ne_zero h0
  refine cg_n_lt (w := i) ?_ (cg_big (c := 9) hS (h i hi)) (h i hi) ?_
  · intro j _ hj
    exact (cg_dI.mp hj).1
  · apply cg_f
    intro z
    exact cg_tf hi (cg_dI.mp z).2
theorem cg_dle (S A : Nat) : cg_d S A ≤ S := Nat.le_of_testBit (fun i hi => (cg_dI.mp hi).1)
theorem cg_dlt {S A : Nat} (h0 : A ≠ 0) (h : cg_sb A S) : cg_d S A < S := by
  refine Nat.lt_of_le_of_ne (cg_dle S A) ?_
  intro e
  obtain ⟨i, hi⟩ := Nat.exists_testBit_of_ne_zero h0
  have h1 := h i hi
  rw [← e] at h1
  exact cg_tf hi (cg_dI.mp h1).2
theorem cg_sink {c S : Nat} {g r : Nat → Nat} (hr : cg_Rk c g r) (hS : S < 2 ^ c) (h0 : S ≠ 0) : ∃ u, S.testBit u = true ∧ ∀ b, S.testBit b = true → (g u).testBit b = true → False := by
  obtain ⟨i, hi⟩ := Nat.exists_testBit_of_ne_zero h0
  obtain ⟨k, ⟨u, hu, hk⟩, hm⟩ := pk_least (fun k => ∃ u, S.testBit u = true ∧ r u = k) ⟨r i, i, hi, rfl⟩
  refine ⟨u, hu, ?_⟩
  intro b hb hub
  have h1 := hr u b ⟨cg_big hS hu, hub⟩
  exact hm (r b) (by omega) ⟨b, hb, rfl⟩
theorem cg_some {c m : Nat} {g r : Nat → Nat} (hc : c ≤ 9) (hr : cg_Rk c g r) (hm : 1 ≤ m) : ∀ n S, cg_z S ≤ n → S < 2 ^ c → ∃ k, k ≤ cg_z S ∧ cg_CX g m k S := by
  have p9 := cg_p9 hc
  intro n
  induction n with
  | zero =>
    intro S hz hS
    by_cases h0 : S = 0
    · exact ⟨0, Nat.zero_le _, h0⟩
    · have := cg_zlt (A := S) (by omega) h0 (fun i hi => hi)
      omega
  | succ n ih =>
    intro S hz hS
    by_cases h0 : S = 0
    · exact ⟨0, Nat.zero_le _, h0⟩
    · obtain ⟨u, hu, hn⟩ := cg_sink hr hS h0
      have hA : (2 : Nat) ^ u ≠ 0 := Nat.pos_iff_ne_zero.mp (Nat.two_pow_pos u)
      have hsb : cg_sb (2 ^ u) S := by
        intro i hi
        rw [Nat.testBit_two_pow, decide_eq_true_eq] at hi
        subst hi
        exact hu
      have h1 := cg_zlt (by omega) hA hsb
      obtain ⟨k, hk, hC⟩ := ih (cg_d S (2 ^ u)) (by omega) (Nat.lt_of_le_of_lt (cg_dle _ _) hS)
      refine ⟨k + 1, by omega, 2 ^ u, hA, hsb, ?_, ?_, hC⟩
      · have h2 := cg_big hS hu
        rw [cg_z2 u (by omega)]
        exact hm
      · intro a b ha hb hab
        rw [Nat.testBit_two_pow, decide_eq_true_eq] at ha
        subst ha
        exact hn b hb hab
theorem cg_some9 {c m S : Nat} {g r : Nat → Nat} (hc : c ≤ 9) (hr : cg_Rk c g r) (hm : 1 ≤ m) (hS : S < 2 ^ c) : ∃ k, k ≤ 9 ∧ cg_CX g m k S := by
  obtain ⟨k, h1, h2⟩ := cg_some hc hr hm (cg_z S) S (Nat.le_refl _) hS
  exact ⟨k, Nat.le_trans h1 (cg_n_le _ 9), h2⟩
def cg_L (g : Nat → Nat) (m k S : Nat) : Prop := cg_CX g m k S ∧ ∀ j, j < k → ¬ cg_CX g m j S
theorem cg_Lu {g : Nat → Nat} {m k k' S : Nat} (h : cg_L g m k S) (h' : cg_L g m k' S) : k = k' := by
  rcases Nat.lt_trichotomy k k' with e | e | e
  · exact absurd h.1 (h'.2 k e)
  · exact e
  · exact absurd h'.1 (h.2 k' e)
theorem cg_L9 {c m k S : Nat} {g r : Nat → Nat} (hc : c ≤ 9) (hr : cg_Rk c g r) (hm : 1 ≤ m) (hS : S < 2 ^ c) (h : cg_L g m k S) : k ≤ 9 := by
  obtain ⟨k', h1, h2⟩ := cg_some9 hc hr hm hS
  rcases Nat.lt_or_ge k' k with z | z
  · exact absurd h2 (h.2 k' z)
  · omega
/-! the next smaller subset -/
theorem cg_enum : ∀ (n A B : Nat), cg_sb A B → cg_sb n B → A < n → A ≤ (n - 1) &&& B := by
  intro n
  induction n using Nat.strongRecOn with
  | ind n ih =>
    intro A B hA hn hlt
    rcases Nat.mod_two_eq_zero_or_one n with e | e
    · have h1 : A / 2 ≤ (n / 2 - 1) &&& (B / 2) := by
        refine ih (n / 2) (by omega) (A / 2) (B / 2) ?_ ?_ (by omega)
        · intro i hi
          rw [Nat.testBit_div_two] at hi ⊢
          exact hA _ hi
        · intro i hi
          rw [Nat.testBit_div_two] at hi ⊢
          exact hn _ hi
      have h2 : ((n - 1) &&& B) / 2 = (n / 2 - 1) &&& (B / 2) := by
        rw [Nat.and_div_two]
        congr 1
        omega
      have h3 : A % 2 = 1 → ((n - 1) &&& B) % 2 = 1 := by
        intro z
        rw [Nat.and_mod_two_eq_one]
        refine ⟨by omega, ?_⟩
        rw [Nat.mod_two_eq_one_iff_testBit_zero] at z ⊢
        exact hA 0 z
      generalize (n - 1) &&& B = R at h2 h3 ⊢
      omega
    · have h1 : n - 1 ≤ (n - 1) &&& B := by
        apply Nat.le_of_testBit
        intro i hi
        rw [Nat.testBit_and, hi, Bool.true_and]
        apply hn
        cases i with
        | zero =>
          rw [← Nat.mod_two_eq_one_iff_testBit_zero]
          exact e
        | succ i =>
          rw [← Nat.testBit_div_two] at hi ⊢
          rw [show n / 2 = (n - 1) / 2 by omega]
          exact hi
      omega
end
section
/-! the component's table -/
theorem cg_xz4 (post : Int32 → Prop) {A : Nat} (hA : A < 512) (HP : post (nI (cg_z A))) :
    ∀ d v : Nat, v + d = 9 → wX_sizeOf_4 post (nI A) (d + 1) (nI (cg_n (fun v => A.testBit v) v)) (nI v) := by
  intro d
  induction d with
  | zero =>
    intro v hv
    have e : v = 9 := by omega
    subst e
    exact br_t (nI_le (a := 9) (by omega) (by omega)) HP
  | succ d ih =>
    intro v hv
    have e : nI (cg_n (fun v => A.testBit v) v) + ((nI A >>> (nI v &&& 31)) &&& 1) = nI (cg_n (fun v => A.testBit v) (v + 1)) := by
      rw [cg_bv (by omega) (by omega), nI_add]
      rfl
    exact br_f (nI_ge (b := 9) (by omega) (by omega)) (nm_r e (nm_r (nI_1 v) (ih (v + 1) (by omega))))
theorem cg_xz (post : Int32 → Prop) {A : Nat} (hA : A < 512) (HP : post (nI (cg_z A))) : wpX_sizeOf post (nI A) := ⟨10, cg_xz4 post hA HP 9 0 (by omega)⟩
theorem cg_and0 {a b : Nat} : a &&& b = 0 ↔ ∀ i, a.testBit i = true → b.testBit i = true → False := by
  constructor
  · intro h i h1 h2
    have h3 : (a &&& b).testBit i = true := by rw [Nat.testBit_and, h1, h2]; rfl
    rw [h, Nat.zero_testBit] at h3
    exact absurd h3 (by decide)
  · intro h
    apply cg_ext
    intro i
    rw [Nat.testBit_and, Nat.zero_testBit, Bool.and_eq_true]
    constructor
    · rintro ⟨h1, h2⟩; exact (h i h1 h2).elim
    · intro z; exact absurd z (by decide)
theorem cg_xe4 (post : Int32 → Prop) {c S : Nat} (hc : c ≤ 9) (g : Nat → Nat) (hg : cg_Bd c g) (hS : S < 512) (nx L hs gs : Nat → Int32) (hx : ∀ j, j < c → nx j = nI (g j))
    (HP : ∀ F, F < 2 ^ c → (∀ i, F.testBit i = true ↔ i < c ∧ S.testBit i = true ∧ g i &&& S = 0) → post (nI F)) :
    ∀ d u F : Nat, u + d = c → F < 2 ^ c → (∀ i, F.testBit i = true ↔ i < u ∧ S.testBit i = true ∧ g i &&& S = 0) → wX_endsOf_4 post (nI S) (nI c) nx L hs gs (d + 1) (nI F) (nI u) := by
  have p9 := cg_p9 hc
  intro d
  induction d with
  | zero =>
    intro u F hu hF hb
    have e : u = c := by omega
    subst e
    exact br_t (nI_le (by omega) (by omega)) (HP F hF hb)
  | succ d ih =>
    intro u F hu hF hb
    have huc : u < c := by omega
    have h1 := hg u huc
    have keep : (S.testBit u = true → g u &&& S = 0 → False) → ∀ i, F.testBit i = true ↔ i < u + 1 ∧ S.testBit i = true ∧ g i &&& S = 0 := by
      intro hn i
      rw [hb i]
      constructor
      · rintro ⟨x, y⟩; exact ⟨by omega, y⟩
      · rintro ⟨x, y⟩
        refine ⟨?_, y⟩
        have : i ≠ u := by
          intro e
          subst e
          exact hn y.1 y.2
        omega
    refine br_f (nI_ge huc (by omega)) ?_
    refine cg_h S u rfl (by omega) (by omega) (fun hf => ?_) (fun ht => ?_)
    · refine nm_r (nI_1 u) (ih (u + 1) F (by omega) hF (keep ?_))
      intro z
      exact (cg_tf z hf).elim
    · have e1 : nx (nI u).toNatClampNeg &&& nI S = nI (g u &&& S) := by
        rw [cg_at hx (by omega) huc, nx_and]
      have h2 : g u &&& S ≤ g u := Nat.and_le_left
      refine ⟨vp_in_nI (by omega) (by omega), ?_⟩
      refine pk_eq (g u &&& S) 0 (fun z => ?_) (fun z => ?_) e1 nI_0.symm
      · have e2 : nI F ||| ((1 : Int32) <<< (nI u &&& 31)) = nI (F ||| 2 ^ u) := by
          rw [cg_one (by omega), cg_or]
        refine nm_r e2 (nm_r (nI_1 u) (ih (u + 1) (F ||| 2 ^ u) (by omega) (Nat.or_lt_two_pow hF (Nat.pow_lt_pow_right (by decide) huc)) ?_))
        intro i
        rw [cg_oI, hb i, Nat.testBit_two_pow, decide_eq_true_eq]
        constructor
        · rintro (⟨x, y⟩ | x)
          · exact ⟨by omega, y⟩
          · subst x
            exact ⟨by omega, ht, z⟩
        · rintro ⟨x, y⟩
          by_cases e : i = u
          · exact Or.inr e.symm
          · exact Or.inl ⟨by omega, y⟩
      · refine nm_r (nI_1 u) (ih (u + 1) F (by omega) hF (keep ?_))
        intro _ y
        exact z y
theorem cg_ends {c S F A : Nat} {g : Nat → Nat} (hS : S < 2 ^ c) (hF : ∀ i, F.testBit i = true ↔ i < c ∧ S.testBit i = true ∧ g i &&& S = 0) : cg_sb A F ↔ cg_sb A S ∧ cg_ne g A S := by
  constructor
  · intro h
    refine ⟨fun i hi => ((hF i).mp (h i hi)).2.1, ?_⟩
    intro a b ha hb hab
    exact cg_and0.mp ((hF a).mp (h a ha)).2.2 b hab hb
  · rintro ⟨h1, h2⟩ i hi
    refine (hF i).mpr ⟨cg_big hS (h1 i hi), h1 i hi, ?_⟩
    exact cg_and0.mpr (fun b x y => h2 i b hi y x)
def cg_TB (g : Nat → Nat) (m s : Nat) (G : Nat → Int32) (f : Nat → Nat) : Prop := ∀ S, S < s → G S = nI (f S) ∧ cg_L g m (f S) S
theorem cg_d0 {a b : Nat} : cg_d a b = 0 ↔ cg_sb a b := by
  constructor
  · intro h i hi
    cases e : b.testBit i
    · have := cg_dI.mpr ⟨hi, e⟩
      rw [h, Nat.zero_testBit] at this
      exact absurd this (by decide)
    · rfl
  · intro h
    apply cg_ext
    intro i
    rw [cg_dI, Nat.zero_testBit]
    constructor
    · rintro ⟨x, y⟩; exact (cg_tf (h i x) y).elim
    · intro z; exact absurd z (by decide)
theorem cg_xl13 (post : Int32 → Prop) {c m S e : Nat} (hc : c ≤ 9) (hm : 1 ≤ m) (hm9 : m ≤ 9) (g r : Nat → Nat) (hr : cg_Rk c g r) (hS : S < 2 ^ c) (hS0 : S ≠ 0) (he : e < 2 ^ c) (hF : ∀ i, e.testBit i = true ↔ i < c ∧ S.testBit i = true ∧ g i &&& S = 0) (nx L hs G : Nat → Int32) (f : Nat → Nat) (hT : cg_TB g m S G f)
    (HP : ∀ k, cg_L g m k S → post (nI k)) :
    ∀ d a b : Nat, a + d = e + 1 → 1 ≤ a → b ≤ 9 → (b = 9 ∨ cg_CX g m b S) → (∀ A, A < a → A ≠ 0 → cg_sb A e → cg_z A ≤ m → b ≤ f (cg_d S A) + 1) → wX_lengthFromSubsets_13 post (nI S) (nI m) (nI e) (nI c) nx L hs G (d + 1) (nI b) (nI a) := by
  have p9 := cg_p9 hc
  intro d
  induction d with
  | zero =>
    intro a b ha a1 hb hb2 hall
    refine br_t (nI_lt (by omega) (by omega)) (HP b ?_)
    have least : ∀ j, j < b → ¬ cg_CX g m j S := by
      intro j hj hC
      cases j with
      | zero => exact hS0 hC
      | succ j =>
        obtain ⟨A, h0, h1, h2, h3, h4⟩ := hC
        have hsb : cg_sb A e := (cg_ends hS hF).mpr ⟨h1, h3⟩
        have hAe : A ≤ e := Nat.le_of_testBit hsb
        have h5 := hall A (by omega) h0 hsb h2
        have h6 := (hT (cg_d S A) (cg_dlt h0 h1)).2
        have h7 : f (cg_d S A) ≤ j := by
          rcases Nat.lt_or_ge j (f (cg_d S A)) with z | z
          · exact absurd h4 (h6.2 j z)
          · exact z
        omega
    refine ⟨?_, least⟩
    rcases hb2 with hb2 | hb2
    · obtain ⟨k, hk, hC⟩ := cg_some9 hc hr hm hS
      have h8 : k = b := by
        rcases Nat.lt_or_ge k b with z | z
        · exact absurd hC (least k z)
        · omega
      subst h8
      exact hC
    · exact hb2
  | succ d ih =>
    intro a b ha a1 hb hb2 hall
    have skip : (cg_sb a e → cg_z a ≤ m → b ≤ f (cg_d S a) + 1) → ∀ A, A < a + 1 → A ≠ 0 → cg_sb A e → cg_z A ≤ m → b ≤ f (cg_d S A) + 1 := by
      intro h A hA h0 h1 h2
      by_cases z : A = a
      · subst z; exact h h1 h2
      · exact hall A (by omega) h0 h1 h2
    have e1 : nI a &&& (nI e ^^^ (-1)) = nI (cg_d a e) := cg_nt a e
    have hd := cg_dle a e
    refine br_f (nI_nlt (by omega) (by omega)) ?_
    refine pk_eq (cg_d a e) 0 (fun z => ?_) (fun z => ?_) e1 nI_0.symm
    · have hsb := cg_d0.mp z
      have hz := cg_n_le (fun v => a.testBit v) 9
      refine cg_xz _ (by omega) ?_
      refine pk_lt m (cg_z a) (fun z2 => ?_) (fun z2 => ?_) rfl rfl (by omega) (by unfold cg_z; omega)
      · exact nm_r (nI_1 a) (ih (a + 1) b (by omega) (by omega) hb hb2 (skip (fun _ h => by omega)))
      · obtain ⟨h1, h2⟩ := (cg_ends hS hF).mp hsb
        have hlt := cg_dlt (by omega) h1
        have e2 : nI S &&& (nI a ^^^ (-1)) = nI (cg_d S a) := cg_nt S a
        obtain ⟨h3, h4⟩ := hT (cg_d S a) hlt
        have h5 := cg_L9 hc hr hm (Nat.lt_trans hlt hS) h4
        have e3 : G (nI S &&& (nI a ^^^ (-1))).toNatClampNeg + 1 = nI (f (cg_d S a) + 1) := by
          rw [e2, nI_clamp (by omega), h3, nI_1]
        refine ⟨by rw [e2]; exact vp_in_nI (by omega) (by omega), nm_r e3 ?_⟩
        refine pk_le b (f (cg_d S a) + 1) (fun z3 => ?_) (fun z3 => ?_)
        · exact nm_r (nI_1 a) (ih (a + 1) b (by omega) (by omega) hb hb2 (skip (fun _ _ => z3)))
        · refine nm_r (nI_1 a) (ih (a + 1) (f (cg_d S a) + 1) (by omega) (by omega) (by omega) (Or.inr ⟨a, by omega, h1, z2, h2, h4.1⟩) ?_)
          intro A hA h0 h1' h2'
          by_cases z4 : A = a
          · subst z4
            exact Nat.le_refl _
          · have := hall A (by omega) h0 h1' h2'
            omega
    · exact nm_r (nI_1 a) (ih (a + 1) b (by omega) (by omega) hb hb2 (skip (fun h => absurd (cg_d0.mpr h) z)))
theorem cg_xl (post : Int32 → Prop) {c m S : Nat} (hc : c ≤ 9) (hm : 1 ≤ m) (hm9 : m ≤ 9) (g r : Nat → Nat) (hg : cg_Bd c g) (hr : cg_Rk c g r) (hS : S < 2 ^ c) (hS0 : S ≠ 0) (nx L hs G : Nat → Int32) (hx : ∀ j, j < c → nx j = nI (g j)) (f : Nat → Nat) (hT : cg_TB g m S G f)
    (HP : ∀ k, cg_L g m k S → post (nI k)) : wpX_lengthFromSubsets post (nI c, nx, L, hs, G) (nI S) (nI m) := by
  have p9 := cg_p9 hc
  unfold wpX_lengthFromSubsets
  dsimp only
  refine ⟨c + 1, ?_⟩
  refine cg_xe4 _ hc g hg (by omega) nx L hs G hx ?_ c 0 0 (by omega) (Nat.two_pow_pos c) ?_
  · intro F hF hFb
    refine ⟨F + 1, ?_⟩
    refine cg_xl13 post hc hm hm9 g r hr hS hS0 hF hFb nx L hs G f hT HP F 1 9 (by omega) (by omega) (by omega) (Or.inl rfl) ?_
    intro A hA h0
    omega
  · intro i
    rw [Nat.zero_testBit]
    constructor
    · intro z; exact absurd z (by decide)
    · rintro ⟨z, _⟩; exact absurd z (Nat.not_lt_zero i)
theorem cg_xf9 (post : Int32 → SX → Prop) {c m T : Nat} (hc : c ≤ 9) (hm : 1 ≤ m) (hm9 : m ≤ 9) (g r : Nat → Nat) (hg : cg_Bd c g) (hr : cg_Rk c g r) (hTc : T < 2 ^ c) (nx L hs : Nat → Int32) (hx : ∀ j, j < c → nx j = nI (g j))
    (HP : ∀ k G, cg_L g m k T → post (nI k) (nI c, nx, L, hs, G)) :
    ∀ (d s : Nat) (G : Nat → Int32) (f : Nat → Nat), s + d = T + 1 → 1 ≤ s → cg_TB g m s G f → wX_lengthFor_9 post (nI T) (nI m) (nI c) (d + 1) (nI s) nx L hs G := by
  have p9 := cg_p9 hc
  intro d
  induction d with
  | zero =>
    intro s G f hs' h1 hT
    obtain ⟨h2, h3⟩ := hT T (by omega)
    refine br_t (nI_lt (by omega) (by omega)) ⟨vp_in_nI (by omega) (by omega), ?_⟩
    rw [nI_clamp (by omega), h2]
    exact HP (f T) G h3
  | succ d ih =>
    intro s G f hs' h1 hT
    refine br_f (nI_nlt (by omega) (by omega)) ?_
    refine cg_xl _ hc hm hm9 g r hg hr (by omega) (by omega) nx L hs G hx f hT ?_
    intro k hk
    refine ⟨vp_in_nI (by omega) (by omega), nm_e (nm_r (nI_1 s) (ih (s + 1) _ (cg_u f s k) (by omega) (by omega) ?_))⟩
    intro S hS
    rw [nI_clamp (by omega)]
    by_cases e : S = s
    · subst e
      rw [pk_us, cg_us]
      exact ⟨rfl, hk⟩
    · rw [pk_un e, cg_un e]
      exact hT S (by omega)
theorem cg_xf (post : Int32 → SX → Prop) {c m T : Nat} (hc : c ≤ 9) (hm : 1 ≤ m) (hm9 : m ≤ 9) (g r : Nat → Nat) (hg : cg_Bd c g) (hr : cg_Rk c g r) (hTc : T < 2 ^ c) (nx L hs gs : Nat → Int32) (hx : ∀ j, j < c → nx j = nI (g j))
    (HP : ∀ k G, cg_L g m k T → post (nI k) (nI c, nx, L, hs, G)) : wpX_lengthFor post (nI c, nx, L, hs, gs) (nI T) (nI m) := by
  unfold wpX_lengthFor
  dsimp only
  refine nm_e ⟨T + 1, ?_⟩
  refine cg_xf9 post hc hm hm9 g r hg hr hTc nx L hs hx HP T 1 _ (fun _ => 0) (by omega) (by omega) ?_
  intro S hS
  have e : S = 0 := by omega
  subst e
  refine ⟨pk_us, rfl, ?_⟩
  intro j hj
  exact absurd hj (Nat.not_lt_zero j)
end
section
/-! the reference's table -/
theorem cg_yz4 (post : Int32 → Prop) (f0 : Int32) (ny ly sl : Nat → Int32) {A : Nat} (hA : A < 512) (HP : post (nI (cg_z A))) :
    ∀ d v : Nat, v + d = 9 → wY_sizeOf_4 post (nI A) f0 ny ly sl (d + 1) (nI (cg_n (fun v => A.testBit v) v)) (nI v) := by
  intro d
  induction d with
  | zero =>
    intro v hv
    have e : v = 9 := by omega
    subst e
    exact br_t (nI_le (a := 9) (by omega) (by omega)) HP
  | succ d ih =>
    intro v hv
    have i := ih (v + 1) (by omega)
    refine br_f (nI_ge (b := 9) (by omega) (by omega)) ?_
    refine cg_i _ A v rfl (by omega) (by omega) (fun z => ?_) (fun z => ?_)
    · rw [cg_nF (p := fun v => A.testBit v) z] at i
      exact nm_r (nI_1 v) i
    · rw [cg_nT (p := fun v => A.testBit v) z] at i
      exact nm_r (nI_1 _) (nm_r (nI_1 v) i)
theorem cg_yz (post : Int32 → Prop) (f0 : Int32) (ny ly sl : Nat → Int32) {A : Nat} (hA : A < 512) (HP : post (nI (cg_z A))) : wpY_sizeOf post (f0, ny, ly, sl) (nI A) := ⟨10, cg_yz4 post f0 ny ly sl hA HP 9 0 (by omega)⟩
theorem cg_yo5 (post : Int32 → Prop) {c T D : Nat} (hc : c ≤ 9) (g : Nat → Nat) (hg : cg_Bd c g) (hT : T < 2 ^ c) (hD : D < 512) (ny ly sl : Nat → Int32) (hy : ∀ j, j < c → ny j = nI (g j))
    (HP : ∀ O, O ≤ T → (∀ A, cg_sb A O ↔ cg_sb A (cg_d T D) ∧ cg_ne g (cg_d T D) A) → post (nI O)) :
    ∀ d v F : Nat, v + d = c → F < 2 ^ c → (∀ b, F.testBit b = true ↔ ∃ a, a < v ∧ (cg_d T D).testBit a = true ∧ (g a).testBit b = true) → wY_open_5 post (nI T) (nI D) (nI c) ny ly sl (d + 1) (nI F) (nI v) := by
  have p9 := cg_p9 hc
  intro d
  induction d with
  | zero =>
    intro v F hv hF hb
    have e : v = c := by omega
    subst e
    have e1 : (nI T &&& (nI D ^^^ (-1))) &&& (nI F ^^^ (-1)) = nI (cg_d (cg_d T D) F) := by
      rw [cg_nt, cg_nt]
    refine br_t (nI_le (by omega) (by omega)) ?_
    rw [e1]
    refine HP _ (Nat.le_trans (cg_dle _ _) (cg_dle _ _)) ?_
    intro A
    constructor
    · intro h
      refine ⟨fun i hi => (cg_dI.mp (h i hi)).1, ?_⟩
      intro a b ha hbA hab
      have h1 : F.testBit b = true := (hb b).mpr ⟨a, cg_big hT (cg_dI.mp ha).1, ha, hab⟩
      exact cg_tf h1 (cg_dI.mp (h b hbA)).2
    · rintro ⟨h1, h2⟩ i hi
      refine cg_dI.mpr ⟨h1 i hi, ?_⟩
      apply cg_f
      intro z
      obtain ⟨a, _, h3, h4⟩ := (hb i).mp z
      exact h2 a i h3 hi h4
  | succ d ih =>
    intro v F hv hF hb
    have hvc : v < c := by omega
    have keep : ((cg_d T D).testBit v = true → False) → ∀ b, F.testBit b = true ↔ ∃ a, a < v + 1 ∧ (cg_d T D).testBit a = true ∧ (g a).testBit b = true := by
      intro hn b
      rw [hb b]
      constructor
      · rintro ⟨a, x, y⟩; exact ⟨a, by omega, y⟩
      · rintro ⟨a, x, y⟩
        refine ⟨a, ?_, y⟩
        have : a ≠ v := by
          intro e
          subst e
          exact hn y.1
        omega
    refine br_f (nI_ge hvc (by omega)) ?_
    refine cg_i _ T v rfl (by omega) (by omega) (fun z => ?_) (fun z => ?_)
    · exact nm_r (nI_1 v) (ih (v + 1) F (by omega) hF (keep (fun y => cg_tf (cg_dI.mp y).1 z)))
    · refine cg_i _ D v rfl (by omega) (by omega) (fun z2 => ?_) (fun z2 => ?_)
      · have e1 : nI F ||| ny (nI v).toNatClampNeg = nI (F ||| g v) := by
          rw [cg_at hy (by omega) hvc, cg_or]
        refine ⟨vp_in_nI (by omega) (by omega), nm_r e1 (nm_r (nI_1 v) (ih (v + 1) _ (by omega) (Nat.or_lt_two_pow hF (hg v hvc)) ?_))⟩
        intro b
        rw [cg_oI, hb b]
        constructor
        · rintro (⟨a, x, y⟩ | x)
          · exact ⟨a, by omega, y⟩
          · exact ⟨v, by omega, cg_dI.mpr ⟨z, z2⟩, x⟩
        · rintro ⟨a, x, y⟩
          by_cases e : a = v
          · subst e; exact Or.inr y.2
          · exact Or.inl ⟨a, by omega, y⟩
      · exact nm_r (nI_1 v) (ih (v + 1) F (by omega) hF (keep (fun y => cg_tf z2 (cg_dI.mp y).2)))
theorem cg_yo (post : Int32 → Prop) {c T D : Nat} (hc : c ≤ 9) (g : Nat → Nat) (hg : cg_Bd c g) (hT : T < 2 ^ c) (hD : D < 512) (ny ly sl : Nat → Int32) (hy : ∀ j, j < c → ny j = nI (g j))
    (HP : ∀ O, O ≤ T → (∀ A, cg_sb A O ↔ cg_sb A (cg_d T D) ∧ cg_ne g (cg_d T D) A) → post (nI O)) : wpY_open post (nI c, ny, ly, sl) (nI T) (nI D) := by
  unfold wpY_open
  dsimp only
  refine ⟨c + 1, ?_⟩
  refine cg_yo5 post hc g hg hT hD ny ly sl hy HP c 0 0 (by omega) (Nat.two_pow_pos c) ?_
  intro b
  rw [Nat.zero_testBit]
  constructor
  · intro z; exact absurd z (by decide)
  · rintro ⟨a, x, _⟩; exact absurd x (Nat.not_lt_zero a)
def cg_ok (g : Nat → Nat) (m T P A : Nat) : Prop := A ≠ 0 ∧ cg_sb A (cg_d T P) ∧ cg_z A ≤ m ∧ cg_ne g (cg_d T P) A
def cg_YS (g : Nat → Nat) (m T : Nat) (SL : Nat → Int32) (s : Nat → Nat) : Prop := ∀ S, S < 512 → SL S = nI (s S) ∧ s S ≤ 100 ∧ (s S = 100 ∨ cg_CY g m T (s S) S) ∧ (S = 0 → s S = 0)
def cg_YD (g : Nat → Nat) (m T D : Nat) (s : Nat → Nat) : Prop := ∀ P, P < D → s P ≠ 100 → ∀ A, cg_ok g m T P A → s (P ||| A) ≤ s P + 1
theorem cg_okB {g : Nat → Nat} {m T P A : Nat} (hT : T < 512) (hP : P < 512) (h : cg_ok g m T P A) : A < 512 ∧ P ||| A < 512 ∧ P < P ||| A := by
  have h1 : A < 2 ^ 9 := cg_small (fun i hi => cg_big (c := 9) hT (cg_dI.mp (h.2.1 i hi)).1)
  refine ⟨h1, Nat.or_lt_two_pow (n := 9) hP h1, ?_⟩
  refine Nat.lt_of_le_of_ne Nat.left_le_or ?_
  intro e
  obtain ⟨i, hi⟩ := Nat.exists_testBit_of_ne_zero h.1
  have h2 : (P ||| A).testBit i = true := cg_oI.mpr (Or.inr hi)
  rw [← e] at h2
  exact cg_tf h2 (cg_dI.mp (h.2.1 i hi)).2
theorem cg_yl67 (post : Int32 → SY → Prop) (J : Int32 → (Nat → Int32) → (Nat → Int32) → (Nat → Int32) → Prop) {c m T D O : Nat} (hm9 : m ≤ 9) (g : Nat → Nat) (hT : T < 512) (hD : D < 512) (hO : O ≤ T) (hOk : ∀ A, cg_sb A O → cg_sb A (cg_d T D) ∧ cg_ne g (cg_d T D) A) (ny ly : Nat → Int32) (s0 : Nat → Nat)
    (HJ : ∀ SL s, cg_YS g m T SL s → cg_YD g m T D s → s D = s0 D → (s D ≠ 100 → ∀ A, cg_sb A O → A ≠ 0 → cg_z A ≤ m → s (D ||| A) ≤ s D + 1) → J (nI (D + 1)) ny ly SL) (hs0 : O ≠ 0 → s0 D ≠ 100) :
    ∀ (n w : Nat) (SL : Nat → Int32) (s : Nat → Nat), w < n → cg_sb w O → cg_YS g m T SL s → cg_YD g m T D s → s D = s0 D → (∀ A, w < A → cg_sb A O → A ≠ 0 → cg_z A ≤ m → s (D ||| A) ≤ s D + 1) → wY_least_67 post J (nI T) (nI m) (nI D) (nI O) (nI c) n (nI w) ny ly SL := by
  intro n
  induction n with
  | zero =>
    intro w SL s hw
    omega
  | succ n ih =>
    intro w SL s hw hwO hS hY hD0 hall
    have hwle : w ≤ O := Nat.le_of_testBit hwO
    by_cases w0 : w = 0
    · subst w0
      refine br_t (nI_le (b := 0) (by omega) (by omega)) (nm_r (nI_1 D) (HJ SL s hS hY hD0 ?_))
      intro _ A h1 h2 h3
      exact hall A (by omega) h1 h2 h3
    · have hsD := hs0 (by omega)
      rw [← hD0] at hsD
      have e1 : (nI w - 1) &&& nI O = nI ((w - 1) &&& O) := by
        rw [show nI w - 1 = nI (w - 1) from pk_sub (b := 1) (by omega), nx_and]
      have hw' : ((w - 1) &&& O) ≤ w - 1 := Nat.and_le_left
      have hwO' : cg_sb ((w - 1) &&& O) O := by
        intro i hi
        rw [Nat.testBit_and, Bool.and_eq_true] at hi
        exact hi.2
      have nxt : ∀ (SL' : Nat → Int32) (s' : Nat → Nat), cg_YS g m T SL' s' → cg_YD g m T D s' → s' D = s0 D → (∀ A, w < A → cg_sb A O → A ≠ 0 → cg_z A ≤ m → s' (D ||| A) ≤ s' D + 1) → (cg_z w ≤ m → s' (D ||| w) ≤ s' D + 1) → wY_least_67 post J (nI T) (nI m) (nI D) (nI O) (nI c) n (nI ((w - 1) &&& O)) ny ly SL' := by
        intro SL' s' a1 a2 a3 a4 a5
        refine ih _ SL' s' (by omega) hwO' a1 a2 a3 ?_
        intro A b1 b2 b3 b4
        rcases Nat.lt_trichotomy A w with z | z | z
        · have := cg_enum w A O b2 hwO z
          omega
        · subst z
          exact a5 b4
        · exact a4 A z b2 b3 b4
      have hz := cg_n_le (fun v => w.testBit v) 9
      refine br_f (nI_nle (by omega) (by omega)) ?_
      refine cg_yz _ _ _ _ _ (by omega) ?_
      refine pk_lt m (cg_z w) (fun z => ?_) (fun z => ?_) rfl rfl (by omega) (by unfold cg_z; omega)
      · exact nm_r e1 (nxt SL s hS hY hD0 hall (fun y => by omega))
      · have hok : cg_ok g m T D w := ⟨w0, (hOk w hwO).1, z, (hOk w hwO).2⟩
        obtain ⟨q1, q2, q3⟩ := cg_okB hT hD hok
        obtain ⟨t1, t2, t3, _⟩ := hS D hD
        obtain ⟨t4, t5, t6, _⟩ := hS (D ||| w) q2
        have e2 : SL (nI D ||| nI w).toNatClampNeg = nI (s (D ||| w)) := by
          rw [cg_or, nI_clamp (by omega), t4]
        have e3 : SL (nI D).toNatClampNeg + 1 = nI (s D + 1) := by
          rw [nI_clamp (by omega), t1, nI_1]
        have hi1 : vp_in (nI D) 512 := vp_in_nI hD (by omega)
        have hi2 : vp_in (nI D ||| nI w) 512 := by rw [cg_or]; exact vp_in_nI q2 (by omega)
        refine ⟨hi1, hi2, ?_⟩
        refine pk_le (s (D ||| w)) (s D + 1) (fun y => ?_) (fun y => ?_) e2 e3
        · exact nm_r e1 (nxt SL s hS hY hD0 hall (fun _ => y))
        · have e4 : upd SL (nI D ||| nI w).toNatClampNeg (SL (nI D).toNatClampNeg + 1) = upd SL (nI (D ||| w)).toNatClampNeg (nI (s D + 1)) := by
            rw [e3, cg_or]
          have hDn : D ≠ D ||| w := by omega
          have low : ∀ S, cg_u s (D ||| w) (s D + 1) S ≤ s S := by
            intro S
            by_cases e : S = D ||| w
            · rw [e, cg_us]; omega
            · rw [cg_un e]; exact Nat.le_refl _
          refine ⟨hi1, hi2, nm_r e4 (nm_r e1 (nxt _ (cg_u s (D ||| w) (s D + 1)) ?_ ?_ ?_ ?_ ?_))⟩
          · intro S hS'
            refine ⟨cg_uh (c := 512) (fun j hj => (hS j hj).1) (by omega) rfl S hS', ?_⟩
            by_cases e : S = D ||| w
            · subst e
              rw [cg_us]
              refine ⟨by omega, Or.inr ⟨D, w, w0, hok.2.1, z, hok.2.2.2, rfl, ?_⟩, fun x => by omega⟩
              exact t3.resolve_left hsD
            · rw [cg_un e]
              exact (hS S hS').2
          · intro P hP hP1 A hA
            rw [cg_un (j := P) (by omega)] at hP1 ⊢
            exact Nat.le_trans (low _) (hY P hP hP1 A hA)
          · rw [cg_un hDn]
            exact hD0
          · intro A b1 b2 b3 b4
            rw [cg_un hDn]
            exact Nat.le_trans (low _) (hall A b1 b2 b3 b4)
          · intro _
            rw [cg_us, cg_un hDn]
            exact Nat.le_refl _
theorem cg_yl33 (post : Int32 → SY → Prop) {c m T : Nat} (hc : c ≤ 9) (hm9 : m ≤ 9) (g : Nat → Nat) (hg : cg_Bd c g) (hT : T < 2 ^ c) (ny ly : Nat → Int32) (hy : ∀ j, j < c → ny j = nI (g j))
    (HP : ∀ SL s, cg_YS g m T SL s → cg_YD g m T 512 s → post (nI (s T)) (nI c, ny, ly, SL)) :
    ∀ (d D : Nat) (SL : Nat → Int32) (s : Nat → Nat), D + d = 512 → cg_YS g m T SL s → cg_YD g m T D s → wY_least_33 post (nI T) (nI m) (nI c) (d + 1) (nI D) ny ly SL := by
  have p9 := cg_p9 hc
  intro d
  induction d with
  | zero =>
    intro D SL s hD hS hY
    have e : D = 512 := by omega
    subst e
    refine br_t (nI_le (a := 512) (by omega) (by omega)) ⟨vp_in_nI (by omega) (by omega), ?_⟩
    rw [nI_clamp (by omega), (hS T (by omega)).1]
    exact HP SL s hS hY
  | succ d ih =>
    intro D SL s hD hS hY
    have hD5 : D < 512 := by omega
    obtain ⟨t1, t2, t3, _⟩ := hS D hD5
    have e1 : SL (nI D).toNatClampNeg = nI (s D) := by
      rw [nI_clamp (by omega), t1]
    refine br_f (nI_ge (b := 512) (by omega) (by omega)) ⟨vp_in_nI hD5 (by omega), ?_⟩
    refine pk_eq (s D) 100 (fun z => ?_) (fun z => ?_) e1 rfl
    · refine ⟨1, ?_⟩
      refine cg_yl67 (O := 0) post _ hm9 g (by omega) hD5 (Nat.zero_le _) ?_ ny ly s ?_ (fun h => absurd rfl h) 1 0 SL s (by omega) (fun i hi => hi) hS hY rfl ?_
      · intro A hA
        constructor
        · intro i hi
          have := hA i hi
          rw [Nat.zero_testBit] at this
          exact absurd this (by decide)
        · intro a b _ hb
          have := hA b hb
          rw [Nat.zero_testBit] at this
          exact absurd this (by decide)
      · intro SL' s' a1 a2 a3 a4
        refine ih (D + 1) SL' s' (by omega) a1 ?_
        intro P hP hP1 A hA
        by_cases e : P = D
        · subst e
          rw [a3] at hP1
          exact absurd z hP1
        · exact a2 P (by omega) hP1 A hA
      · intro A _ hA h0
        exfalso
        obtain ⟨i, hi⟩ := Nat.exists_testBit_of_ne_zero h0
        have := hA i hi
        rw [Nat.zero_testBit] at this
        exact absurd this (by decide)
    · refine cg_yo _ hc g hg hT hD5 ny ly SL hy ?_
      intro O hO hOk
      refine ⟨O + 1, ?_⟩
      refine cg_yl67 (O := O) post _ hm9 g (by omega) hD5 hO (fun A hA => (hOk A).mp hA) ny ly s ?_ (fun _ => z) (O + 1) O SL s (by omega) (fun i hi => hi) hS hY rfl ?_
      · intro SL' s' a1 a2 a3 a4
        refine ih (D + 1) SL' s' (by omega) a1 ?_
        intro P hP hP1 A hA
        by_cases e : P = D
        · subst e
          exact a4 hP1 A ((hOk A).mpr ⟨hA.2.1, hA.2.2.2⟩) hA.1 hA.2.2.1
        · exact a2 P (by omega) hP1 A hA
      · intro A hlt hA
        have := Nat.le_of_testBit hA
        omega
theorem cg_yl2 (post : Int32 → SY → Prop) {c m T : Nat} (hc : c ≤ 9) (hm9 : m ≤ 9) (g : Nat → Nat) (hg : cg_Bd c g) (hT : T < 2 ^ c) (ny ly : Nat → Int32) (hy : ∀ j, j < c → ny j = nI (g j))
    (HP : ∀ SL s, cg_YS g m T SL s → cg_YD g m T 512 s → post (nI (s T)) (nI c, ny, ly, SL)) :
    ∀ (d D : Nat) (SL : Nat → Int32), D + d = 512 → (∀ S, S < D → SL S = nI (if S = 0 then 0 else 100)) → wY_least_2 post (nI T) (nI m) (nI c) (d + 1) (nI D) ny ly SL := by
  intro d
  induction d with
  | zero =>
    intro D SL hD h
    have e : D = 512 := by omega
    subst e
    refine br_t (nI_le (a := 512) (by omega) (by omega)) ⟨513, ?_⟩
    refine cg_yl33 post hc hm9 g hg hT ny ly hy HP 512 0 SL (fun S => if S = 0 then 0 else 100) (by omega) ?_ ?_
    · intro S hS
      refine ⟨h S hS, ?_⟩
      show (if S = 0 then 0 else 100) ≤ 100 ∧ ((if S = 0 then 0 else 100) = 100 ∨ cg_CY g m T (if S = 0 then 0 else 100) S) ∧ (S = 0 → (if S = 0 then 0 else 100) = 0)
      by_cases e : S = 0
      · rw [if_pos e]
        exact ⟨by omega, Or.inr e, fun _ => rfl⟩
      · rw [if_neg e]
        exact ⟨by omega, Or.inl rfl, fun x => absurd x e⟩
    · intro P hP
      exact absurd hP (Nat.not_lt_zero P)
  | succ d ih =>
    intro D SL hD h
    refine br_f (nI_ge (b := 512) (by omega) (by omega)) ?_
    refine pk_eq D 0 (fun z => ?_) (fun z => ?_) rfl nI_0.symm
    · refine ⟨vp_in_nI (by omega) (by omega), nm_e (nm_r (nI_1 D) (ih (D + 1) _ (by omega) ?_))⟩
      intro S hS
      rw [nI_clamp (by omega)]
      have e : S = D := by omega
      subst e
      rw [pk_us, if_pos z]
      rfl
    · refine ⟨vp_in_nI (by omega) (by omega), nm_e (nm_r (nI_1 D) (ih (D + 1) _ (by omega) ?_))⟩
      intro S hS
      rw [nI_clamp (by omega)]
      by_cases e : S = D
      · subst e
        rw [pk_us, if_neg z]
        rfl
      · rw [pk_un e]
        exact h S (by omega)
theorem cg_full {g s : Nat → Nat} {m T : Nat} {SL : Nat → Int32} (hT : T < 512) (hY : cg_YD g m T 512 s) (hS : cg_YS g m T SL s) : ∀ k S, k < 100 → cg_CY g m T k S → s S ≤ k := by
  intro k
  induction k with
  | zero =>
    intro S _ h
    have e : S = 0 := h
    have h0 := (hS S (by omega)).2.2.2 e
    omega
  | succ k ih =>
    rintro S hk ⟨P, A, a1, a2, a3, a4, a5, a6⟩
    subst a5
    have h1 := ih P (by omega) a6
    have h2 : P ≤ T := Nat.le_of_testBit (cg_YX k P a6).1
    have h3 := hY P (by omega) (by omega) A ⟨a1, a2, a3, a4⟩
    omega
theorem cg_yl (post : Int32 → SY → Prop) {c m T : Nat} (hc : c ≤ 9) (hm : 1 ≤ m) (hm9 : m ≤ 9) (g r : Nat → Nat) (hg : cg_Bd c g) (hr : cg_Rk c g r) (hT : T < 2 ^ c) (ny ly sl : Nat → Int32) (hy : ∀ j, j < c → ny j = nI (g j))
    (HP : ∀ k SL, cg_L g m k T → post (nI k) (nI c, ny, ly, SL)) : wpY_least post (nI c, ny, ly, sl) (nI T) (nI m) := by
  have p9 := cg_p9 hc
  unfold wpY_least
  dsimp only
  refine ⟨513, ?_⟩
  refine cg_yl2 post hc hm9 g hg hT ny ly hy ?_ 512 0 sl (by omega) (fun S hS => absurd hS (Nat.not_lt_zero S))
  intro SL s hS hY
  refine HP (s T) SL ?_
  obtain ⟨k, hk, hC⟩ := cg_some9 hc hr hm hT
  have h1 := cg_full (by omega) hY hS k T (by omega) (cg_XYT hC)
  refine ⟨?_, ?_⟩
  · rcases (hS T (by omega)).2.2.1 with z | z
    · omega
    · exact (cg_YX (s T) T z).2.2
  · intro j hj hC'
    have := cg_full (by omega) hY hS j T (by omega) (cg_XYT hC')
    omega
end
section
/-! shortest, without, and what is owed -/
theorem cg_x28 (post : Int32 → SX → Prop) {c m : Nat} {g r : Nat → Nat} (hc : c ≤ 9) (hm : 1 ≤ m) (hm9 : m ≤ 9) (hg : cg_Bd c g) (hr : cg_Rk c g r) (nx L hs gs : Nat → Int32) (hx : ∀ j, j < c → nx j = nI (g j))
    (HP : ∀ k G, cg_L g m k (2 ^ c - 1) → post (nI k) (nI c, nx, L, hs, G)) : wX_shortest_28 post (nI m) (nI c) nx L hs gs := by
  have p := Nat.two_pow_pos c
  unfold wX_shortest_28
  refine nm_r (cg_mask (by omega)) ?_
  refine cg_xf _ hc hm hm9 g r hg hr (by omega) nx L hs gs hx ?_
  intro k G hk
  exact HP k G hk
theorem cg_y28 (post : Int32 → SY → Prop) {c m : Nat} {g r : Nat → Nat} (hc : c ≤ 9) (hm : 1 ≤ m) (hm9 : m ≤ 9) (hg : cg_Bd c g) (hr : cg_Rk c g r) (ny ly sl : Nat → Int32) (hy : ∀ j, j < c → ny j = nI (g j))
    (HP : ∀ k SL, cg_L g m k (2 ^ c - 1) → post (nI k) (nI c, ny, ly, SL)) : wY_shortest_28 post (nI m) (nI c) ny ly sl := by
  have p := Nat.two_pow_pos c
  unfold wY_shortest_28
  rw [cg_mask (by omega)]
  refine cg_yl _ hc hm hm9 g r hg hr (by omega) ny ly sl hy ?_
  intro k SL hk
  exact HP k SL hk
theorem cg_vshortest {u : SX} {v : SY} (I : cg_S u v) (v1 : Int32) : wpX_shortest (fun r u' => wpY_shortest (fun r' v' => r' = r ∧ cg_S u' v') v v1) u v1 := by
  obtain ⟨c, g, l, nx, L, hs, gs, ny, ly, sl, rfl, rfl, hR, hx, hy, hL⟩ := I
  have hR' := hR
  obtain ⟨hc, hg, hl, r, hr⟩ := hR'
  unfold wpX_shortest wpY_shortest
  dsimp only
  by_cases h1 : v1 < 1
  · refine br_t h1 ?_
    refine br_t h1 ?_
    exact ⟨rfl, cg_Smk hR hx hy hL⟩
  · by_cases h9 : v1 ≤ 9
    · have hn : ¬ v1 < 0 := fun z => h1 (Int32.lt_trans z (by decide))
      obtain ⟨m, hm9, e⟩ := nI_of2 (M := 9) (n := 9) (by decide) hn h9
      subst e
      have hm : 1 ≤ m := by
        rcases Nat.lt_or_ge m 1 with z | z
        · exact absurd (nI_lt (b := 1) z (by decide)) h1
        · exact z
      by_cases h2 : m ≤ 2
      · have a1 : nI m ≤ 2 := nI_le (b := 2) h2 (by decide)
        have a2 : nI m < 3 := nI_lt (b := 3) (by omega) (by decide)
        refine br_f h1 (br_t h9 (br_t a1 ?_))
        refine cg_x28 _ hc hm hm9 hg hr nx L hs gs hx ?_
        intro k G hk
        refine br_f h1 (br_t h9 (br_t a2 ?_))
        refine cg_y28 _ hc hm hm9 hg hr ny ly sl hy ?_
        intro k' SL hk'
        rw [cg_Lu hk' hk]
        exact ⟨rfl, cg_Smk hR hx hy hL⟩
      · have a1 : ¬ nI m ≤ 2 := nI_ge (a := 2) (b := m) (by omega) (by omega)
        have a2 : ¬ nI m < 3 := nI_nlt (a := m) (b := 3) (by omega) (by omega)
        refine br_f h1 (br_t h9 (br_f a1 ?_))
        refine cg_xt _ hR nx L hs gs hx hL (fun z => ?_) (fun z => ?_)
        · refine br_f (by decide) ?_
          refine cg_x28 _ hc hm hm9 hg hr nx L hs gs hx ?_
          intro k G hk
          refine br_f h1 (br_t h9 (br_f a2 ?_))
          refine cg_yt _ hR ny ly sl hy (fun _ L' => ?_) (fun z' => absurd z z')
          refine br_f (by decide) ?_
          refine cg_y28 _ hc hm hm9 hg hr ny L' sl hy ?_
          intro k' SL hk'
          rw [cg_Lu hk' hk]
          exact ⟨rfl, cg_Smk hR hx hy hL⟩
        · refine br_t rfl ?_
          refine br_f h1 (br_t h9 (br_f a2 ?_))
          refine cg_yt _ hR ny ly sl hy (fun z' => absurd z' z) (fun _ L' => ?_)
          refine br_t rfl ?_
          exact ⟨rfl, cg_Smk hR hx hy hL⟩
    · refine br_f h1 (br_f h9 ?_)
      refine br_f h1 (br_f h9 ?_)
      exact ⟨rfl, cg_Smk hR hx hy hL⟩
theorem cg_vwithout {u : SX} {v : SY} (I : cg_S u v) (v1 : Int32) : wpX_without (fun r u' => wpY_without (fun r' v' => r' = r ∧ cg_S u' v') v v1) u v1 := by
  obtain ⟨c, g, l, nx, L, hs, gs, ny, ly, sl, rfl, rfl, hR, hx, hy, hL⟩ := I
  have hR' := hR
  obtain ⟨hc, hg, hl, r, hr⟩ := hR'
  have p := Nat.two_pow_pos c
  unfold wpX_without wpY_without
  dsimp only
  rcases cg_ix v1 hc with h | ⟨a, ha, rfl⟩
  · refine cg_tF c rfl h ?_
    refine cg_sF c rfl h ?_
    exact ⟨rfl, cg_Smk hR hx hy hL⟩
  · have hT : cg_d (2 ^ c - 1) (2 ^ a) < 2 ^ c := Nat.lt_of_le_of_lt (cg_dle _ _) (by omega)
    have e : (((1 : Int32) <<< (nI c &&& 31)) - 1) &&& (((1 : Int32) <<< (nI a &&& 31)) ^^^ (-1)) = nI (cg_d (2 ^ c - 1) (2 ^ a)) := by
      rw [cg_mask (by omega), cg_one (by omega), cg_nt]
    refine cg_tT c rfl hc ha ?_
    refine nm_e ?_
    rw [e]
    refine cg_xf (m := 2) _ hc (by omega) (by omega) g r hg hr hT nx L hs gs hx ?_
    intro k G hk
    refine cg_sT c rfl hc ha ?_
    refine cg_yl (m := 2) _ hc (by omega) (by omega) g r hg hr hT ny ly sl hy ?_
    intro k' SL hk'
    dsimp only
    rw [cg_Lu hk' hk]
    exact ⟨rfl, cg_Smk hR hx hy hL⟩
def i_Rel (k : Nat) (u : SX) (v : SY) : Prop := cg_S u v
theorem i_up {k : Nat} {u : SX} {v : SY} (h : i_Rel k u v) : i_Rel (k + 3) u v := h
theorem i_vc0 (k0 : Int32) : wpX_init (fun u => wpY_init (fun v => i_Rel 1 u v) k0) k0 := cg_vc0 k0
theorem i_vc_addTask {k : Nat} {u : SX} {v : SY} (I : i_Rel k u v) (hk : k + 3 ≤ 1537) : wpX_addTask (fun r u' => wpY_addTask (fun r' v' => r' = r ∧ i_Rel (k + 3) u' v') v) u := cg_vaddTask I
theorem i_vc_removeTask {k : Nat} {u : SX} {v : SY} (I : i_Rel k u v) (hk : k + 3 ≤ 1537) (v1 : Int32) : wpX_removeTask (fun r u' => wpY_removeTask (fun r' v' => r' = r ∧ i_Rel (k + 3) u' v') v v1) u v1 := cg_vremoveTask I v1
theorem i_vc_addOrder {k : Nat} {u : SX} {v : SY} (I : i_Rel k u v) (hk : k + 3 ≤ 1537) (v1 : Int32) (v2 : Int32) : wpX_addOrder (fun r u' => wpY_addOrder (fun r' v' => r' = r ∧ i_Rel (k + 3) u' v') v v1 v2) u v1 v2 := cg_vaddOrder I v1 v2
theorem i_vc_removeOrder {k : Nat} {u : SX} {v : SY} (I : i_Rel k u v) (hk : k + 3 ≤ 1537) (v1 : Int32) (v2 : Int32) : wpX_removeOrder (fun r u' => wpY_removeOrder (fun r' v' => r' = r ∧ i_Rel (k + 3) u' v') v v1 v2) u v1 v2 := cg_vremoveOrder I v1 v2
theorem i_vc_tasks {k : Nat} {u : SX} {v : SY} (I : i_Rel k u v) (hk : k + 3 ≤ 1537) : wpX_tasks (fun r => wpY_tasks (fun r' => r' = r ∧ i_Rel (k + 3) u v) v) u := cg_vtasks I
theorem i_vc_after {k : Nat} {u : SX} {v : SY} (I : i_Rel k u v) (hk : k + 3 ≤ 1537) (v1 : Int32) (v2 : Int32) : wpX_after (fun r => wpY_after (fun r' v' => r' = r ∧ i_Rel (k + 3) u v') v v1 v2) u v1 v2 := cg_vafter I v1 v2
theorem i_vc_height {k : Nat} {u : SX} {v : SY} (I : i_Rel k u v) (hk : k + 3 ≤ 1537) (v1 : Int32) : wpX_height (fun r u' => wpY_height (fun r' => r' = r ∧ i_Rel (k + 3) u' v) v v1) u v1 := cg_vheight I v1
theorem i_vc_superfluous {k : Nat} {u : SX} {v : SY} (I : i_Rel k u v) (hk : k + 3 ≤ 1537) : wpX_superfluous (fun r => wpY_superfluous (fun r' v' => r' = r ∧ i_Rel (k + 3) u v') v) u := cg_vsuperfluous I
theorem i_vc_inTrees {k : Nat} {u : SX} {v : SY} (I : i_Rel k u v) (hk : k + 3 ≤ 1537) : wpX_inTrees (fun r => wpY_inTrees (fun r' v' => r' = r ∧ i_Rel (k + 3) u v') v) u := cg_vinTrees I
theorem i_vc_shortest {k : Nat} {u : SX} {v : SY} (I : i_Rel k u v) (hk : k + 3 ≤ 1537) (v1 : Int32) : wpX_shortest (fun r u' => wpY_shortest (fun r' v' => r' = r ∧ i_Rel (k + 3) u' v') v v1) u v1 := cg_vshortest I v1
theorem i_vc_without {k : Nat} {u : SX} {v : SY} (I : i_Rel k u v) (hk : k + 3 ≤ 1537) (v1 : Int32) : wpX_without (fun r u' => wpY_without (fun r' v' => r' = r ∧ i_Rel (k + 3) u' v') v v1) u v1 := cg_vwithout I v1
end
