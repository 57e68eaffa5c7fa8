/-! rows taken from kit/rows -/
theorem pk_us {f : Nat → Int32} {k : Nat} {x : Int32} : upd f k x k = x := if_pos rfl
theorem pk_un {f : Nat → Int32} {k j : Nat} {x : Int32} (h : j ≠ k) : upd f k x j = f j := if_neg h
theorem pk_sub {a b : Nat} (h : b ≤ a) : nI a - nI b = nI (a - b) := by
  obtain ⟨c, rfl⟩ : ∃ c, a = c + b := ⟨a - b, by omega⟩
  rw [← nI_add, Int32.add_sub_cancel, Nat.add_sub_cancel]
theorem pk_mul (a b : Nat) : nI a * nI b = nI (a * b) := (Int32.ofNat_mul a b).symm
theorem pk_div {a d : Nat} (ha : a < 2 ^ 31) (h0 : 0 < d) (hd : d < 2 ^ 31) : nI a / nI d = nI (a / d) := by
  apply Int32.toInt_inj.mp
  rw [lg_idiv_nonneg (by rw [nI_toInt ha]; omega) (by rw [nI_toInt hd]; omega), nI_toInt ha, nI_toInt hd, nI_toInt (Nat.lt_of_le_of_lt (Nat.div_le_self a d) ha)]
  first | rfl | exact (Int.natCast_ediv _ _).symm
theorem pk_rem {a d : Nat} (ha : a < 2 ^ 31) (h0 : 0 < d) (hd : d < 2 ^ 31) : nI a - nI a / nI d * nI d = nI (a % d) := by
  rw [pk_div ha h0 hd, pk_mul, pk_sub (Nat.div_mul_le_self a d)]
  exact congrArg nI (by have := Nat.div_add_mod' a d; omega)
theorem pk_ix (x : Int32) {n : Nat} (hn : n < 2 ^ 31) : x < 0 ∨ nI n ≤ x ∨ ∃ j : Nat, j < n ∧ x = nI j := by
  by_cases h : x < 0
  · exact Or.inl h
  · obtain ⟨j, hj, rfl⟩ := nI_of h
    by_cases h2 : j < n
    · exact Or.inr (Or.inr ⟨j, h2, rfl⟩)
    · exact Or.inr (Or.inl (nI_le (by omega) hj))
theorem pk_le {x y : Int32} {A B : Prop} (a b : Nat) (f : a ≤ b → A) (g : b < a → B) (hx : x = nI a := by rfl) (hy : y = nI b := by rfl) (ha : a < 2 ^ 31 := by omega) (hb : b < 2 ^ 31 := by omega) : (x ≤ y → A) ∧ (¬ x ≤ y → B) := by
  subst hx hy
  rw [nI_leI ha hb]
  exact ⟨f, fun z => g (by omega)⟩
theorem pk_lt {x y : Int32} {A B : Prop} (a b : Nat) (f : a < b → A) (g : b ≤ a → B) (hx : x = nI a := by rfl) (hy : y = nI b := by rfl) (ha : a < 2 ^ 31 := by omega) (hb : b < 2 ^ 31 := by omega) : (x < y → A) ∧ (¬ x < y → B) := by
  subst hx hy
  rw [nI_ltI ha hb]
  exact ⟨f, fun z => g (by omega)⟩
theorem pk_eq {x y : Int32} {A B : Prop} (a b : Nat) (f : a = b → A) (g : a ≠ b → B) (hx : x = nI a := by rfl) (hy : y = nI b := by rfl) (ha : a < 2 ^ 31 := by omega) (hb : b < 2 ^ 31 := by omega) : (x = y → A) ∧ (¬ x = y → B) := by
  subst hx hy
  rw [nI_eq ha hb]
  exact ⟨f, g⟩
theorem pk_in {x : Int32} (n N : Nat) (h : n < N) (hx : x = nI n := by rfl) (hN : N < 2 ^ 31 := by omega) : vp_in x N := by
  subst hx
  exact vp_in_nI h hN
theorem pk_cl {x : Int32} (n : Nat) (hx : x = nI n := by rfl) (h : n < 2 ^ 31 := by omega) : x.toNatClampNeg = n := by
  subst hx
  exact nI_clamp h
theorem pk_tn {n : Nat} (h : n < 2 ^ 32) : (nI n).toBitVec.toNat = n := Nat.mod_eq_of_lt h
theorem pk_shl (a s : Int32) (k : Nat) (hs : (s.toBitVec.smod 32).toNat = k) : (a <<< s).toBitVec.toNat = a.toBitVec.toNat * 2 ^ k % 2 ^ 32 := by
  show (a.toBitVec <<< (s.toBitVec.smod 32).toNat).toNat = _
  rw [hs, BitVec.toNat_shiftLeft, Nat.shiftLeft_eq]
theorem pk_shlN {n : Nat} (s : Int32) (k : Nat) (hs : (s.toBitVec.smod 32).toNat = k) (h : n * 2 ^ k < 2 ^ 32) : nI n <<< s = nI (n * 2 ^ k) := by
  apply Int32.toBitVec_inj.mp
  apply BitVec.eq_of_toNat_eq
  have hn : n < 2 ^ 32 := Nat.lt_of_le_of_lt (Nat.le_mul_of_pos_right n (Nat.two_pow_pos k)) h
  rw [pk_shl _ _ k hs, pk_tn hn, pk_tn h, Nat.mod_eq_of_lt h]
theorem pk_shr (a s : Int32) (k : Nat) (hs : (s.toBitVec.smod 32).toNat = k) : (a >>> s).toInt = a.toInt >>> k := by
  show (a.toBitVec.sshiftRight (s.toBitVec.smod 32).toNat).toInt = _
  rw [hs, BitVec.toInt_sshiftRight]
  rfl
theorem pk_shrN {n : Nat} (h : n < 2 ^ 31) (s : Int32) (k : Nat) (hs : (s.toBitVec.smod 32).toNat = k) : nI n >>> s = nI (n / 2 ^ k) := by
  apply Int32.toInt_inj.mp
  have h2 : n / 2 ^ k ≤ n := Nat.div_le_self _ _
  rw [pk_shr _ _ k hs, nI_toInt h, nI_toInt (by omega), Int.shiftRight_eq_div_pow]
  rfl
theorem pk_loop {σ : Type} (W : Nat → Nat → σ → Prop) (I : Nat → σ → Prop) (e i0 : Nat) (s : σ) (hi : i0 ≤ e) (h0 : I i0 s) (hx : ∀ n s, I e s → W (n + 1) e s)
    (hs : ∀ n i s, i < e → I i s → (∀ s', I (i + 1) s' → W n (i + 1) s') → W (n + 1) i s) : ∃ n, W n i0 s :=
  ⟨e + 1, loop_i W I e hx hs (e + 1) i0 s hi (by omega) h0⟩
theorem pk_least (P : Nat → Prop) (h : ∃ k, P k) : ∃ k, P k ∧ ∀ j, j < k → ¬ P j := by
  obtain ⟨k, hk⟩ := h
  induction k using Nat.strongRecOn with
  | ind k ih =>
    by_cases e : ∃ j, j < k ∧ P j
    · obtain ⟨j, hj, pj⟩ := e
      exact ih j hj pj
    · exact ⟨k, hk, fun j hj pj => e ⟨j, hj, pj⟩⟩
theorem nx_and (a b : Nat) : nI a &&& nI b = nI (a &&& b) := by
  apply Int32.toBitVec_inj.1
  show BitVec.ofNat 32 a &&& BitVec.ofNat 32 b = BitVec.ofNat 32 (a &&& b)
  apply BitVec.eq_of_getLsbD_eq
  intro i hi
  simp [hi]
theorem nx_xor (a b : Nat) : nI a ^^^ nI b = nI (a ^^^ b) := by
  apply Int32.toBitVec_inj.1
  show BitVec.ofNat 32 a ^^^ BitVec.ofNat 32 b = BitVec.ofNat 32 (a ^^^ b)
  apply BitVec.eq_of_getLsbD_eq
  intro i hi
  simp [hi]
theorem s_l : ∀ n, n < 32 → ((nI n &&& 31).toBitVec.smod 32).toNat = n := by decide +kernel
/-! words as naturals -/
theorem cg_or (a b : Nat) : nI a ||| nI b = nI (a ||| b) := by
  apply Int32.toBitVec_inj.1
  show BitVec.ofNat 32 a ||| BitVec.ofNat 32 b = BitVec.ofNat 32 (a ||| b)
  apply BitVec.eq_of_getLsbD_eq
  intro i hi
  simp [hi]
def cg_d (a b : Nat) : Nat := a ^^^ (a &&& b)
theorem cg_dt (a b i : Nat) : (cg_d a b).testBit i = (a.testBit i && !(b.testBit i)) := by
  unfold cg_d
  rw [Nat.testBit_xor, Nat.testBit_and]
  cases a.testBit i <;> cases b.testBit i <;> rfl
theorem cg_nt (a b : Nat) : nI a &&& (nI b ^^^ (-1)) = nI (cg_d a b) := by
  apply Int32.toBitVec_inj.1
  show BitVec.ofNat 32 a &&& (BitVec.ofNat 32 b ^^^ BitVec.allOnes 32) = BitVec.ofNat 32 (cg_d a b)
  apply BitVec.eq_of_getLsbD_eq
  intro i hi
  have h := cg_dt a b i
  rw [BitVec.getLsbD_and, BitVec.getLsbD_xor, BitVec.getLsbD_ofNat, BitVec.getLsbD_ofNat, BitVec.getLsbD_ofNat, BitVec.getLsbD_allOnes, h]
  simp [hi]
theorem cg_shr {s j : Nat} (hs : s < 2 ^ 31) (hj : j < 32) : nI s >>> (nI j &&& 31) = nI (s / 2 ^ j) := pk_shrN hs _ j (s_l j hj)
theorem cg_bv {s j : Nat} (hs : s < 2 ^ 31) (hj : j < 32) : (nI s >>> (nI j &&& 31)) &&& 1 = nI (if s.testBit j = true then 1 else 0) := by
  rw [cg_shr hs hj]
  show nI _ &&& nI 1 = _
  rw [nx_and, Nat.and_one_is_mod, Nat.testBit_eq_decide_div_mod_eq]
  generalize s / 2 ^ j = z
  have h : z % 2 = 0 ∨ z % 2 = 1 := by omega
  rcases h with h | h <;> simp [h]
theorem cg_bit {s j : Nat} (hs : s < 2 ^ 31) (hj : j < 32) : (nI s >>> (nI j &&& 31)) &&& 1 = 1 ↔ s.testBit j = true := by
  rw [cg_bv hs hj]
  cases s.testBit j
  · exact ⟨fun z => absurd z (by decide), fun z => absurd z (by decide)⟩
  · exact ⟨fun _ => rfl, fun _ => by decide⟩
theorem cg_one {j : Nat} (hj : j < 31) : (1 : Int32) <<< (nI j &&& 31) = nI (2 ^ j) := by
  show nI 1 <<< (nI j &&& 31) = _
  have h : 2 ^ j < 2 ^ 31 := Nat.pow_lt_pow_right (by decide) hj
  rw [pk_shlN _ j (s_l j (by omega)) (by omega), Nat.one_mul]
theorem cg_mask {j : Nat} (hj : j < 31) : (1 : Int32) <<< (nI j &&& 31) - 1 = nI (2 ^ j - 1) := by
  rw [cg_one hj]
  exact pk_sub (b := 1) (Nat.two_pow_pos j)
def cg_gap (s v : Nat) : Nat := (s &&& (2 ^ v - 1)) ||| (s / 2 ^ (v + 1) * 2 ^ v)
theorem cg_gapw {s v : Nat} (hs : s < 512) (hv : v < 9) : (nI s &&& (((1 : Int32) <<< (nI v &&& 31)) - 1)) ||| ((nI s >>> ((nI v + 1) &&& 31)) <<< (nI v &&& 31)) = nI (cg_gap s v) := by
  have h1 : s / 2 ^ (v + 1) ≤ s := Nat.div_le_self _ _
  have h2 : 2 ^ v < 2 ^ 9 := Nat.pow_lt_pow_right (by decide) hv
  have h3 : s / 2 ^ (v + 1) * 2 ^ v ≤ 512 * 2 ^ 9 := Nat.mul_le_mul (by omega) (by omega)
  rw [cg_mask (by omega), nx_and, nI_1, cg_shr (by omega) (by omega), pk_shlN _ v (s_l v (by omega)) (by omega), cg_or]
  rfl
theorem cg_gapt (s v b : Nat) : (cg_gap s v).testBit b = if b < v then s.testBit b else s.testBit (b + 1) := by
  unfold cg_gap
  rw [Nat.testBit_or, Nat.testBit_and, Nat.testBit_two_pow_sub_one, Nat.testBit_mul_two_pow, Nat.testBit_div_two_pow]
  by_cases h : b < v
  · simp [h, Nat.not_le.mpr h]
  · have h' : v ≤ b := by omega
    have e : b - v + (v + 1) = b + 1 := by omega
    simp [h, h', e]
theorem cg_big {x c i : Nat} (h : x < 2 ^ c) (hi : x.testBit i = true) : i < c := by
  rcases Nat.lt_or_ge i c with z | z
  · exact z
  · have := Nat.testBit_lt_two_pow (Nat.lt_of_lt_of_le h (Nat.pow_le_pow_right (by decide) z))
    rw [this] at hi
    exact absurd hi (by decide)
theorem cg_small {x c : Nat} (h : ∀ i, x.testBit i = true → i < c) : x < 2 ^ c := by
  apply Nat.lt_pow_two_of_testBit
  intro i hi
  cases e : x.testBit i
  · rfl
  · exact absurd (h i e) (by omega)
theorem cg_p9 {c : Nat} (h : c ≤ 9) : 2 ^ c ≤ 512 := Nat.pow_le_pow_right (n := 2) (by decide) h
theorem cg_ext {x y : Nat} (h : ∀ i, x.testBit i = true ↔ y.testBit i = true) : x = y := by
  apply Nat.eq_of_testBit_eq
  intro i
  have := h i
  cases e : x.testBit i <;> cases f : y.testBit i <;> simp_all
theorem cg_f {b : Bool} (h : ¬ b = true) : b = false := by cases b <;> simp_all
/-! terms for the walks -/
theorem cg_h {A B : Prop} {x y : Int32} (s j : Nat) (hx : x = nI s) (hs : s < 2 ^ 31) (hj : j < 32) (hf : s.testBit j = false → A) (ht : s.testBit j = true → B) (hy : y = nI j := by rfl) : wpX_has (fun r => (r = 0 → A) ∧ (¬ r = 0 → B)) x y := by
  subst hx hy
  unfold wpX_has
  rw [cg_bit hs hj]
  exact ⟨fun z => br_f (by decide) (ht z), fun z => br_t rfl (hf (cg_f z))⟩
theorem cg_i {A B : Prop} {x y : Int32} (u : SY) (s j : Nat) (hx : x = nI s) (hs : s < 2 ^ 31) (hj : j < 32) (hf : s.testBit j = false → A) (ht : s.testBit j = true → B) (hy : y = nI j := by rfl) : wpY_in (fun r => (r = 0 → A) ∧ (¬ r = 0 → B)) u x y := by
  subst hx hy
  obtain ⟨u1, u2, u3, u4⟩ := u
  unfold wpY_in
  dsimp only
  rw [cg_bit hs hj]
  exact ⟨fun z => br_f (by decide) (ht z), fun z => br_t rfl (hf (cg_f z))⟩
theorem cg_tF {A B : Prop} {u : SX} (c : Nat) (hu : u.1 = nI c) {x : Int32} (h : x < 0 ∨ nI c ≤ x) (hf : A) : wpX_isTask (fun r => (r = 0 → A) ∧ (¬ r = 0 → B)) u x := by
  obtain ⟨u1, u2, u3, u4, u5⟩ := u
  unfold wpX_isTask
  dsimp only at hu ⊢
  subst hu
  refine br_c (fun z => br_t rfl hf) (fun h1 => br_c (fun z => br_t rfl hf) (fun h2 => ?_))
  exact absurd h (fun z => z.elim h1 h2)
theorem cg_tT {A B : Prop} {u : SX} (c : Nat) (hu : u.1 = nI c) (hc : c ≤ 9) {j : Nat} (h : j < c) (ht : B) : wpX_isTask (fun r => (r = 0 → A) ∧ (¬ r = 0 → B)) u (nI j) := by
  obtain ⟨u1, u2, u3, u4, u5⟩ := u
  unfold wpX_isTask
  dsimp only at hu ⊢
  subst hu
  exact br_f (nI_pos (by omega)) (br_f (nI_ge h (by omega)) (br_f (by decide) ht))
theorem cg_sF {A B : Prop} {u : SY} (c : Nat) (hu : u.1 = nI c) {x : Int32} (h : x < 0 ∨ nI c ≤ x) (hf : A) : wpY_isTask (fun r => (r = 0 → A) ∧ (¬ r = 0 → B)) u x := by
  obtain ⟨u1, u2, u3, u4⟩ := u
  unfold wpY_isTask
  dsimp only at hu ⊢
  subst hu
  refine br_c (fun z => br_t rfl hf) (fun h1 => br_c (fun z => br_t rfl hf) (fun h2 => ?_))
  exact absurd h (fun z => z.elim h1 h2)
theorem cg_sT {A B : Prop} {u : SY} (c : Nat) (hu : u.1 = nI c) (hc : c ≤ 9) {j : Nat} (h : j < c) (ht : B) : wpY_isTask (fun r => (r = 0 → A) ∧ (¬ r = 0 → B)) u (nI j) := by
  obtain ⟨u1, u2, u3, u4⟩ := u
  unfold wpY_isTask
  dsimp only at hu ⊢
  subst hu
  exact br_f (nI_pos (by omega)) (br_f (nI_ge h (by omega)) (br_f (by decide) ht))
theorem cg_ix (x : Int32) {c : Nat} (hc : c ≤ 9) : (x < 0 ∨ nI c ≤ x) ∨ ∃ j : Nat, j < c ∧ x = nI j := by
  rcases pk_ix x (n := c) (by omega) with h | h | h
  · exact Or.inl (Or.inl h)
  · exact Or.inl (Or.inr h)
  · exact Or.inr h
theorem cg_at {a : Nat → Int32} {g : Nat → Nat} {c u : Nat} (h : ∀ j, j < c → a j = nI (g j)) (hc : c ≤ 512) (hu : u < c) : a (nI u).toNatClampNeg = nI (g u) := by
  rw [nI_clamp (by omega)]
  exact h u hu
def cg_u (f : Nat → Nat) (k x : Nat) : Nat → Nat := fun j => if j = k then x else f j
theorem cg_us {f : Nat → Nat} {k x : Nat} : cg_u f k x k = x := if_pos rfl
theorem cg_un {f : Nat → Nat} {k j x : Nat} (h : j ≠ k) : cg_u f k x j = f j := if_neg h
theorem cg_uh {a : Nat → Int32} {g : Nat → Nat} {c u s : Nat} {x : Int32} (h : ∀ j, j < c → a j = nI (g j)) (hu : u < 2 ^ 31) (hx : x = nI s) : ∀ j, j < c → upd a (nI u).toNatClampNeg x j = nI (cg_u g u s j) := by
  intro j hj
  rw [nI_clamp hu]
  by_cases e : j = u
  · subst e
    rw [pk_us, cg_us]
    exact hx
  · rw [pk_un e, cg_un e]
    exact h j hj
