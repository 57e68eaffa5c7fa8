/-! addOrder, removeOrder, after -/
theorem cg_ig {post : Int32 → Prop} {x y : Int32} (u : SY) (s j : Nat) (hx : x = nI s) (hs : s < 2 ^ 31) (hj : j < 32) (hf : s.testBit j = false → post 0) (ht : s.testBit j = true → post 1) (hy : y = nI j := by rfl) : wpY_in post u x y := by
  subst hx hy
  obtain ⟨u1, u2, u3, u4⟩ := u
  unfold wpY_in
  dsimp only
  rw [cg_bit hs hj]
  exact ⟨fun z => ht z, fun z => hf (cg_f z)⟩
theorem cg_adB {c u v : Nat} {g : Nat → Nat} (hg : cg_Bd c g) (hu : u < c) (hv : v < c) : cg_Bd c (cg_u g u (g u ||| 2 ^ v)) := by
  intro j hj
  by_cases e : j = u
  · subst e
    rw [cg_us]
    exact Nat.or_lt_two_pow (hg j hj) (Nat.pow_lt_pow_right (by decide) hv)
  · rw [cg_un e]
    exact hg j hj
theorem cg_adE {c u v a b : Nat} {g : Nat → Nat} (h : cg_E c (cg_u g u (g u ||| 2 ^ v)) a b) : cg_E c g a b ∨ (a = u ∧ b = v) := by
  obtain ⟨h1, h2⟩ := h
  by_cases e : a = u
  · subst e
    rw [cg_us, Nat.testBit_or, Bool.or_eq_true, Nat.testBit_two_pow, decide_eq_true_eq] at h2
    rcases h2 with h2 | h2
    · exact Or.inl ⟨h1, h2⟩
    · exact Or.inr ⟨rfl, h2.symm⟩
  · rw [cg_un e] at h2
    exact Or.inl ⟨h1, h2⟩
theorem cg_adK {c u v : Nat} {g l r : Nat → Nat} (hg : cg_Bd c g) (hl : cg_Cl c g l) (hr : cg_Rk c g r) (hv : v < c) (huv : u ≠ v) (hn : (l v).testBit u = false) : cg_Rk c (cg_u g u (g u ||| 2 ^ v)) (fun a => r a + (if a = u ∨ (l a).testBit u = true then r v + 1 else 0)) := by
  intro a b h
  rcases cg_adE h with h' | ⟨rfl, rfl⟩
  · clear h
    have h := h'
    have h1 := hr a b h
    have hb := cg_Elt hg h
    show r b + (if b = u ∨ (l b).testBit u = true then r v + 1 else 0) < r a + (if a = u ∨ (l a).testBit u = true then r v + 1 else 0)
    by_cases z : b = u ∨ (l b).testBit u = true
    · have z2 : a = u ∨ (l a).testBit u = true := by
        right
        rw [hl a h.1 u]
        rcases z with z | z
        · rw [← z]
          exact Relation.TransGen.single h
        · exact cg_head h ((hl b hb u).mp z)
      rw [if_pos z, if_pos z2]
      omega
    · rw [if_neg z]
      omega
  · show r b + (if b = a ∨ (l b).testBit a = true then r b + 1 else 0) < r a + (if a = a ∨ (l a).testBit a = true then r b + 1 else 0)
    rw [if_pos (Or.inl rfl), if_neg]
    · omega
    · rintro (z | z)
      · exact huv z.symm
      · rw [hn] at z
        exact absurd z (by decide)
theorem cg_rmOB {c u v : Nat} {g : Nat → Nat} (hg : cg_Bd c g) : cg_Bd c (cg_u g u (cg_d (g u) (2 ^ v))) := by
  intro j hj
  by_cases e : j = u
  · subst e
    rw [cg_us]
    apply cg_small
    intro b hb
    rw [cg_dt, Bool.and_eq_true] at hb
    exact cg_big (hg j hj) hb.1
  · rw [cg_un e]
    exact hg j hj
theorem cg_rmOK {c u v : Nat} {g r : Nat → Nat} (hr : cg_Rk c g r) : cg_Rk c (cg_u g u (cg_d (g u) (2 ^ v))) r := by
  intro a b h
  refine hr a b ⟨h.1, ?_⟩
  have h2 := h.2
  by_cases e : a = u
  · subst e
    rw [cg_us, cg_dt, Bool.and_eq_true] at h2
    exact h2.1
  · rw [cg_un e] at h2
    exact h2
theorem cg_vaddOrder {u : SX} {v : SY} (I : cg_S u v) (v1 v2 : Int32) : wpX_addOrder (fun r u' => wpY_addOrder (fun r' v' => r' = r ∧ cg_S u' v') v v1 v2) u v1 v2 := by
  obtain ⟨c, g, l, nx, L, hs, gs, ny, ly, sl, rfl, rfl, hR, hx, hy, hL⟩ := I
  obtain ⟨q, hq1, hq2⟩ := cg_rk2 hR
  have hR' := hR
  obtain ⟨hc, hg, hl, r, hr⟩ := hR'
  have p9 := cg_p9 hc
  unfold wpX_addOrder wpY_addOrder
  dsimp only
  rcases cg_ix v1 hc with h | ⟨a, ha, rfl⟩
  · refine cg_tF c rfl h ?_
    refine cg_sF c rfl h ?_
    exact ⟨rfl, cg_Smk hR hx hy hL⟩
  · rcases cg_ix v2 hc with h | ⟨b, hb, rfl⟩
    · refine cg_tT c rfl hc ha ?_
      refine cg_tF c rfl h ?_
      refine cg_sT c rfl hc ha ?_
      refine cg_sF c rfl h ?_
      exact ⟨rfl, cg_Smk hR hx hy hL⟩
    · have hia : vp_in (nI a) 9 := vp_in_nI (by omega) (by omega)
      have hib : vp_in (nI b) 9 := vp_in_nI (by omega) (by omega)
      have hlB := cg_ClB hg hl
      have hl1 := hlB b hb
      have hg1 := hg a ha
      refine cg_tT c rfl hc ha ?_
      refine cg_tT c rfl hc hb ?_
      by_cases e : a = b
      · subst e
        refine br_t rfl ?_
        refine cg_sT c rfl hc ha ?_
        refine cg_sT c rfl hc ha ?_
        refine cg_yfl _ hc g q hg hq1 hq2 ny ly sl hy ?_
        intro L' l' h1 h2
        refine br_t rfl ?_
        exact ⟨rfl, cg_Smk hR hx hy hL⟩
      · have hne : ¬ nI a = nI b := fun z => e ((nI_eq (by omega) (by omega)).mp z)
        have xb : L (nI b).toNatClampNeg = nI (l b) := cg_at hL (by omega) hb
        have xa : nx (nI a).toNatClampNeg = nI (g a) := cg_at hx (by omega) ha
        have ya : ny (nI a).toNatClampNeg = nI (g a) := cg_at hy (by omega) ha
        have yl : ∀ (L' : Nat → Int32) (l' : Nat → Nat), (∀ j, j < c → L' j = nI (l' j)) → cg_Cl c g l' → L' (nI b).toNatClampNeg = nI (l b) := by
          intro L' l' h1 h2
          rw [cg_at h1 (by omega) hb, cg_Clu h2 hl b hb]
        refine br_f hne ⟨hib, ?_⟩
        refine cg_h (l b) a xb (by omega) (by omega) (fun hf => ?_) (fun ht => ?_)
        · refine ⟨hia, ?_⟩
          refine cg_h (g a) b xa (by omega) (by omega) (fun hf2 => ?_) (fun ht2 => ?_)
          · have e1 : upd nx (nI a).toNatClampNeg (nx (nI a).toNatClampNeg ||| ((1 : Int32) <<< (nI b &&& 31))) = upd nx (nI a).toNatClampNeg (nI (g a ||| 2 ^ b)) := by
              rw [xa, cg_one (by omega), cg_or]
            have e2 : upd ny (nI a).toNatClampNeg (ny (nI a).toNatClampNeg ||| ((1 : Int32) <<< (nI b &&& 31))) = upd ny (nI a).toNatClampNeg (nI (g a ||| 2 ^ b)) := by
              rw [ya, cg_one (by omega), cg_or]
            have x1 := cg_uh (x := nI (g a ||| 2 ^ b)) (u := a) hx (by omega) rfl
            have y1 := cg_uh (x := nI (g a ||| 2 ^ b)) (u := a) hy (by omega) rfl
            refine ⟨hia, hia, nm_r e1 ?_⟩
            refine cg_xfl _ hc (cg_u g a (g a ||| 2 ^ b)) (cg_adB hg ha hb) _ L hs gs x1 ?_
            intro L2 l2 k1 k2
            refine cg_sT c rfl hc ha ?_
            refine cg_sT c rfl hc hb ?_
            refine cg_yfl _ hc g q hg hq1 hq2 ny ly sl hy ?_
            intro L' l' h1 h2
            refine br_f hne ⟨hib, ?_⟩
            refine cg_i _ (l b) a (yl L' l' h1 h2) (by omega) (by omega) (fun _ => ?_) (fun ht => ?_)
            · refine ⟨hia, ?_⟩
              refine cg_i _ (g a) b ya (by omega) (by omega) (fun _ => ?_) (fun ht2 => ?_)
              · refine ⟨hia, hia, nm_r e2 ?_⟩
                exact ⟨rfl, cg_Smk ⟨hc, cg_adB hg ha hb, k2, _, cg_adK hg hl hr hb e hf⟩ x1 y1 k1⟩
              · rw [hf2] at ht2
                exact absurd ht2 (by decide)
            · rw [hf] at ht
              exact absurd ht (by decide)
          · refine cg_sT c rfl hc ha ?_
            refine cg_sT c rfl hc hb ?_
            refine cg_yfl _ hc g q hg hq1 hq2 ny ly sl hy ?_
            intro L' l' h1 h2
            refine br_f hne ⟨hib, ?_⟩
            refine cg_i _ (l b) a (yl L' l' h1 h2) (by omega) (by omega) (fun _ => ?_) (fun ht => ?_)
            · refine ⟨hia, ?_⟩
              refine cg_i _ (g a) b ya (by omega) (by omega) (fun hf2 => ?_) (fun _ => ?_)
              · rw [hf2] at ht2
                exact absurd ht2 (by decide)
              · exact ⟨rfl, cg_Smk hR hx hy hL⟩
            · rw [hf] at ht
              exact absurd ht (by decide)
        · refine cg_sT c rfl hc ha ?_
          refine cg_sT c rfl hc hb ?_
          refine cg_yfl _ hc g q hg hq1 hq2 ny ly sl hy ?_
          intro L' l' h1 h2
          refine br_f hne ⟨hib, ?_⟩
          refine cg_i _ (l b) a (yl L' l' h1 h2) (by omega) (by omega) (fun hf => ?_) (fun _ => ?_)
          · rw [hf] at ht
            exact absurd ht (by decide)
          · exact ⟨rfl, cg_Smk hR hx hy hL⟩
theorem cg_vremoveOrder {u : SX} {v : SY} (I : cg_S u v) (v1 v2 : Int32) : wpX_removeOrder (fun r u' => wpY_removeOrder (fun r' v' => r' = r ∧ cg_S u' v') v v1 v2) u v1 v2 := by
  obtain ⟨c, g, l, nx, L, hs, gs, ny, ly, sl, rfl, rfl, hR, hx, hy, hL⟩ := I
  have hR' := hR
  obtain ⟨hc, hg, hl, r, hr⟩ := hR'
  have p9 := cg_p9 hc
  unfold wpX_removeOrder wpY_removeOrder
  dsimp only
  rcases cg_ix v1 hc with h | ⟨a, ha, rfl⟩
  · refine cg_tF c rfl h ?_
    refine cg_sF c rfl h ?_
    exact ⟨rfl, cg_Smk hR hx hy hL⟩
  · rcases cg_ix v2 hc with h | ⟨b, hb, rfl⟩
    · refine cg_tT c rfl hc ha ?_
      refine cg_tF c rfl h ?_
      refine cg_sT c rfl hc ha ?_
      refine cg_sF c rfl h ?_
      exact ⟨rfl, cg_Smk hR hx hy hL⟩
    · have hia : vp_in (nI a) 9 := vp_in_nI (by omega) (by omega)
      have hg1 := hg a ha
      have xa : nx (nI a).toNatClampNeg = nI (g a) := cg_at hx (by omega) ha
      have ya : ny (nI a).toNatClampNeg = nI (g a) := cg_at hy (by omega) ha
      refine cg_tT c rfl hc ha ?_
      refine cg_tT c rfl hc hb ?_
      refine ⟨hia, ?_⟩
      refine cg_h (g a) b xa (by omega) (by omega) (fun hf => ?_) (fun ht => ?_)
      · refine cg_sT c rfl hc ha ?_
        refine cg_sT c rfl hc hb ?_
        refine ⟨hia, ?_⟩
        refine cg_i _ (g a) b ya (by omega) (by omega) (fun _ => ?_) (fun ht => ?_)
        · exact ⟨rfl, cg_Smk hR hx hy hL⟩
        · rw [hf] at ht
          exact absurd ht (by decide)
      · have e1 : upd nx (nI a).toNatClampNeg (nx (nI a).toNatClampNeg &&& (((1 : Int32) <<< (nI b &&& 31)) ^^^ (-1))) = upd nx (nI a).toNatClampNeg (nI (cg_d (g a) (2 ^ b))) := by
          rw [xa, cg_one (by omega), cg_nt]
        have e2 : upd ny (nI a).toNatClampNeg (ny (nI a).toNatClampNeg &&& (((1 : Int32) <<< (nI b &&& 31)) ^^^ (-1))) = upd ny (nI a).toNatClampNeg (nI (cg_d (g a) (2 ^ b))) := by
          rw [ya, cg_one (by omega), cg_nt]
        have x1 := cg_uh (x := nI (cg_d (g a) (2 ^ b))) (u := a) hx (by omega) rfl
        have y1 := cg_uh (x := nI (cg_d (g a) (2 ^ b))) (u := a) hy (by omega) rfl
        refine ⟨hia, hia, nm_r e1 ?_⟩
        refine cg_xfl _ hc (cg_u g a (cg_d (g a) (2 ^ b))) (cg_rmOB hg) _ L hs gs x1 ?_
        intro L2 l2 k1 k2
        refine cg_sT c rfl hc ha ?_
        refine cg_sT c rfl hc hb ?_
        refine ⟨hia, ?_⟩
        refine cg_i _ (g a) b ya (by omega) (by omega) (fun hf => ?_) (fun _ => ?_)
        · rw [hf] at ht
          exact absurd ht (by decide)
        · refine ⟨hia, hia, nm_r e2 ?_⟩
          exact ⟨rfl, cg_Smk ⟨hc, cg_rmOB hg, k2, r, cg_rmOK hr⟩ x1 y1 k1⟩
theorem cg_vafter {u : SX} {v : SY} (I : cg_S u v) (v1 v2 : Int32) : wpX_after (fun r => wpY_after (fun r' v' => r' = r ∧ cg_S u v') v v1 v2) u v1 v2 := by
  obtain ⟨c, g, l, nx, L, hs, gs, ny, ly, sl, rfl, rfl, hR, hx, hy, hL⟩ := I
  obtain ⟨q, hq1, hq2⟩ := cg_rk2 hR
  have hR' := hR
  obtain ⟨hc, hg, hl, r, hr⟩ := hR'
  have p9 := cg_p9 hc
  unfold wpX_after wpY_after
  dsimp only
  rcases cg_ix v1 hc with h | ⟨a, ha, rfl⟩
  · refine cg_tF c rfl h ?_
    refine cg_sF c rfl h ?_
    exact ⟨rfl, cg_Smk hR hx hy hL⟩
  · rcases cg_ix v2 hc with h | ⟨b, hb, rfl⟩
    · refine cg_tT c rfl hc ha ?_
      refine cg_tF c rfl h ?_
      refine cg_sT c rfl hc ha ?_
      refine cg_sF c rfl h ?_
      exact ⟨rfl, cg_Smk hR hx hy hL⟩
    · have hia : vp_in (nI a) 9 := vp_in_nI (by omega) (by omega)
      have hl1 := cg_ClB hg hl a ha
      have xa : L (nI a).toNatClampNeg = nI (l a) := cg_at hL (by omega) ha
      have yl : ∀ (L' : Nat → Int32) (l' : Nat → Nat), (∀ j, j < c → L' j = nI (l' j)) → cg_Cl c g l' → L' (nI a).toNatClampNeg = nI (l a) := by
        intro L' l' h1 h2
        rw [cg_at h1 (by omega) ha, cg_Clu h2 hl a ha]
      refine cg_tT c rfl hc ha ?_
      refine cg_tT c rfl hc hb ?_
      refine ⟨hia, ?_⟩
      refine cg_h (l a) b xa (by omega) (by omega) (fun hf => ?_) (fun ht => ?_)
      · refine cg_sT c rfl hc ha ?_
        refine cg_sT c rfl hc hb ?_
        refine cg_yfl _ hc g q hg hq1 hq2 ny ly sl hy ?_
        intro L' l' h1 h2
        refine ⟨hia, ?_⟩
        refine cg_ig _ (l a) b (yl L' l' h1 h2) (by omega) (by omega) (fun _ => ?_) (fun ht => ?_)
        · exact ⟨rfl, rfl, cg_Smk hR hx hy hL⟩
        · rw [hf] at ht
          exact absurd ht (by decide)
      · refine cg_sT c rfl hc ha ?_
        refine cg_sT c rfl hc hb ?_
        refine cg_yfl _ hc g q hg hq1 hq2 ny ly sl hy ?_
        intro L' l' h1 h2
        refine ⟨hia, ?_⟩
        refine cg_ig _ (l a) b (yl L' l' h1 h2) (by omega) (by omega) (fun hf => ?_) (fun _ => ?_)
        · rw [hf] at ht
          exact absurd ht (by decide)
        · exact ⟨rfl, rfl, cg_Smk hR hx hy hL⟩
