/-! the walks over the worlds: the class and the reference in lockstep -/
theorem ln_wt {F C : Nat} (eo no lo so en ta hd la : Nat → Int32) (hF : F < 10) (x : Int32) : ∃ r : Int32, (∀ (pr ye : Nat → Int32) (post : Int32 → Prop), post r → wpX_weightOf post (nI F, nI C, eo, no, lo, so, en, pr, ye) x) ∧ (∀ (kn : Int32) (mk yy : Nat → Int32) (post : Int32 → Prop), post r → wpY_weight post (nI F, nI C, kn, ta, hd, la, no, lo, so, en, mk, yy) x) := by
  have L : ∀ (d i : Nat) (p : Int32), i + d = F → ∃ r : Int32, (∀ (pr ye : Nat → Int32) (post : Int32 → Prop), post r → wX_weightOf_4 post x (nI F) (nI C) eo no lo so en pr ye (d + 1) p (nI i)) ∧ (∀ (kn : Int32) (mk yy : Nat → Int32) (post : Int32 → Prop), post r → wY_weight_4 post x (nI F) (nI C) kn ta hd la no lo so en mk yy (d + 1) p (nI i)) := by
    intro d
    induction d with
    | zero =>
      intro i p h
      have hx : nI F ≤ nI i := nI_le (by omega) (by omega)
      exact ⟨p, fun pr ye post hp => br_t hx hp, fun kn mk yy post hp => br_t hx hp⟩
    | succ d ih =>
      intro i p h
      have hn : ¬ nI F ≤ nI i := nI_ge (by omega) (by omega)
      have hi : vp_in (nI i) 9 := vp_in_nI (by omega) (by omega)
      by_cases z : ((x >>> (nI i &&& 31)) &&& 1) = 0
      · obtain ⟨r, hX, hY⟩ := ih (i + 1) (p * (4 - no (nI i).toNatClampNeg)) (by omega)
        exact ⟨r, fun pr ye post hp => br_f hn (br_t z (br_t rfl ⟨hi, nm_e (nm_r (nI_1 i) (hX pr ye post hp))⟩)), fun kn mk yy post hp => br_f hn (br_t z ⟨hi, nm_e (nm_r (nI_1 i) (hY kn mk yy post hp))⟩)⟩
      · obtain ⟨r, hX, hY⟩ := ih (i + 1) (p * no (nI i).toNatClampNeg) (by omega)
        exact ⟨r, fun pr ye post hp => br_f hn (br_f z (br_f (by decide) ⟨hi, nm_e (nm_r (nI_1 i) (hX pr ye post hp))⟩)), fun kn mk yy post hp => br_f hn (br_f z ⟨hi, nm_e (nm_r (nI_1 i) (hY kn mk yy post hp))⟩)⟩
  obtain ⟨r, hX, hY⟩ := L F 0 1 (by omega)
  exact ⟨r, fun pr ye post hp => ⟨_, hX pr ye post hp⟩, fun kn mk yy post hp => ⟨_, hY kn mk yy post hp⟩⟩
theorem ln_sum {F C : Nat} (eo no lo so en pr ye ta hd la : Nat → Int32) (hF : F < 10) (m : Int32) : ∃ r : Int32, (∀ post : Int32 → Prop, post r → wpX_weightOfYes post (nI F, nI C, eo, no, lo, so, en, pr, ye) m) ∧ (∀ (kn : Int32) (mk yy : Nat → Int32) (post : Int32 → SY → Prop), (∀ w, w < 2 ^ F → ye w = yy w) → post r (nI F, nI C, kn, ta, hd, la, no, lo, so, en, mk, yy) → wY_sum_8 post m (nI F) (nI C) kn ta hd la no lo so en mk yy (2 ^ F + 1) 0 0) := by
  have h5 := ln_512 hF
  have hW := ln_pow F hF
  have L : ∀ (d w : Nat) (s : Int32), w + d = 2 ^ F → ∃ r : Int32, (∀ post : Int32 → Prop, post r → wX_weightOfYes_12 post m (nI (2 ^ F)) (nI F) (nI C) eo no lo so en pr ye (d + 1) s (nI w)) ∧ (∀ (kn : Int32) (mk yy : Nat → Int32) (post : Int32 → SY → Prop), (∀ w, w < 2 ^ F → ye w = yy w) → post r (nI F, nI C, kn, ta, hd, la, no, lo, so, en, mk, yy) → wY_sum_8 post m (nI F) (nI C) kn ta hd la no lo so en mk yy (d + 1) s (nI w)) := by
    intro d
    induction d with
    | zero =>
      intro w s h
      have hx : nI (2 ^ F) ≤ nI w := nI_le (by omega) (by omega)
      have hy : (1 : Int32) <<< (nI F &&& 31) ≤ nI w := by
        rw [hW]
        exact hx
      exact ⟨s, fun post hp => br_t hx hp, fun kn mk yy post hA hp => br_t hy hp⟩
    | succ d ih =>
      intro w s h
      have hw : w < 2 ^ F := by omega
      have hx : ¬ nI (2 ^ F) ≤ nI w := nI_ge (by omega) (by omega)
      have hy : ¬ (1 : Int32) <<< (nI F &&& 31) ≤ nI w := by
        rw [hW]
        exact hx
      have hi : vp_in (nI w) 512 := vp_in_nI (by omega) (by omega)
      have ec : (nI w).toNatClampNeg = w := nI_clamp (by omega)
      by_cases z : ye w = 0
      · obtain ⟨r, hX, hY⟩ := ih (w + 1) s (by omega)
        exact ⟨r, fun post hp => br_f hx ⟨hi, br_t (by rw [ec]; exact z) (nm_r (nI_1 w) (hX post hp))⟩, fun kn mk yy post hA hp => br_f hy ⟨hi, br_t (by rw [ec, ← hA w hw]; exact z) (nm_r (nI_1 w) (hY kn mk yy post hA hp))⟩⟩
      · by_cases q : (nI w &&& m) = m
        · obtain ⟨r1, wX, wY⟩ := ln_wt (C := C) eo no lo so en ta hd la hF (nI w)
          obtain ⟨r, hX, hY⟩ := ih (w + 1) (s + r1) (by omega)
          exact ⟨r, fun post hp => br_f hx ⟨hi, br_f (by rw [ec]; exact z) (br_t q (wX pr ye _ (nm_e (nm_r (nI_1 w) (hX post hp)))))⟩, fun kn mk yy post hA hp => br_f hy ⟨hi, br_f (by rw [ec, ← hA w hw]; exact z) (br_t q (wY kn mk yy _ (nm_e (nm_r (nI_1 w) (hY kn mk yy post hA hp)))))⟩⟩
        · obtain ⟨r, hX, hY⟩ := ih (w + 1) s (by omega)
          exact ⟨r, fun post hp => br_f hx ⟨hi, br_f (by rw [ec]; exact z) (br_f q (nm_r (nI_1 w) (hX post hp)))⟩, fun kn mk yy post hA hp => br_f hy ⟨hi, br_f (by rw [ec, ← hA w hw]; exact z) (br_f q (nm_r (nI_1 w) (hY kn mk yy post hA hp)))⟩⟩
  obtain ⟨r, hX, hY⟩ := L (2 ^ F) 0 0 (by omega)
  exact ⟨r, fun post hp => nm_r hW ⟨_, hX post hp⟩, fun kn mk yy post hA hp => hY kn mk yy post hA hp⟩
theorem ln_mt {F C f : Nat} (eo no lo so en pr ye ta hd la : Nat → Int32) (hF : F < 10) (hf : f < F) : ∃ r : Int32, (∀ post : Int32 → SX → Prop, post r (nI F, nI C, eo, no, lo, so, en, pr, ye) → wX_matters_28 post (nI (2 ^ F)) ((1 : Int32) <<< (nI f &&& 31)) (nI F) (nI C) eo no lo so en pr ye (2 ^ F + 1) 0) ∧ (∀ (kn : Int32) (mk yy : Nat → Int32) (post : Int32 → SY → Prop), (∀ w, w < 2 ^ F → ye w = yy w) → post r (nI F, nI C, kn, ta, hd, la, no, lo, so, en, mk, yy) → wY_matters_16 post (nI f) (nI F) (nI C) kn ta hd la no lo so en mk yy (2 ^ F + 1) 0) := by
  have h5 := ln_512 hF
  have hW := ln_pow F hF
  have L : ∀ (d w : Nat), w + d = 2 ^ F → ∃ r : Int32, (∀ post : Int32 → SX → Prop, post r (nI F, nI C, eo, no, lo, so, en, pr, ye) → wX_matters_28 post (nI (2 ^ F)) ((1 : Int32) <<< (nI f &&& 31)) (nI F) (nI C) eo no lo so en pr ye (d + 1) (nI w)) ∧ (∀ (kn : Int32) (mk yy : Nat → Int32) (post : Int32 → SY → Prop), (∀ w, w < 2 ^ F → ye w = yy w) → post r (nI F, nI C, kn, ta, hd, la, no, lo, so, en, mk, yy) → wY_matters_16 post (nI f) (nI F) (nI C) kn ta hd la no lo so en mk yy (d + 1) (nI w)) := by
    intro d
    induction d with
    | zero =>
      intro w h
      have hx : nI (2 ^ F) ≤ nI w := nI_le (by omega) (by omega)
      have hy : (1 : Int32) <<< (nI F &&& 31) ≤ nI w := by
        rw [hW]
        exact hx
      exact ⟨0, fun post hp => br_t hx hp, fun kn mk yy post hA hp => br_t hy hp⟩
    | succ d ih =>
      intro w h
      have hw : w < 2 ^ F := by omega
      have hx : ¬ nI (2 ^ F) ≤ nI w := nI_ge (by omega) (by omega)
      have hy : ¬ (1 : Int32) <<< (nI F &&& 31) ≤ nI w := by
        rw [hW]
        exact hx
      have hi : vp_in (nI w) 512 := vp_in_nI (by omega) (by omega)
      have ec : (nI w).toNatClampNeg = w := nI_clamp (by omega)
      obtain ⟨x, hx2, ex⟩ := ln_xor hF hw hf
      have hi2 : vp_in (nI w ^^^ ((1 : Int32) <<< (nI f &&& 31))) 512 := by
        rw [ex]
        exact vp_in_nI (by omega) (by omega)
      have ec2 : (nI w ^^^ ((1 : Int32) <<< (nI f &&& 31))).toNatClampNeg = x := by
        rw [ex]
        exact nI_clamp (by omega)
      by_cases z : ye w = ye x
      · obtain ⟨r, hX, hY⟩ := ih (w + 1) (by omega)
        exact ⟨r, fun post hp => br_f hx ⟨hi, hi2, br_t (by rw [ec, ec2]; exact z) (nm_r (nI_1 w) (hX post hp))⟩, fun kn mk yy post hA hp => br_f hy ⟨hi, hi2, br_t (by rw [ec, ec2, ← hA w hw, ← hA x hx2]; exact z) (nm_r (nI_1 w) (hY kn mk yy post hA hp))⟩⟩
      · exact ⟨1, fun post hp => br_f hx ⟨hi, hi2, br_f (by rw [ec, ec2]; exact z) hp⟩, fun kn mk yy post hA hp => br_f hy ⟨hi, hi2, br_f (by rw [ec, ec2, ← hA w hw, ← hA x hx2]; exact z) hp⟩⟩
  exact L (2 ^ F) 0 (by omega)
theorem ln_sz {F C : Nat} (eo no lo so en ta hd la : Nat → Int32) (hF : F < 10) (x : Int32) : ∃ r : Nat, r < 10 ∧ (∀ (pr ye : Nat → Int32) (post : Int32 → Prop), post (nI r) → wpX_sizeOf post (nI F, nI C, eo, no, lo, so, en, pr, ye) x) ∧ (∀ (kn : Int32) (mk yy : Nat → Int32) (post : Int32 → Prop), post (nI r) → wpY_size post (nI F, nI C, kn, ta, hd, la, no, lo, so, en, mk, yy) x) := by
  have L : ∀ (d i s : Nat), i + d = F → ∃ r : Nat, r ≤ s + d ∧ (∀ (pr ye : Nat → Int32) (post : Int32 → Prop), post (nI r) → wX_sizeOf_4 post x (nI F) (nI C) eo no lo so en pr ye (d + 1) (nI s) (nI i)) ∧ (∀ (kn : Int32) (mk yy : Nat → Int32) (post : Int32 → Prop), post (nI r) → wY_size_4 post x (nI F) (nI C) kn ta hd la no lo so en mk yy (d + 1) (nI s) (nI i)) := by
    intro d
    induction d with
    | zero =>
      intro i s h
      have hx : nI F ≤ nI i := nI_le (by omega) (by omega)
      exact ⟨s, by omega, fun pr ye post hp => br_t hx hp, fun kn mk yy post hp => br_t hx hp⟩
    | succ d ih =>
      intro i s h
      have hn : ¬ nI F ≤ nI i := nI_ge (by omega) (by omega)
      by_cases z : ((x >>> (nI i &&& 31)) &&& 1) = 0
      · obtain ⟨r, hr, hX, hY⟩ := ih (i + 1) s (by omega)
        have e : nI s + ((x >>> (nI i &&& 31)) &&& 1) = nI s := by rw [z, Int32.add_zero]
        exact ⟨r, by omega, fun pr ye post hp => br_f hn (br_t z (br_t rfl (nm_r (nI_1 i) (hX pr ye post hp)))), fun kn mk yy post hp => br_f hn (nm_r e (nm_r (nI_1 i) (hY kn mk yy post hp)))⟩
      · obtain ⟨r, hr, hX, hY⟩ := ih (i + 1) (s + 1) (by omega)
        have o : ((x >>> (nI i &&& 31)) &&& 1) = 1 := (ln_b01 _).resolve_left z
        have e : nI s + ((x >>> (nI i &&& 31)) &&& 1) = nI (s + 1) := by rw [o, nI_1]
        exact ⟨r, by omega, fun pr ye post hp => br_f hn (br_f z (br_f (by decide) (nm_r (nI_1 s) (nm_r (nI_1 i) (hX pr ye post hp))))), fun kn mk yy post hp => br_f hn (nm_r e (nm_r (nI_1 i) (hY kn mk yy post hp)))⟩
  obtain ⟨r, hr, hX, hY⟩ := L F 0 0 (by omega)
  exact ⟨r, by omega, fun pr ye post hp => ⟨_, hX pr ye post hp⟩, fun kn mk yy post hp => ⟨_, hY kn mk yy post hp⟩⟩
theorem ln_few {F C : Nat} (eo no lo so en pr ye ta hd la : Nat → Int32) (hF : F < 10) : ∃ r : Int32, (∀ post : Int32 → SX → Prop, post r (nI F, nI C, eo, no, lo, so, en, pr, ye) → wX_fewest_16 post (nI (2 ^ F)) (nI F) (nI C) eo no lo so en pr ye (2 ^ F + 1) (-4) 0) ∧ (∀ (kn : Int32) (mk yy : Nat → Int32) (post : Int32 → SY → Prop), (∀ w, w < 2 ^ F → ye w = yy w) → post r (nI F, nI C, kn, ta, hd, la, no, lo, so, en, mk, yy) → wY_fewest_9 post (nI F) (nI C) kn ta hd la no lo so en mk yy (2 ^ F + 1) (-4) 0) := by
  have h5 := ln_512 hF
  have hW := ln_pow F hF
  have L : ∀ (d w : Nat) (l : Int32), w + d = 2 ^ F → (l = -4 ∨ ∃ s : Nat, s < 10 ∧ l = nI s) → ∃ r : Int32, (∀ post : Int32 → SX → Prop, post r (nI F, nI C, eo, no, lo, so, en, pr, ye) → wX_fewest_16 post (nI (2 ^ F)) (nI F) (nI C) eo no lo so en pr ye (d + 1) l (nI w)) ∧ (∀ (kn : Int32) (mk yy : Nat → Int32) (post : Int32 → SY → Prop), (∀ w, w < 2 ^ F → ye w = yy w) → post r (nI F, nI C, kn, ta, hd, la, no, lo, so, en, mk, yy) → wY_fewest_9 post (nI F) (nI C) kn ta hd la no lo so en mk yy (d + 1) l (nI w)) := by
    intro d
    induction d with
    | zero =>
      intro w l h hl
      have hx : nI (2 ^ F) ≤ nI w := nI_le (by omega) (by omega)
      have hy : (1 : Int32) <<< (nI F &&& 31) ≤ nI w := by
        rw [hW]
        exact hx
      exact ⟨l, fun post hp => br_t hx hp, fun kn mk yy post hA hp => br_t hy hp⟩
    | succ d ih =>
      intro w l h hl
      have hw : w < 2 ^ F := by omega
      have hx : ¬ nI (2 ^ F) ≤ nI w := nI_ge (by omega) (by omega)
      have hy : ¬ (1 : Int32) <<< (nI F &&& 31) ≤ nI w := by
        rw [hW]
        exact hx
      have hi : vp_in (nI w) 512 := vp_in_nI (by omega) (by omega)
      have ec : (nI w).toNatClampNeg = w := nI_clamp (by omega)
      obtain ⟨t, ht, tX, tY⟩ := ln_sz (C := C) eo no lo so en ta hd la hF (nI w)
      by_cases z : ye w = 0
      · obtain ⟨r, hX, hY⟩ := ih (w + 1) l (by omega) hl
        exact ⟨r, fun post hp => br_f hx ⟨hi, br_t (by rw [ec]; exact z) (nm_r (nI_1 w) (hX post hp))⟩, fun kn mk yy post hA hp => br_f hy (tY kn mk yy _ ⟨hi, br_t (by rw [ec, ← hA w hw]; exact z) (nm_r (nI_1 w) (hY kn mk yy post hA hp))⟩)⟩
      · rcases hl with rfl | ⟨s, hs, rfl⟩
        · obtain ⟨r, hX, hY⟩ := ih (w + 1) (nI t) (by omega) (Or.inr ⟨t, ht, rfl⟩)
          exact ⟨r, fun post hp => br_f hx ⟨hi, br_f (by rw [ec]; exact z) (tX pr ye _ (br_t rfl (nm_r (nI_1 w) (hX post hp))))⟩, fun kn mk yy post hA hp => br_f hy (tY kn mk yy _ ⟨hi, br_f (by rw [ec, ← hA w hw]; exact z) (br_t (by decide) (nm_r (nI_1 w) (hY kn mk yy post hA hp)))⟩)⟩
        · have n0 : ¬ nI s < 0 := nI_pos (by omega)
          have n4 : ¬ nI s = -4 := fun e => n0 (by rw [e]; decide)
          by_cases q : nI s ≤ nI t
          · obtain ⟨r, hX, hY⟩ := ih (w + 1) (nI s) (by omega) (Or.inr ⟨s, hs, rfl⟩)
            exact ⟨r, fun post hp => br_f hx ⟨hi, br_f (by rw [ec]; exact z) (tX pr ye _ (br_f n4 (br_t q (nm_r (nI_1 w) (hX post hp)))))⟩, fun kn mk yy post hA hp => br_f hy (tY kn mk yy _ ⟨hi, br_f (by rw [ec, ← hA w hw]; exact z) (br_f n0 (br_t q (nm_r (nI_1 w) (hY kn mk yy post hA hp))))⟩)⟩
          · obtain ⟨r, hX, hY⟩ := ih (w + 1) (nI t) (by omega) (Or.inr ⟨t, ht, rfl⟩)
            exact ⟨r, fun post hp => br_f hx ⟨hi, br_f (by rw [ec]; exact z) (tX pr ye _ (br_f n4 (br_f q (nm_r (nI_1 w) (hX post hp)))))⟩, fun kn mk yy post hA hp => br_f hy (tY kn mk yy _ ⟨hi, br_f (by rw [ec, ← hA w hw]; exact z) (br_f n0 (br_f q (nm_r (nI_1 w) (hY kn mk yy post hA hp))))⟩)⟩
  exact L (2 ^ F) 0 (-4) (by omega) (Or.inl rfl)
/-- a world that says yes: no fact of it can be left out, or one can; both sides see the same -/
theorem ln_rs {F C w : Nat} (eo no lo so en pr ye ta hd la : Nat → Int32) (hF : F < 10) (hw : w < 2 ^ F) :
    ((∀ post : Int32 → Prop, post 1 → wX_isReason_13 post (nI w) (nI F) (nI C) eo no lo so en pr ye (F + 1) 0) ∧ (∀ (kn : Int32) (mk yy : Nat → Int32) (post : Int32 → Prop), (∀ w, w < 2 ^ F → ye w = yy w) → post 0 → wY_spare_2 post (nI w) (nI F) (nI C) kn ta hd la no lo so en mk yy (F + 1) 0)) ∨
    ((∀ post : Int32 → Prop, post 0 → wX_isReason_13 post (nI w) (nI F) (nI C) eo no lo so en pr ye (F + 1) 0) ∧ (∀ (kn : Int32) (mk yy : Nat → Int32) (post : Int32 → Prop), (∀ w, w < 2 ^ F → ye w = yy w) → post 1 → wY_spare_2 post (nI w) (nI F) (nI C) kn ta hd la no lo so en mk yy (F + 1) 0)) := by
  have h5 := ln_512 hF
  have L : ∀ d i : Nat, i + d = F → ((∀ post : Int32 → Prop, post 1 → wX_isReason_13 post (nI w) (nI F) (nI C) eo no lo so en pr ye (d + 1) (nI i)) ∧ (∀ (kn : Int32) (mk yy : Nat → Int32) (post : Int32 → Prop), (∀ w, w < 2 ^ F → ye w = yy w) → post 0 → wY_spare_2 post (nI w) (nI F) (nI C) kn ta hd la no lo so en mk yy (d + 1) (nI i))) ∨
      ((∀ post : Int32 → Prop, post 0 → wX_isReason_13 post (nI w) (nI F) (nI C) eo no lo so en pr ye (d + 1) (nI i)) ∧ (∀ (kn : Int32) (mk yy : Nat → Int32) (post : Int32 → Prop), (∀ w, w < 2 ^ F → ye w = yy w) → post 1 → wY_spare_2 post (nI w) (nI F) (nI C) kn ta hd la no lo so en mk yy (d + 1) (nI i))) := by
    intro d
    induction d with
    | zero =>
      intro i h
      have hx : nI F ≤ nI i := nI_le (by omega) (by omega)
      exact Or.inl ⟨fun post hp => br_t hx hp, fun kn mk yy post hA hp => br_t hx hp⟩
    | succ d ih =>
      intro i h
      have hn : ¬ nI F ≤ nI i := nI_ge (by omega) (by omega)
      by_cases z : ((nI w >>> (nI i &&& 31)) &&& 1) = 0
      · rcases ih (i + 1) (by omega) with ⟨hX, hY⟩ | ⟨hX, hY⟩
        · exact Or.inl ⟨fun post hp => br_f hn (br_t z (br_t rfl (nm_r (nI_1 i) (hX post hp)))), fun kn mk yy post hA hp => br_f hn (br_t z (nm_r (nI_1 i) (hY kn mk yy post hA hp)))⟩
        · exact Or.inr ⟨fun post hp => br_f hn (br_t z (br_t rfl (nm_r (nI_1 i) (hX post hp)))), fun kn mk yy post hA hp => br_f hn (br_t z (nm_r (nI_1 i) (hY kn mk yy post hA hp)))⟩
      · obtain ⟨x, hx2, ex⟩ := ln_xor hF hw (show i < F by omega)
        have hi2 : vp_in (nI w ^^^ ((1 : Int32) <<< (nI i &&& 31))) 512 := by
          rw [ex]
          exact vp_in_nI (by omega) (by omega)
        have ec2 : (nI w ^^^ ((1 : Int32) <<< (nI i &&& 31))).toNatClampNeg = x := by
          rw [ex]
          exact nI_clamp (by omega)
        by_cases q : ye x = 0
        · rcases ih (i + 1) (by omega) with ⟨hX, hY⟩ | ⟨hX, hY⟩
          · exact Or.inl ⟨fun post hp => br_f hn (br_f z (br_f (by decide) ⟨hi2, br_t (by rw [ec2]; exact q) (nm_r (nI_1 i) (hX post hp))⟩)), fun kn mk yy post hA hp => br_f hn (br_f z ⟨hi2, br_t (by rw [ec2, ← hA x hx2]; exact q) (nm_r (nI_1 i) (hY kn mk yy post hA hp))⟩)⟩
          · exact Or.inr ⟨fun post hp => br_f hn (br_f z (br_f (by decide) ⟨hi2, br_t (by rw [ec2]; exact q) (nm_r (nI_1 i) (hX post hp))⟩)), fun kn mk yy post hA hp => br_f hn (br_f z ⟨hi2, br_t (by rw [ec2, ← hA x hx2]; exact q) (nm_r (nI_1 i) (hY kn mk yy post hA hp))⟩)⟩
        · exact Or.inr ⟨fun post hp => br_f hn (br_f z (br_f (by decide) ⟨hi2, br_f (by rw [ec2]; exact q) hp⟩)), fun kn mk yy post hA hp => br_f hn (br_f z ⟨hi2, br_f (by rw [ec2, ← hA x hx2]; exact q) hp⟩)⟩
  exact L F 0 (by omega)
theorem ln_rea {F C : Nat} (eo no lo so en pr ye ta hd la : Nat → Int32) (hF : F < 10) : ∃ r : Int32, (∀ post : Int32 → SX → Prop, post r (nI F, nI C, eo, no, lo, so, en, pr, ye) → wX_reasons_15 post (nI (2 ^ F)) (nI F) (nI C) eo no lo so en pr ye (2 ^ F + 1) 0 0) ∧ (∀ (kn : Int32) (mk yy : Nat → Int32) (post : Int32 → SY → Prop), (∀ w, w < 2 ^ F → ye w = yy w) → post r (nI F, nI C, kn, ta, hd, la, no, lo, so, en, mk, yy) → wY_reasons_8 post (nI F) (nI C) kn ta hd la no lo so en mk yy (2 ^ F + 1) 0 0) := by
  have h5 := ln_512 hF
  have hW := ln_pow F hF
  have L : ∀ (d w : Nat) (s : Int32), w + d = 2 ^ F → ∃ r : Int32, (∀ post : Int32 → SX → Prop, post r (nI F, nI C, eo, no, lo, so, en, pr, ye) → wX_reasons_15 post (nI (2 ^ F)) (nI F) (nI C) eo no lo so en pr ye (d + 1) s (nI w)) ∧ (∀ (kn : Int32) (mk yy : Nat → Int32) (post : Int32 → SY → Prop), (∀ w, w < 2 ^ F → ye w = yy w) → post r (nI F, nI C, kn, ta, hd, la, no, lo, so, en, mk, yy) → wY_reasons_8 post (nI F) (nI C) kn ta hd la no lo so en mk yy (d + 1) s (nI w)) := by
    intro d
    induction d with
    | zero =>
      intro w s h
      have hx : nI (2 ^ F) ≤ nI w := nI_le (by omega) (by omega)
      have hy : (1 : Int32) <<< (nI F &&& 31) ≤ nI w := by
        rw [hW]
        exact hx
      exact ⟨s, fun post hp => br_t hx hp, fun kn mk yy post hA hp => br_t hy hp⟩
    | succ d ih =>
      intro w s h
      have hw : w < 2 ^ F := by omega
      have hx : ¬ nI (2 ^ F) ≤ nI w := nI_ge (by omega) (by omega)
      have hy : ¬ (1 : Int32) <<< (nI F &&& 31) ≤ nI w := by
        rw [hW]
        exact hx
      have hi : vp_in (nI w) 512 := vp_in_nI (by omega) (by omega)
      have ec : (nI w).toNatClampNeg = w := nI_clamp (by omega)
      by_cases z : ye w = 0
      · obtain ⟨r, hX, hY⟩ := ih (w + 1) s (by omega)
        have rX : ∀ post : Int32 → Prop, post 0 → wpX_isReason post (nI F, nI C, eo, no, lo, so, en, pr, ye) (nI w) := fun post hp => ⟨hi, br_t (by rw [ec]; exact z) hp⟩
        exact ⟨r, fun post hp => br_f hx (rX _ (br_t rfl (nm_r (nI_1 w) (hX post hp)))), fun kn mk yy post hA hp => br_f hy ⟨hi, br_t (by rw [ec, ← hA w hw]; exact z) (nm_r (nI_1 w) (hY kn mk yy post hA hp))⟩⟩
      · rcases ln_rs (C := C) eo no lo so en pr ye ta hd la hF hw with ⟨aX, aY⟩ | ⟨aX, aY⟩
        · obtain ⟨r, hX, hY⟩ := ih (w + 1) (s + 1) (by omega)
          have rX : ∀ post : Int32 → Prop, post 1 → wpX_isReason post (nI F, nI C, eo, no, lo, so, en, pr, ye) (nI w) := fun post hp => ⟨hi, br_f (by rw [ec]; exact z) ⟨_, aX post hp⟩⟩
          exact ⟨r, fun post hp => br_f hx (rX _ (br_f (by decide) (nm_e (nm_r (nI_1 w) (hX post hp))))), fun kn mk yy post hA hp => br_f hy ⟨hi, br_f (by rw [ec, ← hA w hw]; exact z) ⟨_, aY kn mk yy _ hA (br_t rfl (nm_e (nm_r (nI_1 w) (hY kn mk yy post hA hp))))⟩⟩⟩
        · obtain ⟨r, hX, hY⟩ := ih (w + 1) s (by omega)
          have rX : ∀ post : Int32 → Prop, post 0 → wpX_isReason post (nI F, nI C, eo, no, lo, so, en, pr, ye) (nI w) := fun post hp => ⟨hi, br_f (by rw [ec]; exact z) ⟨_, aX post hp⟩⟩
          exact ⟨r, fun post hp => br_f hx (rX _ (br_t rfl (nm_r (nI_1 w) (hX post hp)))), fun kn mk yy post hA hp => br_f hy ⟨hi, br_f (by rw [ec, ← hA w hw]; exact z) ⟨_, aY kn mk yy _ hA (br_f (by decide) (nm_r (nI_1 w) (hY kn mk yy post hA hp)))⟩⟩⟩
  exact L (2 ^ F) 0 0 (by omega)
