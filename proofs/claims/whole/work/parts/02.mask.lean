/-! the masks of facts: both sides -/
theorem ln_r6 {a : Nat} (h : a < 216) : nI a - nI a / 6 * 6 = nI (a % 6) := pk_rem (a := a) (d := 6) (by omega) (by decide) (by decide)
theorem ln_q6 {a : Nat} (h : a < 216) : nI a / 6 = nI (a / 6) := pk_div (a := a) (d := 6) (by omega) (by decide) (by decide)
theorem ln_q36 {a : Nat} (h : a < 216) : nI a / 36 = nI (a / 36) := pk_div (a := a) (d := 36) (by omega) (by decide) (by decide)
theorem ln_s8 (t : Nat) : nI (8 + t) - 8 = nI t := by
  have h := pk_sub (a := 8 + t) (b := 8) (by omega)
  rw [Nat.add_sub_cancel_left] at h
  exact h
theorem ln_nX {post : Int32 → Prop} {x : Int32} {ch : Nat} (hx : ln_tm x) (hc : ch < 216) (hp : post (nI (ln_d x ch))) : wpX_nodeOf post x (nI ch) := by
  rcases hx with rfl | rfl | rfl | ⟨t, ht, rfl⟩
  · rw [ln_d0] at hp
    exact br_t (by decide) ⟨1, br_t (by decide) ⟨by decide, by rw [ln_r6 hc]; exact hp⟩⟩
  · rw [ln_d1] at hp
    exact br_t (by decide) ⟨2, br_f (by decide) ⟨by decide, nm_r (ln_q6 hc) (nm_r (show (0 : Int32) + 1 = 1 by decide) (br_t (by decide) ⟨by decide, by rw [ln_r6 (by omega)]; exact hp⟩))⟩⟩
  · rw [ln_d2] at hp
    have e : ch / 6 / 6 % 6 = ch / 36 := by omega
    exact br_t (by decide) ⟨3, br_f (by decide) ⟨by decide, nm_r (ln_q6 hc) (nm_r (show (0 : Int32) + 1 = 1 by decide) (br_f (by decide) ⟨by decide, nm_r (ln_q6 (a := ch / 6) (by omega)) (nm_r (show (1 : Int32) + 1 = 2 by decide) (br_t (by decide) ⟨by decide, by rw [ln_r6 (by omega), e]; exact hp⟩))⟩))⟩⟩
  · rw [ln_d8 ht] at hp
    exact br_f (nI_nlt (a := 8 + t) (b := 8) (by omega) (by omega)) (by rw [ln_s8]; exact hp)
theorem ln_nY {post : Int32 → Prop} {x f1 f2 kn : Int32} {ch : Nat} {ta hd la no lo so en mk yy : Nat → Int32} (hx : ln_tm x) (hc : ch < 216) (hp : post (nI (ln_d x ch))) : wpY_node post (f1, f2, kn, ta, hd, la, no, lo, so, en, mk, yy) x (nI ch) := by
  rcases hx with rfl | rfl | rfl | ⟨t, ht, rfl⟩
  · rw [ln_d0] at hp
    exact br_t (by decide) (br_t rfl ⟨by decide, by rw [ln_r6 hc]; exact hp⟩)
  · rw [ln_d1] at hp
    exact br_t (by decide) (br_f (by decide) (br_t rfl ⟨by decide, by decide, by rw [ln_q6 hc, ln_r6 (by omega)]; exact hp⟩))
  · rw [ln_d2] at hp
    exact br_t (by decide) (br_f (by decide) (br_f (by decide) ⟨by decide, by rw [ln_q36 hc]; exact hp⟩))
  · rw [ln_d8 ht] at hp
    exact br_f (nI_nlt (a := 8 + t) (b := 8) (by omega) (by omega)) (by rw [ln_s8]; exact hp)
theorem ln_fs {post : Int32 → Prop} {F C : Nat} {eo no lo so en pr ye : Nat → Int32} {e : Int32} (hF : F < 10) (hp : post (ln_s eo e F)) : wpX_factsSaying post (nI F, nI C, eo, no, lo, so, en, pr, ye) e := by
  have L : ∀ d i : Nat, i + d = F → wX_factsSaying_4 post e (nI F) (nI C) eo no lo so en pr ye (d + 1) (ln_s eo e i) (nI i) := by
    intro d
    induction d with
    | zero =>
      intro i h
      have h' : i = F := by omega
      rw [h']
      exact br_t (nI_le (Nat.le_refl F) (by omega)) hp
    | succ d ih =>
      intro i h
      have hn : ¬ nI F ≤ nI i := nI_ge (by omega) (by omega)
      have hi : vp_in (nI i) 9 := vp_in_nI (by omega) (by omega)
      have ec : (nI i).toNatClampNeg = i := nI_clamp (by omega)
      have ih' := ih (i + 1) (by omega)
      by_cases z : eo i = e
      · rw [ln_s, if_pos z] at ih'
        exact br_f hn ⟨hi, br_t (by rw [ec]; exact z) (nm_e (nm_r (nI_1 i) ih'))⟩
      · rw [ln_s, if_neg z] at ih'
        exact br_f hn ⟨hi, br_f (by rw [ec]; exact z) (nm_r (nI_1 i) ih')⟩
  exact ⟨_, L F 0 (by omega)⟩
theorem ln_fp {post : Int32 → SX → Prop} {F C ch : Nat} {eo no lo so en ye : Nat → Int32} (hF : F < 10) (hC : C < 5) (hc : ch < 216) (hQ : ln_Q C lo so en)
    (h1 : ∀ pr' : Nat → Int32, (∀ c, c < C → pr' c = ln_m F eo lo so en c ch) → post 1 (nI F, nI C, eo, no, lo, so, en, pr', ye))
    (h0 : ∀ pr' : Nat → Int32, (∃ c, c < C ∧ ln_m F eo lo so en c ch = 0) → post 0 (nI F, nI C, eo, no, lo, so, en, pr', ye)) (pr : Nat → Int32) : wpX_findProvers post (nI F, nI C, eo, no, lo, so, en, pr, ye) (nI ch) := by
  have L : ∀ (d c : Nat) (pr : Nat → Int32), c + d = C → (∀ j, j < c → pr j = ln_m F eo lo so en j ch) → wX_findProvers_2 post (nI ch) (nI F) (nI C) (d + 1) (nI c) eo no lo so en pr ye := by
    intro d
    induction d with
    | zero =>
      intro c pr h hp
      exact br_t (nI_le (show C ≤ c by omega) (by omega)) (h1 pr (fun j hj => hp j (by omega)))
    | succ d ih =>
      intro c pr h hp
      have hn : ¬ nI C ≤ nI c := nI_ge (by omega) (by omega)
      have hi : vp_in (nI c) 4 := vp_in_nI (by omega) (by omega)
      have ec : (nI c).toNatClampNeg = c := nI_clamp (by omega)
      obtain ⟨_, q1, q2⟩ := hQ c (by omega)
      have n1 : ∀ P : Int32 → Prop, P (nI (ln_d (so c) ch)) → wpX_nodeOf P (so (nI c).toNatClampNeg) (nI ch) := fun P hP => by
        rw [ec]
        exact ln_nX q1 hc hP
      have n2 : ∀ P : Int32 → Prop, P (nI (ln_d (en c) ch)) → wpX_nodeOf P (en (nI c).toNatClampNeg) (nI ch) := fun P hP => by
        rw [ec]
        exact ln_nX q2 hc hP
      have n3 : ∀ P : Int32 → Prop, P (ln_m F eo lo so en c ch) → wpX_factsSaying P (nI F, nI C, eo, no, lo, so, en, pr, ye) ((nI (ln_d (so c) ch) ||| (nI (ln_d (en c) ch) <<< ((3 : Int32) &&& 31))) ||| ((lo (nI c).toNatClampNeg) <<< ((6 : Int32) &&& 31))) := fun P hP => by
        rw [ec]
        exact ln_fs (e := ln_e lo so en c ch) hF hP
      refine br_f hn ⟨hi, n1 _ ⟨hi, n2 _ ⟨hi, n3 _ ?_⟩⟩⟩
      by_cases z : ln_m F eo lo so en c ch = 0
      · exact br_t z (h0 pr ⟨c, by omega, z⟩)
      · refine br_f z ⟨hi, nm_r (show upd pr (nI c).toNatClampNeg (ln_m F eo lo so en c ch) = upd pr c (ln_m F eo lo so en c ch) by rw [ec]) (nm_r (nI_1 c) (ih (c + 1) _ (by omega) ?_))⟩
        intro j hj
        by_cases e : j = c
        · rw [e]
          exact pk_us
        · rw [pk_un e]
          exact hp j (by omega)
  exact ⟨_, L C 0 pr (by omega) (fun j hj => absurd hj (Nat.not_lt_zero j))⟩
theorem ln_p19 {post : Int32 → SY → Prop} {J2 : Int32 → (Nat → Int32) → (Nat → Int32) → (Nat → Int32) → (Nat → Int32) → (Nat → Int32) → (Nat → Int32) → (Nat → Int32) → (Nat → Int32) → (Nat → Int32) → Prop} {F C c ch : Nat} {kn : Int32} {eo ta hd la no lo so en yy mk0 : Nat → Int32} (hF : F < 10) (hC : C < 5) (hc : c < C) (hch : ch < 216) (hE : ln_E F eo ta hd la) (hQ : ln_Q C lo so en)
    (h0 : ∀ mk' : Nat → Int32, ln_m F eo lo so en c ch = 0 → post 0 (nI F, nI C, kn, ta, hd, la, no, lo, so, en, mk', yy))
    (h1 : ∀ mk' : Nat → Int32, (∀ j, j ≠ c → mk' j = mk0 j) → mk' c = ln_m F eo lo so en c ch → J2 (nI (c + 1)) ta hd la no lo so en mk' yy) :
    ∀ (d i : Nat) (mk : Nat → Int32), i + d = F → (∀ j, j ≠ c → mk j = mk0 j) → mk c = ln_s eo (ln_e lo so en c ch) i → wY_possible_19 post J2 (nI ch) (nI c) (nI F) (nI C) kn (d + 1) (nI i) ta hd la no lo so en mk yy := by
  have hc4 : vp_in (nI c) 4 := vp_in_nI (by omega) (by omega)
  have ec : (nI c).toNatClampNeg = c := nI_clamp (by omega)
  obtain ⟨_, q1, q2⟩ := hQ c hc
  intro d
  induction d with
  | zero =>
    intro i mk h hoff hmk
    have h' : i = F := by omega
    have hm : mk c = ln_m F eo lo so en c ch := by
      rw [hmk, h']
      rfl
    have hm' : mk (nI c).toNatClampNeg = ln_m F eo lo so en c ch := by
      rw [ec]
      exact hm
    have hF' : nI F ≤ nI i := nI_le (by omega) (by omega)
    by_cases z : ln_m F eo lo so en c ch = 0
    · exact br_t hF' ⟨hc4, br_t (hm'.trans z) (h0 mk z)⟩
    · exact br_t hF' ⟨hc4, br_f (fun q => z (hm'.symm.trans q)) (nm_r (nI_1 c) (h1 mk hoff hm))⟩
  | succ d ih =>
    intro i mk h hoff hmk
    have hn : ¬ nI F ≤ nI i := nI_ge (by omega) (by omega)
    have hi9 : vp_in (nI i) 9 := vp_in_nI (by omega) (by omega)
    have ei : (nI i).toNatClampNeg = i := nI_clamp (by omega)
    have n1 : ∀ P : Int32 → Prop, P (nI (ln_d (so c) ch)) → wpY_node P (nI F, nI C, kn, ta, hd, la, no, lo, so, en, mk, yy) (so (nI c).toNatClampNeg) (nI ch) := fun P hP => by
      rw [ec]
      exact ln_nY q1 hch hP
    have n2 : ∀ P : Int32 → Prop, P (nI (ln_d (en c) ch)) → wpY_node P (nI F, nI C, kn, ta, hd, la, no, lo, so, en, mk, yy) (en (nI c).toNatClampNeg) (nI ch) := fun P hP => by
      rw [ec]
      exact ln_nY q2 hch hP
    have fit := ln_fit hE hQ hc (show i < F by omega) hch
    have nf : ¬ eo i = ln_e lo so en c ch → wY_possible_19 post J2 (nI ch) (nI c) (nI F) (nI C) kn (d + 1) (nI (i + 1)) ta hd la no lo so en mk yy := fun z => ih (i + 1) mk (by omega) hoff (by rw [ln_s, if_neg z]; exact hmk)
    refine br_f hn ⟨hi9, hc4, n1 _ ?_⟩
    by_cases z1 : ta i = nI (ln_d (so c) ch)
    · refine br_t (by rw [ei]; exact z1) ⟨hi9, hc4, n2 _ ?_⟩
      by_cases z2 : hd i = nI (ln_d (en c) ch)
      · refine br_t (by rw [ei]; exact z2) (br_f (by decide) ⟨hi9, hc4, ?_⟩)
        by_cases z3 : la i = lo c
        · refine br_t (by rw [ei, ec]; exact z3) ⟨hc4, hc4, nm_r (show upd mk (nI c).toNatClampNeg ((mk (nI c).toNatClampNeg) ||| ((1 : Int32) <<< (nI i &&& 31))) = upd mk c (mk c ||| ((1 : Int32) <<< (nI i &&& 31))) by rw [ec]) (nm_r (nI_1 i) (ih (i + 1) _ (by omega) (fun j hj => (pk_un hj).trans (hoff j hj)) ?_))⟩
          rw [pk_us, ln_s, if_pos (fit.1 ⟨z1, z2, z3⟩), hmk]
        · exact br_f (by rw [ei, ec]; exact z3) (nm_r (nI_1 i) (nf (fun q => z3 (fit.2 q).2.2)))
      · exact br_f (by rw [ei]; exact z2) (br_t rfl (nm_r (nI_1 i) (nf (fun q => z2 (fit.2 q).2.1))))
    · exact br_f (by rw [ei]; exact z1) (br_t rfl (nm_r (nI_1 i) (nf (fun q => z1 (fit.2 q).1))))
theorem ln_po {post : Int32 → SY → Prop} {F C ch : Nat} {kn : Int32} {eo ta hd la no lo so en yy : Nat → Int32} (hF : F < 10) (hC : C < 5) (hch : ch < 216) (hE : ln_E F eo ta hd la) (hQ : ln_Q C lo so en)
    (h1 : ∀ mk' : Nat → Int32, (∀ c, c < C → mk' c = ln_m F eo lo so en c ch) → post 1 (nI F, nI C, kn, ta, hd, la, no, lo, so, en, mk', yy))
    (h0 : ∀ mk' : Nat → Int32, (∃ c, c < C ∧ ln_m F eo lo so en c ch = 0) → post 0 (nI F, nI C, kn, ta, hd, la, no, lo, so, en, mk', yy)) (mk : Nat → Int32) : wpY_possible post (nI F, nI C, kn, ta, hd, la, no, lo, so, en, mk, yy) (nI ch) := by
  have L : ∀ (d c : Nat) (mk : Nat → Int32), c + d = C → (∀ j, j < c → mk j = ln_m F eo lo so en j ch) → wY_possible_2 post (nI ch) (nI F) (nI C) kn (d + 1) (nI c) ta hd la no lo so en mk yy := by
    intro d
    induction d with
    | zero =>
      intro c mk h hp
      exact br_t (nI_le (show C ≤ c by omega) (by omega)) (h1 mk (fun j hj => hp j (by omega)))
    | succ d ih =>
      intro c mk h hp
      have hn : ¬ nI C ≤ nI c := nI_ge (by omega) (by omega)
      have hi : vp_in (nI c) 4 := vp_in_nI (by omega) (by omega)
      have ec : (nI c).toNatClampNeg = c := nI_clamp (by omega)
      refine br_f hn ⟨hi, nm_r (show upd mk (nI c).toNatClampNeg 0 = upd mk c 0 by rw [ec]) ⟨F + 1, ln_p19 (mk0 := upd mk c 0) hF hC (show c < C by omega) hch hE hQ (fun mk' z => h0 mk' ⟨c, by omega, z⟩) (fun mk' ho hm => ih (c + 1) mk' (by omega) ?_) F 0 (upd mk c 0) (by omega) (fun j hj => rfl) pk_us⟩⟩
      intro j hj
      by_cases e : j = c
      · rw [e]
        exact hm
      · rw [ho j e, pk_un e]
        exact hp j (by omega)
  exact ⟨_, L C 0 mk (by omega) (fun j hj => absurd hj (Nat.not_lt_zero j))⟩
