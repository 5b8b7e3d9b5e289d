/-! the tables of answers: both sides -/
theorem ln_paX {post : Int32 → Prop} {F C ch w : Nat} {eo no lo so en pr ye : Nat → Int32} (hC : C < 5) (hp : ∀ c, c < C → pr c = ln_m F eo lo so en c ch) (h1 : ln_H F C eo lo so en ch w → post 1) (h0 : ¬ ln_H F C eo lo so en ch w → post 0) : wpX_provesAll post (nI F, nI C, eo, no, lo, so, en, pr, ye) (nI w) := by
  have L : ∀ d c : Nat, c + d = C → (∀ j, j < c → ¬ (nI w &&& ln_m F eo lo so en j ch) = 0) → wX_provesAll_2 post (nI w) (nI F) (nI C) eo no lo so en pr ye (d + 1) (nI c) := by
    intro d
    induction d with
    | zero =>
      intro c h hj
      exact br_t (nI_le (show C ≤ c by omega) (by omega)) (h1 (fun j hj' => hj j (by omega)))
    | succ d ih =>
      intro c h hj
      have hn : ¬ nI C ≤ nI c := nI_ge (by omega) (by omega)
      have hi : vp_in (nI c) 4 := vp_in_nI (by omega) (by omega)
      have ec : pr (nI c).toNatClampNeg = ln_m F eo lo so en c ch := by
        rw [nI_clamp (by omega)]
        exact hp c (by omega)
      by_cases z : (nI w &&& ln_m F eo lo so en c ch) = 0
      · exact br_f hn ⟨hi, br_t (by rw [ec]; exact z) (h0 (fun q => q c (by omega) z))⟩
      · exact br_f hn ⟨hi, br_f (by rw [ec]; exact z) (nm_r (nI_1 c) (ih (c + 1) (by omega) (lt_s hj z)))⟩
  exact ⟨_, L C 0 (by omega) (fun j hj => absurd hj (Nat.not_lt_zero j))⟩
theorem ln_paY {post : Int32 → Prop} {F C ch w : Nat} {kn : Int32} {eo ta hd la no lo so en mk yy : Nat → Int32} (hC : C < 5) (hp : ∀ c, c < C → mk c = ln_m F eo lo so en c ch) (h1 : ln_H F C eo lo so en ch w → post 1) (h0 : ¬ ln_H F C eo lo so en ch w → post 0) : wpY_holdsIn post (nI F, nI C, kn, ta, hd, la, no, lo, so, en, mk, yy) (nI w) := by
  have L : ∀ d c : Nat, c + d = C → (∀ j, j < c → ¬ (nI w &&& ln_m F eo lo so en j ch) = 0) → wY_holdsIn_2 post (nI w) (nI F) (nI C) kn ta hd la no lo so en mk yy (d + 1) (nI c) := by
    intro d
    induction d with
    | zero =>
      intro c h hj
      exact br_t (nI_le (show C ≤ c by omega) (by omega)) (h1 (fun j hj' => hj j (by omega)))
    | succ d ih =>
      intro c h hj
      have hn : ¬ nI C ≤ nI c := nI_ge (by omega) (by omega)
      have hi : vp_in (nI c) 4 := vp_in_nI (by omega) (by omega)
      have ec : mk (nI c).toNatClampNeg = ln_m F eo lo so en c ch := by
        rw [nI_clamp (by omega)]
        exact hp c (by omega)
      by_cases z : (nI w &&& ln_m F eo lo so en c ch) = 0
      · exact br_f hn ⟨hi, br_t (by rw [ec]; exact z) (h0 (fun q => q c (by omega) z))⟩
      · exact br_f hn ⟨hi, br_f (by rw [ec]; exact z) (nm_r (nI_1 c) (ih (c + 1) (by omega) (lt_s hj z)))⟩
  exact ⟨_, L C 0 (by omega) (fun j hj => absurd hj (Nat.not_lt_zero j))⟩
theorem ln_mw {post : SX → Prop} {F C ch W : Nat} {S : Nat → Prop} {eo no lo so en pr ye : Nat → Int32} (h5 : W ≤ 512) (hC : C < 5) (hp : ∀ c, c < C → pr c = ln_m F eo lo so en c ch) (hA : ln_A W S ye)
    (hpost : ∀ ye' : Nat → Int32, ln_A W (fun w => S w ∨ ln_H F C eo lo so en ch w) ye' → post (nI F, nI C, eo, no, lo, so, en, pr, ye')) : wpX_markWorlds post (nI F, nI C, eo, no, lo, so, en, pr, ye) (nI W) := by
  have L : ∀ (d w : Nat) (ye : Nat → Int32), w + d = W → ln_A W (fun v => S v ∨ (v < w ∧ ln_H F C eo lo so en ch v)) ye → wX_markWorlds_2 post (nI W) (nI F) (nI C) (d + 1) (nI w) eo no lo so en pr ye := by
    intro d
    induction d with
    | zero =>
      intro w ye h a
      exact br_t (nI_le (show W ≤ w by omega) (by omega)) (hpost ye (ln_A_end (show W ≤ w by omega) a))
    | succ d ih =>
      intro w ye h a
      have hw : w < W := by omega
      have hn : ¬ nI W ≤ nI w := nI_ge (by omega) (by omega)
      have hi : vp_in (nI w) 512 := vp_in_nI (by omega) (by omega)
      have ec : (nI w).toNatClampNeg = w := nI_clamp (by omega)
      by_cases z : ye w = 0
      · refine br_f hn ⟨hi, br_t (by rw [ec]; exact z) (ln_paX hC hp (fun q => ?_) (fun q => ?_))⟩
        · exact br_f (by decide) ⟨hi, nm_r (show upd ye (nI w).toNatClampNeg (vp_nar .boolean 1) = upd ye w 1 by rw [ec, ln_vb1]) (nm_r (nI_1 w) (ih (w + 1) _ (by omega) (ln_A_step a (fun v hv => pk_un hv) (fun _ => pk_us) (fun s => absurd (Or.inr q) s))))⟩
        · exact br_t rfl (nm_r (nI_1 w) (ih (w + 1) ye (by omega) (ln_A_step a (fun v hv => rfl) (fun s => s.elim (fun t => (a w hw).1 (Or.inl t)) (fun t => absurd t q)) (fun _ => z))))
      · have h1 : ye w = 1 := Classical.byContradiction fun n1 => z ((a w hw).2 (fun t => n1 ((a w hw).1 t)))
        exact br_f hn ⟨hi, br_f (by rw [ec]; exact z) (nm_r (nI_1 w) (ih (w + 1) ye (by omega) (ln_A_step a (fun v hv => rfl) (fun _ => h1) (fun s => (a w hw).2 (fun (t : S w ∨ (w < w ∧ ln_H F C eo lo so en ch w)) => s (t.imp id And.right))))))⟩
  exact ⟨_, L W 0 ye (by omega) (ln_A_beg hA)⟩
theorem ln_fa {post : SX → Prop} {F C : Nat} {eo no lo so en pr ye : Nat → Int32} (hF : F < 10) (hC : C < 5) (hQ : ln_Q C lo so en) (hpost : ∀ pr' ye' : Nat → Int32, ln_T F C eo lo so en ye' → post (nI F, nI C, eo, no, lo, so, en, pr', ye')) : wpX_findAnswers post (nI F, nI C, eo, no, lo, so, en, pr, ye) := by
  have h5 := ln_512 hF
  have hW := ln_pow F hF
  have L29 : ∀ (d ch : Nat) (pr ye : Nat → Int32), ch + d = 216 → ln_A (2 ^ F) (fun w => ∃ c, c < ch ∧ ln_H F C eo lo so en c w) ye → wX_findAnswers_29 post (nI (2 ^ F)) (d + 1) (nI ch) (nI F) (nI C) eo no lo so en pr ye := by
    intro d
    induction d with
    | zero =>
      intro ch pr ye h a
      have h' : ch = 216 := by omega
      rw [h'] at a
      exact br_t (nI_le (a := 216) (b := ch) (by omega) (by omega)) (hpost pr ye a)
    | succ d ih =>
      intro ch pr ye h a
      have hn : ¬ (216 : Int32) ≤ nI ch := nI_ge (a := ch) (b := 216) (by omega) (by decide)
      refine br_f hn (ln_fp hF hC (show ch < 216 by omega) hQ (fun pr' hp => ?_) (fun pr' hz => ?_) pr)
      · exact br_f (by decide) (ln_mw h5 hC hp a (fun ye' a' => nm_r (nI_1 ch) (ih (ch + 1) pr' ye' (by omega) (ln_A_more a'))))
      · exact br_t rfl (nm_r (nI_1 ch) (ih (ch + 1) pr' ye (by omega) (ln_A_same (ln_noH hz) a)))
  have L9 : ∀ (d w : Nat) (ye : Nat → Int32), w + d = 2 ^ F → (∀ v, v < w → ye v = 0) → wX_findAnswers_9 post (nI (2 ^ F)) (nI F) (nI C) (d + 1) (nI w) eo no lo so en pr ye := by
    intro d
    induction d with
    | zero =>
      intro w ye h hz
      exact br_t (nI_le (show 2 ^ F ≤ w by omega) (by omega)) ⟨217, L29 216 0 pr ye (by omega) (ln_A_none (fun v hv => hz v (by omega)))⟩
    | succ d ih =>
      intro w ye h hz
      have hn : ¬ nI (2 ^ F) ≤ nI w := nI_ge (by omega) (by omega)
      have hi : vp_in (nI w) 512 := vp_in_nI (by omega) (by omega)
      have ec : (nI w).toNatClampNeg = w := nI_clamp (by omega)
      refine br_f hn ⟨hi, nm_r (show upd ye (nI w).toNatClampNeg (vp_nar .boolean 0) = upd ye w 0 by rw [ec, ln_vb0]) (nm_r (nI_1 w) (ih (w + 1) _ (by omega) ?_))⟩
      intro v hv
      by_cases e : v = w
      · rw [e]
        exact pk_us
      · rw [pk_un e]
        exact hz v (by omega)
  exact nm_r hW ⟨_, L9 (2 ^ F) 0 ye (by omega) (fun v hv => absurd hv (Nat.not_lt_zero v))⟩
theorem ln_w66 {post : SY → Prop} {J52 : Int32 → Int32 → Int32 → Int32 → (Nat → Int32) → (Nat → Int32) → (Nat → Int32) → (Nat → Int32) → (Nat → Int32) → (Nat → Int32) → (Nat → Int32) → (Nat → Int32) → (Nat → Int32) → Prop} {F C ch : Nat} {x1 kn : Int32} {S : Nat → Prop} {eo ta hd la no lo so en mk : Nat → Int32} (hF : F < 10) (hC : C < 5) (hp : ∀ c, c < C → mk c = ln_m F eo lo so en c ch)
    (hpost : ∀ yy' : Nat → Int32, ln_A (2 ^ F) (fun w => S w ∨ ln_H F C eo lo so en ch w) yy' → J52 (nI (ch + 1)) (nI F) (nI C) kn ta hd la no lo so en mk yy') :
    ∀ (d w : Nat) (yy : Nat → Int32), w + d = 2 ^ F → ln_A (2 ^ F) (fun v => S v ∨ (v < w ∧ ln_H F C eo lo so en ch v)) yy → wY_work_66 post J52 x1 (nI ch) 1 (nI F) (nI C) kn (d + 1) (nI w) ta hd la no lo so en mk yy := by
  have h5 := ln_512 hF
  have hW := ln_pow F hF
  have h10 : ¬ (1 : Int32) = 0 := by decide
  intro d
  induction d with
  | zero =>
    intro w yy h a
    have hn : (1 : Int32) <<< (nI F &&& 31) ≤ nI w := by
      rw [hW]
      exact nI_le (show 2 ^ F ≤ w by omega) (by omega)
    exact br_f h10 (br_t hn (nm_r (nI_1 ch) (hpost yy (ln_A_end (show 2 ^ F ≤ w by omega) a))))
  | succ d ih =>
    intro w yy h a
    have hw : w < 2 ^ F := by omega
    have hn : ¬ (1 : Int32) <<< (nI F &&& 31) ≤ nI w := by
      rw [hW]
      exact nI_ge (by omega) (by omega)
    have hi : vp_in (nI w) 512 := vp_in_nI (by omega) (by omega)
    have ec : (nI w).toNatClampNeg = w := nI_clamp (by omega)
    have u1 : upd yy (nI w).toNatClampNeg (vp_nar .boolean 1) = upd yy w 1 := by rw [ec, ln_vb1]
    have u0 : upd yy (nI w).toNatClampNeg (vp_nar .boolean 0) = upd yy w 0 := by rw [ec, ln_vb0]
    by_cases z : yy w = 0
    · refine br_f h10 (br_f hn ⟨hi, br_t (by rw [ec]; exact z) (ln_paY hC hp (fun q => ?_) (fun q => ?_))⟩)
      · exact br_f h10 ⟨hi, nm_r u1 (nm_r (nI_1 w) (ih (w + 1) _ (by omega) (ln_A_step a (fun v hv => pk_un hv) (fun _ => pk_us) (fun s => absurd (Or.inr q) s))))⟩
      · refine br_t rfl ⟨hi, nm_r u0 (nm_r (nI_1 w) (ih (w + 1) _ (by omega) (ln_A_step a (fun v hv => pk_un hv) (fun s => ?_) (fun _ => pk_us))))⟩
        have y1 : yy w = 1 := s.elim (fun t => (a w hw).1 (Or.inl t)) (fun t => absurd t q)
        rw [z] at y1
        exact absurd y1 (by decide)
    · have hs : S w := Classical.byContradiction fun n1 => z ((a w hw).2 (fun (t : S w ∨ (w < w ∧ ln_H F C eo lo so en ch w)) => t.elim n1 (fun q => absurd q.1 (Nat.lt_irrefl w))))
      exact br_f h10 (br_f hn ⟨hi, br_f (by rw [ec]; exact z) ⟨hi, nm_r u1 (nm_r (nI_1 w) (ih (w + 1) _ (by omega) (ln_A_step a (fun v hv => pk_un hv) (fun _ => pk_us) (fun s => absurd (Or.inl hs) s))))⟩⟩)
theorem ln_w52 {post : SY → Prop} {F C B : Nat} {kn : Int32} {eo ta hd la no lo so en : Nat → Int32} (hF : F < 10) (hC : C < 5) (hB : B ≤ 216) (hE : ln_E F eo ta hd la) (hQ : ln_Q C lo so en)
    (hpost : ∀ mk' yy' : Nat → Int32, ln_A (2 ^ F) (fun w => ∃ c, c < B ∧ ln_H F C eo lo so en c w) yy' → post (nI F, nI C, kn, ta, hd, la, no, lo, so, en, mk', yy')) :
    ∀ (d ch : Nat) (mk yy : Nat → Int32), ch + d = B → ln_A (2 ^ F) (fun w => ∃ c, c < ch ∧ ln_H F C eo lo so en c w) yy → wY_work_52 post (nI B) (d + 1) (nI ch) (nI F) (nI C) kn ta hd la no lo so en mk yy := by
  intro d
  induction d with
  | zero =>
    intro ch mk yy h a
    have h' : ch = B := by omega
    rw [h'] at a
    exact br_t (nI_le (show B ≤ ch by omega) (by omega)) (hpost mk yy a)
  | succ d ih =>
    intro ch mk yy h a
    have hn : ¬ nI B ≤ nI ch := nI_ge (by omega) (by omega)
    refine br_f hn (ln_po hF hC (show ch < 216 by omega) hE hQ (fun mk' hp => ?_) (fun mk' hz => ?_) mk)
    · exact ⟨2 ^ F + 1, ln_w66 (S := fun w => ∃ c, c < ch ∧ ln_H F C eo lo so en c w) hF hC hp (fun yy' a' => ih (ch + 1) mk' yy' (by omega) (ln_A_more a')) (2 ^ F) 0 yy (by omega) (ln_A_beg a)⟩
    · exact ⟨1, br_t rfl (nm_r (nI_1 ch) (ih (ch + 1) mk' yy (by omega) (ln_A_same (ln_noH hz) a)))⟩
theorem ln_wk {post : SY → Prop} {F C : Nat} {kn : Int32} {eo ta hd la no lo so en mk yy : Nat → Int32} (hF : F < 10) (hC : C < 5) (hE : ln_E F eo ta hd la) (hQ : ln_Q C lo so en) (hT : ¬ kn = 0 → ln_T F C eo lo so en yy)
    (hpost : ∀ (kn' : Int32) (mk' yy' : Nat → Int32), ¬ kn' = 0 → ln_T F C eo lo so en yy' → post (nI F, nI C, kn', ta, hd, la, no, lo, so, en, mk', yy')) : wpY_work post (nI F, nI C, kn, ta, hd, la, no, lo, so, en, mk, yy) := by
  have h5 := ln_512 hF
  have h10 : ¬ (1 : Int32) = 0 := by decide
  have L15 : ∀ (d w : Nat) (yy : Nat → Int32), w + d = 512 → (∀ v, v < w → yy v = 0) → wY_work_15 post (nI F) (nI C) 1 (d + 1) (nI w) ta hd la no lo so en mk yy := by
    intro d
    induction d with
    | zero =>
      intro w yy h hz
      have hx : (512 : Int32) ≤ nI w := nI_le (a := 512) (b := w) (by omega) (by omega)
      have a0 : ln_A (2 ^ F) (fun w => ∃ c, c < 0 ∧ ln_H F C eo lo so en c w) yy := ln_A_none (fun v hv => hz v (by omega))
      by_cases z : C = 0
      · refine br_t hx (br_t ((congrArg nI z).trans nI_0) ⟨2, ln_w52 (B := 1) hF hC (by omega) hE hQ (fun mk' yy' a => hpost 1 mk' yy' h10 (ln_A_iff (fun v hv => ⟨fun ⟨c, q, p⟩ => ⟨c, by omega, p⟩, fun _ => ⟨0, by omega, fun c hc => absurd hc (by omega)⟩⟩) a)) 1 0 mk yy (by omega) a0⟩)
      · exact br_t hx (br_f (nI_ne0 (by omega) (by omega)) ⟨217, ln_w52 (B := 216) hF hC (by omega) hE hQ (fun mk' yy' a => hpost 1 mk' yy' h10 a) 216 0 mk yy (by omega) a0⟩)
    | succ d ih =>
      intro w yy h hz
      have hn : ¬ (512 : Int32) ≤ nI w := nI_ge (a := w) (b := 512) (by omega) (by decide)
      have hi : vp_in (nI w) 512 := vp_in_nI (by omega) (by omega)
      have ec : (nI w).toNatClampNeg = w := nI_clamp (by omega)
      refine br_f hn ⟨hi, nm_r (show upd yy (nI w).toNatClampNeg (vp_nar .boolean 0) = upd yy w 0 by rw [ec, ln_vb0]) (nm_r (nI_1 w) (ih (w + 1) _ (by omega) ?_))⟩
      intro v hv
      by_cases e : v = w
      · rw [e]
        exact pk_us
      · rw [pk_un e]
        exact hz v (by omega)
  by_cases z : kn = 0
  · exact br_t z ⟨513, L15 512 0 yy (by omega) (fun v hv => absurd hv (Nat.not_lt_zero v))⟩
  · exact br_f z (hpost kn mk yy z (hT z))
