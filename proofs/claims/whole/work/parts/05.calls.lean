/-! the relation, and the calls that write -/
def ln_R (F C : Nat) (kn : Int32) (eo lo so en ta hd la yy : Nat → Int32) : Prop := F < 10 ∧ C < 5 ∧ ln_E F eo ta hd la ∧ ln_Q C lo so en ∧ (¬ kn = 0 → ln_T F C eo lo so en yy)
def i_Rel (k : Nat) (u : SX) (v : SY) : Prop := ∃ (F C : Nat) (kn : Int32) (eo no lo so en pr ye ta hd la mk yy : Nat → Int32), u = (nI F, nI C, eo, no, lo, so, en, pr, ye) ∧ v = (nI F, nI C, kn, ta, hd, la, no, lo, so, en, mk, yy) ∧ ln_R F C kn eo lo so en ta hd la yy
theorem ln_rel {k F C : Nat} {kn : Int32} {eo no lo so en pr ye ta hd la mk yy : Nat → Int32} (hF : F < 10) (hC : C < 5) (hE : ln_E F eo ta hd la) (hQ : ln_Q C lo so en) (hT : ¬ kn = 0 → ln_T F C eo lo so en yy) : i_Rel k (nI F, nI C, eo, no, lo, so, en, pr, ye) (nI F, nI C, kn, ta, hd, la, no, lo, so, en, mk, yy) :=
  ⟨F, C, kn, eo, no, lo, so, en, pr, ye, ta, hd, la, mk, yy, rfl, rfl, hF, hC, hE, hQ, hT⟩
theorem i_up {k : Nat} {u : SX} {v : SY} (h : i_Rel k u v) : i_Rel (k + 4) u v := h
theorem i_vc0 : wpX_init (fun u => wpY_init (fun v => i_Rel 0 u v)) := by
  have h : i_Rel 0 (nI 0, nI 0, (fun _ => 0), (fun _ => 0), (fun _ => 0), (fun _ => 0), (fun _ => 0), (fun _ => 0), (fun _ => 0)) (nI 0, nI 0, 0, (fun _ => 0), (fun _ => 0), (fun _ => 0), (fun _ => 0), (fun _ => 0), (fun _ => 0), (fun _ => 0), (fun _ => 0), (fun _ => 0)) :=
    ln_rel (F := 0) (C := 0) (by decide) (by decide) (fun i hi => absurd hi (Nat.not_lt_zero i)) (fun c hc => absurd hc (Nat.not_lt_zero c)) (fun q => absurd rfl q)
  exact h
theorem ln_isNode {post : Int32 → Prop} {x : Int32} {a : Nat} (e : x = nI a) (ha : a < 8) (h1 : a < 6 → post 1) (h0 : 6 ≤ a → post 0) : wpX_isNode post x := by
  rw [e]
  by_cases h : a < 6
  · exact br_f (nI_pos (by omega)) (br_f (nI_ge (a := a) (b := 6) h (by decide)) (h1 h))
  · exact br_f (nI_pos (by omega)) (br_t (nI_le (a := 6) (b := a) (by omega) (by omega)) (h0 (by omega)))
theorem ln_num1 {post : Int32 → Prop} {x : Int32} (h1 : ¬ x < 1) (h4 : ¬ 4 < x) (hp : post 1) : wpX_isNumber post x := br_f h1 (br_f h4 hp)
theorem ln_numL {post : Int32 → Prop} {x : Int32} (h1 : x < 1) (hp : post 0) : wpX_isNumber post x := br_t h1 hp
theorem ln_numH {post : Int32 → Prop} {x : Int32} (h1 : ¬ x < 1) (h4 : 4 < x) (hp : post 0) : wpX_isNumber post x := br_f h1 (br_t h4 hp)
theorem i_vc_fact {k : Nat} {u : SX} {v : SY} (I : i_Rel k u v) (hk : k + 4 ≤ 2048) (v1 : Int32) (v2 : Int32) : wpX_fact (fun r u' => wpY_fact (fun r' v' => r' = r ∧ i_Rel (k + 4) u' v') v v1 v2) u v1 v2 := by
  obtain ⟨F, C, kn, eo, no, lo, so, en, pr, ye, ta, hd, la, mk, yy, rfl, rfl, hF, hC, hE, hQ, hT⟩ := I
  have e1 := ln_7 v1
  have e2 := ln_sr3 v1
  have e3 := ln_sr6 v1
  have e4 := ln_127 v1
  generalize v1.toBitVec.toNat = n at e1 e2 e3 e4
  have rel : i_Rel (k + 4) (nI F, nI C, eo, no, lo, so, en, pr, ye) (nI F, nI C, kn, ta, hd, la, no, lo, so, en, mk, yy) := ln_rel hF hC hE hQ hT
  unfold wpX_fact wpY_fact
  refine ln_isNode e1 (by omega) (fun a6 => ?_) (fun a6 => ?_)
  · have y1 : ¬ 5 < (v1 &&& 7) := by
      rw [e1]
      exact nI_nlt (a := 5) (b := n % 8) (by omega) (by decide)
    refine br_f (by decide) (ln_isNode e2 (by omega) (fun b6 => ?_) (fun b6 => ?_))
    · have y2 : ((v1 >>> ((3 : Int32) &&& 31)) &&& 7) ≤ 5 := by
        rw [e2]
        exact nI_le (a := n / 8 % 8) (b := 5) (by omega) (by decide)
      refine br_f (by decide) ?_
      by_cases h1 : v2 < 1
      · exact ln_numL h1 (br_t rfl (br_f y1 (br_t y2 (br_t h1 ⟨rfl, rel⟩))))
      · by_cases h4 : 4 < v2
        · exact ln_numH h1 h4 (br_t rfl (br_f y1 (br_t y2 (br_f h1 (br_f (Int32.not_le.mpr h4) ⟨rfl, rel⟩)))))
        · have h4' : v2 ≤ 4 := Int32.not_lt.mp h4
          refine ln_num1 h1 h4 (br_f (by decide) ?_)
          by_cases h9 : F < 9
          · have x9 : nI F < 9 := nI_lt (a := F) (b := 9) h9 (by decide)
            have z9 : ¬ nI F = 9 := fun z => by
              have z' : nI F = nI 9 := z
              rw [nI_eq (by omega) (by omega)] at z'
              omega
            have hi : vp_in (nI F) 9 := vp_in_nI h9 (by decide)
            have ec : (nI F).toNatClampNeg = F := nI_clamp (by omega)
            have rel' : i_Rel (k + 4) (nI (F + 1), nI C, upd eo (nI F).toNatClampNeg (v1 &&& 127), upd no (nI F).toNatClampNeg v2, lo, so, en, pr, ye) (nI (F + 1), nI C, 0, upd ta (nI F).toNatClampNeg (v1 &&& 7), upd hd (nI F).toNatClampNeg ((v1 >>> ((3 : Int32) &&& 31)) &&& 7), upd la (nI F).toNatClampNeg ((v1 >>> ((6 : Int32) &&& 31)) &&& 1), upd no (nI F).toNatClampNeg v2, lo, so, en, mk, yy) := by
              refine ln_rel (by omega) hC ?_ hQ (fun q => absurd rfl q)
              intro i hi'
              rw [ec]
              by_cases e : i = F
              · refine ⟨n % 8, n / 8 % 8, n / 64 % 2, a6, b6, by omega, ?_, ?_, ?_, ?_⟩
                · rw [e, pk_us, e1]
                · rw [e, pk_us, e2]
                · rw [e, pk_us, e3]
                · rw [e, pk_us, e4]
                  exact congrArg nI (by omega)
              · rw [pk_un e, pk_un e, pk_un e, pk_un e]
                exact hE i (by omega)
            exact br_t x9 ⟨hi, nm_e ⟨hi, nm_e (nm_r (nI_1 F) (br_f y1 (br_t y2 (br_f h1 (br_t h4' (br_f z9 ⟨hi, nm_e ⟨hi, nm_e ⟨hi, nm_e ⟨hi, nm_e (nm_r (nI_1 F) ⟨rfl, rel'⟩)⟩⟩⟩⟩))))))⟩⟩
          · have e9 : F = 9 := by omega
            have x9 : ¬ nI F < 9 := nI_nlt (a := F) (b := 9) (by omega) (by omega)
            exact br_f x9 (br_f y1 (br_t y2 (br_f h1 (br_t h4' (br_t (congrArg nI e9) ⟨rfl, rel⟩)))))
    · have y2 : ¬ ((v1 >>> ((3 : Int32) &&& 31)) &&& 7) ≤ 5 := by
        rw [e2]
        exact nI_ge (a := 5) (b := n / 8 % 8) (by omega) (by omega)
      exact br_t rfl (br_f y1 (br_f y2 ⟨rfl, rel⟩))
  · have y1 : 5 < (v1 &&& 7) := by
      rw [e1]
      exact nI_lt (a := 5) (b := n % 8) (by omega) (by omega)
    exact br_t rfl (br_t y1 ⟨rfl, rel⟩)
/-- there is no such fact, and both sides say so; or there is -/
theorem ln_if {F : Nat} (hF : F < 10) (x : Int32) : ((∀ (post : Int32 → Prop) (c : Int32) (eo no lo so en pr ye : Nat → Int32), post 0 → wpX_isFact post (nI F, c, eo, no, lo, so, en, pr, ye) x) ∧ (∀ (post : Int32 → Prop) (c kn : Int32) (ta hd la no lo so en mk yy : Nat → Int32), post 0 → wpY_isFact post (nI F, c, kn, ta, hd, la, no, lo, so, en, mk, yy) x)) ∨ ∃ f : Nat, f < F ∧ x = nI f := by
  rcases pk_ix x (n := F) (by omega) with h | h | h
  · exact Or.inl ⟨fun post c eo no lo so en pr ye hp => br_t h hp, fun post c kn ta hd la no lo so en mk yy hp => br_t h hp⟩
  · have h0 : ¬ x < 0 := Int32.not_lt.mpr (Int32.le_trans (nI_pos' (by omega)) h)
    exact Or.inl ⟨fun post c eo no lo so en pr ye hp => br_f h0 (br_t h hp), fun post c kn ta hd la no lo so en mk yy hp => br_f h0 (br_t h hp)⟩
  · exact Or.inr h
theorem ln_ifX {post : Int32 → Prop} {F f : Nat} {c : Int32} {eo no lo so en pr ye : Nat → Int32} (hF : F < 10) (hf : f < F) (hp : post 1) : wpX_isFact post (nI F, c, eo, no, lo, so, en, pr, ye) (nI f) := br_f (nI_pos (by omega)) (br_f (nI_ge hf (by omega)) hp)
theorem ln_ifY {post : Int32 → Prop} {F f : Nat} {c kn : Int32} {ta hd la no lo so en mk yy : Nat → Int32} (hF : F < 10) (hf : f < F) (hp : post 1) : wpY_isFact post (nI F, c, kn, ta, hd, la, no, lo, so, en, mk, yy) (nI f) := br_f (nI_pos (by omega)) (br_f (nI_ge hf (by omega)) hp)
theorem i_vc_likely {k : Nat} {u : SX} {v : SY} (I : i_Rel k u v) (hk : k + 4 ≤ 2048) (v1 : Int32) (v2 : Int32) : wpX_likely (fun r u' => wpY_likely (fun r' v' => r' = r ∧ i_Rel (k + 4) u' v') v v1 v2) u v1 v2 := by
  obtain ⟨F, C, kn, eo, no, lo, so, en, pr, ye, ta, hd, la, mk, yy, rfl, rfl, hF, hC, hE, hQ, hT⟩ := I
  have rel : i_Rel (k + 4) (nI F, nI C, eo, no, lo, so, en, pr, ye) (nI F, nI C, kn, ta, hd, la, no, lo, so, en, mk, yy) := ln_rel hF hC hE hQ hT
  unfold wpX_likely wpY_likely
  rcases ln_if hF v1 with ⟨nX, nY⟩ | ⟨f, hf, rfl⟩
  · exact nX _ _ _ _ _ _ _ _ _ (br_t rfl (nY _ _ _ _ _ _ _ _ _ _ _ _ (br_t rfl ⟨rfl, rel⟩)))
  · have hi : vp_in (nI f) 9 := vp_in_nI (by omega) (by decide)
    have rel' : i_Rel (k + 4) (nI F, nI C, eo, upd no (nI f).toNatClampNeg v2, lo, so, en, pr, ye) (nI F, nI C, kn, ta, hd, la, upd no (nI f).toNatClampNeg v2, lo, so, en, mk, yy) := ln_rel hF hC hE hQ hT
    have h10 : ¬ (1 : Int32) = 0 := by decide
    refine ln_ifX hF hf (br_f h10 ?_)
    by_cases h1 : v2 < 1
    · exact ln_numL h1 (br_t rfl (ln_ifY hF hf (br_f h10 (br_t h1 ⟨rfl, rel⟩))))
    · by_cases h4 : 4 < v2
      · exact ln_numH h1 h4 (br_t rfl (ln_ifY hF hf (br_f h10 (br_f h1 (br_f (Int32.not_le.mpr h4) ⟨rfl, rel⟩)))))
      · exact ln_num1 h1 h4 (br_f h10 ⟨hi, nm_e ⟨hi, nm_e (ln_ifY hF hf (br_f h10 (br_f h1 (br_t (Int32.not_lt.mp h4) ⟨hi, nm_e ⟨hi, nm_e ⟨rfl, rel'⟩⟩⟩))))⟩⟩)
theorem ln_t1X {post : Int32 → Prop} {x : Int32} (h : ln_tm x) (hp : post 1) : wpX_isTerm post x := by
  rcases h with rfl | rfl | rfl | ⟨t, ht, rfl⟩
  · exact br_f (by decide) (br_f (by decide) (br_t (by decide) (br_f (by decide) hp)))
  · exact br_f (by decide) (br_f (by decide) (br_t (by decide) (br_f (by decide) hp)))
  · exact br_f (by decide) (br_f (by decide) (br_t (by decide) (br_f (by decide) hp)))
  · exact br_f (nI_pos (by omega)) (br_t (nI_le (a := 3) (b := 8 + t) (by omega) (by omega)) (br_f (nI_nlt (a := 8 + t) (b := 8) (by omega) (by omega)) (br_f (nI_ge (a := 8 + t) (b := 14) (by omega) (by decide)) (br_t rfl (br_f (by decide) hp)))))
theorem ln_t1Y {post : Int32 → Prop} {x f1 f2 kn : Int32} {ta hd la no lo so en mk yy : Nat → Int32} (h : ln_tm x) (hp : post 1) : wpY_isEnd post (f1, f2, kn, ta, hd, la, no, lo, so, en, mk, yy) x := by
  rcases h with rfl | rfl | rfl | ⟨t, ht, rfl⟩
  · exact br_f (by decide) (br_t (by decide) hp)
  · exact br_f (by decide) (br_t (by decide) hp)
  · exact br_f (by decide) (br_t (by decide) hp)
  · exact br_f (nI_pos (by omega)) (br_f (nI_ge (a := 2) (b := 8 + t) (by omega) (by omega)) (br_f (nI_nlt (a := 8 + t) (b := 8) (by omega) (by omega)) (br_f (nI_nlt (a := 13) (b := 8 + t) (by omega) (by decide)) hp)))
theorem ln_td (x : Int32) : ln_tm x ∨ ((∀ post : Int32 → Prop, post 0 → wpX_isTerm post x) ∧ (∀ (post : Int32 → Prop) (f1 f2 kn : Int32) (ta hd la no lo so en mk yy : Nat → Int32), post 0 → wpY_isEnd post (f1, f2, kn, ta, hd, la, no, lo, so, en, mk, yy) x)) := by
  by_cases h : x < 0
  · have h8 : x < 8 := Int32.lt_trans h (by decide)
    exact Or.inr ⟨fun post hp => br_t h (br_t h8 (br_t rfl (br_t rfl hp))), fun post f1 f2 kn ta hd la no lo so en mk yy hp => br_t h (br_t h8 hp)⟩
  · obtain ⟨j, hj, rfl⟩ := nI_of h
    by_cases h3 : j < 3
    · have c : j = 0 ∨ j = 1 ∨ j = 2 := by omega
      rcases c with rfl | rfl | rfl
      · exact Or.inl (Or.inl rfl)
      · exact Or.inl (Or.inr (Or.inl rfl))
      · exact Or.inl (Or.inr (Or.inr (Or.inl rfl)))
    · have g3 : (3 : Int32) ≤ nI j := nI_le (a := 3) (b := j) (by omega) hj
      have g2 : ¬ nI j ≤ 2 := nI_ge (a := 2) (b := j) (by omega) hj
      by_cases h8 : j < 8
      · have g8 : nI j < 8 := nI_lt (a := j) (b := 8) h8 (by decide)
        exact Or.inr ⟨fun post hp => br_f h (br_t g3 (br_t g8 (br_t rfl (br_t rfl hp)))), fun post f1 f2 kn ta hd la no lo so en mk yy hp => br_f h (br_f g2 (br_t g8 hp))⟩
      · have g8 : ¬ nI j < 8 := nI_nlt (a := j) (b := 8) (by omega) hj
        by_cases h14 : j < 14
        · exact Or.inl (Or.inr (Or.inr (Or.inr ⟨j - 8, by omega, congrArg nI (by omega)⟩)))
        · have g14 : (14 : Int32) ≤ nI j := nI_le (a := 14) (b := j) (by omega) hj
          have g13 : (13 : Int32) < nI j := nI_lt (a := 13) (b := j) (by omega) hj
          exact Or.inr ⟨fun post hp => br_f h (br_t g3 (br_f g8 (br_t g14 (br_t rfl (br_t rfl hp))))), fun post f1 f2 kn ta hd la no lo so en mk yy hp => br_f h (br_f g2 (br_f g8 (br_t g13 hp)))⟩
theorem i_vc_condition {k : Nat} {u : SX} {v : SY} (I : i_Rel k u v) (hk : k + 4 ≤ 2048) (v1 : Int32) (v2 : Int32) (v3 : Int32) : wpX_condition (fun r u' => wpY_condition (fun r' v' => r' = r ∧ i_Rel (k + 4) u' v') v v1 v2 v3) u v1 v2 v3 := by
  obtain ⟨F, C, kn, eo, no, lo, so, en, pr, ye, ta, hd, la, mk, yy, rfl, rfl, hF, hC, hE, hQ, hT⟩ := I
  have rel : i_Rel (k + 4) (nI F, nI C, eo, no, lo, so, en, pr, ye) (nI F, nI C, kn, ta, hd, la, no, lo, so, en, mk, yy) := ln_rel hF hC hE hQ hT
  have h10 : ¬ (1 : Int32) = 0 := by decide
  unfold wpX_condition wpY_condition
  rcases ln_td v2 with t2 | ⟨nX, nY⟩
  · rcases ln_td v3 with t3 | ⟨nX, nY⟩
    · refine ln_t1X t2 (br_f h10 (ln_t1X t3 (br_f h10 ?_)))
      by_cases h4 : C < 4
      · have x4 : nI C < 4 := nI_lt (a := C) (b := 4) h4 (by decide)
        have z4 : ¬ nI C = 4 := fun z => by
          have z' : nI C = nI 4 := z
          rw [nI_eq (by omega) (by omega)] at z'
          omega
        have hi : vp_in (nI C) 4 := vp_in_nI h4 (by decide)
        have ec : (nI C).toNatClampNeg = C := nI_clamp (by omega)
        have rel' : i_Rel (k + 4) (nI F, nI (C + 1), eo, no, upd lo (nI C).toNatClampNeg (v1 &&& 1), upd so (nI C).toNatClampNeg v2, upd en (nI C).toNatClampNeg v3, pr, ye) (nI F, nI (C + 1), 0, ta, hd, la, no, upd lo (nI C).toNatClampNeg (v1 &&& 1), upd so (nI C).toNatClampNeg v2, upd en (nI C).toNatClampNeg v3, mk, yy) := by
          refine ln_rel hF (by omega) hE ?_ (fun q => absurd rfl q)
          intro c hc
          rw [ec]
          by_cases e : c = C
          · rw [e, pk_us, pk_us, pk_us]
            exact ⟨⟨_, Nat.mod_lt _ (by decide), ln_1 v1⟩, t2, t3⟩
          · rw [pk_un e, pk_un e, pk_un e]
            exact hQ c (by omega)
        exact br_t x4 ⟨hi, nm_e ⟨hi, nm_e ⟨hi, nm_e (nm_r (nI_1 C) (ln_t1Y t2 (br_f h10 (ln_t1Y t3 (br_f h10 (br_f z4 ⟨hi, nm_e ⟨hi, nm_e ⟨hi, nm_e (nm_r (nI_1 C) ⟨rfl, rel'⟩)⟩⟩⟩))))))⟩⟩⟩
      · have e4 : C = 4 := by omega
        have x4 : ¬ nI C < 4 := nI_nlt (a := C) (b := 4) (by omega) (by omega)
        exact br_f x4 (ln_t1Y t2 (br_f h10 (ln_t1Y t3 (br_f h10 (br_t (congrArg nI e4) ⟨rfl, rel⟩)))))
    · exact ln_t1X t2 (br_f h10 (nX _ (br_t rfl (ln_t1Y t2 (br_f h10 (nY _ _ _ _ _ _ _ _ _ _ _ _ _ (br_t rfl ⟨rfl, rel⟩)))))))
  · exact nX _ (br_t rfl (nY _ _ _ _ _ _ _ _ _ _ _ _ _ (br_t rfl ⟨rfl, rel⟩)))
theorem i_vc_ask {k : Nat} {u : SX} {v : SY} (I : i_Rel k u v) (hk : k + 4 ≤ 2048) : wpX_ask (fun u' => wpY_ask (fun v' => i_Rel (k + 4) u' v') v) u := by
  obtain ⟨F, C, kn, eo, no, lo, so, en, pr, ye, ta, hd, la, mk, yy, rfl, rfl, hF, hC, hE, hQ, hT⟩ := I
  have rel' : i_Rel (k + 4) (nI F, nI 0, eo, no, lo, so, en, pr, ye) (nI F, nI 0, 0, ta, hd, la, no, lo, so, en, mk, yy) := ln_rel hF (by decide) hE (fun c hc => absurd hc (Nat.not_lt_zero c)) (fun q => absurd rfl q)
  exact rel'
theorem i_vc_drop {k : Nat} {u : SX} {v : SY} (I : i_Rel k u v) (hk : k + 4 ≤ 2048) : wpX_drop (fun r u' => wpY_drop (fun r' v' => r' = r ∧ i_Rel (k + 4) u' v') v) u := by
  obtain ⟨F, C, kn, eo, no, lo, so, en, pr, ye, ta, hd, la, mk, yy, rfl, rfl, hF, hC, hE, hQ, hT⟩ := I
  have rel : i_Rel (k + 4) (nI F, nI C, eo, no, lo, so, en, pr, ye) (nI F, nI C, kn, ta, hd, la, no, lo, so, en, mk, yy) := ln_rel hF hC hE hQ hT
  by_cases z : F = 0
  · have z' : nI F = 0 := (congrArg nI z).trans nI_0
    exact br_t z' (br_t z' ⟨rfl, rel⟩)
  · obtain ⟨G, rfl⟩ : ∃ G, F = G + 1 := ⟨F - 1, by omega⟩
    have z' : ¬ nI (G + 1) = 0 := nI_ne0 (by omega) (by omega)
    have rel' : i_Rel (k + 4) (nI G, nI C, eo, no, lo, so, en, pr, ye) (nI G, nI C, 0, ta, hd, la, no, lo, so, en, mk, yy) := ln_rel (by omega) hC (fun i hi => hE i (by omega)) hQ (fun q => absurd rfl q)
    exact br_f z' (nm_r (nI_pred G) (br_f z' (nm_r (nI_pred G) ⟨rfl, rel'⟩)))
theorem i_vc_all {k : Nat} {u : SX} {v : SY} (I : i_Rel k u v) (hk : k + 4 ≤ 2048) : wpX_all (fun r => wpY_all (fun r' => r' = r ∧ i_Rel (k + 4) u v) v) u := by
  obtain ⟨F, C, kn, eo, no, lo, so, en, pr, ye, ta, hd, la, mk, yy, rfl, rfl, hF, hC, hE, hQ, hT⟩ := I
  have rel : i_Rel (k + 4) (nI F, nI C, eo, no, lo, so, en, pr, ye) (nI F, nI C, kn, ta, hd, la, no, lo, so, en, mk, yy) := ln_rel hF hC hE hQ hT
  have L : ∀ (post : Int32 → Prop), post (nI (4 ^ F)) → ∀ d i : Nat, i + d = F → wY_all_4 post (nI F) (nI C) kn ta hd la no lo so en mk yy (d + 1) (nI (4 ^ i)) (nI i) := by
    intro post hp d
    induction d with
    | zero =>
      intro i h
      have h' : i = F := by omega
      rw [h']
      exact br_t (nI_le (Nat.le_refl F) (by omega)) hp
    | succ d ih =>
      intro i h
      have hn : ¬ nI F ≤ nI i := nI_ge (by omega) (by omega)
      have e : nI (4 ^ i) * 4 = nI (4 ^ (i + 1)) := by
        rw [Nat.pow_succ]
        exact pk_mul (4 ^ i) 4
      exact br_f hn (nm_r e (nm_r (nI_1 i) (ih (i + 1) (by omega))))
  exact ⟨F + 1, L _ ⟨(ln_p4 F hF).symm, rel⟩ F 0 (by omega)⟩
