/-! the calls that read -/
theorem i_vc_share {k : Nat} {u : SX} {v : SY} (I : i_Rel k u v) (hk : k + 4 ≤ 2048) : wpX_share (fun r u' => wpY_share (fun r' v' => r' = r ∧ i_Rel (k + 4) u' v') v) u := by
  obtain ⟨F, C, kn, eo, no, lo, so, en, pr, ye, ta, hd, la, mk, yy, rfl, rfl, hF, hC, hE, hQ, hT⟩ := I
  unfold wpX_share wpY_share
  refine ln_fa hF hC hQ (fun pr' ye' t => ?_)
  obtain ⟨r, hX, hY⟩ := ln_sum (C := C) eo no lo so en pr' ye' ta hd la hF 0
  refine hX _ ?_
  unfold wpY_sum
  refine ln_wk hF hC hE hQ hT (fun kn' mk' yy' hk' t' => ?_)
  have rel : i_Rel (k + 4) (nI F, nI C, eo, no, lo, so, en, pr', ye') (nI F, nI C, kn', ta, hd, la, no, lo, so, en, mk', yy') := ln_rel hF hC hE hQ (fun _ => t')
  exact ⟨_, hY kn' mk' yy' _ (ln_A_eq t t') ⟨rfl, rel⟩⟩
theorem i_vc_shareWith {k : Nat} {u : SX} {v : SY} (I : i_Rel k u v) (hk : k + 4 ≤ 2048) (v1 : Int32) : wpX_shareWith (fun r u' => wpY_shareWith (fun r' v' => r' = r ∧ i_Rel (k + 4) u' v') v v1) u v1 := by
  obtain ⟨F, C, kn, eo, no, lo, so, en, pr, ye, ta, hd, la, mk, yy, rfl, rfl, hF, hC, hE, hQ, hT⟩ := I
  have h10 : ¬ (1 : Int32) = 0 := by decide
  unfold wpX_shareWith wpY_shareWith
  rcases ln_if hF v1 with ⟨nX, nY⟩ | ⟨f, hf, rfl⟩
  · have rel : i_Rel (k + 4) (nI F, nI C, eo, no, lo, so, en, pr, ye) (nI F, nI C, kn, ta, hd, la, no, lo, so, en, mk, yy) := ln_rel hF hC hE hQ hT
    exact nX _ _ _ _ _ _ _ _ _ (br_t rfl (nY _ _ _ _ _ _ _ _ _ _ _ _ (br_t rfl ⟨rfl, rel⟩)))
  · refine ln_ifX hF hf (br_f h10 (ln_fa hF hC hQ (fun pr' ye' t => ?_)))
    obtain ⟨r, hX, hY⟩ := ln_sum (C := C) eo no lo so en pr' ye' ta hd la hF ((1 : Int32) <<< (nI f &&& 31))
    refine hX _ (ln_ifY hF hf (br_f h10 ?_))
    unfold wpY_sum
    refine ln_wk hF hC hE hQ hT (fun kn' mk' yy' hk' t' => ?_)
    have rel : i_Rel (k + 4) (nI F, nI C, eo, no, lo, so, en, pr', ye') (nI F, nI C, kn', ta, hd, la, no, lo, so, en, mk', yy') := ln_rel hF hC hE hQ (fun _ => t')
    exact ⟨_, hY kn' mk' yy' _ (ln_A_eq t t') ⟨rfl, rel⟩⟩
theorem i_vc_matters {k : Nat} {u : SX} {v : SY} (I : i_Rel k u v) (hk : k + 4 ≤ 2048) (v1 : Int32) : wpX_matters (fun r u' => wpY_matters (fun r' v' => r' = r ∧ i_Rel (k + 4) u' v') v v1) u v1 := by
  obtain ⟨F, C, kn, eo, no, lo, so, en, pr, ye, ta, hd, la, mk, yy, rfl, rfl, hF, hC, hE, hQ, hT⟩ := I
  have h10 : ¬ (1 : Int32) = 0 := by decide
  unfold wpX_matters wpY_matters
  rcases ln_if hF v1 with ⟨nX, nY⟩ | ⟨f, hf, rfl⟩
  · have rel : i_Rel (k + 4) (nI F, nI C, eo, no, lo, so, en, pr, ye) (nI F, nI C, kn, ta, hd, la, no, lo, so, en, mk, yy) := ln_rel hF hC hE hQ hT
    exact nX _ _ _ _ _ _ _ _ _ (br_t rfl (nY _ _ _ _ _ _ _ _ _ _ _ _ (br_t rfl ⟨rfl, rel⟩)))
  · refine ln_ifX hF hf (br_f h10 (ln_fa hF hC hQ (fun pr' ye' t => ?_)))
    obtain ⟨r, hX, hY⟩ := ln_mt (C := C) eo no lo so en pr' ye' ta hd la hF hf
    refine nm_r (ln_pow F hF) (nm_e ⟨_, hX _ (ln_ifY hF hf (br_f h10 ?_))⟩)
    refine ln_wk hF hC hE hQ hT (fun kn' mk' yy' hk' t' => ?_)
    have rel : i_Rel (k + 4) (nI F, nI C, eo, no, lo, so, en, pr', ye') (nI F, nI C, kn', ta, hd, la, no, lo, so, en, mk', yy') := ln_rel hF hC hE hQ (fun _ => t')
    exact ⟨_, hY kn' mk' yy' _ (ln_A_eq t t') ⟨rfl, rel⟩⟩
theorem i_vc_fewest {k : Nat} {u : SX} {v : SY} (I : i_Rel k u v) (hk : k + 4 ≤ 2048) : wpX_fewest (fun r u' => wpY_fewest (fun r' v' => r' = r ∧ i_Rel (k + 4) u' v') v) u := by
  obtain ⟨F, C, kn, eo, no, lo, so, en, pr, ye, ta, hd, la, mk, yy, rfl, rfl, hF, hC, hE, hQ, hT⟩ := I
  unfold wpX_fewest wpY_fewest
  refine ln_fa hF hC hQ (fun pr' ye' t => ?_)
  obtain ⟨r, hX, hY⟩ := ln_few (C := C) eo no lo so en pr' ye' ta hd la hF
  refine nm_r (ln_pow F hF) ⟨_, hX _ ?_⟩
  refine ln_wk hF hC hE hQ hT (fun kn' mk' yy' hk' t' => ?_)
  have rel : i_Rel (k + 4) (nI F, nI C, eo, no, lo, so, en, pr', ye') (nI F, nI C, kn', ta, hd, la, no, lo, so, en, mk', yy') := ln_rel hF hC hE hQ (fun _ => t')
  exact ⟨_, hY kn' mk' yy' _ (ln_A_eq t t') ⟨rfl, rel⟩⟩
theorem i_vc_reasons {k : Nat} {u : SX} {v : SY} (I : i_Rel k u v) (hk : k + 4 ≤ 2048) : wpX_reasons (fun r u' => wpY_reasons (fun r' v' => r' = r ∧ i_Rel (k + 4) u' v') v) u := by
  obtain ⟨F, C, kn, eo, no, lo, so, en, pr, ye, ta, hd, la, mk, yy, rfl, rfl, hF, hC, hE, hQ, hT⟩ := I
  unfold wpX_reasons wpY_reasons
  refine ln_fa hF hC hQ (fun pr' ye' t => ?_)
  obtain ⟨r, hX, hY⟩ := ln_rea (C := C) eo no lo so en pr' ye' ta hd la hF
  refine nm_r (ln_pow F hF) ⟨_, hX _ ?_⟩
  refine ln_wk hF hC hE hQ hT (fun kn' mk' yy' hk' t' => ?_)
  have rel : i_Rel (k + 4) (nI F, nI C, eo, no, lo, so, en, pr', ye') (nI F, nI C, kn', ta, hd, la, no, lo, so, en, mk', yy') := ln_rel hF hC hE hQ (fun _ => t')
  exact ⟨_, hY kn' mk' yy' _ (ln_A_eq t t') ⟨rfl, rel⟩⟩
