section
/-! pasted from kit/rows -/
theorem pk_us {f : Nat → Int32} {k : Nat} {x : Int32} : upd f k x k = x := if_pos rfl
theorem pk_un {f : Nat → Int32} {k j : Nat} {x : Int32} (h : j ≠ k) : upd f k x j = f j := if_neg h
theorem pk_sub {a b : Nat} (h : b ≤ a) : nI a - nI b = nI (a - b) := by
  obtain ⟨c, rfl⟩ : ∃ c, a = c + b := ⟨a - b, by omega⟩
  rw [← nI_add, Int32.add_sub_cancel, Nat.add_sub_cancel]
theorem pk_mul (a b : Nat) : nI a * nI b = nI (a * b) := (Int32.ofNat_mul a b).symm
theorem pk_div {a d : Nat} (ha : a < 2 ^ 31) (h0 : 0 < d) (hd : d < 2 ^ 31) : nI a / nI d = nI (a / d) := by
  apply Int32.toInt_inj.mp
  rw [lg_idiv_nonneg (by rw [nI_toInt ha]; omega) (by rw [nI_toInt hd]; omega), nI_toInt ha, nI_toInt hd, nI_toInt (Nat.lt_of_le_of_lt (Nat.div_le_self a d) ha)]
  first | rfl | exact (Int.natCast_ediv _ _).symm
theorem pk_rem {a d : Nat} (ha : a < 2 ^ 31) (h0 : 0 < d) (hd : d < 2 ^ 31) : nI a - nI a / nI d * nI d = nI (a % d) := by
  rw [pk_div ha h0 hd, pk_mul, pk_sub (Nat.div_mul_le_self a d)]
  exact congrArg nI (by have := Nat.div_add_mod' a d; omega)
theorem pk_ix (x : Int32) {n : Nat} (hn : n < 2 ^ 31) : x < 0 ∨ nI n ≤ x ∨ ∃ j : Nat, j < n ∧ x = nI j := by
  by_cases h : x < 0
  · exact Or.inl h
  · obtain ⟨j, hj, rfl⟩ := nI_of h
    by_cases h2 : j < n
    · exact Or.inr (Or.inr ⟨j, h2, rfl⟩)
    · exact Or.inr (Or.inl (nI_le (by omega) hj))
theorem pk_tn {n : Nat} (h : n < 2 ^ 32) : (nI n).toBitVec.toNat = n := Nat.mod_eq_of_lt h
theorem pk_and (x : Int32) {m : Int32} (k : Nat) (hm : m.toBitVec.toNat = 2 ^ k - 1) : x &&& m = nI (x.toBitVec.toNat % 2 ^ k) := by
  apply Int32.toBitVec_inj.mp
  apply BitVec.eq_of_toNat_eq
  rw [Int32.toBitVec_and, BitVec.toNat_and, hm, Nat.and_two_pow_sub_one_eq_mod]
  show _ = (BitVec.ofNat 32 _).toNat
  rw [BitVec.toNat_ofNat]
  exact (Nat.mod_eq_of_lt (Nat.lt_of_le_of_lt (Nat.mod_le _ _) x.toBitVec.isLt)).symm
theorem pk_andE (x : Int32) {m : Int32} (k : Nat) (hm : m.toBitVec.toNat = 2 ^ k - 1) : ∃ j : Nat, j < 2 ^ k ∧ x &&& m = nI j := ⟨_, Nat.mod_lt _ (Nat.two_pow_pos k), pk_and x k hm⟩
theorem pk_shr (a s : Int32) (k : Nat) (hs : (s.toBitVec.smod 32).toNat = k) : (a >>> s).toInt = a.toInt >>> k := by
  show (a.toBitVec.sshiftRight (s.toBitVec.smod 32).toNat).toInt = _
  rw [hs, BitVec.toInt_sshiftRight]
  rfl
theorem nx_and (a b : Nat) : nI a &&& nI b = nI (a &&& b) := by
  apply Int32.toBitVec_inj.1
  show BitVec.ofNat 32 a &&& BitVec.ofNat 32 b = BitVec.ofNat 32 (a &&& b)
  apply BitVec.eq_of_getLsbD_eq
  intro i hi
  simp [hi]
theorem nx_xor (a b : Nat) : nI a ^^^ nI b = nI (a ^^^ b) := by
  apply Int32.toBitVec_inj.1
  show BitVec.ofNat 32 a ^^^ BitVec.ofNat 32 b = BitVec.ofNat 32 (a ^^^ b)
  apply BitVec.eq_of_getLsbD_eq
  intro i hi
  simp [hi]
/-! own rows: numbers -/
theorem ln_vb0 : vp_nar .boolean 0 = 0 := rfl
theorem ln_vb1 : vp_nar .boolean 1 = 1 := rfl
theorem ln_pow : ∀ i, i < 10 → (1 : Int32) <<< (nI i &&& 31) = nI (2 ^ i) := by decide +kernel
theorem ln_p4 : ∀ i, i < 10 → (1 : Int32) <<< ((2 * nI i) &&& 31) = nI (4 ^ i) := by decide +kernel
theorem ln_512 {F : Nat} (h : F < 10) : 2 ^ F ≤ 512 := Nat.le_trans (Nat.pow_le_pow_right (by decide) (show F ≤ 9 by omega)) (by decide)
theorem ln_xor {F w i : Nat} (hF : F < 10) (hw : w < 2 ^ F) (hi : i < F) : ∃ x, x < 2 ^ F ∧ nI w ^^^ ((1 : Int32) <<< (nI i &&& 31)) = nI x :=
  ⟨w ^^^ 2 ^ i, Nat.xor_lt_two_pow hw (Nat.pow_lt_pow_right (by decide) hi), by rw [ln_pow i (by omega), nx_xor]⟩
theorem ln_b01 (x : Int32) : x &&& 1 = 0 ∨ x &&& 1 = 1 := by
  obtain ⟨j, hj, e⟩ := pk_andE x (m := 1) 1 (by decide)
  rw [e]
  have h : j = 0 ∨ j = 1 := by omega
  rcases h with rfl | rfl
  · exact Or.inl rfl
  · exact Or.inr rfl
theorem ln_and0 (x : Int32) : x &&& 0 = 0 := by
  apply Int32.toBitVec_inj.mp
  rw [Int32.toBitVec_and]
  exact BitVec.and_zero
theorem ln_7 (x : Int32) : x &&& 7 = nI (x.toBitVec.toNat % 8) := pk_and x (m := 7) 3 (by decide)
theorem ln_127 (x : Int32) : x &&& 127 = nI (x.toBitVec.toNat % 128) := pk_and x (m := 127) 7 (by decide)
theorem ln_1 (x : Int32) : x &&& 1 = nI (x.toBitVec.toNat % 2) := pk_and x (m := 1) 1 (by decide)
theorem ln_sr3 (x : Int32) : (x >>> ((3 : Int32) &&& 31)) &&& 7 = nI (x.toBitVec.toNat / 8 % 8) := by
  rw [ln_7]
  have h : (x >>> ((3 : Int32) &&& 31)).toInt = x.toInt / 8 := by
    rw [pk_shr x ((3 : Int32) &&& 31) 3 (by decide), Int.shiftRight_eq_div_pow]
    rfl
  have a : x.toInt = _ := BitVec.toInt_eq_toNat_cond x.toBitVec
  have b : (x >>> ((3 : Int32) &&& 31)).toInt = _ := BitVec.toInt_eq_toNat_cond (x >>> ((3 : Int32) &&& 31)).toBitVec
  have la := x.toBitVec.isLt
  have lb := (x >>> ((3 : Int32) &&& 31)).toBitVec.isLt
  rw [h, a] at b
  generalize (x >>> ((3 : Int32) &&& 31)).toBitVec.toNat = q at b lb ⊢
  generalize x.toBitVec.toNat = n at b la ⊢
  refine congrArg nI ?_
  split at b <;> split at b <;> omega
theorem ln_sr6 (x : Int32) : (x >>> ((6 : Int32) &&& 31)) &&& 1 = nI (x.toBitVec.toNat / 64 % 2) := by
  rw [ln_1]
  have h : (x >>> ((6 : Int32) &&& 31)).toInt = x.toInt / 64 := by
    rw [pk_shr x ((6 : Int32) &&& 31) 6 (by decide), Int.shiftRight_eq_div_pow]
    rfl
  have a : x.toInt = _ := BitVec.toInt_eq_toNat_cond x.toBitVec
  have b : (x >>> ((6 : Int32) &&& 31)).toInt = _ := BitVec.toInt_eq_toNat_cond (x >>> ((6 : Int32) &&& 31)).toBitVec
  have la := x.toBitVec.isLt
  have lb := (x >>> ((6 : Int32) &&& 31)).toBitVec.isLt
  rw [h, a] at b
  generalize (x >>> ((6 : Int32) &&& 31)).toBitVec.toNat = q at b lb ⊢
  generalize x.toBitVec.toNat = n at b la ⊢
  refine congrArg nI ?_
  split at b <;> split at b <;> omega
theorem ln_code : ∀ a, a < 6 → ∀ b, b < 6 → ∀ l, l < 2 → (nI a ||| (nI b <<< ((3 : Int32) &&& 31))) ||| (nI l <<< ((6 : Int32) &&& 31)) = nI (a + 8 * b + 64 * l) := by decide +kernel
/-! the pure picture -/
/-- the node that a term stands for, under a choice of values -/
def ln_d (x : Int32) (ch : Nat) : Nat := if x = 0 then ch % 6 else if x = 1 then ch / 6 % 6 else if x = 2 then ch / 36 else x.toNatClampNeg - 8
/-- the edge, as the class packs it, that condition c asks for -/
def ln_e (lo so en : Nat → Int32) (c ch : Nat) : Int32 := (nI (ln_d (so c) ch) ||| (nI (ln_d (en c) ch) <<< ((3 : Int32) &&& 31))) ||| (lo c <<< ((6 : Int32) &&& 31))
/-- the facts below i that say the edge e, as bits -/
def ln_s (eo : Nat → Int32) (e : Int32) : Nat → Int32
  | 0 => 0
  | i + 1 => if eo i = e then ln_s eo e i ||| ((1 : Int32) <<< (nI i &&& 31)) else ln_s eo e i
def ln_m (F : Nat) (eo lo so en : Nat → Int32) (c ch : Nat) : Int32 := ln_s eo (ln_e lo so en c ch) F
/-- under the choice ch all conditions hold in the world w -/
def ln_H (F C : Nat) (eo lo so en : Nat → Int32) (ch w : Nat) : Prop := ∀ c, c < C → ¬ (nI w &&& ln_m F eo lo so en c ch) = 0
/-- the table y holds 1 for the worlds in S, 0 for the others, below W -/
def ln_A (W : Nat) (S : Nat → Prop) (y : Nat → Int32) : Prop := ∀ w, w < W → (S w → y w = 1) ∧ (¬ S w → y w = 0)
def ln_T (F C : Nat) (eo lo so en y : Nat → Int32) : Prop := ln_A (2 ^ F) (fun w => ∃ ch, ch < 216 ∧ ln_H F C eo lo so en ch w) y
def ln_tm (x : Int32) : Prop := x = 0 ∨ x = 1 ∨ x = 2 ∨ ∃ t, t < 6 ∧ x = nI (8 + t)
def ln_Q (C : Nat) (lo so en : Nat → Int32) : Prop := ∀ c, c < C → (∃ l, l < 2 ∧ lo c = nI l) ∧ ln_tm (so c) ∧ ln_tm (en c)
def ln_E (F : Nat) (eo ta hd la : Nat → Int32) : Prop := ∀ i, i < F → ∃ a b l : Nat, a < 6 ∧ b < 6 ∧ l < 2 ∧ ta i = nI a ∧ hd i = nI b ∧ la i = nI l ∧ eo i = nI (a + 8 * b + 64 * l)
theorem ln_A_eq {W : Nat} {S : Nat → Prop} {y z : Nat → Int32} (a : ln_A W S y) (b : ln_A W S z) : ∀ w, w < W → y w = z w := by
  intro w hw
  by_cases h : S w
  · rw [(a w hw).1 h, (b w hw).1 h]
  · rw [(a w hw).2 h, (b w hw).2 h]
theorem ln_A_iff {W : Nat} {S S' : Nat → Prop} {y : Nat → Int32} (h : ∀ w, w < W → (S w ↔ S' w)) (a : ln_A W S y) : ln_A W S' y :=
  fun w hw => ⟨fun s => (a w hw).1 ((h w hw).2 s), fun s => (a w hw).2 (fun t => s ((h w hw).1 t))⟩
theorem ln_A_step {W w0 : Nat} {S H : Nat → Prop} {y y' : Nat → Int32} (a : ln_A W (fun w => S w ∨ (w < w0 ∧ H w)) y) (ho : ∀ w, w ≠ w0 → y' w = y w) (h1 : S w0 ∨ H w0 → y' w0 = 1) (h0 : ¬ (S w0 ∨ H w0) → y' w0 = 0) : ln_A W (fun w => S w ∨ (w < w0 + 1 ∧ H w)) y' := by
  intro w hw
  by_cases e : w = w0
  · subst e
    exact ⟨fun (s : S w ∨ (w < w + 1 ∧ H w)) => h1 (s.imp id And.right), fun s => h0 (fun t => s (t.imp id (fun q => ⟨Nat.lt_succ_self w, q⟩)))⟩
  · rw [ho w e]
    exact ⟨fun (s : S w ∨ (w < w0 + 1 ∧ H w)) => (a w hw).1 (s.imp id (fun q => ⟨by have := q.1; omega, q.2⟩)), fun s => (a w hw).2 (fun (t : S w ∨ (w < w0 ∧ H w)) => s (t.imp id (fun q => ⟨by have := q.1; omega, q.2⟩)))⟩
/-- all worlds below W are through: the bound on w falls away -/
theorem ln_A_end {W w0 : Nat} {S H : Nat → Prop} {y : Nat → Int32} (h : W ≤ w0) (a : ln_A W (fun w => S w ∨ (w < w0 ∧ H w)) y) : ln_A W (fun w => S w ∨ H w) y :=
  ln_A_iff (fun _ hw => ⟨fun s => s.imp id And.right, fun s => s.imp id (fun q => ⟨by omega, q⟩)⟩) a
theorem ln_A_beg {W : Nat} {S H : Nat → Prop} {y : Nat → Int32} (a : ln_A W S y) : ln_A W (fun w => S w ∨ (w < 0 ∧ H w)) y :=
  ln_A_iff (fun v _ => ⟨fun s => Or.inl s, fun s => s.elim id (fun q => absurd q.1 (Nat.not_lt_zero v))⟩) a
/-- one choice more -/
theorem ln_A_more {W ch : Nat} {P : Nat → Nat → Prop} {y : Nat → Int32} (a : ln_A W (fun w => (∃ c, c < ch ∧ P c w) ∨ P ch w) y) : ln_A W (fun w => ∃ c, c < ch + 1 ∧ P c w) y :=
  ln_A_iff (fun w _ => ⟨fun s => s.elim (fun ⟨c, h, p⟩ => ⟨c, by omega, p⟩) (fun p => ⟨ch, by omega, p⟩), fun ⟨c, h, p⟩ => by
    by_cases e : c = ch
    · subst e
      exact Or.inr p
    · exact Or.inl ⟨c, by omega, p⟩⟩) a
theorem ln_A_same {W ch : Nat} {P : Nat → Nat → Prop} {y : Nat → Int32} (n : ∀ w, ¬ P ch w) (a : ln_A W (fun w => ∃ c, c < ch ∧ P c w) y) : ln_A W (fun w => ∃ c, c < ch + 1 ∧ P c w) y :=
  ln_A_more (ln_A_iff (fun w _ => ⟨fun s => Or.inl s, fun s => s.elim id (fun p => absurd p (n w))⟩) a)
theorem ln_A_none {W : Nat} {P : Nat → Nat → Prop} {y : Nat → Int32} (h : ∀ w, w < W → y w = 0) : ln_A W (fun w => ∃ c, c < 0 ∧ P c w) y :=
  fun w hw => ⟨fun ⟨c, q, _⟩ => absurd q (Nat.not_lt_zero c), fun _ => h w hw⟩
theorem ln_noH {F C ch : Nat} {eo lo so en : Nat → Int32} (h : ∃ c, c < C ∧ ln_m F eo lo so en c ch = 0) (w : Nat) : ¬ ln_H F C eo lo so en ch w := by
  obtain ⟨c, hc, e⟩ := h
  exact fun q => q c hc (by rw [e]; exact ln_and0 _)
theorem ln_d0 (ch : Nat) : ln_d 0 ch = ch % 6 := if_pos rfl
theorem ln_d1 (ch : Nat) : ln_d 1 ch = ch / 6 % 6 := by
  rw [ln_d, if_neg (show ¬ (1 : Int32) = 0 by decide), if_pos rfl]
theorem ln_d2 (ch : Nat) : ln_d 2 ch = ch / 36 := by
  rw [ln_d, if_neg (show ¬ (2 : Int32) = 0 by decide), if_neg (show ¬ (2 : Int32) = 1 by decide), if_pos rfl]
theorem ln_d8 {t ch : Nat} (ht : t < 6) : ln_d (nI (8 + t)) ch = t := by
  have e : ∀ k : Nat, k < 3 → ¬ nI (8 + t) = nI k := fun k hk z => by
    rw [nI_eq (a := 8 + t) (b := k) (by omega) (by omega)] at z
    omega
  rw [ln_d, if_neg (show ¬ nI (8 + t) = 0 from e 0 (by omega)), if_neg (show ¬ nI (8 + t) = 1 from e 1 (by omega)), if_neg (show ¬ nI (8 + t) = 2 from e 2 (by omega)), nI_clamp (by omega)]
  omega
theorem ln_d_lt {x : Int32} {ch : Nat} (hx : ln_tm x) (hc : ch < 216) : ln_d x ch < 6 := by
  rcases hx with rfl | rfl | rfl | ⟨t, ht, rfl⟩
  · rw [ln_d0]; omega
  · rw [ln_d1]; omega
  · rw [ln_d2]; omega
  · rw [ln_d8 ht]; exact ht
theorem ln_fit {F C c ch i : Nat} {eo lo so en ta hd la : Nat → Int32} (hE : ln_E F eo ta hd la) (hQ : ln_Q C lo so en) (hc : c < C) (hi : i < F) (hch : ch < 216) : (ta i = nI (ln_d (so c) ch) ∧ hd i = nI (ln_d (en c) ch) ∧ la i = lo c) ↔ eo i = ln_e lo so en c ch := by
  obtain ⟨a, b, l, ha, hb, hl, e1, e2, e3, e4⟩ := hE i hi
  obtain ⟨⟨m, hm, e5⟩, q1, q2⟩ := hQ c hc
  have d1 := ln_d_lt q1 hch
  have d2 := ln_d_lt q2 hch
  rw [ln_e, e1, e2, e3, e4, e5, ln_code _ d1 _ d2 _ hm]
  generalize ln_d (so c) ch = x at d1 ⊢
  generalize ln_d (en c) ch = y at d2 ⊢
  rw [nI_eq (a := a) (b := x) (by omega) (by omega), nI_eq (a := b) (b := y) (by omega) (by omega), nI_eq (a := l) (b := m) (by omega) (by omega), nI_eq (a := a + 8 * b + 64 * l) (b := x + 8 * y + 64 * m) (by omega) (by omega)]
  omega
end
section
/-! the masks of facts: both sides -/
theorem ln_r6 {a : Nat} (h : a < 216) : nI a - nI a / 6 * 6 = nI (a % 6) := pk_rem (a := a) (d := 6) (by omega) (by decide) (by decide)
theorem ln_q6 {a : Nat} (h : a < 216) : nI a / 6 = nI (a / 6) := pk_div (a := a) (d := 6) (by omega) (by decide) (by decide)
theorem ln_q36 {a : Nat} (h : a < 216) : nI a / 36 = nI (a / 36) := pk_div (a := a) (d := 36) (by omega) (by decide) (by decide)
theorem ln_s8 (t : Nat) : nI (8 + t) - 8 = nI t := by
  have h := pk_sub (a := 8 + t) (b := 8) (by omega)
  rw [Nat.add_sub_cancel_left] at h
  exact h
theorem ln_nX {post : Int32 → Prop} {x : Int32} {ch : Nat} (hx : ln_tm x) (hc : ch < 216) (hp : post (nI (ln_d x ch))) : wpX_nodeOf post x (nI ch) := by
  rcases hx with rfl | rfl | rfl | ⟨t, ht, rfl⟩
  · rw [ln_d0] at hp
    exact br_t (by decide) ⟨1, br_t (by decide) ⟨by decide, by rw [ln_r6 hc]; exact hp⟩⟩
  · rw [ln_d1] at hp
    exact br_t (by decide) ⟨2, br_f (by decide) ⟨by decide, nm_r (ln_q6 hc) (nm_r (show (0 : Int32) + 1 = 1 by decide) (br_t (by decide) ⟨by decide, by rw [ln_r6 (by omega)]; exact hp⟩))⟩⟩
  · rw [ln_d2] at hp
    have e : ch / 6 / 6 % 6 = ch / 36 := by omega
    exact br_t (by decide) ⟨3, br_f (by decide) ⟨by decide, nm_r (ln_q6 hc) (nm_r (show (0 : Int32) + 1 = 1 by decide) (br_f (by decide) ⟨by decide, nm_r (ln_q6 (a := ch / 6) (by omega)) (nm_r (show (1 : Int32) + 1 = 2 by decide) (br_t (by decide) ⟨by decide, by rw [ln_r6 (by omega), e]; exact hp⟩))⟩))⟩⟩
  · rw [ln_d8 ht] at hp
    exact br_f (nI_nlt (a := 8 + t) (b := 8) (by omega) (by omega)) (by rw [ln_s8]; exact hp)
theorem ln_nY {post : Int32 → Prop} {x f1 f2 kn : Int32} {ch : Nat} {ta hd la no lo so en mk yy : Nat → Int32} (hx : ln_tm x) (hc : ch < 216) (hp : post (nI (ln_d x ch))) : wpY_node post (f1, f2, kn, ta, hd, la, no, lo, so, en, mk, yy) x (nI ch) := by
  rcases hx with rfl | rfl | rfl | ⟨t, ht, rfl⟩
  · rw [ln_d0] at hp
    exact br_t (by decide) (br_t rfl ⟨by decide, by rw [ln_r6 hc]; exact hp⟩)
  · rw [ln_d1] at hp
    exact br_t (by decide) (br_f (by decide) (br_t rfl ⟨by decide, by decide, by rw [ln_q6 hc, ln_r6 (by omega)]; exact hp⟩))
  · rw [ln_d2] at hp
    exact br_t (by decide) (br_f (by decide) (br_f (by decide) ⟨by decide, by rw [ln_q36 hc]; exact hp⟩))
  · rw [ln_d8 ht] at hp
    exact br_f (nI_nlt (a := 8 + t) (b := 8) (by omega) (by omega)) (by rw [ln_s8]; exact hp)
theorem ln_fs {post : Int32 → Prop} {F C : Nat} {eo no lo so en pr ye : Nat → Int32} {e : Int32} (hF : F < 10) (hp : post (ln_s eo e F)) : wpX_factsSaying post (nI F, nI C, eo, no, lo, so, en, pr, ye) e := by
  have L : ∀ d i : Nat, i + d = F → wX_factsSaying_4 post e (nI F) (nI C) eo no lo so en pr ye (d + 1) (ln_s eo e i) (nI i) := by
    intro d
    induction d with
    | zero =>
      intro i h
      have h' : i = F := by omega
      rw [h']
      exact br_t (nI_le (Nat.le_refl F) (by omega)) hp
    | succ d ih =>
      intro i h
      have hn : ¬ nI F ≤ nI i := nI_ge (by omega) (by omega)
      have hi : vp_in (nI i) 9 := vp_in_nI (by omega) (by omega)
      have ec : (nI i).toNatClampNeg = i := nI_clamp (by omega)
      have ih' := ih (i + 1) (by omega)
      by_cases z : eo i = e
      · rw [ln_s, if_pos z] at ih'
        exact br_f hn ⟨hi, br_t (by rw [ec]; exact z) (nm_e (nm_r (nI_1 i) ih'))⟩
      · rw [ln_s, if_neg z] at ih'
        exact br_f hn ⟨hi, br_f (by rw [ec]; exact z) (nm_r (nI_1 i) ih')⟩
  exact ⟨_, L F 0 (by omega)⟩
theorem ln_fp {post : Int32 → SX → Prop} {F C ch : Nat} {eo no lo so en ye : Nat → Int32} (hF : F < 10) (hC : C < 5) (hc : ch < 216) (hQ : ln_Q C lo so en)
    (h1 : ∀ pr' : Nat → Int32, (∀ c, c < C → pr' c = ln_m F eo lo so en c ch) → post 1 (nI F, nI C, eo, no, lo, so, en, pr', ye))
    (h0 : ∀ pr' : Nat → Int32, (∃ c, c < C ∧ ln_m F eo lo so en c ch = 0) → post 0 (nI F, nI C, eo, no, lo, so, en, pr', ye)) (pr : Nat → Int32) : wpX_findProvers post (nI F, nI C, eo, no, lo, so, en, pr, ye) (nI ch) := by
  have L : ∀ (d c : Nat) (pr : Nat → Int32), c + d = C → (∀ j, j < c → pr j = ln_m F eo lo so en j ch) → wX_findProvers_2 post (nI ch) (nI F) (nI C) (d + 1) (nI c) eo no lo so en pr ye := by
    intro d
    induction d with
    | zero =>
      intro c pr h hp
      exact br_t (nI_le (show C ≤ c by omega) (by omega)) (h1 pr (fun j hj => hp j (by omega)))
    | succ d ih =>
      intro c pr h hp
      have hn : ¬ nI C ≤ nI c := nI_ge (by omega) (by omega)
      have hi : vp_in (nI c) 4 := vp_in_nI (by omega) (by omega)
      have ec : (nI c).toNatClampNeg = c := nI_clamp (by omega)
      obtain ⟨_, q1, q2⟩ := hQ c (by omega)
      have n1 : ∀ P : Int32 → Prop, P (nI (ln_d (so c) ch)) → wpX_nodeOf P (so (nI c).toNatClampNeg) (nI ch) := fun P hP => by
        rw [ec]
        exact ln_nX q1 hc hP
      have n2 : ∀ P : Int32 → Prop, P (nI (ln_d (en c) ch)) → wpX_nodeOf P (en (nI c).toNatClampNeg) (nI ch) := fun P hP => by
        rw [ec]
        exact ln_nX q2 hc hP
      have n3 : ∀ P : Int32 → Prop, P (ln_m F eo lo so en c ch) → wpX_factsSaying P (nI F, nI C, eo, no, lo, so, en, pr, ye) ((nI (ln_d (so c) ch) ||| (nI (ln_d (en c) ch) <<< ((3 : Int32) &&& 31))) ||| ((lo (nI c).toNatClampNeg) <<< ((6 : Int32) &&& 31))) := fun P hP => by
        rw [ec]
        exact ln_fs (e := ln_e lo so en c ch) hF hP
      refine br_f hn ⟨hi, n1 _ ⟨hi, n2 _ ⟨hi, n3 _ ?_⟩⟩⟩
      by_cases z : ln_m F eo lo so en c ch = 0
      · exact br_t z (h0 pr ⟨c, by omega, z⟩)
      · refine br_f z ⟨hi, nm_r (show upd pr (nI c).toNatClampNeg (ln_m F eo lo so en c ch) = upd pr c (ln_m F eo lo so en c ch) by rw [ec]) (nm_r (nI_1 c) (ih (c + 1) _ (by omega) ?_))⟩
        intro j hj
        by_cases e : j = c
        · rw [e]
          exact pk_us
        · rw [pk_un e]
          exact hp j (by omega)
  exact ⟨_, L C 0 pr (by omega) (fun j hj => absurd hj (Nat.not_lt_zero j))⟩
theorem ln_p19 {post : Int32 → SY → Prop} {J2 : Int32 → (Nat → Int32) → (Nat → Int32) → (Nat → Int32) → (Nat → Int32) → (Nat → Int32) → (Nat → Int32) → (Nat → Int32) → (Nat → Int32) → (Nat → Int32) → Prop} {F C c ch : Nat} {kn : Int32} {eo ta hd la no lo so en yy mk0 : Nat → Int32} (hF : F < 10) (hC : C < 5) (hc : c < C) (hch : ch < 216) (hE : ln_E F eo ta hd la) (hQ : ln_Q C lo so en)
    (h0 : ∀ mk' : Nat → Int32, ln_m F eo lo so en c ch = 0 → post 0 (nI F, nI C, kn, ta, hd, la, no, lo, so, en, mk', yy))
    (h1 : ∀ mk' : Nat → Int32, (∀ j, j ≠ c → mk' j = mk0 j) → mk' c = ln_m F eo lo so en c ch → J2 (nI (c + 1)) ta hd la no lo so en mk' yy) :
    ∀ (d i : Nat) (mk : Nat → Int32), i + d = F → (∀ j, j ≠ c → mk j = mk0 j) → mk c = ln_s eo (ln_e lo so en c ch) i → wY_possible_19 post J2 (nI ch) (nI c) (nI F) (nI C) kn (d + 1) (nI i) ta hd la no lo so en mk yy := by
  have hc4 : vp_in (nI c) 4 := vp_in_nI (by omega) (by omega)
  have ec : (nI c).toNatClampNeg = c := nI_clamp (by omega)
  obtain ⟨_, q1, q2⟩ := hQ c hc
  intro d
  induction d with
  | zero =>
    intro i mk h hoff hmk
    have h' : i = F := by omega
    have hm : mk c = ln_m F eo lo so en c ch := by
      rw [hmk, h']
      rfl
    have hm' : mk (nI c).toNatClampNeg = ln_m F eo lo so en c ch := by
      rw [ec]
      exact hm
    have hF' : nI F ≤ nI i := nI_le (by omega) (by omega)
    by_cases z : ln_m F eo lo so en c ch = 0
    · exact br_t hF' ⟨hc4, br_t (hm'.trans z) (h0 mk z)⟩
    · exact br_t hF' ⟨hc4, br_f (fun q => z (hm'.symm.trans q)) (nm_r (nI_1 c) (h1 mk hoff hm))⟩
  | succ d ih =>
    intro i mk h hoff hmk
    have hn : ¬ nI F ≤ nI i := nI_ge (by omega) (by omega)
    have hi9 : vp_in (nI i) 9 := vp_in_nI (by omega) (by omega)
    have ei : (nI i).toNatClampNeg = i := nI_clamp (by omega)
    have n1 : ∀ P : Int32 → Prop, P (nI (ln_d (so c) ch)) → wpY_node P (nI F, nI C, kn, ta, hd, la, no, lo, so, en, mk, yy) (so (nI c).toNatClampNeg) (nI ch) := fun P hP => by
      rw [ec]
      exact ln_nY q1 hch hP
    have n2 : ∀ P : Int32 → Prop, P (nI (ln_d (en c) ch)) → wpY_node P (nI F, nI C, kn, ta, hd, la, no, lo, so, en, mk, yy) (en (nI c).toNatClampNeg) (nI ch) := fun P hP => by
      rw [ec]
      exact ln_nY q2 hch hP
    have fit := ln_fit hE hQ hc (show i < F by omega) hch
    have nf : ¬ eo i = ln_e lo so en c ch → wY_possible_19 post J2 (nI ch) (nI c) (nI F) (nI C) kn (d + 1) (nI (i + 1)) ta hd la no lo so en mk yy := fun z => ih (i + 1) mk (by omega) hoff (by rw [ln_s, if_neg z]; exact hmk)
    refine br_f hn ⟨hi9, hc4, n1 _ ?_⟩
    by_cases z1 : ta i = nI (ln_d (so c) ch)
    · refine br_t (by rw [ei]; exact z1) ⟨hi9, hc4, n2 _ ?_⟩
      by_cases z2 : hd i = nI (ln_d (en c) ch)
      · refine br_t (by rw [ei]; exact z2) (br_f (by decide) ⟨hi9, hc4, ?_⟩)
        by_cases z3 : la i = lo c
        · refine br_t (by rw [ei, ec]; exact z3) ⟨hc4, hc4, nm_r (show upd mk (nI c).toNatClampNeg ((mk (nI c).toNatClampNeg) ||| ((1 : Int32) <<< (nI i &&& 31))) = upd mk c (mk c ||| ((1 : Int32) <<< (nI i &&& 31))) by rw [ec]) (nm_r (nI_1 i) (ih (i + 1) _ (by omega) (fun j hj => (pk_un hj).trans (hoff j hj)) ?_))⟩
          rw [pk_us, ln_s, if_pos (fit.1 ⟨z1, z2, z3⟩), hmk]
        · exact br_f (by rw [ei, ec]; exact z3) (nm_r (nI_1 i) (nf (fun q => z3 (fit.2 q).2.2)))
      · exact br_f (by rw [ei]; exact z2) (br_t rfl (nm_r (nI_1 i) (nf (fun q => z2 (fit.2 q).2.1))))
    · exact br_f (by rw [ei]; exact z1) (br_t rfl (nm_r (nI_1 i) (nf (fun q => z1 (fit.2 q).1))))
theorem ln_po {post : Int32 → SY → Prop} {F C ch : Nat} {kn : Int32} {eo ta hd la no lo so en yy : Nat → Int32} (hF : F < 10) (hC : C < 5) (hch : ch < 216) (hE : ln_E F eo ta hd la) (hQ : ln_Q C lo so en)
    (h1 : ∀ mk' : Nat → Int32, (∀ c, c < C → mk' c = ln_m F eo lo so en c ch) → post 1 (nI F, nI C, kn, ta, hd, la, no, lo, so, en, mk', yy))
    (h0 : ∀ mk' : Nat → Int32, (∃ c, c < C ∧ ln_m F eo lo so en c ch = 0) → post 0 (nI F, nI C, kn, ta, hd, la, no, lo, so, en, mk', yy)) (mk : Nat → Int32) : wpY_possible post (nI F, nI C, kn, ta, hd, la, no, lo, so, en, mk, yy) (nI ch) := by
  have L : ∀ (d c : Nat) (mk : Nat → Int32), c + d = C → (∀ j, j < c → mk j = ln_m F eo lo so en j ch) → wY_possible_2 post (nI ch) (nI F) (nI C) kn (d + 1) (nI c) ta hd la no lo so en mk yy := by
    intro d
    induction d with
    | zero =>
      intro c mk h hp
      exact br_t (nI_le (show C ≤ c by omega) (by omega)) (h1 mk (fun j hj => hp j (by omega)))
    | succ d ih =>
      intro c mk h hp
      have hn : ¬ nI C ≤ nI c := nI_ge (by omega) (by omega)
      have hi : vp_in (nI c) 4 := vp_in_nI (by omega) (by omega)
      have ec : (nI c).toNatClampNeg = c := nI_clamp (by omega)
      refine br_f hn ⟨hi, nm_r (show upd mk (nI c).toNatClampNeg 0 = upd mk c 0 by rw [ec]) ⟨F + 1, ln_p19 (mk0 := upd mk c 0) hF hC (show c < C by omega) hch hE hQ (fun mk' z => h0 mk' ⟨c, by omega, z⟩) (fun mk' ho hm => ih (c + 1) mk' (by omega) ?_) F 0 (upd mk c 0) (by omega) (fun j hj => rfl) pk_us⟩⟩
      intro j hj
      by_cases e : j = c
      · rw [e]
        exact hm
      · rw [ho j e, pk_un e]
        exact hp j (by omega)
  exact ⟨_, L C 0 mk (by omega) (fun j hj => absurd hj (Nat.not_lt_zero j))⟩
end
section
/-! the tables of answers: both sides -/
theorem ln_paX {post : Int32 → Prop} {F C ch w : Nat} {eo no lo so en pr ye : Nat → Int32} (hC : C < 5) (hp : ∀ c, c < C → pr c = ln_m F eo lo so en c ch) (h1 : ln_H F C eo lo so en ch w → post 1) (h0 : ¬ ln_H F C eo lo so en ch w → post 0) : wpX_provesAll post (nI F, nI C, eo, no, lo, so, en, pr, ye) (nI w) := by
  have L : ∀ d c : Nat, c + d = C → (∀ j, j < c → ¬ (nI w &&& ln_m F eo lo so en j ch) = 0) → wX_provesAll_2 post (nI w) (nI F) (nI C) eo no lo so en pr ye (d + 1) (nI c) := by
    intro d
    induction d with
    | zero =>
      intro c h hj
      exact br_t (nI_le (show C ≤ c by omega) (by omega)) (h1 (fun j hj' => hj j (by omega)))
    | succ d ih =>
      intro c h hj
      have hn : ¬ nI C ≤ nI c := nI_ge (by omega) (by omega)
      have hi : vp_in (nI c) 4 := vp_in_nI (by omega) (by omega)
      have ec : pr (nI c).toNatClampNeg = ln_m F eo lo so en c ch := by
        rw [nI_clamp (by omega)]
        exact hp c (by omega)
      by_cases z : (nI w &&& ln_m F eo lo so en c ch) = 0
      · exact br_f hn ⟨hi, br_t (by rw [ec]; exact z) (h0 (fun q => q c (by omega) z))⟩
      · exact br_f hn ⟨hi, br_f (by rw [ec]; exact z) (nm_r (nI_1 c) (ih (c + 1) (by omega) (lt_s hj z)))⟩
  exact ⟨_, L C 0 (by omega) (fun j hj => absurd hj (Nat.not_lt_zero j))⟩
theorem ln_paY {post : Int32 → Prop} {F C ch w : Nat} {kn : Int32} {eo ta hd la no lo so en mk yy : Nat → Int32} (hC : C < 5) (hp : ∀ c, c < C → mk c = ln_m F eo lo so en c ch) (h1 : ln_H F C eo lo so en ch w → post 1) (h0 : ¬ ln_H F C eo lo so en ch w → post 0) : wpY_holdsIn post (nI F, nI C, kn, ta, hd, la, no, lo, so, en, mk, yy) (nI w) := by
  have L : ∀ d c : Nat, c + d = C → (∀ j, j < c → ¬ (nI w &&& ln_m F eo lo so en j ch) = 0) → wY_holdsIn_2 post (nI w) (nI F) (nI C) kn ta hd la no lo so en mk yy (d + 1) (nI c) := by
    intro d
    induction d with
    | zero =>
      intro c h hj
      exact br_t (nI_le (show C ≤ c by omega) (by omega)) (h1 (fun j hj' => hj j (by omega)))
    | succ d ih =>
      intro c h hj
      have hn : ¬ nI C ≤ nI c := nI_ge (by omega) (by omega)
      have hi : vp_in (nI c) 4 := vp_in_nI (by omega) (by omega)
      have ec : mk (nI c).toNatClampNeg = ln_m F eo lo so en c ch := by
        rw [nI_clamp (by omega)]
        exact hp c (by omega)
      by_cases z : (nI w &&& ln_m F eo lo so en c ch) = 0
      · exact br_f hn ⟨hi, br_t (by rw [ec]; exact z) (h0 (fun q => q c (by omega) z))⟩
      · exact br_f hn ⟨hi, br_f (by rw [ec]; exact z) (nm_r (nI_1 c) (ih (c + 1) (by omega) (lt_s hj z)))⟩
  exact ⟨_, L C 0 (by omega) (fun j hj => absurd hj (Nat.not_lt_zero j))⟩
theorem ln_mw {post : SX → Prop} {F C ch W : Nat} {S : Nat → Prop} {eo no lo so en pr ye : Nat → Int32} (h5 : W ≤ 512) (hC : C < 5) (hp : ∀ c, c < C → pr c = ln_m F eo lo so en c ch) (hA : ln_A W S ye)
    (hpost : ∀ ye' : Nat → Int32, ln_A W (fun w => S w ∨ ln_H F C eo lo so en ch w) ye' → post (nI F, nI C, eo, no, lo, so, en, pr, ye')) : wpX_markWorlds post (nI F, nI C, eo, no, lo, so, en, pr, ye) (nI W) := by
  have L : ∀ (d w : Nat) (ye : Nat → Int32), w + d = W → ln_A W (fun v => S v ∨ (v < w ∧ ln_H F C eo lo so en ch v)) ye → wX_markWorlds_2 post (nI W) (nI F) (nI C) (d + 1) (nI w) eo no lo so en pr ye := by
    intro d
    induction d with
    | zero =>
      intro w ye h a
      exact br_t (nI_le (show W ≤ w by omega) (by omega)) (hpost ye (ln_A_end (show W ≤ w by omega) a))
    | succ d ih =>
      intro w ye h a
      have hw : w < W := by omega
      have hn : ¬ nI W ≤ nI w := nI_ge (by omega) (by omega)
      have hi : vp_in (nI w) 512 := vp_in_nI (by omega) (by omega)
      have ec : (nI w).toNatClampNeg = w := nI_clamp (by omega)
      by_cases z : ye w = 0
      · refine br_f hn ⟨hi, br_t (by rw [ec]; exact z) (ln_paX hC hp (fun q => ?_) (fun q => ?_))⟩
        · exact br_f (by decide) ⟨hi, nm_r (show upd ye (nI w).toNatClampNeg (vp_nar .boolean 1) = upd ye w 1 by rw [ec, ln_vb1]) (nm_r (nI_1 w) (ih (w + 1) _ (by omega) (ln_A_step a (fun v hv => pk_un hv) (fun _ => pk_us) (fun s => absurd (Or.inr q) s))))⟩
        · exact br_t rfl (nm_r (nI_1 w) (ih (w + 1) ye (by omega) (ln_A_step a (fun v hv => rfl) (fun s => s.elim (fun t => (a w hw).1 (Or.inl t)) (fun t => absurd t q)) (fun _ => z))))
      · have h1 : ye w = 1 := Classical.byContradiction fun n1 => z ((a w hw).2 (fun t => n1 ((a w hw).1 t)))
        exact br_f hn ⟨hi, br_f (by rw [ec]; exact z) (nm_r (nI_1 w) (ih (w + 1) ye (by omega) (ln_A_step a (fun v hv => rfl) (fun _ => h1) (fun s => (a w hw).2 (fun (t : S w ∨ (w < w ∧ ln_H F C eo lo so en ch w)) => s (t.imp id And.right))))))⟩
  exact ⟨_, L W 0 ye (by omega) (ln_A_beg hA)⟩
theorem ln_fa {post : SX → Prop} {F C : Nat} {eo no lo so en pr ye : Nat → Int32} (hF : F < 10) (hC : C < 5) (hQ : ln_Q C lo so en) (hpost : ∀ pr' ye' : Nat → Int32, ln_T F C eo lo so en ye' → post (nI F, nI C, eo, no, lo, so, en, pr', ye')) : wpX_findAnswers post (nI F, nI C, eo, no, lo, so, en, pr, ye) := by
  have h5 := ln_512 hF
  have hW := ln_pow F hF
  have L29 : ∀ (d ch : Nat) (pr ye : Nat → Int32), ch + d = 216 → ln_A (2 ^ F) (fun w => ∃ c, c < ch ∧ ln_H F C eo lo so en c w) ye → wX_findAnswers_29 post (nI (2 ^ F)) (d + 1) (nI ch) (nI F) (nI C) eo no lo so en pr ye := by
    intro d
    induction d with
    | zero =>
      intro ch pr ye h a
      have h' : ch = 216 := by omega
      rw [h'] at a
      exact br_t (nI_le (a := 216) (b := ch) (by omega) (by omega)) (hpost pr ye a)
    | succ d ih =>
      intro ch pr ye h a
      have hn : ¬ (216 : Int32) ≤ nI ch := nI_ge (a := ch) (b := 216) (by omega) (by decide)
      refine br_f hn (ln_fp hF hC (show ch < 216 by omega) hQ (fun pr' hp => ?_) (fun pr' hz => ?_) pr)
      · exact br_f (by decide) (ln_mw h5 hC hp a (fun ye' a' => nm_r (nI_1 ch) (ih (ch + 1) pr' ye' (by omega) (ln_A_more a'))))
      · exact br_t rfl (nm_r (nI_1 ch) (ih (ch + 1) pr' ye (by omega) (ln_A_same (ln_noH hz) a)))
  have L9 : ∀ (d w : Nat) (ye : Nat → Int32), w + d = 2 ^ F → (∀ v, v < w → ye v = 0) → wX_findAnswers_9 post (nI (2 ^ F)) (nI F) (nI C) (d + 1) (nI w) eo no lo so en pr ye := by
    intro d
    induction d with
    | zero =>
      intro w ye h hz
      exact br_t (nI_le (show 2 ^ F ≤ w by omega) (by omega)) ⟨217, L29 216 0 pr ye (by omega) (ln_A_none (fun v hv => hz v (by omega)))⟩
    | succ d ih =>
      intro w ye h hz
      have hn : ¬ nI (2 ^ F) ≤ nI w := nI_ge (by omega) (by omega)
      have hi : vp_in (nI w) 512 := vp_in_nI (by omega) (by omega)
      have ec : (nI w).toNatClampNeg = w := nI_clamp (by omega)
      refine br_f hn ⟨hi, nm_r (show upd ye (nI w).toNatClampNeg (vp_nar .boolean 0) = upd ye w 0 by rw [ec, ln_vb0]) (nm_r (nI_1 w) (ih (w + 1) _ (by omega) ?_))⟩
      intro v hv
      by_cases e : v = w
      · rw [e]
        exact pk_us
      · rw [pk_un e]
        exact hz v (by omega)
  exact nm_r hW ⟨_, L9 (2 ^ F) 0 ye (by omega) (fun v hv => absurd hv (Nat.not_lt_zero v))⟩
theorem ln_w66 {post : SY → Prop} {J52 : Int32 → Int32 → Int32 → Int32 → (Nat → Int32) → (Nat → Int32) → (Nat → Int32) → (Nat → Int32) → (Nat → Int32) → (Nat → Int32) → (Nat → Int32) → (Nat → Int32) → (Nat → Int32) → Prop} {F C ch : Nat} {x1 kn : Int32} {S : Nat → Prop} {eo ta hd la no lo so en mk : Nat → Int32} (hF : F < 10) (hC : C < 5) (hp : ∀ c, c < C → mk c = ln_m F eo lo so en c ch)
    (hpost : ∀ yy' : Nat → Int32, ln_A (2 ^ F) (fun w => S w ∨ ln_H F C eo lo so en ch w) yy' → J52 (nI (ch + 1)) (nI F) (nI C) kn ta hd la no lo so en mk yy') :
    ∀ (d w : Nat) (yy : Nat → Int32), w + d = 2 ^ F → ln_A (2 ^ F) (fun v => S v ∨ (v < w ∧ ln_H F C eo lo so en ch v)) yy → wY_work_66 post J52 x1 (nI ch) 1 (nI F) (nI C) kn (d + 1) (nI w) ta hd la no lo so en mk yy := by
  have h5 := ln_512 hF
  have hW := ln_pow F hF
  have h10 : ¬ (1 : Int32) = 0 := by decide
  intro d
  induction d with
  | zero =>
    intro w yy h a
    have hn : (1 : Int32) <<< (nI F &&& 31) ≤ nI w := by
      rw [hW]
      exact nI_le (show 2 ^ F ≤ w by omega) (by omega)
    exact br_f h10 (br_t hn (nm_r (nI_1 ch) (hpost yy (ln_A_end (show 2 ^ F ≤ w by omega) a))))
  | succ d ih =>
    intro w yy h a
    have hw : w < 2 ^ F := by omega
    have hn : ¬ (1 : Int32) <<< (nI F &&& 31) ≤ nI w := by
      rw [hW]
      exact nI_ge (by omega) (by omega)
    have hi : vp_in (nI w) 512 := vp_in_nI (by omega) (by omega)
    have ec : (nI w).toNatClampNeg = w := nI_clamp (by omega)
    have u1 : upd yy (nI w).toNatClampNeg (vp_nar .boolean 1) = upd yy w 1 := by rw [ec, ln_vb1]
    have u0 : upd yy (nI w).toNatClampNeg (vp_nar .boolean 0) = upd yy w 0 := by rw [ec, ln_vb0]
    by_cases z : yy w = 0
    · refine br_f h10 (br_f hn ⟨hi, br_t (by rw [ec]; exact z) (ln_paY hC hp (fun q => ?_) (fun q => ?_))⟩)
      · exact br_f h10 ⟨hi, nm_r u1 (nm_r (nI_1 w) (ih (w + 1) _ (by omega) (ln_A_step a (fun v hv => pk_un hv) (fun _ => pk_us) (fun s => absurd (Or.inr q) s))))⟩
      · refine br_t rfl ⟨hi, nm_r u0 (nm_r (nI_1 w) (ih (w + 1) _ (by omega) (ln_A_step a (fun v hv => pk_un hv) (fun s => ?_) (fun _ => pk_us))))⟩
        have y1 : yy w = 1 := s.elim (fun t => (a w hw).1 (Or.inl t)) (fun t => absurd t q)
        rw [z] at y1
        exact absurd y1 (by decide)
    · have hs : S w := Classical.byContradiction fun n1 => z ((a w hw).2 (fun (t : S w ∨ (w < w ∧ ln_H F C eo lo so en ch w)) => t.elim n1 (fun q => absurd q.1 (Nat.lt_irrefl w))))
      exact br_f h10 (br_f hn ⟨hi, br_f (by rw [ec]; exact z) ⟨hi, nm_r u1 (nm_r (nI_1 w) (ih (w + 1) _ (by omega) (ln_A_step a (fun v hv => pk_un hv) (fun _ => pk_us) (fun s => absurd (Or.inl hs) s))))⟩⟩)
theorem ln_w52 {post : SY → Prop} {F C B : Nat} {kn : Int32} {eo ta hd la no lo so en : Nat → Int32} (hF : F < 10) (hC : C < 5) (hB : B ≤ 216) (hE : ln_E F eo ta hd la) (hQ : ln_Q C lo so en)
    (hpost : ∀ mk' yy' : Nat → Int32, ln_A (2 ^ F) (fun w => ∃ c, c < B ∧ ln_H F C eo lo so en c w) yy' → post (nI F, nI C, kn, ta, hd, la, no, lo, so, en, mk', yy')) :
    ∀ (d ch : Nat) (mk yy : Nat → Int32), ch + d = B → ln_A (2 ^ F) (fun w => ∃ c, c < ch ∧ ln_H F C eo lo so en c w) yy → wY_work_52 post (nI B) (d + 1) (nI ch) (nI F) (nI C) kn ta hd la no lo so en mk yy := by
  intro d
  induction d with
  | zero =>
    intro ch mk yy h a
    have h' : ch = B := by omega
    rw [h'] at a
    exact br_t (nI_le (show B ≤ ch by omega) (by omega)) (hpost mk yy a)
  | succ d ih =>
    intro ch mk yy h a
    have hn : ¬ nI B ≤ nI ch := nI_ge (by omega) (by omega)
    refine br_f hn (ln_po hF hC (show ch < 216 by omega) hE hQ (fun mk' hp => ?_) (fun mk' hz => ?_) mk)
    · exact ⟨2 ^ F + 1, ln_w66 (S := fun w => ∃ c, c < ch ∧ ln_H F C eo lo so en c w) hF hC hp (fun yy' a' => ih (ch + 1) mk' yy' (by omega) (ln_A_more a')) (2 ^ F) 0 yy (by omega) (ln_A_beg a)⟩
    · exact ⟨1, br_t rfl (nm_r (nI_1 ch) (ih (ch + 1) mk' yy (by omega) (ln_A_same (ln_noH hz) a)))⟩
theorem ln_wk {post : SY → Prop} {F C : Nat} {kn : Int32} {eo ta hd la no lo so en mk yy : Nat → Int32} (hF : F < 10) (hC : C < 5) (hE : ln_E F eo ta hd la) (hQ : ln_Q C lo so en) (hT : ¬ kn = 0 → ln_T F C eo lo so en yy)
    (hpost : ∀ (kn' : Int32) (mk' yy' : Nat → Int32), ¬ kn' = 0 → ln_T F C eo lo so en yy' → post (nI F, nI C, kn', ta, hd, la, no, lo, so, en, mk', yy')) : wpY_work post (nI F, nI C, kn, ta, hd, la, no, lo, so, en, mk, yy) := by
  have h5 := ln_512 hF
  have h10 : ¬ (1 : Int32) = 0 := by decide
  have L15 : ∀ (d w : Nat) (yy : Nat → Int32), w + d = 512 → (∀ v, v < w → yy v = 0) → wY_work_15 post (nI F) (nI C) 1 (d + 1) (nI w) ta hd la no lo so en mk yy := by
    intro d
    induction d with
    | zero =>
      intro w yy h hz
      have hx : (512 : Int32) ≤ nI w := nI_le (a := 512) (b := w) (by omega) (by omega)
      have a0 : ln_A (2 ^ F) (fun w => ∃ c, c < 0 ∧ ln_H F C eo lo so en c w) yy := ln_A_none (fun v hv => hz v (by omega))
      by_cases z : C = 0
      · refine br_t hx (br_t ((congrArg nI z).trans nI_0) ⟨2, ln_w52 (B := 1) hF hC (by omega) hE hQ (fun mk' yy' a => hpost 1 mk' yy' h10 (ln_A_iff (fun v hv => ⟨fun ⟨c, q, p⟩ => ⟨c, by omega, p⟩, fun _ => ⟨0, by omega, fun c hc => absurd hc (by omega)⟩⟩) a)) 1 0 mk yy (by omega) a0⟩)
      · exact br_t hx (br_f (nI_ne0 (by omega) (by omega)) ⟨217, ln_w52 (B := 216) hF hC (by omega) hE hQ (fun mk' yy' a => hpost 1 mk' yy' h10 a) 216 0 mk yy (by omega) a0⟩)
    | succ d ih =>
      intro w yy h hz
      have hn : ¬ (512 : Int32) ≤ nI w := nI_ge (a := w) (b := 512) (by omega) (by decide)
      have hi : vp_in (nI w) 512 := vp_in_nI (by omega) (by omega)
      have ec : (nI w).toNatClampNeg = w := nI_clamp (by omega)
      refine br_f hn ⟨hi, nm_r (show upd yy (nI w).toNatClampNeg (vp_nar .boolean 0) = upd yy w 0 by rw [ec, ln_vb0]) (nm_r (nI_1 w) (ih (w + 1) _ (by omega) ?_))⟩
      intro v hv
      by_cases e : v = w
      · rw [e]
        exact pk_us
      · rw [pk_un e]
        exact hz v (by omega)
  by_cases z : kn = 0
  · exact br_t z ⟨513, L15 512 0 yy (by omega) (fun v hv => absurd hv (Nat.not_lt_zero v))⟩
  · exact br_f z (hpost kn mk yy z (hT z))
end
section
/-! the walks over the worlds: the class and the reference in lockstep -/
theorem ln_wt {F C : Nat} (eo no lo so en ta hd la : Nat → Int32) (hF : F < 10) (x : Int32) : ∃ r : Int32, (∀ (pr ye : Nat → Int32) (post : Int32 → Prop), post r → wpX_weightOf post (nI F, nI C, eo, no, lo, so, en, pr, ye) x) ∧ (∀ (kn : Int32) (mk yy : Nat → Int32) (post : Int32 → Prop), post r → wpY_weight post (nI F, nI C, kn, ta, hd, la, no, lo, so, en, mk, yy) x) := by
  have L : ∀ (d i : Nat) (p : Int32), i + d = F → ∃ r : Int32, (∀ (pr ye : Nat → Int32) (post : Int32 → Prop), post r → wX_weightOf_4 post x (nI F) (nI C) eo no lo so en pr ye (d + 1) p (nI i)) ∧ (∀ (kn : Int32) (mk yy : Nat → Int32) (post : Int32 → Prop), post r → wY_weight_4 post x (nI F) (nI C) kn ta hd la no lo so en mk yy (d + 1) p (nI i)) := by
    intro d
    induction d with
    | zero =>
      intro i p h
      have hx : nI F ≤ nI i := nI_le (by omega) (by omega)
      exact ⟨p, fun pr ye post hp => br_t hx hp, fun kn mk yy post hp => br_t hx hp⟩
    | succ d ih =>
      intro i p h
      have hn : ¬ nI F ≤ nI i := nI_ge (by omega) (by omega)
      have hi : vp_in (nI i) 9 := vp_in_nI (by omega) (by omega)
      by_cases z : ((x >>> (nI i &&& 31)) &&& 1) = 0
      · obtain ⟨r, hX, hY⟩ := ih (i + 1) (p * (4 - no (nI i).toNatClampNeg)) (by omega)
        exact ⟨r, fun pr ye post hp => br_f hn (br_t z (br_t rfl ⟨hi, nm_e (nm_r (nI_1 i) (hX pr ye post hp))⟩)), fun kn mk yy post hp => br_f hn (br_t z ⟨hi, nm_e (nm_r (nI_1 i) (hY kn mk yy post hp))⟩)⟩
      · obtain ⟨r, hX, hY⟩ := ih (i + 1) (p * no (nI i).toNatClampNeg) (by omega)
        exact ⟨r, fun pr ye post hp => br_f hn (br_f z (br_f (by decide) ⟨hi, nm_e (nm_r (nI_1 i) (hX pr ye post hp))⟩)), fun kn mk yy post hp => br_f hn (br_f z ⟨hi, nm_e (nm_r (nI_1 i) (hY kn mk yy post hp))⟩)⟩
  obtain ⟨r, hX, hY⟩ := L F 0 1 (by omega)
  exact ⟨r, fun pr ye post hp => ⟨_, hX pr ye post hp⟩, fun kn mk yy post hp => ⟨_, hY kn mk yy post hp⟩⟩
theorem ln_sum {F C : Nat} (eo no lo so en pr ye ta hd la : Nat → Int32) (hF : F < 10) (m : Int32) : ∃ r : Int32, (∀ post : Int32 → Prop, post r → wpX_weightOfYes post (nI F, nI C, eo, no, lo, so, en, pr, ye) m) ∧ (∀ (kn : Int32) (mk yy : Nat → Int32) (post : Int32 → SY → Prop), (∀ w, w < 2 ^ F → ye w = yy w) → post r (nI F, nI C, kn, ta, hd, la, no, lo, so, en, mk, yy) → wY_sum_8 post m (nI F) (nI C) kn ta hd la no lo so en mk yy (2 ^ F + 1) 0 0) := by
  have h5 := ln_512 hF
  have hW := ln_pow F hF
  have L : ∀ (d w : Nat) (s : Int32), w + d = 2 ^ F → ∃ r : Int32, (∀ post : Int32 → Prop, post r → wX_weightOfYes_12 post m (nI (2 ^ F)) (nI F) (nI C) eo no lo so en pr ye (d + 1) s (nI w)) ∧ (∀ (kn : Int32) (mk yy : Nat → Int32) (post : Int32 → SY → Prop), (∀ w, w < 2 ^ F → ye w = yy w) → post r (nI F, nI C, kn, ta, hd, la, no, lo, so, en, mk, yy) → wY_sum_8 post m (nI F) (nI C) kn ta hd la no lo so en mk yy (d + 1) s (nI w)) := by
    intro d
    induction d with
    | zero =>
      intro w s h
      have hx : nI (2 ^ F) ≤ nI w := nI_le (by omega) (by omega)
      have hy : (1 : Int32) <<< (nI F &&& 31) ≤ nI w := by
        rw [hW]
        exact hx
      exact ⟨s, fun post hp => br_t hx hp, fun kn mk yy post hA hp => br_t hy hp⟩
    | succ d ih =>
      intro w s h
      have hw : w < 2 ^ F := by omega
      have hx : ¬ nI (2 ^ F) ≤ nI w := nI_ge (by omega) (by omega)
      have hy : ¬ (1 : Int32) <<< (nI F &&& 31) ≤ nI w := by
        rw [hW]
        exact hx
      have hi : vp_in (nI w) 512 := vp_in_nI (by omega) (by omega)
      have ec : (nI w).toNatClampNeg = w := nI_clamp (by omega)
      by_cases z : ye w = 0
      · obtain ⟨r, hX, hY⟩ := ih (w + 1) s (by omega)
        exact ⟨r, fun post hp => br_f hx ⟨hi, br_t (by rw [ec]; exact z) (nm_r (nI_1 w) (hX post hp))⟩, fun kn mk yy post hA hp => br_f hy ⟨hi, br_t (by rw [ec, ← hA w hw]; exact z) (nm_r (nI_1 w) (hY kn mk yy post hA hp))⟩⟩
      · by_cases q : (nI w &&& m) = m
        · obtain ⟨r1, wX, wY⟩ := ln_wt (C := C) eo no lo so en ta hd la hF (nI w)
          obtain ⟨r, hX, hY⟩ := ih (w + 1) (s + r1) (by omega)
          exact ⟨r, fun post hp => br_f hx ⟨hi, br_f (by rw [ec]; exact z) (br_t q (wX pr ye _ (nm_e (nm_r (nI_1 w) (hX post hp)))))⟩, fun kn mk yy post hA hp => br_f hy ⟨hi, br_f (by rw [ec, ← hA w hw]; exact z) (br_t q (wY kn mk yy _ (nm_e (nm_r (nI_1 w) (hY kn mk yy post hA hp)))))⟩⟩
        · obtain ⟨r, hX, hY⟩ := ih (w + 1) s (by omega)
          exact ⟨r, fun post hp => br_f hx ⟨hi, br_f (by rw [ec]; exact z) (br_f q (nm_r (nI_1 w) (hX post hp)))⟩, fun kn mk yy post hA hp => br_f hy ⟨hi, br_f (by rw [ec, ← hA w hw]; exact z) (br_f q (nm_r (nI_1 w) (hY kn mk yy post hA hp)))⟩⟩
  obtain ⟨r, hX, hY⟩ := L (2 ^ F) 0 0 (by omega)
  exact ⟨r, fun post hp => nm_r hW ⟨_, hX post hp⟩, fun kn mk yy post hA hp => hY kn mk yy post hA hp⟩
theorem ln_mt {F C f : Nat} (eo no lo so en pr ye ta hd la : Nat → Int32) (hF : F < 10) (hf : f < F) : ∃ r : Int32, (∀ post : Int32 → SX → Prop, post r (nI F, nI C, eo, no, lo, so, en, pr, ye) → wX_matters_28 post (nI (2 ^ F)) ((1 : Int32) <<< (nI f &&& 31)) (nI F) (nI C) eo no lo so en pr ye (2 ^ F + 1) 0) ∧ (∀ (kn : Int32) (mk yy : Nat → Int32) (post : Int32 → SY → Prop), (∀ w, w < 2 ^ F → ye w = yy w) → post r (nI F, nI C, kn, ta, hd, la, no, lo, so, en, mk, yy) → wY_matters_16 post (nI f) (nI F) (nI C) kn ta hd la no lo so en mk yy (2 ^ F + 1) 0) := by
  have h5 := ln_512 hF
  have hW := ln_pow F hF
  have L : ∀ (d w : Nat), w + d = 2 ^ F → ∃ r : Int32, (∀ post : Int32 → SX → Prop, post r (nI F, nI C, eo, no, lo, so, en, pr, ye) → wX_matters_28 post (nI (2 ^ F)) ((1 : Int32) <<< (nI f &&& 31)) (nI F) (nI C) eo no lo so en pr ye (d + 1) (nI w)) ∧ (∀ (kn : Int32) (mk yy : Nat → Int32) (post : Int32 → SY → Prop), (∀ w, w < 2 ^ F → ye w = yy w) → post r (nI F, nI C, kn, ta, hd, la, no, lo, so, en, mk, yy) → wY_matters_16 post (nI f) (nI F) (nI C) kn ta hd la no lo so en mk yy (d + 1) (nI w)) := by
    intro d
    induction d with
    | zero =>
      intro w h
      have hx : nI (2 ^ F) ≤ nI w := nI_le (by omega) (by omega)
      have hy : (1 : Int32) <<< (nI F &&& 31) ≤ nI w := by
        rw [hW]
        exact hx
      exact ⟨0, fun post hp => br_t hx hp, fun kn mk yy post hA hp => br_t hy hp⟩
    | succ d ih =>
      intro w h
      have hw : w < 2 ^ F := by omega
      have hx : ¬ nI (2 ^ F) ≤ nI w := nI_ge (by omega) (by omega)
      have hy : ¬ (1 : Int32) <<< (nI F &&& 31) ≤ nI w := by
        rw [hW]
        exact hx
      have hi : vp_in (nI w) 512 := vp_in_nI (by omega) (by omega)
      have ec : (nI w).toNatClampNeg = w := nI_clamp (by omega)
      obtain ⟨x, hx2, ex⟩ := ln_xor hF hw hf
      have hi2 : vp_in (nI w ^^^ ((1 : Int32) <<< (nI f &&& 31))) 512 := by
        rw [ex]
        exact vp_in_nI (by omega) (by omega)
      have ec2 : (nI w ^^^ ((1 : Int32) <<< (nI f &&& 31))).toNatClampNeg = x := by
        rw [ex]
        exact nI_clamp (by omega)
      by_cases z : ye w = ye x
      · obtain ⟨r, hX, hY⟩ := ih (w + 1) (by omega)
        exact ⟨r, fun post hp => br_f hx ⟨hi, hi2, br_t (by rw [ec, ec2]; exact z) (nm_r (nI_1 w) (hX post hp))⟩, fun kn mk yy post hA hp => br_f hy ⟨hi, hi2, br_t (by rw [ec, ec2, ← hA w hw, ← hA x hx2]; exact z) (nm_r (nI_1 w) (hY kn mk yy post hA hp))⟩⟩
      · exact ⟨1, fun post hp => br_f hx ⟨hi, hi2, br_f (by rw [ec, ec2]; exact z) hp⟩, fun kn mk yy post hA hp => br_f hy ⟨hi, hi2, br_f (by rw [ec, ec2, ← hA w hw, ← hA x hx2]; exact z) hp⟩⟩
  exact L (2 ^ F) 0 (by omega)
theorem ln_sz {F C : Nat} (eo no lo so en ta hd la : Nat → Int32) (hF : F < 10) (x : Int32) : ∃ r : Nat, r < 10 ∧ (∀ (pr ye : Nat → Int32) (post : Int32 → Prop), post (nI r) → wpX_sizeOf post (nI F, nI C, eo, no, lo, so, en, pr, ye) x) ∧ (∀ (kn : Int32) (mk yy : Nat → Int32) (post : Int32 → Prop), post (nI r) → wpY_size post (nI F, nI C, kn, ta, hd, la, no, lo, so, en, mk, yy) x) := by
  have L : ∀ (d i s : Nat), i + d = F → ∃ r : Nat, r ≤ s + d ∧ (∀ (pr ye : Nat → Int32) (post : Int32 → Prop), post (nI r) → wX_sizeOf_4 post x (nI F) (nI C) eo no lo so en pr ye (d + 1) (nI s) (nI i)) ∧ (∀ (kn : Int32) (mk yy : Nat → Int32) (post : Int32 → Prop), post (nI r) → wY_size_4 post x (nI F) (nI C) kn ta hd la no lo so en mk yy (d + 1) (nI s) (nI i)) := by
    intro d
    induction d with
    | zero =>
      intro i s h
      have hx : nI F ≤ nI i := nI_le (by omega) (by omega)
      exact ⟨s, by omega, fun pr ye post hp => br_t hx hp, fun kn mk yy post hp => br_t hx hp⟩
    | succ d ih =>
      intro i s h
      have hn : ¬ nI F ≤ nI i := nI_ge (by omega) (by omega)
      by_cases z : ((x >>> (nI i &&& 31)) &&& 1) = 0
      · obtain ⟨r, hr, hX, hY⟩ := ih (i + 1) s (by omega)
        have e : nI s + ((x >>> (nI i &&& 31)) &&& 1) = nI s := by rw [z, Int32.add_zero]
        exact ⟨r, by omega, fun pr ye post hp => br_f hn (br_t z (br_t rfl (nm_r (nI_1 i) (hX pr ye post hp)))), fun kn mk yy post hp => br_f hn (nm_r e (nm_r (nI_1 i) (hY kn mk yy post hp)))⟩
      · obtain ⟨r, hr, hX, hY⟩ := ih (i + 1) (s + 1) (by omega)
        have o : ((x >>> (nI i &&& 31)) &&& 1) = 1 := (ln_b01 _).resolve_left z
        have e : nI s + ((x >>> (nI i &&& 31)) &&& 1) = nI (s + 1) := by rw [o, nI_1]
        exact ⟨r, by omega, fun pr ye post hp => br_f hn (br_f z (br_f (by decide) (nm_r (nI_1 s) (nm_r (nI_1 i) (hX pr ye post hp))))), fun kn mk yy post hp => br_f hn (nm_r e (nm_r (nI_1 i) (hY kn mk yy post hp)))⟩
  obtain ⟨r, hr, hX, hY⟩ := L F 0 0 (by omega)
  exact ⟨r, by omega, fun pr ye post hp => ⟨_, hX pr ye post hp⟩, fun kn mk yy post hp => ⟨_, hY kn mk yy post hp⟩⟩
theorem ln_few {F C : Nat} (eo no lo so en pr ye ta hd la : Nat → Int32) (hF : F < 10) : ∃ r : Int32, (∀ post : Int32 → SX → Prop, post r (nI F, nI C, eo, no, lo, so, en, pr, ye) → wX_fewest_16 post (nI (2 ^ F)) (nI F) (nI C) eo no lo so en pr ye (2 ^ F + 1) (-4) 0) ∧ (∀ (kn : Int32) (mk yy : Nat → Int32) (post : Int32 → SY → Prop), (∀ w, w < 2 ^ F → ye w = yy w) → post r (nI F, nI C, kn, ta, hd, la, no, lo, so, en, mk, yy) → wY_fewest_9 post (nI F) (nI C) kn ta hd la no lo so en mk yy (2 ^ F + 1) (-4) 0) := by
  have h5 := ln_512 hF
  have hW := ln_pow F hF
  have L : ∀ (d w : Nat) (l : Int32), w + d = 2 ^ F → (l = -4 ∨ ∃ s : Nat, s < 10 ∧ l = nI s) → ∃ r : Int32, (∀ post : Int32 → SX → Prop, post r (nI F, nI C, eo, no, lo, so, en, pr, ye) → wX_fewest_16 post (nI (2 ^ F)) (nI F) (nI C) eo no lo so en pr ye (d + 1) l (nI w)) ∧ (∀ (kn : Int32) (mk yy : Nat → Int32) (post : Int32 → SY → Prop), (∀ w, w < 2 ^ F → ye w = yy w) → post r (nI F, nI C, kn, ta, hd, la, no, lo, so, en, mk, yy) → wY_fewest_9 post (nI F) (nI C) kn ta hd la no lo so en mk yy (d + 1) l (nI w)) := by
    intro d
    induction d with
    | zero =>
      intro w l h hl
      have hx : nI (2 ^ F) ≤ nI w := nI_le (by omega) (by omega)
      have hy : (1 : Int32) <<< (nI F &&& 31) ≤ nI w := by
        rw [hW]
        exact hx
      exact ⟨l, fun post hp => br_t hx hp, fun kn mk yy post hA hp => br_t hy hp⟩
    | succ d ih =>
      intro w l h hl
      have hw : w < 2 ^ F := by omega
      have hx : ¬ nI (2 ^ F) ≤ nI w := nI_ge (by omega) (by omega)
      have hy : ¬ (1 : Int32) <<< (nI F &&& 31) ≤ nI w := by
        rw [hW]
        exact hx
      have hi : vp_in (nI w) 512 := vp_in_nI (by omega) (by omega)
      have ec : (nI w).toNatClampNeg = w := nI_clamp (by omega)
      obtain ⟨t, ht, tX, tY⟩ := ln_sz (C := C) eo no lo so en ta hd la hF (nI w)
      by_cases z : ye w = 0
      · obtain ⟨r, hX, hY⟩ := ih (w + 1) l (by omega) hl
        exact ⟨r, fun post hp => br_f hx ⟨hi, br_t (by rw [ec]; exact z) (nm_r (nI_1 w) (hX post hp))⟩, fun kn mk yy post hA hp => br_f hy (tY kn mk yy _ ⟨hi, br_t (by rw [ec, ← hA w hw]; exact z) (nm_r (nI_1 w) (hY kn mk yy post hA hp))⟩)⟩
      · rcases hl with rfl | ⟨s, hs, rfl⟩
        · obtain ⟨r, hX, hY⟩ := ih (w + 1) (nI t) (by omega) (Or.inr ⟨t, ht, rfl⟩)
          exact ⟨r, fun post hp => br_f hx ⟨hi, br_f (by rw [ec]; exact z) (tX pr ye _ (br_t rfl (nm_r (nI_1 w) (hX post hp))))⟩, fun kn mk yy post hA hp => br_f hy (tY kn mk yy _ ⟨hi, br_f (by rw [ec, ← hA w hw]; exact z) (br_t (by decide) (nm_r (nI_1 w) (hY kn mk yy post hA hp)))⟩)⟩
        · have n0 : ¬ nI s < 0 := nI_pos (by omega)
          have n4 : ¬ nI s = -4 := fun e => n0 (by rw [e]; decide)
          by_cases q : nI s ≤ nI t
          · obtain ⟨r, hX, hY⟩ := ih (w + 1) (nI s) (by omega) (Or.inr ⟨s, hs, rfl⟩)
            exact ⟨r, fun post hp => br_f hx ⟨hi, br_f (by rw [ec]; exact z) (tX pr ye _ (br_f n4 (br_t q (nm_r (nI_1 w) (hX post hp)))))⟩, fun kn mk yy post hA hp => br_f hy (tY kn mk yy _ ⟨hi, br_f (by rw [ec, ← hA w hw]; exact z) (br_f n0 (br_t q (nm_r (nI_1 w) (hY kn mk yy post hA hp))))⟩)⟩
          · obtain ⟨r, hX, hY⟩ := ih (w + 1) (nI t) (by omega) (Or.inr ⟨t, ht, rfl⟩)
            exact ⟨r, fun post hp => br_f hx ⟨hi, br_f (by rw [ec]; exact z) (tX pr ye _ (br_f n4 (br_f q (nm_r (nI_1 w) (hX post hp)))))⟩, fun kn mk yy post hA hp => br_f hy (tY kn mk yy _ ⟨hi, br_f (by rw [ec, ← hA w hw]; exact z) (br_f n0 (br_f q (nm_r (nI_1 w) (hY kn mk yy post hA hp))))⟩)⟩
  exact L (2 ^ F) 0 (-4) (by omega) (Or.inl rfl)
/-- a world that says yes: no fact of it can be left out, or one can; both sides see the same -/
theorem ln_rs {F C w : Nat} (eo no lo so en pr ye ta hd la : Nat → Int32) (hF : F < 10) (hw : w < 2 ^ F) :
    ((∀ post : Int32 → Prop, post 1 → wX_isReason_13 post (nI w) (nI F) (nI C) eo no lo so en pr ye (F + 1) 0) ∧ (∀ (kn : Int32) (mk yy : Nat → Int32) (post : Int32 → Prop), (∀ w, w < 2 ^ F → ye w = yy w) → post 0 → wY_spare_2 post (nI w) (nI F) (nI C) kn ta hd la no lo so en mk yy (F + 1) 0)) ∨
    ((∀ post : Int32 → Prop, post 0 → wX_isReason_13 post (nI w) (nI F) (nI C) eo no lo so en pr ye (F + 1) 0) ∧ (∀ (kn : Int32) (mk yy : Nat → Int32) (post : Int32 → Prop), (∀ w, w < 2 ^ F → ye w = yy w) → post 1 → wY_spare_2 post (nI w) (nI F) (nI C) kn ta hd la no lo so en mk yy (F + 1) 0)) := by
  have h5 := ln_512 hF
  have L : ∀ d i : Nat, i + d = F → ((∀ post : Int32 → Prop, post 1 → wX_isReason_13 post (nI w) (nI F) (nI C) eo no lo so en pr ye (d + 1) (nI i)) ∧ (∀ (kn : Int32) (mk yy : Nat → Int32) (post : Int32 → Prop), (∀ w, w < 2 ^ F → ye w = yy w) → post 0 → wY_spare_2 post (nI w) (nI F) (nI C) kn ta hd la no lo so en mk yy (d + 1) (nI i))) ∨
      ((∀ post : Int32 → Prop, post 0 → wX_isReason_13 post (nI w) (nI F) (nI C) eo no lo so en pr ye (d + 1) (nI i)) ∧ (∀ (kn : Int32) (mk yy : Nat → Int32) (post : Int32 → Prop), (∀ w, w < 2 ^ F → ye w = yy w) → post 1 → wY_spare_2 post (nI w) (nI F) (nI C) kn ta hd la no lo so en mk yy (d + 1) (nI i))) := by
    intro d
    induction d with
    | zero =>
      intro i h
      have hx : nI F ≤ nI i := nI_le (by omega) (by omega)
      exact Or.inl ⟨fun post hp => br_t hx hp, fun kn mk yy post hA hp => br_t hx hp⟩
    | succ d ih =>
      intro i h
      have hn : ¬ nI F ≤ nI i := nI_ge (by omega) (by omega)
      by_cases z : ((nI w >>> (nI i &&& 31)) &&& 1) = 0
      · rcases ih (i + 1) (by omega) with ⟨hX, hY⟩ | ⟨hX, hY⟩
        · exact Or.inl ⟨fun post hp => br_f hn (br_t z (br_t rfl (nm_r (nI_1 i) (hX post hp)))), fun kn mk yy post hA hp => br_f hn (br_t z (nm_r (nI_1 i) (hY kn mk yy post hA hp)))⟩
        · exact Or.inr ⟨fun post hp => br_f hn (br_t z (br_t rfl (nm_r (nI_1 i) (hX post hp)))), fun kn mk yy post hA hp => br_f hn (br_t z (nm_r (nI_1 i) (hY kn mk yy post hA hp)))⟩
      · obtain ⟨x, hx2, ex⟩ := ln_xor hF hw (show i < F by omega)
        have hi2 : vp_in (nI w ^^^ ((1 : Int32) <<< (nI i &&& 31))) 512 := by
          rw [ex]
          exact vp_in_nI (by omega) (by omega)
        have ec2 : (nI w ^^^ ((1 : Int32) <<< (nI i &&& 31))).toNatClampNeg = x := by
          rw [ex]
          exact nI_clamp (by omega)
        by_cases q : ye x = 0
        · rcases ih (i + 1) (by omega) with ⟨hX, hY⟩ | ⟨hX, hY⟩
          · exact Or.inl ⟨fun post hp => br_f hn (br_f z (br_f (by decide) ⟨hi2, br_t (by rw [ec2]; exact q) (nm_r (nI_1 i) (hX post hp))⟩)), fun kn mk yy post hA hp => br_f hn (br_f z ⟨hi2, br_t (by rw [ec2, ← hA x hx2]; exact q) (nm_r (nI_1 i) (hY kn mk yy post hA hp))⟩)⟩
          · exact Or.inr ⟨fun post hp => br_f hn (br_f z (br_f (by decide) ⟨hi2, br_t (by rw [ec2]; exact q) (nm_r (nI_1 i) (hX post hp))⟩)), fun kn mk yy post hA hp => br_f hn (br_f z ⟨hi2, br_t (by rw [ec2, ← hA x hx2]; exact q) (nm_r (nI_1 i) (hY kn mk yy post hA hp))⟩)⟩
        · exact Or.inr ⟨fun post hp => br_f hn (br_f z (br_f (by decide) ⟨hi2, br_f (by rw [ec2]; exact q) hp⟩)), fun kn mk yy post hA hp => br_f hn (br_f z ⟨hi2, br_f (by rw [ec2, ← hA x hx2]; exact q) hp⟩)⟩
  exact L F 0 (by omega)
theorem ln_rea {F C : Nat} (eo no lo so en pr ye ta hd la : Nat → Int32) (hF : F < 10) : ∃ r : Int32, (∀ post : Int32 → SX → Prop, post r (nI F, nI C, eo, no, lo, so, en, pr, ye) → wX_reasons_15 post (nI (2 ^ F)) (nI F) (nI C) eo no lo so en pr ye (2 ^ F + 1) 0 0) ∧ (∀ (kn : Int32) (mk yy : Nat → Int32) (post : Int32 → SY → Prop), (∀ w, w < 2 ^ F → ye w = yy w) → post r (nI F, nI C, kn, ta, hd, la, no, lo, so, en, mk, yy) → wY_reasons_8 post (nI F) (nI C) kn ta hd la no lo so en mk yy (2 ^ F + 1) 0 0) := by
  have h5 := ln_512 hF
  have hW := ln_pow F hF
  have L : ∀ (d w : Nat) (s : Int32), w + d = 2 ^ F → ∃ r : Int32, (∀ post : Int32 → SX → Prop, post r (nI F, nI C, eo, no, lo, so, en, pr, ye) → wX_reasons_15 post (nI (2 ^ F)) (nI F) (nI C) eo no lo so en pr ye (d + 1) s (nI w)) ∧ (∀ (kn : Int32) (mk yy : Nat → Int32) (post : Int32 → SY → Prop), (∀ w, w < 2 ^ F → ye w = yy w) → post r (nI F, nI C, kn, ta, hd, la, no, lo, so, en, mk, yy) → wY_reasons_8 post (nI F) (nI C) kn ta hd la no lo so en mk yy (d + 1) s (nI w)) := by
    intro d
    induction d with
    | zero =>
      intro w s h
      have hx : nI (2 ^ F) ≤ nI w := nI_le (by omega) (by omega)
      have hy : (1 : Int32) <<< (nI F &&& 31) ≤ nI w := by
        rw [hW]
        exact hx
      exact ⟨s, fun post hp => br_t hx hp, fun kn mk yy post hA hp => br_t hy hp⟩
    | succ d ih =>
      intro w s h
      have hw : w < 2 ^ F := by omega
      have hx : ¬ nI (2 ^ F) ≤ nI w := nI_ge (by omega) (by omega)
      have hy : ¬ (1 : Int32) <<< (nI F &&& 31) ≤ nI w := by
        rw [hW]
        exact hx
      have hi : vp_in (nI w) 512 := vp_in_nI (by omega) (by omega)
      have ec : (nI w).toNatClampNeg = w := nI_clamp (by omega)
      by_cases z : ye w = 0
      · obtain ⟨r, hX, hY⟩ := ih (w + 1) s (by omega)
        have rX : ∀ post : Int32 → Prop, post 0 → wpX_isReason post (nI F, nI C, eo, no, lo, so, en, pr, ye) (nI w) := fun post hp => ⟨hi, br_t (by rw [ec]; exact z) hp⟩
        exact ⟨r, fun post hp => br_f hx (rX _ (br_t rfl (nm_r (nI_1 w) (hX post hp)))), fun kn mk yy post hA hp => br_f hy ⟨hi, br_t (by rw [ec, ← hA w hw]; exact z) (nm_r (nI_1 w) (hY kn mk yy post hA hp))⟩⟩
      · rcases ln_rs (C := C) eo no lo so en pr ye ta hd la hF hw with ⟨aX, aY⟩ | ⟨aX, aY⟩
        · obtain ⟨r, hX, hY⟩ := ih (w + 1) (s + 1) (by omega)
          have rX : ∀ post : Int32 → Prop, post 1 → wpX_isReason post (nI F, nI C, eo, no, lo, so, en, pr, ye) (nI w) := fun post hp => ⟨hi, br_f (by rw [ec]; exact z) ⟨_, aX post hp⟩⟩
          exact ⟨r, fun post hp => br_f hx (rX _ (br_f (by decide) (nm_e (nm_r (nI_1 w) (hX post hp))))), fun kn mk yy post hA hp => br_f hy ⟨hi, br_f (by rw [ec, ← hA w hw]; exact z) ⟨_, aY kn mk yy _ hA (br_t rfl (nm_e (nm_r (nI_1 w) (hY kn mk yy post hA hp))))⟩⟩⟩
        · obtain ⟨r, hX, hY⟩ := ih (w + 1) s (by omega)
          have rX : ∀ post : Int32 → Prop, post 0 → wpX_isReason post (nI F, nI C, eo, no, lo, so, en, pr, ye) (nI w) := fun post hp => ⟨hi, br_f (by rw [ec]; exact z) ⟨_, aX post hp⟩⟩
          exact ⟨r, fun post hp => br_f hx (rX _ (br_t rfl (nm_r (nI_1 w) (hX post hp)))), fun kn mk yy post hA hp => br_f hy ⟨hi, br_f (by rw [ec, ← hA w hw]; exact z) ⟨_, aY kn mk yy _ hA (br_f (by decide) (nm_r (nI_1 w) (hY kn mk yy post hA hp)))⟩⟩⟩
  exact L (2 ^ F) 0 0 (by omega)
end
section
/-! the relation, and the calls that write -/
def ln_R (F C : Nat) (kn : Int32) (eo lo so en ta hd la yy : Nat → Int32) : Prop := F < 10 ∧ C < 5 ∧ ln_E F eo ta hd la ∧ ln_Q C lo so en ∧ (¬ kn = 0 → ln_T F C eo lo so en yy)
def i_Rel (k : Nat) (u : SX) (v : SY) : Prop := ∃ (F C : Nat) (kn : Int32) (eo no lo so en pr ye ta hd la mk yy : Nat → Int32), u = (nI F, nI C, eo, no, lo, so, en, pr, ye) ∧ v = (nI F, nI C, kn, ta, hd, la, no, lo, so, en, mk, yy) ∧ ln_R F C kn eo lo so en ta hd la yy
theorem ln_rel {k F C : Nat} {kn : Int32} {eo no lo so en pr ye ta hd la mk yy : Nat → Int32} (hF : F < 10) (hC : C < 5) (hE : ln_E F eo ta hd la) (hQ : ln_Q C lo so en) (hT : ¬ kn = 0 → ln_T F C eo lo so en yy) : i_Rel k (nI F, nI C, eo, no, lo, so, en, pr, ye) (nI F, nI C, kn, ta, hd, la, no, lo, so, en, mk, yy) :=
  ⟨F, C, kn, eo, no, lo, so, en, pr, ye, ta, hd, la, mk, yy, rfl, rfl, hF, hC, hE, hQ, hT⟩
theorem i_up {k : Nat} {u : SX} {v : SY} (h : i_Rel k u v) : i_Rel (k + 4) u v := h
theorem i_vc0 : wpX_init (fun u => wpY_init (fun v => i_Rel 0 u v)) := by
  have h : i_Rel 0 (nI 0, nI 0, (fun _ => 0), (fun _ => 0), (fun _ => 0), (fun _ => 0), (fun _ => 0), (fun _ => 0), (fun _ => 0)) (nI 0, nI 0, 0, (fun _ => 0), (fun _ => 0), (fun _ => 0), (fun _ => 0), (fun _ => 0), (fun _ => 0), (fun _ => 0), (fun _ => 0), (fun _ => 0)) :=
    ln_rel (F := 0) (C := 0) (by decide) (by decide) (fun i hi => absurd hi (Nat.not_lt_zero i)) (fun c hc => absurd hc (Nat.not_lt_zero c)) (fun q => absurd rfl q)
  exact h
theorem ln_isNode {post : Int32 → Prop} {x : Int32} {a : Nat} (e : x = nI a) (ha : a < 8) (h1 : a < 6 → post 1) (h0 : 6 ≤ a → post 0) : wpX_isNode post x := by
  rw [e]
  by_cases h : a < 6
  · exact br_f (nI_pos (by omega)) (br_f (nI_ge (a := a) (b := 6) h (by decide)) (h1 h))
  · exact br_f (nI_pos (by omega)) (br_t (nI_le (a := 6) (b := a) (by omega) (by omega)) (h0 (by omega)))
theorem ln_num1 {post : Int32 → Prop} {x : Int32} (h1 : ¬ x < 1) (h4 : ¬ 4 < x) (hp : post 1) : wpX_isNumber post x := br_f h1 (br_f h4 hp)
theorem ln_numL {post : Int32 → Prop} {x : Int32} (h1 : x < 1) (hp : post 0) : wpX_isNumber post x := br_t h1 hp
theorem ln_numH {post : Int32 → Prop} {x : Int32} (h1 : ¬ x < 1) (h4 : 4 < x) (hp : post 0) : wpX_isNumber post x := br_f h1 (br_t h4 hp)
theorem i_vc_fact {k : Nat} {u : SX} {v : SY} (I : i_Rel k u v) (hk : k + 4 ≤ 2048) (v1 : Int32) (v2 : Int32) : wpX_fact (fun r u' => wpY_fact (fun r' v' => r' = r ∧ i_Rel (k + 4) u' v') v v1 v2) u v1 v2 := by
  obtain ⟨F, C, kn, eo, no, lo, so, en, pr, ye, ta, hd, la, mk, yy, rfl, rfl, hF, hC, hE, hQ, hT⟩ := I
  have e1 := ln_7 v1
  have e2 := ln_sr3 v1
  have e3 := ln_sr6 v1
  have e4 := ln_127 v1
  generalize v1.toBitVec.toNat = n at e1 e2 e3 e4
  have rel : i_Rel (k + 4) (nI F, nI C, eo, no, lo, so, en, pr, ye) (nI F, nI C, kn, ta, hd, la, no, lo, so, en, mk, yy) := ln_rel hF hC hE hQ hT
  unfold wpX_fact wpY_fact
  refine ln_isNode e1 (by omega) (fun a6 => ?_) (fun a6 => ?_)
  · have y1 : ¬ 5 < (v1 &&& 7) := by
      rw [e1]
      exact nI_nlt (a := 5) (b := n % 8) (by omega) (by decide)
    refine br_f (by decide) (ln_isNode e2 (by omega) (fun b6 => ?_) (fun b6 => ?_))
    · have y2 : ((v1 >>> ((3 : Int32) &&& 31)) &&& 7) ≤ 5 := by
        rw [e2]
        exact nI_le (a := n / 8 % 8) (b := 5) (by omega) (by decide)
      refine br_f (by decide) ?_
      by_cases h1 : v2 < 1
      · exact ln_numL h1 (br_t rfl (br_f y1 (br_t y2 (br_t h1 ⟨rfl, rel⟩))))
      · by_cases h4 : 4 < v2
        · exact ln_numH h1 h4 (br_t rfl (br_f y1 (br_t y2 (br_f h1 (br_f (Int32.not_le.mpr h4) ⟨rfl, rel⟩)))))
        · have h4' : v2 ≤ 4 := Int32.not_lt.mp h4
          refine ln_num1 h1 h4 (br_f (by decide) ?_)
          by_cases h9 : F < 9
          · have x9 : nI F < 9 := nI_lt (a := F) (b := 9) h9 (by decide)
            have z9 : ¬ nI F = 9 := fun z => by
              have z' : nI F = nI 9 := z
              rw [nI_eq (by omega) (by omega)] at z'
              omega
            have hi : vp_in (nI F) 9 := vp_in_nI h9 (by decide)
            have ec : (nI F).toNatClampNeg = F := nI_clamp (by omega)
            have rel' : i_Rel (k + 4) (nI (F + 1), nI C, upd eo (nI F).toNatClampNeg (v1 &&& 127), upd no (nI F).toNatClampNeg v2, lo, so, en, pr, ye) (nI (F + 1), nI C, 0, upd ta (nI F).toNatClampNeg (v1 &&& 7), upd hd (nI F).toNatClampNeg ((v1 >>> ((3 : Int32) &&& 31)) &&& 7), upd la (nI F).toNatClampNeg ((v1 >>> ((6 : Int32) &&& 31)) &&& 1), upd no (nI F).toNatClampNeg v2, lo, so, en, mk, yy) := by
              refine ln_rel (by omega) hC ?_ hQ (fun q => absurd rfl q)
              intro i hi'
              rw [ec]
              by_cases e : i = F
              · refine ⟨n % 8, n / 8 % 8, n / 64 % 2, a6, b6, by omega, ?_, ?_, ?_, ?_⟩
                · rw [e, pk_us, e1]
                · rw [e, pk_us, e2]
                · rw [e, pk_us, e3]
                · rw [e, pk_us, e4]
                  exact congrArg nI (by omega)
              · rw [pk_un e, pk_un e, pk_un e, pk_un e]
                exact hE i (by omega)
            exact br_t x9 ⟨hi, nm_e ⟨hi, nm_e (nm_r (nI_1 F) (br_f y1 (br_t y2 (br_f h1 (br_t h4' (br_f z9 ⟨hi, nm_e ⟨hi, nm_e ⟨hi, nm_e ⟨hi, nm_e (nm_r (nI_1 F) ⟨rfl, rel'⟩)⟩⟩⟩⟩))))))⟩⟩
          · have e9 : F = 9 := by omega
            have x9 : ¬ nI F < 9 := nI_nlt (a := F) (b := 9) (by omega) (by omega)
            exact br_f x9 (br_f y1 (br_t y2 (br_f h1 (br_t h4' (br_t (congrArg nI e9) ⟨rfl, rel⟩)))))
    · have y2 : ¬ ((v1 >>> ((3 : Int32) &&& 31)) &&& 7) ≤ 5 := by
        rw [e2]
        exact nI_ge (a := 5) (b := n / 8 % 8) (by omega) (by omega)
      exact br_t rfl (br_f y1 (br_f y2 ⟨rfl, rel⟩))
  · have y1 : 5 < (v1 &&& 7) := by
      rw [e1]
      exact nI_lt (a := 5) (b := n % 8) (by omega) (by omega)
    exact br_t rfl (br_t y1 ⟨rfl, rel⟩)
/-- there is no such fact, and both sides say so; or there is -/
theorem ln_if {F : Nat} (hF : F < 10) (x : Int32) : ((∀ (post : Int32 → Prop) (c : Int32) (eo no lo so en pr ye : Nat → Int32), post 0 → wpX_isFact post (nI F, c, eo, no, lo, so, en, pr, ye) x) ∧ (∀ (post : Int32 → Prop) (c kn : Int32) (ta hd la no lo so en mk yy : Nat → Int32), post 0 → wpY_isFact post (nI F, c, kn, ta, hd, la, no, lo, so, en, mk, yy) x)) ∨ ∃ f : Nat, f < F ∧ x = nI f := by
  rcases pk_ix x (n := F) (by omega) with h | h | h
  · exact Or.inl ⟨fun post c eo no lo so en pr ye hp => br_t h hp, fun post c kn ta hd la no lo so en mk yy hp => br_t h hp⟩
  · have h0 : ¬ x < 0 := Int32.not_lt.mpr (Int32.le_trans (nI_pos' (by omega)) h)
    exact Or.inl ⟨fun post c eo no lo so en pr ye hp => br_f h0 (br_t h hp), fun post c kn ta hd la no lo so en mk yy hp => br_f h0 (br_t h hp)⟩
  · exact Or.inr h
theorem ln_ifX {post : Int32 → Prop} {F f : Nat} {c : Int32} {eo no lo so en pr ye : Nat → Int32} (hF : F < 10) (hf : f < F) (hp : post 1) : wpX_isFact post (nI F, c, eo, no, lo, so, en, pr, ye) (nI f) := br_f (nI_pos (by omega)) (br_f (nI_ge hf (by omega)) hp)
theorem ln_ifY {post : Int32 → Prop} {F f : Nat} {c kn : Int32} {ta hd la no lo so en mk yy : Nat → Int32} (hF : F < 10) (hf : f < F) (hp : post 1) : wpY_isFact post (nI F, c, kn, ta, hd, la, no, lo, so, en, mk, yy) (nI f) := br_f (nI_pos (by omega)) (br_f (nI_ge hf (by omega)) hp)
theorem i_vc_likely {k : Nat} {u : SX} {v : SY} (I : i_Rel k u v) (hk : k + 4 ≤ 2048) (v1 : Int32) (v2 : Int32) : wpX_likely (fun r u' => wpY_likely (fun r' v' => r' = r ∧ i_Rel (k + 4) u' v') v v1 v2) u v1 v2 := by
  obtain ⟨F, C, kn, eo, no, lo, so, en, pr, ye, ta, hd, la, mk, yy, rfl, rfl, hF, hC, hE, hQ, hT⟩ := I
  have rel : i_Rel (k + 4) (nI F, nI C, eo, no, lo, so, en, pr, ye) (nI F, nI C, kn, ta, hd, la, no, lo, so, en, mk, yy) := ln_rel hF hC hE hQ hT
  unfold wpX_likely wpY_likely
  rcases ln_if hF v1 with ⟨nX, nY⟩ | ⟨f, hf, rfl⟩
  · exact nX _ _ _ _ _ _ _ _ _ (br_t rfl (nY _ _ _ _ _ _ _ _ _ _ _ _ (br_t rfl ⟨rfl, rel⟩)))
  · have hi : vp_in (nI f) 9 := vp_in_nI (by omega) (by decide)
    have rel' : i_Rel (k + 4) (nI F, nI C, eo, upd no (nI f).toNatClampNeg v2, lo, so, en, pr, ye) (nI F, nI C, kn, ta, hd, la, upd no (nI f).toNatClampNeg v2, lo, so, en, mk, yy) := ln_rel hF hC hE hQ hT
    have h10 : ¬ (1 : Int32) = 0 := by decide
    refine ln_ifX hF hf (br_f h10 ?_)
    by_cases h1 : v2 < 1
    · exact ln_numL h1 (br_t rfl (ln_ifY hF hf (br_f h10 (br_t h1 ⟨rfl, rel⟩))))
    · by_cases h4 : 4 < v2
      · exact ln_numH h1 h4 (br_t rfl (ln_ifY hF hf (br_f h10 (br_f h1 (br_f (Int32.not_le.mpr h4) ⟨rfl, rel⟩)))))
      · exact ln_num1 h1 h4 (br_f h10 ⟨hi, nm_e ⟨hi, nm_e (ln_ifY hF hf (br_f h10 (br_f h1 (br_t (Int32.not_lt.mp h4) ⟨hi, nm_e ⟨hi, nm_e ⟨rfl, rel'⟩⟩⟩))))⟩⟩)
theorem ln_t1X {post : Int32 → Prop} {x : Int32} (h : ln_tm x) (hp : post 1) : wpX_isTerm post x := by
  rcases h with rfl | rfl | rfl | ⟨t, ht, rfl⟩
  · exact br_f (by decide) (br_f (by decide) (br_t (by decide) (br_f (by decide) hp)))
  · exact br_f (by decide) (br_f (by decide) (br_t (by decide) (br_f (by decide) hp)))
  · exact br_f (by decide) (br_f (by decide) (br_t (by decide) (br_f (by decide) hp)))
  · exact br_f (nI_pos (by omega)) (br_t (nI_le (a := 3) (b := 8 + t) (by omega) (by omega)) (br_f (nI_nlt (a := 8 + t) (b := 8) (by omega) (by omega)) (br_f (nI_ge (a := 8 + t) (b := 14) (by omega) (by decide)) (br_t rfl (br_f (by decide) hp)))))
theorem ln_t1Y {post : Int32 → Prop} {x f1 f2 kn : Int32} {ta hd la no lo so en mk yy : Nat → Int32} (h : ln_tm x) (hp : post 1) : wpY_isEnd post (f1, f2, kn, ta, hd, la, no, lo, so, en, mk, yy) x := by
  rcases h with rfl | rfl | rfl | ⟨t, ht, rfl⟩
  · exact br_f (by decide) (br_t (by decide) hp)
  · exact br_f (by decide) (br_t (by decide) hp)
  · exact br_f (by decide) (br_t (by decide) hp)
  · exact br_f (nI_pos (by omega)) (br_f (nI_ge (a := 2) (b := 8 + t) (by omega) (by omega)) (br_f (nI_nlt (a := 8 + t) (b := 8) (by omega) (by omega)) (br_f (nI_nlt (a := 13) (b := 8 + t) (by omega) (by decide)) hp)))
theorem ln_td (x : Int32) : ln_tm x ∨ ((∀ post : Int32 → Prop, post 0 → wpX_isTerm post x) ∧ (∀ (post : Int32 → Prop) (f1 f2 kn : Int32) (ta hd la no lo so en mk yy : Nat → Int32), post 0 → wpY_isEnd post (f1, f2, kn, ta, hd, la, no, lo, so, en, mk, yy) x)) := by
  by_cases h : x < 0
  · have h8 : x < 8 := Int32.lt_trans h (by decide)
    exact Or.inr ⟨fun post hp => br_t h (br_t h8 (br_t rfl (br_t rfl hp))), fun post f1 f2 kn ta hd la no lo so en mk yy hp => br_t h (br_t h8 hp)⟩
  · obtain ⟨j, hj, rfl⟩ := nI_of h
    by_cases h3 : j < 3
    · have c : j = 0 ∨ j = 1 ∨ j = 2 := by omega
      rcases c with rfl | rfl | rfl
      · exact Or.inl (Or.inl rfl)
      · exact Or.inl (Or.inr (Or.inl rfl))
      · exact Or.inl (Or.inr (Or.inr (Or.inl rfl)))
    · have g3 : (3 : Int32) ≤ nI j := nI_le (a := 3) (b := j) (by omega) hj
      have g2 : ¬ nI j ≤ 2 := nI_ge (a := 2) (b := j) (by omega) hj
      by_cases h8 : j < 8
      · have g8 : nI j < 8 := nI_lt (a := j) (b := 8) h8 (by decide)
        exact Or.inr ⟨fun post hp => br_f h (br_t g3 (br_t g8 (br_t rfl (br_t rfl hp)))), fun post f1 f2 kn ta hd la no lo so en mk yy hp => br_f h (br_f g2 (br_t g8 hp))⟩
      · have g8 : ¬ nI j < 8 := nI_nlt (a := j) (b := 8) (by omega) hj
        by_cases h14 : j < 14
        · exact Or.inl (Or.inr (Or.inr (Or.inr ⟨j - 8, by omega, congrArg nI (by omega)⟩)))
        · have g14 : (14 : Int32) ≤ nI j := nI_le (a := 14) (b := j) (by omega) hj
          have g13 : (13 : Int32) < nI j := nI_lt (a := 13) (b := j) (by omega) hj
          exact Or.inr ⟨fun post hp => br_f h (br_t g3 (br_f g8 (br_t g14 (br_t rfl (br_t rfl hp))))), fun post f1 f2 kn ta hd la no lo so en mk yy hp => br_f h (br_f g2 (br_f g8 (br_t g13 hp)))⟩
theorem i_vc_condition {k : Nat} {u : SX} {v : SY} (I : i_Rel k u v) (hk : k + 4 ≤ 2048) (v1 : Int32) (v2 : Int32) (v3 : Int32) : wpX_condition (fun r u' => wpY_condition (fun r' v' => r' = r ∧ i_Rel (k + 4) u' v') v v1 v2 v3) u v1 v2 v3 := by
  obtain ⟨F, C, kn, eo, no, lo, so, en, pr, ye, ta, hd, la, mk, yy, rfl, rfl, hF, hC, hE, hQ, hT⟩ := I
  have rel : i_Rel (k + 4) (nI F, nI C, eo, no, lo, so, en, pr, ye) (nI F, nI C, kn, ta, hd, la, no, lo, so, en, mk, yy) := ln_rel hF hC hE hQ hT
  have h10 : ¬ (1 : Int32) = 0 := by decide
  unfold wpX_condition wpY_condition
  rcases ln_td v2 with t2 | ⟨nX, nY⟩
  · rcases ln_td v3 with t3 | ⟨nX, nY⟩
    · refine ln_t1X t2 (br_f h10 (ln_t1X t3 (br_f h10 ?_)))
      by_cases h4 : C < 4
      · have x4 : nI C < 4 := nI_lt (a := C) (b := 4) h4 (by decide)
        have z4 : ¬ nI C = 4 := fun z => by
          have z' : nI C = nI 4 := z
          rw [nI_eq (by omega) (by omega)] at z'
          omega
        have hi : vp_in (nI C) 4 := vp_in_nI h4 (by decide)
        have ec : (nI C).toNatClampNeg = C := nI_clamp (by omega)
        have rel' : i_Rel (k + 4) (nI F, nI (C + 1), eo, no, upd lo (nI C).toNatClampNeg (v1 &&& 1), upd so (nI C).toNatClampNeg v2, upd en (nI C).toNatClampNeg v3, pr, ye) (nI F, nI (C + 1), 0, ta, hd, la, no, upd lo (nI C).toNatClampNeg (v1 &&& 1), upd so (nI C).toNatClampNeg v2, upd en (nI C).toNatClampNeg v3, mk, yy) := by
          refine ln_rel hF (by omega) hE ?_ (fun q => absurd rfl q)
          intro c hc
          rw [ec]
          by_cases e : c = C
          · rw [e, pk_us, pk_us, pk_us]
            exact ⟨⟨_, Nat.mod_lt _ (by decide), ln_1 v1⟩, t2, t3⟩
          · rw [pk_un e, pk_un e, pk_un e]
            exact hQ c (by omega)
        exact br_t x4 ⟨hi, nm_e ⟨hi, nm_e ⟨hi, nm_e (nm_r (nI_1 C) (ln_t1Y t2 (br_f h10 (ln_t1Y t3 (br_f h10 (br_f z4 ⟨hi, nm_e ⟨hi, nm_e ⟨hi, nm_e (nm_r (nI_1 C) ⟨rfl, rel'⟩)⟩⟩⟩))))))⟩⟩⟩
      · have e4 : C = 4 := by omega
        have x4 : ¬ nI C < 4 := nI_nlt (a := C) (b := 4) (by omega) (by omega)
        exact br_f x4 (ln_t1Y t2 (br_f h10 (ln_t1Y t3 (br_f h10 (br_t (congrArg nI e4) ⟨rfl, rel⟩)))))
    · exact ln_t1X t2 (br_f h10 (nX _ (br_t rfl (ln_t1Y t2 (br_f h10 (nY _ _ _ _ _ _ _ _ _ _ _ _ _ (br_t rfl ⟨rfl, rel⟩)))))))
  · exact nX _ (br_t rfl (nY _ _ _ _ _ _ _ _ _ _ _ _ _ (br_t rfl ⟨rfl, rel⟩)))
theorem i_vc_ask {k : Nat} {u : SX} {v : SY} (I : i_Rel k u v) (hk : k + 4 ≤ 2048) : wpX_ask (fun u' => wpY_ask (fun v' => i_Rel (k + 4) u' v') v) u := by
  obtain ⟨F, C, kn, eo, no, lo, so, en, pr, ye, ta, hd, la, mk, yy, rfl, rfl, hF, hC, hE, hQ, hT⟩ := I
  have rel' : i_Rel (k + 4) (nI F, nI 0, eo, no, lo, so, en, pr, ye) (nI F, nI 0, 0, ta, hd, la, no, lo, so, en, mk, yy) := ln_rel hF (by decide) hE (fun c hc => absurd hc (Nat.not_lt_zero c)) (fun q => absurd rfl q)
  exact rel'
theorem i_vc_drop {k : Nat} {u : SX} {v : SY} (I : i_Rel k u v) (hk : k + 4 ≤ 2048) : wpX_drop (fun r u' => wpY_drop (fun r' v' => r' = r ∧ i_Rel (k + 4) u' v') v) u := by
  obtain ⟨F, C, kn, eo, no, lo, so, en, pr, ye, ta, hd, la, mk, yy, rfl, rfl, hF, hC, hE, hQ, hT⟩ := I
  have rel : i_Rel (k + 4) (nI F, nI C, eo, no, lo, so, en, pr, ye) (nI F, nI C, kn, ta, hd, la, no, lo, so, en, mk, yy) := ln_rel hF hC hE hQ hT
  by_cases z : F = 0
  · have z' : nI F = 0 := (congrArg nI z).trans nI_0
    exact br_t z' (br_t z' ⟨rfl, rel⟩)
  · obtain ⟨G, rfl⟩ : ∃ G, F = G + 1 := ⟨F - 1, by omega⟩
    have z' : ¬ nI (G + 1) = 0 := nI_ne0 (by omega) (by omega)
    have rel' : i_Rel (k + 4) (nI G, nI C, eo, no, lo, so, en, pr, ye) (nI G, nI C, 0, ta, hd, la, no, lo, so, en, mk, yy) := ln_rel (by omega) hC (fun i hi => hE i (by omega)) hQ (fun q => absurd rfl q)
    exact br_f z' (nm_r (nI_pred G) (br_f z' (nm_r (nI_pred G) ⟨rfl, rel'⟩)))
theorem i_vc_all {k : Nat} {u : SX} {v : SY} (I : i_Rel k u v) (hk : k + 4 ≤ 2048) : wpX_all (fun r => wpY_all (fun r' => r' = r ∧ i_Rel (k + 4) u v) v) u := by
  obtain ⟨F, C, kn, eo, no, lo, so, en, pr, ye, ta, hd, la, mk, yy, rfl, rfl, hF, hC, hE, hQ, hT⟩ := I
  have rel : i_Rel (k + 4) (nI F, nI C, eo, no, lo, so, en, pr, ye) (nI F, nI C, kn, ta, hd, la, no, lo, so, en, mk, yy) := ln_rel hF hC hE hQ hT
  have L : ∀ (post : Int32 → Prop), post (nI (4 ^ F)) → ∀ d i : Nat, i + d = F → wY_all_4 post (nI F) (nI C) kn ta hd la no lo so en mk yy (d + 1) (nI (4 ^ i)) (nI i) := by
    intro post hp d
    induction d with
    | zero =>
      intro i h
      have h' : i = F := by omega
      rw [h']
      exact br_t (nI_le (Nat.le_refl F) (by omega)) hp
    | succ d ih =>
      intro i h
      have hn : ¬ nI F ≤ nI i := nI_ge (by omega) (by omega)
      have e : nI (4 ^ i) * 4 = nI (4 ^ (i + 1)) := by
        rw [Nat.pow_succ]
        exact pk_mul (4 ^ i) 4
      exact br_f hn (nm_r e (nm_r (nI_1 i) (ih (i + 1) (by omega))))
  exact ⟨F + 1, L _ ⟨(ln_p4 F hF).symm, rel⟩ F 0 (by omega)⟩
end
section
/-! the calls that read -/
theorem i_vc_share {k : Nat} {u : SX} {v : SY} (I : i_Rel k u v) (hk : k + 4 ≤ 2048) : wpX_share (fun r u' => wpY_share (fun r' v' => r' = r ∧ i_Rel (k + 4) u' v') v) u := by
  obtain ⟨F, C, kn, eo, no, lo, so, en, pr, ye, ta, hd, la, mk, yy, rfl, rfl, hF, hC, hE, hQ, hT⟩ := I
  unfold wpX_share wpY_share
  refine ln_fa hF hC hQ (fun pr' ye' t => ?_)
  obtain ⟨r, hX, hY⟩ := ln_sum (C := C) eo no lo so en pr' ye' ta hd la hF 0
  refine hX _ ?_
  unfold wpY_sum
  refine ln_wk hF hC hE hQ hT (fun kn' mk' yy' hk' t' => ?_)
  have rel : i_Rel (k + 4) (nI F, nI C, eo, no, lo, so, en, pr', ye') (nI F, nI C, kn', ta, hd, la, no, lo, so, en, mk', yy') := ln_rel hF hC hE hQ (fun _ => t')
  exact ⟨_, hY kn' mk' yy' _ (ln_A_eq t t') ⟨rfl, rel⟩⟩
theorem i_vc_shareWith {k : Nat} {u : SX} {v : SY} (I : i_Rel k u v) (hk : k + 4 ≤ 2048) (v1 : Int32) : wpX_shareWith (fun r u' => wpY_shareWith (fun r' v' => r' = r ∧ i_Rel (k + 4) u' v') v v1) u v1 := by
  obtain ⟨F, C, kn, eo, no, lo, so, en, pr, ye, ta, hd, la, mk, yy, rfl, rfl, hF, hC, hE, hQ, hT⟩ := I
  have h10 : ¬ (1 : Int32) = 0 := by decide
  unfold wpX_shareWith wpY_shareWith
  rcases ln_if hF v1 with ⟨nX, nY⟩ | ⟨f, hf, rfl⟩
  · have rel : i_Rel (k + 4) (nI F, nI C, eo, no, lo, so, en, pr, ye) (nI F, nI C, kn, ta, hd, la, no, lo, so, en, mk, yy) := ln_rel hF hC hE hQ hT
    exact nX _ _ _ _ _ _ _ _ _ (br_t rfl (nY _ _ _ _ _ _ _ _ _ _ _ _ (br_t rfl ⟨rfl, rel⟩)))
  · refine ln_ifX hF hf (br_f h10 (ln_fa hF hC hQ (fun pr' ye' t => ?_)))
    obtain ⟨r, hX, hY⟩ := ln_sum (C := C) eo no lo so en pr' ye' ta hd la hF ((1 : Int32) <<< (nI f &&& 31))
    refine hX _ (ln_ifY hF hf (br_f h10 ?_))
    unfold wpY_sum
    refine ln_wk hF hC hE hQ hT (fun kn' mk' yy' hk' t' => ?_)
    have rel : i_Rel (k + 4) (nI F, nI C, eo, no, lo, so, en, pr', ye') (nI F, nI C, kn', ta, hd, la, no, lo, so, en, mk', yy') := ln_rel hF hC hE hQ (fun _ => t')
    exact ⟨_, hY kn' mk' yy' _ (ln_A_eq t t') ⟨rfl, rel⟩⟩
theorem i_vc_matters {k : Nat} {u : SX} {v : SY} (I : i_Rel k u v) (hk : k + 4 ≤ 2048) (v1 : Int32) : wpX_matters (fun r u' => wpY_matters (fun r' v' => r' = r ∧ i_Rel (k + 4) u' v') v v1) u v1 := by
  obtain ⟨F, C, kn, eo, no, lo, so, en, pr, ye, ta, hd, la, mk, yy, rfl, rfl, hF, hC, hE, hQ, hT⟩ := I
  have h10 : ¬ (1 : Int32) = 0 := by decide
  unfold wpX_matters wpY_matters
  rcases ln_if hF v1 with ⟨nX, nY⟩ | ⟨f, hf, rfl⟩
  · have rel : i_Rel (k + 4) (nI F, nI C, eo, no, lo, so, en, pr, ye) (nI F, nI C, kn, ta, hd, la, no, lo, so, en, mk, yy) := ln_rel hF hC hE hQ hT
    exact nX _ _ _ _ _ _ _ _ _ (br_t rfl (nY _ _ _ _ _ _ _ _ _ _ _ _ (br_t rfl ⟨rfl, rel⟩)))
  · refine ln_ifX hF hf (br_f h10 (ln_fa hF hC hQ (fun pr' ye' t => ?_)))
    obtain ⟨r, hX, hY⟩ := ln_mt (C := C) eo no lo so en pr' ye' ta hd la hF hf
    refine nm_r (ln_pow F hF) (nm_e ⟨_, hX _ (ln_ifY hF hf (br_f h10 ?_))⟩)
    refine ln_wk hF hC hE hQ hT (fun kn' mk' yy' hk' t' => ?_)
    have rel : i_Rel (k + 4) (nI F, nI C, eo, no, lo, so, en, pr', ye') (nI F, nI C, kn', ta, hd, la, no, lo, so, en, mk', yy') := ln_rel hF hC hE hQ (fun _ => t')
    exact ⟨_, hY kn' mk' yy' _ (ln_A_eq t t') ⟨rfl, rel⟩⟩
theorem i_vc_fewest {k : Nat} {u : SX} {v : SY} (I : i_Rel k u v) (hk : k + 4 ≤ 2048) : wpX_fewest (fun r u' => wpY_fewest (fun r' v' => r' = r ∧ i_Rel (k + 4) u' v') v) u := by
  obtain ⟨F, C, kn, eo, no, lo, so, en, pr, ye, ta, hd, la, mk, yy, rfl, rfl, hF, hC, hE, hQ, hT⟩ := I
  unfold wpX_fewest wpY_fewest
  refine ln_fa hF hC hQ (fun pr' ye' t => ?_)
  obtain ⟨r, hX, hY⟩ := ln_few (C := C) eo no lo so en pr' ye' ta hd la hF
  refine nm_r (ln_pow F hF) ⟨_, hX _ ?_⟩
  refine ln_wk hF hC hE hQ hT (fun kn' mk' yy' hk' t' => ?_)
  have rel : i_Rel (k + 4) (nI F, nI C, eo, no, lo, so, en, pr', ye') (nI F, nI C, kn', ta, hd, la, no, lo, so, en, mk', yy') := ln_rel hF hC hE hQ (fun _ => t')
  exact ⟨_, hY kn' mk' yy' _ (ln_A_eq t t') ⟨rfl, rel⟩⟩
theorem i_vc_reasons {k : Nat} {u : SX} {v : SY} (I : i_Rel k u v) (hk : k + 4 ≤ 2048) : wpX_reasons (fun r u' => wpY_reasons (fun r' v' => r' = r ∧ i_Rel (k + 4) u' v') v) u := by
  obtain ⟨F, C, kn, eo, no, lo, so, en, pr, ye, ta, hd, la, mk, yy, rfl, rfl, hF, hC, hE, hQ, hT⟩ := I
  unfold wpX_reasons wpY_reasons
  refine ln_fa hF hC hQ (fun pr' ye' t => ?_)
  obtain ⟨r, hX, hY⟩ := ln_rea (C := C) eo no lo so en pr' ye' ta hd la hF
  refine nm_r (ln_pow F hF) ⟨_, hX _ ?_⟩
  refine ln_wk hF hC hE hQ hT (fun kn' mk' yy' hk' t' => ?_)
  have rel : i_Rel (k + 4) (nI F, nI C, eo, no, lo, so, en, pr', ye') (nI F, nI C, kn', ta, hd, la, no, lo, so, en, mk', yy') := ln_rel hF hC hE hQ (fun _ => t')
  exact ⟨_, hY kn' mk' yy' _ (ln_A_eq t t') ⟨rfl, rel⟩⟩
end
