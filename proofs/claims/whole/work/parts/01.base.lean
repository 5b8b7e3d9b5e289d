/-! pasted from kit/rows -/
theorem pk_us {f : Nat → Int32} {k : Nat} {x : Int32} : upd f k x k = x := if_pos rfl
theorem pk_un {f : Nat → Int32} {k j : Nat} {x : Int32} (h : j ≠ k) : upd f k x j = f j := if_neg h
theorem pk_sub {a b : Nat} (h : b ≤ a) : nI a - nI b = nI (a - b) := by
  obtain ⟨c, rfl⟩ : ∃ c, a = c + b := ⟨a - b, by omega⟩
  rw [← nI_add, Int32.add_sub_cancel, Nat.add_sub_cancel]
theorem pk_mul (a b : Nat) : nI a * nI b = nI (a * b) := (Int32.ofNat_mul a b).symm
theorem pk_div {a d : Nat} (ha : a < 2 ^ 31) (h0 : 0 < d) (hd : d < 2 ^ 31) : nI a / nI d = nI (a / d) := by
  apply Int32.toInt_inj.mp
  rw [lg_idiv_nonneg (by rw [nI_toInt ha]; omega) (by rw [nI_toInt hd]; omega), nI_toInt ha, nI_toInt hd, nI_toInt (Nat.lt_of_le_of_lt (Nat.div_le_self a d) ha)]
  first | rfl | exact (Int.natCast_ediv _ _).symm
theorem pk_rem {a d : Nat} (ha : a < 2 ^ 31) (h0 : 0 < d) (hd : d < 2 ^ 31) : nI a - nI a / nI d * nI d = nI (a % d) := by
  rw [pk_div ha h0 hd, pk_mul, pk_sub (Nat.div_mul_le_self a d)]
  exact congrArg nI (by have := Nat.div_add_mod' a d; omega)
theorem pk_ix (x : Int32) {n : Nat} (hn : n < 2 ^ 31) : x < 0 ∨ nI n ≤ x ∨ ∃ j : Nat, j < n ∧ x = nI j := by
  by_cases h : x < 0
  · exact Or.inl h
  · obtain ⟨j, hj, rfl⟩ := nI_of h
    by_cases h2 : j < n
    · exact Or.inr (Or.inr ⟨j, h2, rfl⟩)
    · exact Or.inr (Or.inl (nI_le (by omega) hj))
theorem pk_tn {n : Nat} (h : n < 2 ^ 32) : (nI n).toBitVec.toNat = n := Nat.mod_eq_of_lt h
theorem pk_and (x : Int32) {m : Int32} (k : Nat) (hm : m.toBitVec.toNat = 2 ^ k - 1) : x &&& m = nI (x.toBitVec.toNat % 2 ^ k) := by
  apply Int32.toBitVec_inj.mp
  apply BitVec.eq_of_toNat_eq
  rw [Int32.toBitVec_and, BitVec.toNat_and, hm, Nat.and_two_pow_sub_one_eq_mod]
  show _ = (BitVec.ofNat 32 _).toNat
  rw [BitVec.toNat_ofNat]
  exact (Nat.mod_eq_of_lt (Nat.lt_of_le_of_lt (Nat.mod_le _ _) x.toBitVec.isLt)).symm
theorem pk_andE (x : Int32) {m : Int32} (k : Nat) (hm : m.toBitVec.toNat = 2 ^ k - 1) : ∃ j : Nat, j < 2 ^ k ∧ x &&& m = nI j := ⟨_, Nat.mod_lt _ (Nat.two_pow_pos k), pk_and x k hm⟩
theorem pk_shr (a s : Int32) (k : Nat) (hs : (s.toBitVec.smod 32).toNat = k) : (a >>> s).toInt = a.toInt >>> k := by
  show (a.toBitVec.sshiftRight (s.toBitVec.smod 32).toNat).toInt = _
  rw [hs, BitVec.toInt_sshiftRight]
  rfl
theorem nx_and (a b : Nat) : nI a &&& nI b = nI (a &&& b) := by
  apply Int32.toBitVec_inj.1
  show BitVec.ofNat 32 a &&& BitVec.ofNat 32 b = BitVec.ofNat 32 (a &&& b)
  apply BitVec.eq_of_getLsbD_eq
  intro i hi
  simp [hi]
theorem nx_xor (a b : Nat) : nI a ^^^ nI b = nI (a ^^^ b) := by
  apply Int32.toBitVec_inj.1
  show BitVec.ofNat 32 a ^^^ BitVec.ofNat 32 b = BitVec.ofNat 32 (a ^^^ b)
  apply BitVec.eq_of_getLsbD_eq
  intro i hi
  simp [hi]
/-! own rows: numbers -/
theorem ln_vb0 : vp_nar .boolean 0 = 0 := rfl
theorem ln_vb1 : vp_nar .boolean 1 = 1 := rfl
theorem ln_pow : ∀ i, i < 10 → (1 : Int32) <<< (nI i &&& 31) = nI (2 ^ i) := by decide +kernel
theorem ln_p4 : ∀ i, i < 10 → (1 : Int32) <<< ((2 * nI i) &&& 31) = nI (4 ^ i) := by decide +kernel
theorem ln_512 {F : Nat} (h : F < 10) : 2 ^ F ≤ 512 := Nat.le_trans (Nat.pow_le_pow_right (by decide) (show F ≤ 9 by omega)) (by decide)
theorem ln_xor {F w i : Nat} (hF : F < 10) (hw : w < 2 ^ F) (hi : i < F) : ∃ x, x < 2 ^ F ∧ nI w ^^^ ((1 : Int32) <<< (nI i &&& 31)) = nI x :=
  ⟨w ^^^ 2 ^ i, Nat.xor_lt_two_pow hw (Nat.pow_lt_pow_right (by decide) hi), by rw [ln_pow i (by omega), nx_xor]⟩
theorem ln_b01 (x : Int32) : x &&& 1 = 0 ∨ x &&& 1 = 1 := by
  obtain ⟨j, hj, e⟩ := pk_andE x (m := 1) 1 (by decide)
  rw [e]
  have h : j = 0 ∨ j = 1 := by omega
  rcases h with rfl | rfl
  · exact Or.inl rfl
  · exact Or.inr rfl
theorem ln_and0 (x : Int32) : x &&& 0 = 0 := by
  apply Int32.toBitVec_inj.mp
  rw [Int32.toBitVec_and]
  exact BitVec.and_zero
theorem ln_7 (x : Int32) : x &&& 7 = nI (x.toBitVec.toNat % 8) := pk_and x (m := 7) 3 (by decide)
theorem ln_127 (x : Int32) : x &&& 127 = nI (x.toBitVec.toNat % 128) := pk_and x (m := 127) 7 (by decide)
theorem ln_1 (x : Int32) : x &&& 1 = nI (x.toBitVec.toNat % 2) := pk_and x (m := 1) 1 (by decide)
theorem ln_sr3 (x : Int32) : (x >>> ((3 : Int32) &&& 31)) &&& 7 = nI (x.toBitVec.toNat / 8 % 8) := by
  rw [ln_7]
  have h : (x >>> ((3 : Int32) &&& 31)).toInt = x.toInt / 8 := by
    rw [pk_shr x ((3 : Int32) &&& 31) 3 (by decide), Int.shiftRight_eq_div_pow]
    rfl
  have a : x.toInt = _ := BitVec.toInt_eq_toNat_cond x.toBitVec
  have b : (x >>> ((3 : Int32) &&& 31)).toInt = _ := BitVec.toInt_eq_toNat_cond (x >>> ((3 : Int32) &&& 31)).toBitVec
  have la := x.toBitVec.isLt
  have lb := (x >>> ((3 : Int32) &&& 31)).toBitVec.isLt
  rw [h, a] at b
  generalize (x >>> ((3 : Int32) &&& 31)).toBitVec.toNat = q at b lb ⊢
  generalize x.toBitVec.toNat = n at b la ⊢
  refine congrArg nI ?_
  split at b <;> split at b <;> omega
theorem ln_sr6 (x : Int32) : (x >>> ((6 : Int32) &&& 31)) &&& 1 = nI (x.toBitVec.toNat / 64 % 2) := by
  rw [ln_1]
  have h : (x >>> ((6 : Int32) &&& 31)).toInt = x.toInt / 64 := by
    rw [pk_shr x ((6 : Int32) &&& 31) 6 (by decide), Int.shiftRight_eq_div_pow]
    rfl
  have a : x.toInt = _ := BitVec.toInt_eq_toNat_cond x.toBitVec
  have b : (x >>> ((6 : Int32) &&& 31)).toInt = _ := BitVec.toInt_eq_toNat_cond (x >>> ((6 : Int32) &&& 31)).toBitVec
  have la := x.toBitVec.isLt
  have lb := (x >>> ((6 : Int32) &&& 31)).toBitVec.isLt
  rw [h, a] at b
  generalize (x >>> ((6 : Int32) &&& 31)).toBitVec.toNat = q at b lb ⊢
  generalize x.toBitVec.toNat = n at b la ⊢
  refine congrArg nI ?_
  split at b <;> split at b <;> omega
theorem ln_code : ∀ a, a < 6 → ∀ b, b < 6 → ∀ l, l < 2 → (nI a ||| (nI b <<< ((3 : Int32) &&& 31))) ||| (nI l <<< ((6 : Int32) &&& 31)) = nI (a + 8 * b + 64 * l) := by decide +kernel
/-! the pure picture -/
/-- the node that a term stands for, under a choice of values -/
def ln_d (x : Int32) (ch : Nat) : Nat := if x = 0 then ch % 6 else if x = 1 then ch / 6 % 6 else if x = 2 then ch / 36 else x.toNatClampNeg - 8
/-- the edge, as the class packs it, that condition c asks for -/
def ln_e (lo so en : Nat → Int32) (c ch : Nat) : Int32 := (nI (ln_d (so c) ch) ||| (nI (ln_d (en c) ch) <<< ((3 : Int32) &&& 31))) ||| (lo c <<< ((6 : Int32) &&& 31))
/-- the facts below i that say the edge e, as bits -/
def ln_s (eo : Nat → Int32) (e : Int32) : Nat → Int32
  | 0 => 0
  | i + 1 => if eo i = e then ln_s eo e i ||| ((1 : Int32) <<< (nI i &&& 31)) else ln_s eo e i
def ln_m (F : Nat) (eo lo so en : Nat → Int32) (c ch : Nat) : Int32 := ln_s eo (ln_e lo so en c ch) F
/-- under the choice ch all conditions hold in the world w -/
def ln_H (F C : Nat) (eo lo so en : Nat → Int32) (ch w : Nat) : Prop := ∀ c, c < C → ¬ (nI w &&& ln_m F eo lo so en c ch) = 0
/-- the table y holds 1 for the worlds in S, 0 for the others, below W -/
def ln_A (W : Nat) (S : Nat → Prop) (y : Nat → Int32) : Prop := ∀ w, w < W → (S w → y w = 1) ∧ (¬ S w → y w = 0)
def ln_T (F C : Nat) (eo lo so en y : Nat → Int32) : Prop := ln_A (2 ^ F) (fun w => ∃ ch, ch < 216 ∧ ln_H F C eo lo so en ch w) y
def ln_tm (x : Int32) : Prop := x = 0 ∨ x = 1 ∨ x = 2 ∨ ∃ t, t < 6 ∧ x = nI (8 + t)
def ln_Q (C : Nat) (lo so en : Nat → Int32) : Prop := ∀ c, c < C → (∃ l, l < 2 ∧ lo c = nI l) ∧ ln_tm (so c) ∧ ln_tm (en c)
def ln_E (F : Nat) (eo ta hd la : Nat → Int32) : Prop := ∀ i, i < F → ∃ a b l : Nat, a < 6 ∧ b < 6 ∧ l < 2 ∧ ta i = nI a ∧ hd i = nI b ∧ la i = nI l ∧ eo i = nI (a + 8 * b + 64 * l)
theorem ln_A_eq {W : Nat} {S : Nat → Prop} {y z : Nat → Int32} (a : ln_A W S y) (b : ln_A W S z) : ∀ w, w < W → y w = z w := by
  intro w hw
  by_cases h : S w
  · rw [(a w hw).1 h, (b w hw).1 h]
  · rw [(a w hw).2 h, (b w hw).2 h]
theorem ln_A_iff {W : Nat} {S S' : Nat → Prop} {y : Nat → Int32} (h : ∀ w, w < W → (S w ↔ S' w)) (a : ln_A W S y) : ln_A W S' y :=
  fun w hw => ⟨fun s => (a w hw).1 ((h w hw).2 s), fun s => (a w hw).2 (fun t => s ((h w hw).1 t))⟩
theorem ln_A_step {W w0 : Nat} {S H : Nat → Prop} {y y' : Nat → Int32} (a : ln_A W (fun w => S w ∨ (w < w0 ∧ H w)) y) (ho : ∀ w, w ≠ w0 → y' w = y w) (h1 : S w0 ∨ H w0 → y' w0 = 1) (h0 : ¬ (S w0 ∨ H w0) → y' w0 = 0) : ln_A W (fun w => S w ∨ (w < w0 + 1 ∧ H w)) y' := by
  intro w hw
  by_cases e : w = w0
  · subst e
    exact ⟨fun (s : S w ∨ (w < w + 1 ∧ H w)) => h1 (s.imp id And.right), fun s => h0 (fun t => s (t.imp id (fun q => ⟨Nat.lt_succ_self w, q⟩)))⟩
  · rw [ho w e]
    exact ⟨fun (s : S w ∨ (w < w0 + 1 ∧ H w)) => (a w hw).1 (s.imp id (fun q => ⟨by have := q.1; omega, q.2⟩)), fun s => (a w hw).2 (fun (t : S w ∨ (w < w0 ∧ H w)) => s (t.imp id (fun q => ⟨by have := q.1; omega, q.2⟩)))⟩
/-- all worlds below W are through: the bound on w falls away -/
theorem ln_A_end {W w0 : Nat} {S H : Nat → Prop} {y : Nat → Int32} (h : W ≤ w0) (a : ln_A W (fun w => S w ∨ (w < w0 ∧ H w)) y) : ln_A W (fun w => S w ∨ H w) y :=
  ln_A_iff (fun _ hw => ⟨fun s => s.imp id And.right, fun s => s.imp id (fun q => ⟨by omega, q⟩)⟩) a
theorem ln_A_beg {W : Nat} {S H : Nat → Prop} {y : Nat → Int32} (a : ln_A W S y) : ln_A W (fun w => S w ∨ (w < 0 ∧ H w)) y :=
  ln_A_iff (fun v _ => ⟨fun s => Or.inl s, fun s => s.elim id (fun q => absurd q.1 (Nat.not_lt_zero v))⟩) a
/-- one choice more -/
theorem ln_A_more {W ch : Nat} {P : Nat → Nat → Prop} {y : Nat → Int32} (a : ln_A W (fun w => (∃ c, c < ch ∧ P c w) ∨ P ch w) y) : ln_A W (fun w => ∃ c, c < ch + 1 ∧ P c w) y :=
  ln_A_iff (fun w _ => ⟨fun s => s.elim (fun ⟨c, h, p⟩ => ⟨c, by omega, p⟩) (fun p => ⟨ch, by omega, p⟩), fun ⟨c, h, p⟩ => by
    by_cases e : c = ch
    · subst e
      exact Or.inr p
    · exact Or.inl ⟨c, by omega, p⟩⟩) a
theorem ln_A_same {W ch : Nat} {P : Nat → Nat → Prop} {y : Nat → Int32} (n : ∀ w, ¬ P ch w) (a : ln_A W (fun w => ∃ c, c < ch ∧ P c w) y) : ln_A W (fun w => ∃ c, c < ch + 1 ∧ P c w) y :=
  ln_A_more (ln_A_iff (fun w _ => ⟨fun s => Or.inl s, fun s => s.elim id (fun p => absurd p (n w))⟩) a)
theorem ln_A_none {W : Nat} {P : Nat → Nat → Prop} {y : Nat → Int32} (h : ∀ w, w < W → y w = 0) : ln_A W (fun w => ∃ c, c < 0 ∧ P c w) y :=
  fun w hw => ⟨fun ⟨c, q, _⟩ => absurd q (Nat.not_lt_zero c), fun _ => h w hw⟩
theorem ln_noH {F C ch : Nat} {eo lo so en : Nat → Int32} (h : ∃ c, c < C ∧ ln_m F eo lo so en c ch = 0) (w : Nat) : ¬ ln_H F C eo lo so en ch w := by
  obtain ⟨c, hc, e⟩ := h
  exact fun q => q c hc (by rw [e]; exact ln_and0 _)
theorem ln_d0 (ch : Nat) : ln_d 0 ch = ch % 6 := if_pos rfl
theorem ln_d1 (ch : Nat) : ln_d 1 ch = ch / 6 % 6 := by
  rw [ln_d, if_neg (show ¬ (1 : Int32) = 0 by decide), if_pos rfl]
theorem ln_d2 (ch : Nat) : ln_d 2 ch = ch / 36 := by
  rw [ln_d, if_neg (show ¬ (2 : Int32) = 0 by decide), if_neg (show ¬ (2 : Int32) = 1 by decide), if_pos rfl]
theorem ln_d8 {t ch : Nat} (ht : t < 6) : ln_d (nI (8 + t)) ch = t := by
  have e : ∀ k : Nat, k < 3 → ¬ nI (8 + t) = nI k := fun k hk z => by
    rw [nI_eq (a := 8 + t) (b := k) (by omega) (by omega)] at z
    omega
  rw [ln_d, if_neg (show ¬ nI (8 + t) = 0 from e 0 (by omega)), if_neg (show ¬ nI (8 + t) = 1 from e 1 (by omega)), if_neg (show ¬ nI (8 + t) = 2 from e 2 (by omega)), nI_clamp (by omega)]
  omega
theorem ln_d_lt {x : Int32} {ch : Nat} (hx : ln_tm x) (hc : ch < 216) : ln_d x ch < 6 := by
  rcases hx with rfl | rfl | rfl | ⟨t, ht, rfl⟩
  · rw [ln_d0]; omega
  · rw [ln_d1]; omega
  · rw [ln_d2]; omega
  · rw [ln_d8 ht]; exact ht
theorem ln_fit {F C c ch i : Nat} {eo lo so en ta hd la : Nat → Int32} (hE : ln_E F eo ta hd la) (hQ : ln_Q C lo so en) (hc : c < C) (hi : i < F) (hch : ch < 216) : (ta i = nI (ln_d (so c) ch) ∧ hd i = nI (ln_d (en c) ch) ∧ la i = lo c) ↔ eo i = ln_e lo so en c ch := by
  obtain ⟨a, b, l, ha, hb, hl, e1, e2, e3, e4⟩ := hE i hi
  obtain ⟨⟨m, hm, e5⟩, q1, q2⟩ := hQ c hc
  have d1 := ln_d_lt q1 hch
  have d2 := ln_d_lt q2 hch
  rw [ln_e, e1, e2, e3, e4, e5, ln_code _ d1 _ d2 _ hm]
  generalize ln_d (so c) ch = x at d1 ⊢
  generalize ln_d (en c) ch = y at d2 ⊢
  rw [nI_eq (a := a) (b := x) (by omega) (by omega), nI_eq (a := b) (b := y) (by omega) (by omega), nI_eq (a := l) (b := m) (by omega) (by omega), nI_eq (a := a + 8 * b + 64 * l) (b := x + 8 * y + 64 * m) (by omega) (by omega)]
  omega
