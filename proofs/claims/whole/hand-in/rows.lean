section
/-! ur: pasted rows of kit/rows (pk_), then the pure facts of this claim (ur_) -/
theorem pk_us {f : Nat → Int32} {k : Nat} {x : Int32} : upd f k x k = x := if_pos rfl
theorem pk_un {f : Nat → Int32} {k j : Nat} {x : Int32} (h : j ≠ k) : upd f k x j = f j := if_neg h
theorem pk_sub {a b : Nat} (h : b ≤ a) : nI a - nI b = nI (a - b) := by
  obtain ⟨c, rfl⟩ : ∃ c, a = c + b := ⟨a - b, by omega⟩
  rw [← nI_add, Int32.add_sub_cancel, Nat.add_sub_cancel]
theorem pk_m1 (n : Nat) : nI (n + 1) + (-1) = nI n := by
  rw [← nI_1, Int32.add_assoc, show (1 : Int32) + (-1) = 0 from rfl, Int32.add_zero]
theorem pk_mul (a b : Nat) : nI a * nI b = nI (a * b) := (Int32.ofNat_mul a b).symm
theorem pk_div {a d : Nat} (ha : a < 2 ^ 31) (h0 : 0 < d) (hd : d < 2 ^ 31) : nI a / nI d = nI (a / d) := by
  apply Int32.toInt_inj.mp
  rw [lg_idiv_nonneg (by rw [nI_toInt ha]; omega) (by rw [nI_toInt hd]; omega), nI_toInt ha, nI_toInt hd, nI_toInt (Nat.lt_of_le_of_lt (Nat.div_le_self a d) ha)]
  first | rfl | exact (Int.natCast_ediv _ _).symm
theorem pk_sub_toInt {a b : Nat} (ha : a < 2 ^ 30) (hb : b < 2 ^ 30) : (nI a - nI b).toInt = (a : Int) - b := by
  rw [Int32.toInt_sub, nI_toInt (by omega), nI_toInt (by omega)]
  exact Int.bmod_eq_of_le (by omega) (by omega)
theorem pk_sneg {a b : Nat} (hb : b < 2 ^ 30) (h : a < b) : nI a - nI b < 0 := by
  rw [Int32.lt_iff_toInt_lt, pk_sub_toInt (by omega) hb, show (0 : Int32).toInt = 0 from by decide]
  omega
theorem pk_ix (x : Int32) {n : Nat} (hn : n < 2 ^ 31) : x < 0 ∨ nI n ≤ x ∨ ∃ j : Nat, j < n ∧ x = nI j := by
  by_cases h : x < 0
  · exact Or.inl h
  · obtain ⟨j, hj, rfl⟩ := nI_of h
    by_cases h2 : j < n
    · exact Or.inr (Or.inr ⟨j, h2, rfl⟩)
    · exact Or.inr (Or.inl (nI_le (by omega) hj))
theorem pk_le {x y : Int32} {A B : Prop} (a b : Nat) (f : a ≤ b → A) (g : b < a → B) (hx : x = nI a := by rfl) (hy : y = nI b := by rfl) (ha : a < 2 ^ 31 := by omega) (hb : b < 2 ^ 31 := by omega) : (x ≤ y → A) ∧ (¬ x ≤ y → B) := by
  subst hx hy
  rw [nI_leI ha hb]
  exact ⟨f, fun z => g (by omega)⟩
theorem pk_lt {x y : Int32} {A B : Prop} (a b : Nat) (f : a < b → A) (g : b ≤ a → B) (hx : x = nI a := by rfl) (hy : y = nI b := by rfl) (ha : a < 2 ^ 31 := by omega) (hb : b < 2 ^ 31 := by omega) : (x < y → A) ∧ (¬ x < y → B) := by
  subst hx hy
  rw [nI_ltI ha hb]
  exact ⟨f, fun z => g (by omega)⟩
theorem pk_eq {x y : Int32} {A B : Prop} (a b : Nat) (f : a = b → A) (g : a ≠ b → B) (hx : x = nI a := by rfl) (hy : y = nI b := by rfl) (ha : a < 2 ^ 31 := by omega) (hb : b < 2 ^ 31 := by omega) : (x = y → A) ∧ (¬ x = y → B) := by
  subst hx hy
  rw [nI_eq ha hb]
  exact ⟨f, g⟩
theorem pk_in {x : Int32} (n N : Nat) (h : n < N) (hx : x = nI n := by rfl) (hN : N < 2 ^ 31 := by omega) : vp_in x N := by
  subst hx
  exact vp_in_nI h hN
theorem pk_cl {x : Int32} (n : Nat) (hx : x = nI n := by rfl) (h : n < 2 ^ 31 := by omega) : x.toNatClampNeg = n := by
  subst hx
  exact nI_clamp h
theorem pk_tn {n : Nat} (h : n < 2 ^ 32) : (nI n).toBitVec.toNat = n := Nat.mod_eq_of_lt h
theorem pk_and (x : Int32) {m : Int32} (k : Nat) (hm : m.toBitVec.toNat = 2 ^ k - 1) : x &&& m = nI (x.toBitVec.toNat % 2 ^ k) := by
  apply Int32.toBitVec_inj.mp
  apply BitVec.eq_of_toNat_eq
  rw [Int32.toBitVec_and, BitVec.toNat_and, hm, Nat.and_two_pow_sub_one_eq_mod]
  show _ = (BitVec.ofNat 32 _).toNat
  rw [BitVec.toNat_ofNat]
  exact (Nat.mod_eq_of_lt (Nat.lt_of_le_of_lt (Nat.mod_le _ _) x.toBitVec.isLt)).symm
theorem ur_m8 (n : Nat) : nI (n + 8) + (-8) = nI n := by
  rw [← nI_add, show nI 8 = (8 : Int32) from rfl, Int32.add_assoc, show (8 : Int32) + (-8) = 0 from by decide, Int32.add_zero]
theorem ur_s8 (n : Nat) : nI (n + 8) - 8 = nI n := by
  rw [← nI_add, show nI 8 = (8 : Int32) from rfl]
  exact Int32.add_sub_cancel _ _
theorem ur_n8 : ∀ s, s < 8 → nI s + (-8) < 0 := by decide +kernel
theorem ur_n8s : ∀ s, s < 8 → nI s - 8 < 0 := by decide +kernel
/-- where the component's ring holds the line that lies b back, under the count L -/
def ur_ix (L : Int32) (b : Nat) : Nat := (L - 1 - nI b).toBitVec.toNat % 8
theorem ur_ix_lt (L : Int32) (b : Nat) : ur_ix L b < 8 := Nat.mod_lt _ (by decide)
theorem ur_ix_0 (L : Int32) : ur_ix (L + 1) 0 = L.toBitVec.toNat % 8 := by
  unfold ur_ix
  rw [nI_0, show L + 1 - 1 - 0 = L from by grind]
theorem ur_ix_s (L : Int32) (b : Nat) : ur_ix (L + 1) (b + 1) = ur_ix L b := by
  unfold ur_ix
  rw [← nI_1 b, show L + 1 - 1 - (nI b + 1) = L - 1 - nI b from by grind]
theorem ur_ix_ne (L : Int32) {b : Nat} (h : b < 7) : ur_ix L b ≠ L.toBitVec.toNat % 8 := by
  unfold ur_ix
  have hl := L.toBitVec.isLt
  rw [Int32.toBitVec_sub, Int32.toBitVec_sub, BitVec.toNat_sub, BitVec.toNat_sub, pk_tn (n := b) (by omega), show (1 : Int32).toBitVec.toNat = 1 from rfl]
  omega
/-- the last eight lines of each account: the component's ring, the reference's row -/
def ur_Ring (ln la am : Nat → Int32) : Prop := ∀ a, a < 2 → ∀ b, b < 8 → am (a * 8 + b) = la (a * 8 + ur_ix (ln a) b)
/-- the reference's row of account a, shifted down to place k -/
def ur_sh (am : Nat → Int32) (a k : Nat) : Nat → Int32 := fun j => if a * 8 + k < j ∧ j ≤ a * 8 + 7 then am (j - 1) else am j
theorem ur_sh7 (am : Nat → Int32) (a : Nat) : ur_sh am a 7 = am := funext fun j => if_neg (by omega)
theorem ur_shs (am : Nat → Int32) (a : Nat) {k : Nat} (h : k < 7) : upd (ur_sh am a (k + 1)) (a * 8 + (k + 1)) (ur_sh am a (k + 1) (a * 8 + k)) = ur_sh am a k := by
  funext j
  by_cases e : j = a * 8 + (k + 1)
  · subst e
    have e1 : upd (ur_sh am a (k + 1)) (a * 8 + (k + 1)) (ur_sh am a (k + 1) (a * 8 + k)) (a * 8 + (k + 1)) = ur_sh am a (k + 1) (a * 8 + k) := pk_us
    rw [e1]
    unfold ur_sh
    rw [if_neg (by omega), if_pos (by omega)]
    exact congrArg am (by omega)
  · rw [pk_un e]
    unfold ur_sh
    by_cases h : a * 8 + k < j ∧ j ≤ a * 8 + 7
    · rw [if_pos h, if_pos (by omega)]
    · rw [if_neg h, if_neg (by omega)]
theorem ur_ring_add {ln la am : Nat → Int32} {a : Nat} (x : Int32) (ha : a < 2) (h : ur_Ring ln la am) :
    ur_Ring (upd ln a (ln a + 1)) (upd la (a * 8 + (ln a).toBitVec.toNat % 8) x) (upd (ur_sh am a 0) (a * 8) x) := by
  intro c hc b hb
  by_cases e : c = a
  · subst e
    have e1 : upd ln c (ln c + 1) c = ln c + 1 := pk_us
    rw [e1]
    cases b with
    | zero =>
      rw [ur_ix_0]
      exact pk_us.trans pk_us.symm
    | succ b =>
      have h1 := ur_ix_ne (ln c) (b := b) (by omega)
      rw [ur_ix_s, pk_un (f := ur_sh am c 0) (by omega), pk_un (f := la) (by omega)]
      unfold ur_sh
      rw [if_pos (by omega)]
      exact h c hc b (by omega)
  · have h1 := ur_ix_lt (ln c) b
    rw [pk_un (f := ln) e, pk_un (f := ur_sh am a 0) (by omega), pk_un (f := la) (by omega)]
    unfold ur_sh
    rw [if_neg (by omega)]
    exact h c hc b hb
/-- the reads: a flag and a number in the component, a number or one below 0 in the reference -/
def ur_Rd (hr rd yr : Nat → Int32) : Prop := ∀ j, j < 96 → (hr j = 0 ∧ yr j < 0) ∨ (¬ hr j = 0 ∧ yr j = rd j ∧ ¬ yr j < 0)
theorem ur_rd_set {hr rd yr : Nat → Int32} {k : Nat} {b x : Int32} (h : ur_Rd hr rd yr) (hb : ¬ b = 0) (hx : ¬ x < 0) : ur_Rd (upd hr k b) (upd rd k x) (upd yr k x) := by
  intro j hj
  by_cases e : j = k
  · subst e
    have e1 : upd hr j b j = b := pk_us
    have e2 : upd rd j x j = x := pk_us
    have e3 : upd yr j x j = x := pk_us
    rw [e1, e2, e3]
    exact Or.inr ⟨hb, rfl, hx⟩
  · rw [pk_un e, pk_un e, pk_un e]
    exact h j hj
theorem ur_rd_del {hr rd yr : Nat → Int32} {k : Nat} {x : Int32} (h : ur_Rd hr rd yr) (hx : x < 0) : ur_Rd (upd hr k 0) rd (upd yr k x) := by
  intro j hj
  by_cases e : j = k
  · subst e
    have e1 : upd hr j 0 j = 0 := pk_us
    have e3 : upd yr j x j = x := pk_us
    rw [e1, e3]
    exact Or.inl ⟨rfl, hx⟩
  · rw [pk_un e, pk_un e]
    exact h j hj
/-- the tariffs: one table of seven rows in the component, six rows and the current one in the reference -/
def ur_Tf (tX tY it : Nat → Int32) : Prop := (∀ j, j < 36 → tX j = tY j) ∧ (∀ j, j < 6 → tX (36 + j) = it j)
theorem ur_tf_set {tX tY it : Nat → Int32} {k : Nat} {x : Int32} (hk : k < 6) (h : ur_Tf tX tY it) : ur_Tf (upd tX (36 + k) x) tY (upd it k x) := by
  refine ⟨fun j hj => ?_, fun j hj => ?_⟩
  · rw [pk_un (by omega)]
    exact h.1 j hj
  · by_cases e : j = k
    · subst e
      exact pk_us.trans pk_us.symm
    · rw [pk_un (by omega), pk_un e]
      exact h.2 j hj
/-- the first k items of row p taken from g -/
def ur_cp (f g : Nat → Int32) (p k : Nat) : Nat → Int32 := fun j => if p * 6 ≤ j ∧ j < p * 6 + k then g (j - p * 6) else f j
theorem ur_cp0 (f g : Nat → Int32) (p : Nat) : ur_cp f g p 0 = f := funext fun j => if_neg (by omega)
theorem ur_cps (f g : Nat → Int32) (p k : Nat) : upd (ur_cp f g p k) (p * 6 + k) (g k) = ur_cp f g p (k + 1) := by
  funext j
  by_cases e : j = p * 6 + k
  · subst e
    have e1 : upd (ur_cp f g p k) (p * 6 + k) (g k) (p * 6 + k) = g k := pk_us
    rw [e1]
    unfold ur_cp
    rw [if_pos (by omega)]
    exact congrArg g (by omega)
  · rw [pk_un e]
    unfold ur_cp
    by_cases h : p * 6 ≤ j ∧ j < p * 6 + k
    · rw [if_pos h, if_pos (by omega)]
    · rw [if_neg h, if_neg (by omega)]
theorem ur_cp_out (f g : Nat → Int32) {p k j : Nat} (h : p * 6 + k ≤ j) : ur_cp f g p k j = f j := if_neg (by omega)
theorem ur_cp_tf {tX tY it : Nat → Int32} {p : Nat} (hp : p < 6) (h : ur_Tf tX tY it) : ur_Tf (ur_cp tX (fun i => tX (36 + i)) p 6) (ur_cp tY it p 6) it := by
  refine ⟨fun j hj => ?_, fun j hj => ?_⟩
  · unfold ur_cp
    by_cases e : p * 6 ≤ j ∧ j < p * 6 + 6
    · rw [if_pos e, if_pos e]
      exact h.2 _ (by omega)
    · rw [if_neg e, if_neg e]
      exact h.1 j hj
  · rw [ur_cp_out _ _ (by omega)]
    exact h.2 j hj
end
section
/-! ur: the tests of an account and of an interval on both sides; the usage, both sides in lockstep -/
section
def ur_Out (x : Int32) (n : Nat) : Prop := x < 0 ∨ ∃ j : Nat, n ≤ j ∧ j < 2 ^ 31 ∧ x = nI j
theorem ur_cut (x : Int32) (n : Nat) : ur_Out x n ∨ ∃ j : Nat, j < n ∧ x = nI j := by
  by_cases h : x < 0
  · exact Or.inl (Or.inl h)
  · obtain ⟨j, hj, rfl⟩ := nI_of h
    by_cases h2 : j < n
    · exact Or.inr ⟨j, h2, rfl⟩
    · exact Or.inl (Or.inr ⟨j, by omega, hj, rfl⟩)
theorem ur_xA1 {A B : Prop} {a : Nat} (ha : a < 2) (h : B) : wpX_isAccount (fun r => (r = 0 → A) ∧ (¬ r = 0 → B)) (nI a) :=
  br_f (nI_pos (by omega)) (pk_le 2 a (fun h => absurd h (by omega)) (fun _ => br_f (by decide) h))
theorem ur_xA0 {A B : Prop} {x : Int32} (hx : ur_Out x 2) (h : A) : wpX_isAccount (fun r => (r = 0 → A) ∧ (¬ r = 0 → B)) x := by
  rcases hx with hx | ⟨j, h2, hj, rfl⟩
  · exact br_t hx (br_t rfl h)
  · exact br_f (nI_pos hj) (pk_le 2 j (fun _ => br_t rfl h) (fun h => absurd h (by omega)))
theorem ur_xI1 {A B : Prop} {a : Nat} (ha : a < 48) (h : B) : wpX_isInterval (fun r => (r = 0 → A) ∧ (¬ r = 0 → B)) (nI a) :=
  br_f (nI_pos (by omega)) (pk_le 48 a (fun h => absurd h (by omega)) (fun _ => br_f (by decide) h))
theorem ur_xI0 {A B : Prop} {x : Int32} (hx : ur_Out x 48) (h : A) : wpX_isInterval (fun r => (r = 0 → A) ∧ (¬ r = 0 → B)) x := by
  rcases hx with hx | ⟨j, h2, hj, rfl⟩
  · exact br_t hx (br_t rfl h)
  · exact br_f (nI_pos hj) (pk_le 48 j (fun _ => br_t rfl h) (fun h => absurd h (by omega)))
theorem ur_yA1 {A B : Prop} {u : SY} {a : Nat} (ha : a < 2) (h : A) : wpY_badAccount (fun r => (r = 0 → A) ∧ (¬ r = 0 → B)) u (nI a) := by
  obtain ⟨g1, g2, g3, g4, g5, g6, g7, g8, g9⟩ := u
  exact br_f (nI_pos (by omega)) (pk_le a 1 (fun _ => br_t rfl h) (fun h => absurd h (by omega)))
theorem ur_yA0 {A B : Prop} {u : SY} {x : Int32} (hx : ur_Out x 2) (h : B) : wpY_badAccount (fun r => (r = 0 → A) ∧ (¬ r = 0 → B)) u x := by
  obtain ⟨g1, g2, g3, g4, g5, g6, g7, g8, g9⟩ := u
  rcases hx with hx | ⟨j, h2, hj, rfl⟩
  · exact br_t hx (br_f (by decide) h)
  · exact br_f (nI_pos hj) (pk_le j 1 (fun h => absurd h (by omega)) (fun _ => br_f (by decide) h))
theorem ur_yI1 {A B : Prop} {u : SY} {a : Nat} (ha : a < 48) (h : A) : wpY_badInterval (fun r => (r = 0 → A) ∧ (¬ r = 0 → B)) u (nI a) := by
  obtain ⟨g1, g2, g3, g4, g5, g6, g7, g8, g9⟩ := u
  exact br_f (nI_pos (by omega)) (pk_le a 47 (fun _ => br_t rfl h) (fun h => absurd h (by omega)))
theorem ur_yI0 {A B : Prop} {u : SY} {x : Int32} (hx : ur_Out x 48) (h : B) : wpY_badInterval (fun r => (r = 0 → A) ∧ (¬ r = 0 → B)) u x := by
  obtain ⟨g1, g2, g3, g4, g5, g6, g7, g8, g9⟩ := u
  rcases hx with hx | ⟨j, h2, hj, rfl⟩
  · exact br_t hx (br_f (by decide) h)
  · exact br_f (nI_pos hj) (pk_le j 47 (fun h => absurd h (by omega)) (fun _ => br_f (by decide) h))
theorem ur_d8 {i : Nat} (h : i < 2 ^ 31) : nI i / 8 = nI (i / 8) := pk_div (d := 8) h (by decide) (by decide)
theorem ur_d8ne {i x : Nat} (hi : i < 48) (hx : x < 48) (h : i / 8 ≠ x / 8) : ¬ nI i / 8 = nI x / 8 := by
  rw [ur_d8 (by omega), ur_d8 (by omega), nI_eq (by omega) (by omega)]
  exact h
theorem ur_d8eq {i x : Nat} (hi : i < 48) (hx : x < 48) (h : i / 8 = x / 8) : nI i / 8 = nI x / 8 := by
  rw [ur_d8 (by omega), ur_d8 (by omega), h]
variable {fc gc : Int32} {hr rd tX bX la lp lX sX yr it tY bY lY sY am pe : Nat → Int32}
theorem ur_yTail {a x : Nat} (hx : x < 48) : ∀ d i, i + d = 48 → x / 8 * 8 + 8 ≤ i → ∀ (post : Int32 → Prop) (s c : Int32), ((c = 0 → post 0) ∧ (¬ c = 0 → (¬ c = 0 ∧ post (s / c)))) →
    wY_usage_69 post (nI a) (nI x) gc yr it tY bY lY sY am pe (d + 1) s c (nI i) := by
  intro d
  induction d with
  | zero =>
    intro i hi hp post s c H
    exact pk_le 48 i (fun _ => H) (fun h => absurd h (by omega))
  | succ d ih =>
    intro i hi hp post s c H
    exact pk_le 48 i (fun h => absurd h (by omega)) (fun _ => ⟨by decide, by decide, br_f (ur_d8ne (by omega) hx (by omega)) (nm_r (nI_1 i) (ih (i + 1) (by omega) (by omega) post s c H))⟩)
theorem ur_yHead {a x : Nat} (hx : x < 48) : ∀ d i, i + d = x / 8 * 8 → ∀ (post : Int32 → Prop) (n : Nat) (s c : Int32), wY_usage_69 post (nI a) (nI x) gc yr it tY bY lY sY am pe n s c (nI (x / 8 * 8)) →
    wY_usage_69 post (nI a) (nI x) gc yr it tY bY lY sY am pe (n + d) s c (nI i) := by
  intro d
  induction d with
  | zero =>
    intro i hi post n s c H
    have e : i = x / 8 * 8 := by omega
    rw [e]
    exact H
  | succ d ih =>
    intro i hi post n s c H
    exact pk_le 48 i (fun h => absurd h (by omega)) (fun _ => ⟨by decide, by decide, br_f (ur_d8ne (by omega) hx (by omega)) (nm_r (nI_1 i) (ih (i + 1) (by omega) post n s c H))⟩)
theorem ur_mean (R : ur_Rd hr rd yr) {a x : Nat} (ha : a < 2) (hx : x < 48) : ∀ d j, j + d = 8 → ∀ s c : Int32, ∃ r : Int32,
    (∀ post : Int32 → Prop, post r → wX_meanRead_19 post (nI (a * 48 + x / 8 * 8)) fc hr rd tX bX la lp lX sX (d + 1) s c (nI j)) ∧
    (∀ post : Int32 → Prop, post r → ∀ e, x / 8 * 8 + j + e = 48 → wY_usage_69 post (nI a) (nI x) gc yr it tY bY lY sY am pe (e + 1) s c (nI (x / 8 * 8 + j))) := by
  intro d
  induction d with
  | zero =>
    intro j hj s c
    by_cases hc : c = 0
    · exact ⟨0, fun post hp => pk_le 8 j (fun _ => br_t hc hp) (fun h => absurd h (by omega)), fun post hp e he => ur_yTail hx e _ he (by omega) post s c (br_t hc hp)⟩
    · exact ⟨s / c, fun post hp => pk_le 8 j (fun _ => br_f hc ⟨hc, hp⟩) (fun h => absurd h (by omega)), fun post hp e he => ur_yTail hx e _ he (by omega) post s c (br_f hc ⟨hc, hp⟩)⟩
  | succ d ih =>
    intro j hj s c
    have bJ : a * 48 + (x / 8 * 8 + j) < 96 := by omega
    have eX : nI (a * 48 + x / 8 * 8) + nI j = nI (a * 48 + (x / 8 * 8 + j)) := by rw [nI_add, Nat.add_assoc]
    have eY : nI a * 48 + nI (x / 8 * 8 + j) = nI (a * 48 + (x / 8 * 8 + j)) := by rw [show (48 : Int32) = nI 48 from rfl, pk_mul, nI_add]
    have iX : vp_in (nI (a * 48 + x / 8 * 8) + nI j) 96 := by rw [eX]; exact vp_in_nI bJ (by decide)
    have iY : vp_in (nI a * 48 + nI (x / 8 * 8 + j)) 96 := by rw [eY]; exact vp_in_nI bJ (by decide)
    have cX : (nI (a * 48 + x / 8 * 8) + nI j).toNatClampNeg = a * 48 + (x / 8 * 8 + j) := by rw [eX]; exact nI_clamp (by omega)
    have cY : (nI a * 48 + nI (x / 8 * 8 + j)).toNatClampNeg = a * 48 + (x / 8 * 8 + j) := by rw [eY]; exact nI_clamp (by omega)
    have q : nI (x / 8 * 8 + j) / 8 = nI x / 8 := ur_d8eq (by omega) hx (by omega)
    rcases R _ bJ with ⟨h0, y0⟩ | ⟨h1, e1, y1⟩
    · obtain ⟨r, hX, hY⟩ := ih (j + 1) (by omega) s c
      refine ⟨r, fun post hp => ?_, fun post hp e he => ?_⟩
      · exact pk_le 8 j (fun h => absurd h (by omega)) (fun _ => ⟨iX, br_t (by rw [cX]; exact h0) (nm_r (nI_1 j) (hX post hp))⟩)
      · obtain ⟨e', rfl⟩ : ∃ e', e = e' + 1 := ⟨e - 1, by omega⟩
        exact pk_le 48 (x / 8 * 8 + j) (fun h => absurd h (by omega)) (fun _ => ⟨by decide, by decide, br_t q ⟨iY, br_t (by rw [cY]; exact y0) (nm_r (nI_1 (x / 8 * 8 + j)) (hY post hp e' (by omega)))⟩⟩)
    · obtain ⟨r, hX, hY⟩ := ih (j + 1) (by omega) (s + rd (a * 48 + (x / 8 * 8 + j))) (c + 1)
      refine ⟨r, fun post hp => ?_, fun post hp e he => ?_⟩
      · exact pk_le 8 j (fun h => absurd h (by omega)) (fun _ => ⟨iX, br_f (by rw [cX]; exact h1) ⟨iX, nm_r (by rw [cX]) (nm_e (nm_r (nI_1 j) (hX post hp)))⟩⟩)
      · obtain ⟨e', rfl⟩ : ∃ e', e = e' + 1 := ⟨e - 1, by omega⟩
        exact pk_le 48 (x / 8 * 8 + j) (fun h => absurd h (by omega)) (fun _ => ⟨by decide, by decide, br_t q ⟨iY, br_f (by rw [cY]; exact y1) ⟨iY, nm_r (by rw [cY, e1]) (nm_e (nm_r (nI_1 (x / 8 * 8 + j)) (hY post hp e' (by omega))))⟩⟩⟩)
theorem ur_meanA (R : ur_Rd hr rd yr) {a x : Nat} (ha : a < 2) (hx : x < 48) : ∃ r : Int32,
    (∀ post : Int32 → Prop, post r → wpX_meanRead post (fc, hr, rd, tX, bX, la, lp, lX, sX) (nI a) (nI x / 8)) ∧
    (∀ post : Int32 → Prop, post r → ∃ n, wY_usage_69 post (nI a) (nI x) gc yr it tY bY lY sY am pe n 0 0 0) := by
  obtain ⟨r, hX, hY⟩ := ur_mean (fc := fc) (gc := gc) (tX := tX) (bX := bX) (la := la) (lp := lp) (lX := lX) (sX := sX) (it := it) (tY := tY) (bY := bY) (lY := lY) (sY := sY) (am := am) (pe := pe) R ha hx 8 0 rfl 0 0
  have e : nI a * 48 + nI x / 8 * 8 = nI (a * 48 + x / 8 * 8) := by
    rw [ur_d8 (by omega), show (48 : Int32) = nI 48 from rfl, show (8 : Int32) = nI 8 from rfl, pk_mul, pk_mul, nI_add]
  refine ⟨r, fun post hp => ?_, fun post hp => ?_⟩
  · exact nm_r e ⟨9, hX post hp⟩
  · exact ⟨_, ur_yHead hx (x / 8 * 8) 0 (by omega) post _ 0 0 (hY post hp (48 - x / 8 * 8) (by omega))⟩
theorem ur_search (R : ur_Rd hr rd yr) {a x s : Nat} (ha : a < 2) (hs : s < 8) {r0 : Int32}
    (X0 : ∀ post : Int32 → Prop, post r0 → wpX_meanRead post (fc, hr, rd, tX, bX, la, lp, lX, sX) (nI a) (nI x / 8))
    (Y0 : ∀ post : Int32 → Prop, post r0 → ∃ n, wY_usage_69 post (nI a) (nI x) gc yr it tY bY lY sY am pe n 0 0 0) : ∀ q, q < 6 → ∃ r : Int32,
    (∀ post : Int32 → Prop, post r → wX_usageIn_8 post (nI a) (nI x) (nI (a * 48)) fc hr rd tX bX la lp lX sX (q + 2) (nI (q * 8 + s))) ∧
    (∀ post : Int32 → Prop, post r → wY_usage_23 post (nI a) (nI x) gc yr it tY bY lY sY am pe (q + 2) (nI (q * 8 + s))) := by
  intro q
  induction q with
  | zero =>
    intro hq
    have bJ : a * 48 + (0 * 8 + s) < 96 := by omega
    have eX : nI (a * 48) + nI (0 * 8 + s) = nI (a * 48 + (0 * 8 + s)) := by rw [nI_add]
    have eY : nI a * 48 + nI (0 * 8 + s) = nI (a * 48 + (0 * 8 + s)) := by rw [show (48 : Int32) = nI 48 from rfl, pk_mul, nI_add]
    have iX : vp_in (nI (a * 48) + nI (0 * 8 + s)) 96 := by rw [eX]; exact vp_in_nI bJ (by decide)
    have iY : vp_in (nI a * 48 + nI (0 * 8 + s)) 96 := by rw [eY]; exact vp_in_nI bJ (by decide)
    have cX : (nI (a * 48) + nI (0 * 8 + s)).toNatClampNeg = a * 48 + (0 * 8 + s) := by rw [eX]; exact nI_clamp (by omega)
    have cY : (nI a * 48 + nI (0 * 8 + s)).toNatClampNeg = a * 48 + (0 * 8 + s) := by rw [eY]; exact nI_clamp (by omega)
    have nn : ¬ nI (0 * 8 + s) < 0 := nI_pos (by omega)
    rcases R _ bJ with ⟨h0, y0⟩ | ⟨h1, e1, y1⟩
    · refine ⟨r0, fun post hp => ?_, fun post hp => ?_⟩
      · exact br_f nn ⟨iX, br_t (by rw [cX]; exact h0) (nm_e (br_t (ur_n8 _ (by omega)) ⟨by decide, X0 post hp⟩))⟩
      · exact br_f nn ⟨iY, br_t (by rw [cY]; exact y0) (nm_e (br_t (ur_n8s _ (by omega)) (Y0 post hp)))⟩
    · refine ⟨rd (a * 48 + (0 * 8 + s)), fun post hp => ?_, fun post hp => ?_⟩
      · exact br_f nn ⟨iX, br_f (by rw [cX]; exact h1) ⟨iX, by rw [cX]; exact hp⟩⟩
      · exact br_f nn ⟨iY, br_f (by rw [cY]; exact y1) ⟨iY, by rw [cY, e1]; exact hp⟩⟩
  | succ q ih =>
    intro hq
    have bJ : a * 48 + ((q + 1) * 8 + s) < 96 := by omega
    have eX : nI (a * 48) + nI ((q + 1) * 8 + s) = nI (a * 48 + ((q + 1) * 8 + s)) := by rw [nI_add]
    have eY : nI a * 48 + nI ((q + 1) * 8 + s) = nI (a * 48 + ((q + 1) * 8 + s)) := by rw [show (48 : Int32) = nI 48 from rfl, pk_mul, nI_add]
    have iX : vp_in (nI (a * 48) + nI ((q + 1) * 8 + s)) 96 := by rw [eX]; exact vp_in_nI bJ (by decide)
    have iY : vp_in (nI a * 48 + nI ((q + 1) * 8 + s)) 96 := by rw [eY]; exact vp_in_nI bJ (by decide)
    have cX : (nI (a * 48) + nI ((q + 1) * 8 + s)).toNatClampNeg = a * 48 + ((q + 1) * 8 + s) := by rw [eX]; exact nI_clamp (by omega)
    have cY : (nI a * 48 + nI ((q + 1) * 8 + s)).toNatClampNeg = a * 48 + ((q + 1) * 8 + s) := by rw [eY]; exact nI_clamp (by omega)
    have nn : ¬ nI ((q + 1) * 8 + s) < 0 := nI_pos (by omega)
    have e8 : (q + 1) * 8 + s = (q * 8 + s) + 8 := by omega
    have mX : nI ((q + 1) * 8 + s) + (-8) = nI (q * 8 + s) := by rw [e8, ur_m8]
    have mY : nI ((q + 1) * 8 + s) - 8 = nI (q * 8 + s) := by rw [e8, ur_s8]
    rcases R _ bJ with ⟨h0, y0⟩ | ⟨h1, e1, y1⟩
    · obtain ⟨r, hX, hY⟩ := ih (by omega)
      refine ⟨r, fun post hp => ?_, fun post hp => ?_⟩
      · exact br_f nn ⟨iX, br_t (by rw [cX]; exact h0) (nm_r mX (hX post hp))⟩
      · exact br_f nn ⟨iY, br_t (by rw [cY]; exact y0) (nm_r mY (hY post hp))⟩
    · refine ⟨rd (a * 48 + ((q + 1) * 8 + s)), fun post hp => ?_, fun post hp => ?_⟩
      · exact br_f nn ⟨iX, br_f (by rw [cX]; exact h1) ⟨iX, by rw [cX]; exact hp⟩⟩
      · exact br_f nn ⟨iY, br_f (by rw [cY]; exact y1) ⟨iY, by rw [cY, e1]; exact hp⟩⟩
theorem ur_usage (R : ur_Rd hr rd yr) {a x : Nat} (ha : a < 2) (hx : x < 48) : ∃ r : Int32,
    (∀ y, y = nI x → ∀ post : Int32 → Prop, post r → wpX_usageIn post (fc, hr, rd, tX, bX, la, lp, lX, sX) (nI a) y) ∧
    (∀ y, y = nI x → ∀ post : Int32 → Prop, post r → wpY_usage post (gc, yr, it, tY, bY, lY, sY, am, pe) (nI a) y) := by
  obtain ⟨r0, X0, Y0⟩ := ur_meanA (fc := fc) (gc := gc) (tX := tX) (bX := bX) (la := la) (lp := lp) (lX := lX) (sX := sX) (it := it) (tY := tY) (bY := bY) (lY := lY) (sY := sY) (am := am) (pe := pe) R ha hx
  obtain ⟨r, hX, hY⟩ := ur_search R ha (Nat.mod_lt x (by decide : 0 < 8)) X0 Y0 (x / 8) (by omega)
  have e : x / 8 * 8 + x % 8 = x := by omega
  rw [e] at hX hY
  refine ⟨r, fun y hy post hp => ?_, fun y hy post hp => ?_⟩
  · subst hy
    exact nm_r (pk_mul a 48) ⟨_, hX post hp⟩
  · subst hy
    exact ur_yA1 (u := (gc, yr, it, tY, bY, lY, sY, am, pe)) ha (ur_yI1 (u := (gc, yr, it, tY, bY, lY, sY, am, pe)) hx ⟨_, hY post hp⟩)
end
end
section
/-! ur: the amount, both sides in lockstep -/
section
/-- the rate of item i for period p, c periods being closed -/
def ur_T (c p : Nat) (it tY : Nat → Int32) (i : Nat) : Int32 := if c ≤ p then it i else tY (p * 6 + i)
/-- the component's row of period p -/
def ur_row (c p : Nat) : Nat := if c ≤ p then 36 else p * 6
def ur_it (j : Nat) : Nat := if j ≤ 2 then 0 else if j ≤ 4 then 1 else 2
theorem ur_it_lt (j : Nat) : ur_it j < 6 := by
  unfold ur_it
  by_cases h : j ≤ 2
  · rw [if_pos h]; decide
  · rw [if_neg h]
    by_cases h4 : j ≤ 4
    · rw [if_pos h4]; decide
    · rw [if_neg h4]; decide
theorem ur_row_le {c p : Nat} (hp : p < 6) : ur_row c p ≤ 36 := by
  unfold ur_row
  by_cases h : c ≤ p
  · rw [if_pos h]; decide
  · rw [if_neg h]; omega
/-- the greater of what is due and the least -/
def ur_mx (W L : Int32) : Int32 := if L ≤ W then W else L
theorem ur_mx_br {post : Int32 → Prop} {W L : Int32} (h : post (ur_mx W L)) : (L ≤ W → post W) ∧ (¬ L ≤ W → post L) := by
  unfold ur_mx at h
  refine ⟨fun z => ?_, fun z => ?_⟩
  · rw [if_pos z] at h
    exact h
  · rw [if_neg z] at h
    exact h
theorem ur_xItem {post : Int32 → Prop} {j : Nat} (hj : j < 8) (h : post (nI (ur_it j))) : wpX_energyItem post (nI j) := by
  unfold ur_it at h
  exact pk_lt 2 j
    (fun h2 => pk_lt 4 j
      (fun h4 => by rw [if_neg (by omega), if_neg (by omega)] at h; exact h)
      (fun h4 => by rw [if_neg (by omega), if_pos (by omega)] at h; exact h))
    (fun h2 => by rw [if_pos (by omega)] at h; exact h)
variable {fc gc : Int32} {hr rd tX bX la lp lX sX yr it tY bY lY sY am pe : Nat → Int32}
theorem ur_tX (F : ur_Tf tX tY it) {c p i : Nat} (hp : p < 6) (hi : i < 6) : tX (ur_row c p + i) = ur_T c p it tY i := by
  unfold ur_row ur_T
  by_cases h : c ≤ p
  · rw [if_pos h, if_pos h]
    exact F.2 i hi
  · rw [if_neg h, if_neg h]
    exact F.1 _ (by omega)
theorem ur_tXi {c p : Nat} (hp : p < 6) {i : Nat} (hi : i < 6) {y : Int32} (hy : y = nI i) : vp_in (nI (ur_row c p) + y) 42 := by
  subst hy
  have := ur_row_le (c := c) hp
  rw [nI_add]
  exact vp_in_nI (by omega) (by decide)
theorem ur_tXv (F : ur_Tf tX tY it) {c p : Nat} (hp : p < 6) {i : Nat} (hi : i < 6) {y : Int32} (hy : y = nI i) : tX (nI (ur_row c p) + y).toNatClampNeg = ur_T c p it tY i := by
  subst hy
  have := ur_row_le (c := c) hp
  rw [nI_add, nI_clamp (by omega)]
  exact ur_tX F hp hi
theorem ur_yRate {post : Int32 → Prop} {c p i : Nat} (hc : c ≤ 6) (hp : p < 6) (hi : i < 6) {y : Int32} (hy : y = nI i) (h : post (ur_T c p it tY i)) :
    wpY_rate post (nI c, yr, it, tY, bY, lY, sY, am, pe) (nI p) y := by
  subst hy
  have e : nI p * 6 + nI i = nI (p * 6 + i) := by rw [show (6 : Int32) = nI 6 from rfl, pk_mul, nI_add]
  unfold ur_T at h
  refine pk_le c p (fun z => ⟨vp_in_nI hi (by decide), ?_⟩) (fun z => ⟨?_, ?_⟩)
  · rw [if_pos z] at h
    rw [nI_clamp (by omega)]
    exact h
  · rw [e]
    exact vp_in_nI (by omega) (by decide)
  · rw [if_neg (by omega)] at h
    rw [e, nI_clamp (by omega)]
    exact h
theorem ur_x130 (F : ur_Tf tX tY it) {post : Int32 → Prop} {c p : Nat} (hp : p < 6) {e x7 z W : Int32} (hW : e + x7 + z * ur_T c p it tY 4 = W)
    (h : post (ur_mx W (ur_T c p it tY 5 * 1000))) : wX_amountDue_130 post (nI (ur_row c p)) e x7 z fc hr rd tX bX la lp lX sX := by
  refine ⟨ur_tXi hp (i := 4) (by decide) rfl, nm_r (e' := W) ?_ ⟨ur_tXi hp (i := 5) (by decide) rfl, nm_r (e' := ur_T c p it tY 5 * 1000) ?_ (ur_mx_br h)⟩⟩
  · rw [ur_tXv F hp (i := 4) (by decide) (y := 4) rfl]
    exact hW
  · rw [ur_tXv F hp (i := 5) (by decide) (y := 5) rfl]
theorem ur_y159 {post : Int32 → Prop} {c p : Nat} (hc : c ≤ 6) (hp : p < 6) {W : Int32} (h : post (ur_mx W (ur_T c p it tY 5 * 1000))) :
    wY_amount_159 post (nI p) W (nI c) yr it tY bY lY sY am pe := by
  unfold wY_amount_159
  exact ur_yRate (i := 5) hc hp (by decide) rfl (nm_e (ur_mx_br h))
theorem ur_y75 {post : Int32 → Prop} {J : Int32 → Int32 → Int32 → Int32 → Prop} {c p a j i : Nat} (hc : c ≤ 6) (hp : p < 6) (hi : i < 6) {e g s u y : Int32} (hy : y = nI i)
    (h1 : u ≤ g → J (e + u * ur_T c p it tY i) g (s + u) (nI (j + 1))) (h2 : ¬ u ≤ g → J (e + u * ur_T c p it tY i) u (s + u) (nI (j + 1))) :
    wY_amount_75 post J (nI a) (nI p) e g s (nI j) u y (nI c) yr it tY bY lY sY am pe := by
  unfold wY_amount_75
  exact ur_yRate hc hp hi hy (nm_e (nm_e (br_c (fun z => nm_r (nI_1 j) (h1 z)) (fun z => nm_r (nI_1 j) (h2 z)))))
theorem ur_sum (R : ur_Rd hr rd yr) (F : ur_Tf tX tY it) {c a p : Nat} (hc : c ≤ 6) (ha : a < 2) (hp : p < 6) : ∀ d j, j + d = 8 → ∀ e g s : Int32, ∃ r : Int32,
    (∀ post : Int32 → Prop, post r → wX_amountDue_30 post (nI a) (nI p) (nI (ur_row c p)) fc hr rd tX bX la lp lX sX (d + 1) e g s (nI j)) ∧
    (∀ post : Int32 → Prop, post r → wY_amount_33 post (nI a) (nI p) (nI c) yr it tY bY lY sY am pe (d + 1) e g s (nI j)) := by
  intro d
  induction d with
  | zero =>
    intro j hj e g s
    by_cases hs : s ≤ 2000
    · refine ⟨ur_mx (e + g * ur_T c p it tY 3) (ur_T c p it tY 5 * 1000), fun post h => ?_, fun post h => ?_⟩
      · exact pk_le 8 j (fun _ => ⟨ur_tXi hp (i := 3) (by decide) rfl, nm_r (e' := g * ur_T c p it tY 3) (by rw [ur_tXv F hp (i := 3) (by decide) (y := 3) rfl]) (br_t hs (ur_x130 F hp (by grind) h))⟩) (fun h => absurd h (by omega))
      · exact pk_le 8 j (fun _ => ur_yRate (i := 3) hc hp (by decide) rfl (nm_e (br_t hs (ur_y159 hc hp h)))) (fun h => absurd h (by omega))
    · refine ⟨ur_mx (e + g * ur_T c p it tY 3 + (s - 2000) * ur_T c p it tY 4) (ur_T c p it tY 5 * 1000), fun post h => ?_, fun post h => ?_⟩
      · exact pk_le 8 j (fun _ => ⟨ur_tXi hp (i := 3) (by decide) rfl, nm_r (e' := g * ur_T c p it tY 3) (by rw [ur_tXv F hp (i := 3) (by decide) (y := 3) rfl]) (br_f hs (ur_x130 F hp rfl h))⟩) (fun h => absurd h (by omega))
      · exact pk_le 8 j (fun _ => ur_yRate (i := 3) hc hp (by decide) rfl (nm_e (br_f hs (ur_yRate (i := 4) hc hp (by decide) rfl (nm_e (ur_y159 hc hp h)))))) (fun h => absurd h (by omega))
  | succ d ih =>
    intro j hj e g s
    have eP : nI p * 8 + nI j = nI (p * 8 + j) := by rw [show (8 : Int32) = nI 8 from rfl, pk_mul, nI_add]
    obtain ⟨u, uX, uY⟩ := ur_usage (fc := fc) (gc := nI c) (tX := tX) (bX := bX) (la := la) (lp := lp) (lX := lX) (sX := sX) (it := it) (tY := tY) (bY := bY) (lY := lY) (sY := sY) (am := am) (pe := pe) R ha (x := p * 8 + j) (by omega)
    have hi := ur_it_lt j
    have key : ∃ r : Int32,
        (∀ post : Int32 → Prop, post r → (u ≤ g → wX_amountDue_30 post (nI a) (nI p) (nI (ur_row c p)) fc hr rd tX bX la lp lX sX (d + 1) (e + u * ur_T c p it tY (ur_it j)) g (s + u) (nI (j + 1))) ∧
          (¬ u ≤ g → wX_amountDue_30 post (nI a) (nI p) (nI (ur_row c p)) fc hr rd tX bX la lp lX sX (d + 1) (e + u * ur_T c p it tY (ur_it j)) u (s + u) (nI (j + 1)))) ∧
        (∀ post : Int32 → Prop, post r → (u ≤ g → wY_amount_33 post (nI a) (nI p) (nI c) yr it tY bY lY sY am pe (d + 1) (e + u * ur_T c p it tY (ur_it j)) g (s + u) (nI (j + 1))) ∧
          (¬ u ≤ g → wY_amount_33 post (nI a) (nI p) (nI c) yr it tY bY lY sY am pe (d + 1) (e + u * ur_T c p it tY (ur_it j)) u (s + u) (nI (j + 1)))) := by
      by_cases hg : u ≤ g
      · obtain ⟨r, hX, hY⟩ := ih (j + 1) (by omega) (e + u * ur_T c p it tY (ur_it j)) g (s + u)
        exact ⟨r, fun post h => br_t hg (hX post h), fun post h => br_t hg (hY post h)⟩
      · obtain ⟨r, hX, hY⟩ := ih (j + 1) (by omega) (e + u * ur_T c p it tY (ur_it j)) u (s + u)
        exact ⟨r, fun post h => br_f hg (hX post h), fun post h => br_f hg (hY post h)⟩
    obtain ⟨r, hX, hY⟩ := key
    refine ⟨r, fun post h => ?_, fun post h => ?_⟩
    · refine pk_le 8 j (fun h => absurd h (by omega)) (fun _ => uX _ eP _ (ur_xItem (by omega) ⟨ur_tXi hp hi rfl, nm_r (e' := e + u * ur_T c p it tY (ur_it j)) ?_ (nm_e (br_c (fun z => nm_r (nI_1 j) ((hX post h).1 z)) (fun z => nm_r (nI_1 j) ((hX post h).2 z))))⟩))
      rw [ur_tXv F hp hi rfl]
    · refine pk_le 8 j (fun h => absurd h (by omega)) (fun _ => uY _ eP _ ?_)
      unfold ur_it at hi hY
      refine pk_le 3 j (fun h3 => pk_le 5 j (fun h5 => ?_) (fun h5 => ?_)) (fun h3 => ?_)
      · rw [if_neg (by omega), if_neg (by omega)] at hi hY
        exact ur_y75 hc hp hi rfl (hY post h).1 (hY post h).2
      · rw [if_neg (by omega), if_pos (by omega)] at hi hY
        exact ur_y75 hc hp hi rfl (hY post h).1 (hY post h).2
      · rw [if_pos (by omega)] at hi hY
        exact ur_y75 hc hp hi rfl (hY post h).1 (hY post h).2
theorem ur_amount (R : ur_Rd hr rd yr) (F : ur_Tf tX tY it) {c a p : Nat} (hc : c ≤ 6) (ha : a < 2) (hp : p < 6) : ∃ r : Int32,
    (∀ post : Int32 → Prop, post r → wpX_amountDue post (nI c, hr, rd, tX, bX, la, lp, lX, sX) (nI a) (nI p)) ∧
    (∀ post : Int32 → Prop, post r → wpY_amount post (nI c, yr, it, tY, bY, lY, sY, am, pe) (nI a) (nI p)) := by
  obtain ⟨r, hX, hY⟩ := ur_sum (fc := nI c) (bX := bX) (la := la) (lp := lp) (lX := lX) (sX := sX) (bY := bY) (lY := lY) (sY := sY) (am := am) (pe := pe) R F hc ha hp 8 0 rfl 0 0 0
  refine ⟨r, fun post h => ?_, fun post h => ?_⟩
  · have e1 : c ≤ p → (6 : Int32) * 6 = nI (ur_row c p) := fun z => by unfold ur_row; rw [if_pos z]; rfl
    have e2 : p < c → nI p * 6 = nI (ur_row c p) := fun z => by unfold ur_row; rw [if_neg (by omega)]; exact pk_mul p 6
    exact pk_le c p (fun z => nm_r (e1 z) ⟨_, hX post h⟩) (fun z => nm_r (e2 z) ⟨_, hX post h⟩)
  · exact ur_yA1 (u := (nI c, yr, it, tY, bY, lY, sY, am, pe)) ha (br_f (nI_pos (by omega)) (pk_le p 5 (fun _ => ⟨_, hY post h⟩) (fun z => absurd z (by omega))))
end
end
section
/-! ur: a new line: the component's ring, the reference's shift; then the billing anew, in lockstep -/
section
variable {fc gc : Int32} {hr rd tX bX la lp lX sX yr it tY bY lY sY am pe : Nat → Int32}
theorem ur_xAdd {post : SX → Prop} {a : Nat} (ha : a < 2) {p x : Int32}
    (h : post (fc, hr, rd, tX, bX, upd la (a * 8 + (lX a).toBitVec.toNat % 8) x, upd lp (a * 8 + (lX a).toBitVec.toNat % 8) p, upd lX a (lX a + 1), upd sX a (sX a + x))) :
    wpX_addLine post (fc, hr, rd, tX, bX, la, lp, lX, sX) (nI a) p x := by
  have c : (nI a).toNatClampNeg = a := nI_clamp (by omega)
  have e7 : lX a &&& 7 = nI ((lX a).toBitVec.toNat % 8) := pk_and _ 3 (by decide)
  have hm : (lX a).toBitVec.toNat % 8 < 8 := Nat.mod_lt _ (by decide)
  have e : nI a * 8 + (lX (nI a).toNatClampNeg &&& 7) = nI (a * 8 + (lX a).toBitVec.toNat % 8) := by
    rw [c, e7, show (8 : Int32) = nI 8 from rfl, pk_mul, nI_add]
  have iA : vp_in (nI a) 2 := vp_in_nI ha (by decide)
  have i16 : vp_in (nI (a * 8 + (lX a).toBitVec.toNat % 8)) 16 := vp_in_nI (by omega) (by decide)
  have cK : (nI (a * 8 + (lX a).toBitVec.toNat % 8)).toNatClampNeg = a * 8 + (lX a).toBitVec.toNat % 8 := nI_clamp (by omega)
  exact ⟨iA, nm_r e ⟨i16, nm_r (by rw [cK]) ⟨i16, nm_r (by rw [cK]) ⟨iA, iA, nm_r (by rw [c]) ⟨iA, iA, nm_r (by rw [c]) h⟩⟩⟩⟩⟩
theorem ur_yShift {post : SY → Prop} {a : Nat} (ha : a < 2) {p x : Int32}
    (h : post (gc, yr, it, tY, bY, upd lY a (lY a + 1), upd sY a (sY a + x), upd (ur_sh am a 0) (a * 8) x, upd (ur_sh pe a 0) (a * 8) p)) :
    ∀ k, k ≤ 7 → wY_line_9 post (nI a) p x gc (k + 1) (nI (a * 8 + k)) yr it tY bY lY sY (ur_sh am a k) (ur_sh pe a k) := by
  have c : (nI a).toNatClampNeg = a := nI_clamp (by omega)
  have iA : vp_in (nI a) 2 := vp_in_nI ha (by decide)
  have e8 : nI a * 8 = nI (a * 8) := pk_mul a 8
  have i8 : vp_in (nI a * 8) 16 := by rw [e8]; exact vp_in_nI (by omega) (by decide)
  have c8 : (nI a * 8).toNatClampNeg = a * 8 := by rw [e8]; exact nI_clamp (by omega)
  intro k
  induction k with
  | zero =>
    intro hk
    exact pk_le (a * 8 + 0) (a * 8) (fun _ => ⟨i8, nm_r (by rw [c8]) ⟨i8, nm_r (by rw [c8]) ⟨iA, iA, nm_r (by rw [c]) ⟨iA, iA, nm_r (by rw [c]) h⟩⟩⟩⟩) (fun z => absurd z (by omega)) rfl e8
  | succ k ih =>
    intro hk
    have i1 : vp_in (nI (a * 8 + (k + 1))) 16 := vp_in_nI (by omega) (by decide)
    have c1 : (nI (a * 8 + (k + 1))).toNatClampNeg = a * 8 + (k + 1) := nI_clamp (by omega)
    have e0 : nI (a * 8 + (k + 1)) - 1 = nI (a * 8 + k) := nI_pred (a * 8 + k)
    have i0 : vp_in (nI (a * 8 + (k + 1)) - 1) 16 := by rw [e0]; exact vp_in_nI (by omega) (by decide)
    have c0 : (nI (a * 8 + (k + 1)) - 1).toNatClampNeg = a * 8 + k := by rw [e0]; exact nI_clamp (by omega)
    exact pk_le (a * 8 + (k + 1)) (a * 8) (fun z => absurd z (by omega))
      (fun _ => ⟨i0, i1, nm_r (e' := ur_sh am a k) (by rw [c1, c0]; exact ur_shs am a (by omega))
        ⟨i0, i1, nm_r (e' := ur_sh pe a k) (by rw [c1, c0]; exact ur_shs pe a (by omega)) (nm_r (pk_m1 (a * 8 + k)) (ih (by omega)))⟩⟩) rfl e8
theorem ur_yLine {post : SY → Prop} {a : Nat} (ha : a < 2) {p x : Int32}
    (h : post (gc, yr, it, tY, bY, upd lY a (lY a + 1), upd sY a (sY a + x), upd (ur_sh am a 0) (a * 8) x, upd (ur_sh pe a 0) (a * 8) p)) :
    wpY_line post (gc, yr, it, tY, bY, lY, sY, am, pe) (nI a) p x := by
  have e : nI a * 8 + 7 = nI (a * 8 + 7) := by rw [show (8 : Int32) = nI 8 from rfl, show (7 : Int32) = nI 7 from rfl, pk_mul, nI_add]
  have k := ur_yShift ha h 7 (Nat.le_refl 7)
  rw [ur_sh7, ur_sh7] at k
  exact nm_r e ⟨_, k⟩
/-- what the two sides hold of each other, beside what is the same function in both -/
def ur_P (hr rd tX la lp ln yr it tY am pe : Nat → Int32) : Prop := ur_Rd hr rd yr ∧ ur_Tf tX tY it ∧ ur_Ring ln la am ∧ ur_Ring ln lp pe
def ur_R (c : Nat) (u : SX) (v : SY) : Prop := ∃ hr rd tX b la lp ln sm yr it tY am pe : Nat → Int32,
  u = (nI c, hr, rd, tX, b, la, lp, ln, sm) ∧ v = (nI c, yr, it, tY, b, ln, sm, am, pe) ∧ ur_P hr rd tX la lp ln yr it tY am pe
theorem ur_add {ln sm : Nat → Int32} (Q : ur_P hr rd tX la lp ln yr it tY am pe) {a : Nat} (ha : a < 2) (p x : Int32) : ∃ la' lp' ln' sm' am' pe' : Nat → Int32,
    ur_P hr rd tX la' lp' ln' yr it tY am' pe' ∧
    (∀ (post : SX → Prop) (fc : Int32) (b : Nat → Int32), post (fc, hr, rd, tX, b, la', lp', ln', sm') → wpX_addLine post (fc, hr, rd, tX, b, la, lp, ln, sm) (nI a) p x) ∧
    (∀ (post : SY → Prop) (gc : Int32) (b : Nat → Int32), post (gc, yr, it, tY, b, ln', sm', am', pe') → wpY_line post (gc, yr, it, tY, b, ln, sm, am, pe) (nI a) p x) :=
  ⟨_, _, _, _, _, _, ⟨Q.1, Q.2.1, ur_ring_add x ha Q.2.2.1, ur_ring_add p ha Q.2.2.2⟩, fun _ _ _ h => ur_xAdd ha h, fun _ _ _ h => ur_yLine ha h⟩
theorem ur_bill {c a : Nat} (hc : c ≤ 6) (ha : a < 2) : ∀ d p, p + d = c → ∀ (n : Int32) (hr rd tX b la lp ln sm yr it tY am pe : Nat → Int32), ur_P hr rd tX la lp ln yr it tY am pe →
    ∃ (r : Int32) (u' : SX) (v' : SY), ur_R c u' v' ∧
    (∀ post : Int32 → SX → Prop, post r u' → wX_billAnew_4 post (nI a) (d + 1) n (nI p) (nI c) hr rd tX b la lp ln sm) ∧
    (∀ post : Int32 → SY → Prop, post r v' → wY_rebill_4 post (nI a) (d + 1) n (nI p) (nI c) yr it tY b ln sm am pe) := by
  intro d
  induction d with
  | zero =>
    intro p hp n hr rd tX b la lp ln sm yr it tY am pe Q
    exact ⟨n, _, _, ⟨hr, rd, tX, b, la, lp, ln, sm, yr, it, tY, am, pe, rfl, rfl, Q⟩, fun post h => pk_le c p (fun _ => h) (fun z => absurd z (by omega)), fun post h => pk_le c p (fun _ => h) (fun z => absurd z (by omega))⟩
  | succ d ih =>
    intro p hp n hr rd tX b la lp ln sm yr it tY am pe Q
    have e6 : nI a * 6 + nI p = nI (a * 6 + p) := by rw [show (6 : Int32) = nI 6 from rfl, pk_mul, nI_add]
    have i6 : vp_in (nI (a * 6 + p)) 12 := vp_in_nI (by omega) (by decide)
    have c6 : (nI (a * 6 + p)).toNatClampNeg = a * 6 + p := nI_clamp (by omega)
    have j6 : vp_in (nI a * 6 + nI p) 12 := by rw [e6]; exact i6
    have d6 : (nI a * 6 + nI p).toNatClampNeg = a * 6 + p := by rw [e6]; exact c6
    obtain ⟨q, aX, aY⟩ := ur_amount (bX := b) (la := la) (lp := lp) (lX := ln) (sX := sm) (bY := b) (lY := ln) (sY := sm) (am := am) (pe := pe) Q.1 Q.2.1 hc ha (p := p) (by omega)
    by_cases hq : q = b (a * 6 + p)
    · obtain ⟨r, u', v', K, hX, hY⟩ := ih (p + 1) (by omega) n hr rd tX b la lp ln sm yr it tY am pe Q
      refine ⟨r, u', v', K, fun post h => ?_, fun post h => ?_⟩
      · exact pk_le c p (fun z => absurd z (by omega)) (fun _ => nm_r e6 ⟨i6, nm_r (e' := b (a * 6 + p)) (by rw [c6]) (aX _ (br_t hq (nm_r (nI_1 p) (hX post h))))⟩)
      · exact pk_le c p (fun z => absurd z (by omega)) (fun _ => ⟨j6, nm_r (e' := b (a * 6 + p)) (by rw [d6]) (aY _ (br_t hq (nm_r (nI_1 p) (hY post h))))⟩)
    · obtain ⟨la1, lp1, ln1, sm1, am1, pe1, Q1, X1, Y1⟩ := ur_add (sm := sm) Q ha (nI p) (-(b (a * 6 + p)))
      obtain ⟨la2, lp2, ln2, sm2, am2, pe2, Q2, X2, Y2⟩ := ur_add (sm := sm1) Q1 ha (nI p) q
      obtain ⟨r, u', v', K, hX, hY⟩ := ih (p + 1) (by omega) (n + 1) hr rd tX (upd b (a * 6 + p) q) la2 lp2 ln2 sm2 yr it tY am2 pe2 Q2
      refine ⟨r, u', v', K, fun post h => ?_, fun post h => ?_⟩
      · exact pk_le c p (fun z => absurd z (by omega)) (fun _ => nm_r e6 ⟨i6, nm_r (e' := b (a * 6 + p)) (by rw [c6]) (aX _ (br_f hq (X1 _ _ _ (X2 _ _ _ ⟨i6, nm_r (e' := upd b (a * 6 + p) q) (by rw [c6]) (nm_e (nm_r (nI_1 p) (hX post h)))⟩))))⟩)
      · exact pk_le c p (fun z => absurd z (by omega)) (fun _ => ⟨j6, nm_r (e' := b (a * 6 + p)) (by rw [d6]) (aY _ (br_f hq (Y1 _ _ _ (Y2 _ _ _ ⟨j6, nm_r (e' := upd b (a * 6 + p) q) (by rw [d6]) (nm_e (nm_r (nI_1 p) (hY post h)))⟩))))⟩)
theorem ur_billA {c a : Nat} (hc : c ≤ 6) (ha : a < 2) {b ln sm : Nat → Int32} (Q : ur_P hr rd tX la lp ln yr it tY am pe) :
    ∃ (r : Int32) (u' : SX) (v' : SY), ur_R c u' v' ∧
    (∀ post : Int32 → SX → Prop, post r u' → wpX_billAnew post (nI c, hr, rd, tX, b, la, lp, ln, sm) (nI a)) ∧
    (∀ post : Int32 → SY → Prop, post r v' → wpY_rebill post (nI c, yr, it, tY, b, ln, sm, am, pe) (nI a)) := by
  obtain ⟨r, u', v', K, hX, hY⟩ := ur_bill hc ha c 0 (by omega) 0 hr rd tX b la lp ln sm yr it tY am pe Q
  exact ⟨r, u', v', K, fun post h => ⟨_, hX post h⟩, fun post h => ⟨_, hY post h⟩⟩
end
end
section
/-! ur: the close: the copied row, then the two accounts in lockstep; the reference's start -/
section
variable {fc gc : Int32} {hr rd tX bX la lp lX sX yr it tY bY lY sY am pe : Nat → Int32}
theorem ur_xFix {post : SX → Prop} {p : Nat} (hp : p < 6) (h : post (fc, hr, rd, ur_cp tX (fun i => tX (36 + i)) p 6, bX, la, lp, lX, sX)) :
    ∀ d k, k + d = 6 → wX_fixTariff_2 post (nI p) fc (d + 1) (nI k) hr rd (ur_cp tX (fun i => tX (36 + i)) p k) bX la lp lX sX := by
  intro d
  induction d with
  | zero =>
    intro k hk
    have e : k = 6 := by omega
    subst e
    exact pk_le 6 6 (fun _ => h) (fun z => absurd z (by omega))
  | succ d ih =>
    intro k hk
    have e1 : 36 + nI k = nI (36 + k) := by rw [show (36 : Int32) = nI 36 from rfl, nI_add]
    have e2 : nI p * 6 + nI k = nI (p * 6 + k) := by rw [show (6 : Int32) = nI 6 from rfl, pk_mul, nI_add]
    have i1 : vp_in (36 + nI k) 42 := by rw [e1]; exact vp_in_nI (by omega) (by decide)
    have i2 : vp_in (nI p * 6 + nI k) 42 := by rw [e2]; exact vp_in_nI (by omega) (by decide)
    have c1 : (36 + nI k).toNatClampNeg = 36 + k := by rw [e1]; exact nI_clamp (by omega)
    have c2 : (nI p * 6 + nI k).toNatClampNeg = p * 6 + k := by rw [e2]; exact nI_clamp (by omega)
    exact pk_le 6 k (fun z => absurd z (by omega)) (fun _ => ⟨i1, i2, nm_r (e' := ur_cp tX (fun i => tX (36 + i)) p (k + 1))
      (by rw [c1, c2, ur_cp_out tX _ (by omega)]; exact ur_cps tX (fun i => tX (36 + i)) p k) (nm_r (nI_1 k) (ih (k + 1) (by omega)))⟩)
theorem ur_xFixA {post : SX → Prop} {p : Nat} (hp : p < 6) (h : post (fc, hr, rd, ur_cp tX (fun i => tX (36 + i)) p 6, bX, la, lp, lX, sX)) :
    wpX_fixTariff post (fc, hr, rd, tX, bX, la, lp, lX, sX) (nI p) := by
  have k := ur_xFix hp h 6 0 rfl
  rw [ur_cp0] at k
  exact ⟨_, k⟩
theorem ur_yFix {post : Int32 → SY → Prop} {p : Nat} (hp : p < 6) (h : ∃ n, wY_close_57 post (nI p) n 0 (nI (p + 1)) yr it (ur_cp tY it p 6) bY lY sY am pe) :
    ∀ d k, k + d = 6 → wY_close_19 post (nI p) gc (d + 1) (nI k) yr it (ur_cp tY it p k) bY lY sY am pe := by
  intro d
  induction d with
  | zero =>
    intro k hk
    have e : k = 6 := by omega
    subst e
    exact pk_le 6 6 (fun _ => nm_r (nI_1 p) h) (fun z => absurd z (by omega))
  | succ d ih =>
    intro k hk
    have e2 : nI p * 6 + nI k = nI (p * 6 + k) := by rw [show (6 : Int32) = nI 6 from rfl, pk_mul, nI_add]
    have i1 : vp_in (nI k) 6 := vp_in_nI (by omega) (by decide)
    have i2 : vp_in (nI p * 6 + nI k) 36 := by rw [e2]; exact vp_in_nI (by omega) (by decide)
    have c1 : (nI k).toNatClampNeg = k := nI_clamp (by omega)
    have c2 : (nI p * 6 + nI k).toNatClampNeg = p * 6 + k := by rw [e2]; exact nI_clamp (by omega)
    exact pk_le 6 k (fun z => absurd z (by omega)) (fun _ => ⟨i1, i2, nm_r (e' := ur_cp tY it p (k + 1))
      (by rw [c1, c2]; exact ur_cps tY it p k) (nm_r (nI_1 k) (ih (k + 1) (by omega)))⟩)
theorem ur_two {p : Nat} (hp : p < 6) : ∀ d a, a + d = 2 → ∀ (hr rd tX b la lp ln sm yr it tY am pe : Nat → Int32), ur_P hr rd tX la lp ln yr it tY am pe →
    ∃ (u' : SX) (v' : SY), ur_R (p + 1) u' v' ∧
    (∀ post : Int32 → SX → Prop, post (nI p) u' → wX_close_31 post (nI p) (d + 1) (nI a) (nI (p + 1)) hr rd tX b la lp ln sm) ∧
    (∀ post : Int32 → SY → Prop, post (nI p) v' → wY_close_57 post (nI p) (d + 1) (nI a) (nI (p + 1)) yr it tY b ln sm am pe) := by
  intro d
  induction d with
  | zero =>
    intro a ha hr rd tX b la lp ln sm yr it tY am pe Q
    exact ⟨_, _, ⟨hr, rd, tX, b, la, lp, ln, sm, yr, it, tY, am, pe, rfl, rfl, Q⟩, fun post h => pk_le 2 a (fun _ => h) (fun z => absurd z (by omega)), fun post h => pk_le 2 a (fun _ => h) (fun z => absurd z (by omega))⟩
  | succ d ih =>
    intro a ha hr rd tX b la lp ln sm yr it tY am pe Q
    have e6 : nI a * 6 + nI p = nI (a * 6 + p) := by rw [show (6 : Int32) = nI 6 from rfl, pk_mul, nI_add]
    have j6 : vp_in (nI a * 6 + nI p) 12 := by rw [e6]; exact vp_in_nI (by omega) (by decide)
    have d6 : (nI a * 6 + nI p).toNatClampNeg = a * 6 + p := by rw [e6]; exact nI_clamp (by omega)
    obtain ⟨q, aX, aY⟩ := ur_amount (c := p + 1) (a := a) (bX := b) (la := la) (lp := lp) (lX := ln) (sX := sm) (bY := b) (lY := ln) (sY := sm) (am := am) (pe := pe) Q.1 Q.2.1 (by omega) (by omega) (p := p) hp
    obtain ⟨la1, lp1, ln1, sm1, am1, pe1, Q1, X1, Y1⟩ := ur_add (sm := sm) Q (a := a) (by omega) (nI p) q
    obtain ⟨u', v', K, hX, hY⟩ := ih (a + 1) (by omega) hr rd tX (upd b (a * 6 + p) q) la1 lp1 ln1 sm1 yr it tY am1 pe1 Q1
    refine ⟨u', v', K, fun post h => ?_, fun post h => ?_⟩
    · exact pk_le 2 a (fun z => absurd z (by omega)) (fun _ => aX _ ⟨j6, nm_r (e' := upd b (a * 6 + p) q) (by rw [d6]) (X1 _ _ _ (nm_r (nI_1 a) (hX post h)))⟩)
    · exact pk_le 2 a (fun z => absurd z (by omega)) (fun _ => aY _ ⟨j6, nm_r (e' := upd b (a * 6 + p) q) (by rw [d6]) (Y1 _ _ _ (nm_r (nI_1 a) (hY post h)))⟩)
theorem ur_close {p : Nat} (hp : p < 6) {b ln sm : Nat → Int32} (Q : ur_P hr rd tX la lp ln yr it tY am pe) :
    ∃ (u' : SX) (v' : SY), ur_R (p + 1) u' v' ∧
    (∀ post : Int32 → SX → Prop, post (nI p) u' → wpX_close post (nI p, hr, rd, tX, b, la, lp, ln, sm)) ∧
    (∀ post : Int32 → SY → Prop, post (nI p) v' → wpY_close post (nI p, yr, it, tY, b, ln, sm, am, pe)) := by
  obtain ⟨u', v', K, hX, hY⟩ := ur_two hp 2 0 rfl hr rd (ur_cp tX (fun i => tX (36 + i)) p 6) b la lp ln sm yr it (ur_cp tY it p 6) am pe ⟨Q.1, ur_cp_tf hp Q.2.1, Q.2.2.1, Q.2.2.2⟩
  refine ⟨u', v', K, fun post h => ?_, fun post h => ?_⟩
  · exact pk_lt p 6 (fun _ => ur_xFixA hp (nm_r (nI_1 p) ⟨_, hX post h⟩)) (fun z => absurd z (by omega))
  · have k := ur_yFix (gc := nI p) hp ⟨_, hY post h⟩ 6 0 rfl
    rw [ur_cp0] at k
    exact pk_lt p 6 (fun _ => ⟨_, k⟩) (fun z => absurd z (by omega))
theorem ur_yInit {post : SY → Prop} (h : ∀ yr' : Nat → Int32, (∀ j, j < 96 → yr' j = -1) → post (gc, yr', it, tY, bY, lY, sY, am, pe)) :
    ∀ d k, k + d = 96 → ∀ yr : Nat → Int32, (∀ j, j < k → yr j = -1) → wY_init_68 post gc (d + 1) (nI k) yr it tY bY lY sY am pe := by
  intro d
  induction d with
  | zero =>
    intro k hk yr hy
    exact pk_le 96 k (fun _ => h yr (fun j hj => hy j (by omega))) (fun z => absurd z (by omega))
  | succ d ih =>
    intro k hk yr hy
    have c1 : (nI k).toNatClampNeg = k := nI_clamp (by omega)
    exact pk_le 96 k (fun z => absurd z (by omega)) (fun _ => ⟨vp_in_nI (by omega) (by decide), nm_r (e' := upd yr k (-1)) (by rw [c1]) (nm_r (nI_1 k) (ih (k + 1) (by omega) (upd yr k (-1)) (fun j hj => by
      by_cases e : j = k
      · subst e
        exact pk_us
      · rw [pk_un e]
        exact hy j (by omega))))⟩)
end
end
section
/-! ur: what is owed -/
/-- c periods are closed on both sides; billed, counts and sums are the same functions; reads, tariffs and lines as ur_P says -/
def i_Rel (k : Nat) (u : SX) (v : SY) : Prop := ∃ c : Nat, c ≤ 6 ∧ ur_R c u v
theorem i_up {k : Nat} {u : SX} {v : SY} (h : i_Rel k u v) : i_Rel (k + 4) u v := h
theorem ur_nb1 : ¬ vp_nar .boolean 1 = 0 := by decide
theorem ur_nb0 : vp_nar .boolean 0 = 0 := by decide
theorem ur_m1 : (-1 : Int32) < 0 := by decide
theorem i_vc0 : wpX_init (fun u => wpY_init (fun v => i_Rel 0 u v)) :=
  ⟨_, ur_yInit (fun yr hy => ⟨0, by decide, _, _, _, _, _, _, _, _, _, _, _, _, _, rfl, rfl, fun j hj => Or.inl ⟨rfl, by rw [hy j hj]; exact ur_m1⟩, ⟨fun _ _ => rfl, fun _ _ => rfl⟩, fun _ _ _ _ => rfl, fun _ _ _ _ => rfl⟩) 96 0 rfl (fun _ => 0) (fun j hj => absurd hj (by omega))⟩
theorem i_vc_tariff {k : Nat} {u : SX} {v : SY} (I : i_Rel k u v) (hk : k + 4 ≤ 2048) (v1 : Int32) (v2 : Int32) : wpX_tariff (fun r u' => wpY_tariff (fun r' v' => r' = r ∧ i_Rel (k + 4) u' v') v v1 v2) u v1 v2 := by
  have I0 := I
  obtain ⟨c, hc, hr, rd, tX, b, la, lp, ln, sm, yr, it, tY, am, pe, rfl, rfl, Q⟩ := I
  rcases ur_cut v1 6 with (h | ⟨j, h6, hj, rfl⟩) | ⟨j, hj, rfl⟩
  · exact br_t h (br_t h ⟨rfl, I0⟩)
  · exact br_f (nI_pos hj) (pk_lt j 6 (fun z => absurd z (by omega)) (fun _ => br_f (nI_pos hj) (pk_le j 5 (fun z => absurd z (by omega)) (fun _ => ⟨rfl, I0⟩))))
  · have n0 : ¬ nI j < 0 := nI_pos (by omega)
    by_cases h0 : v2 < 0
    · exact br_f n0 (pk_lt j 6 (fun _ => br_t h0 (br_f n0 (pk_le j 5 (fun _ => br_t h0 ⟨rfl, I0⟩) (fun z => absurd z (by omega))))) (fun z => absurd z (by omega)))
    · by_cases h9 : v2 ≤ 99
      · have e : 36 + nI j = nI (36 + j) := by rw [show (36 : Int32) = nI 36 from rfl, nI_add]
        have i1 : vp_in (nI (36 + j)) 42 := vp_in_nI (by omega) (by decide)
        have c1 : (nI (36 + j)).toNatClampNeg = 36 + j := nI_clamp (by omega)
        have i2 : vp_in (nI j) 6 := vp_in_nI hj (by decide)
        have c2 : (nI j).toNatClampNeg = j := nI_clamp (by omega)
        exact br_f n0 (pk_lt j 6 (fun _ => br_f h0 (br_t h9 (nm_r e ⟨i1, nm_r (e' := it j) (by rw [c1]; exact Q.2.1.2 j hj) ⟨i1, nm_r (e' := upd tX (36 + j) v2) (by rw [c1])
          (br_f n0 (pk_le j 5 (fun _ => br_f h0 (br_t h9 ⟨i2, nm_r (e' := it j) (by rw [c2]) ⟨i2, nm_r (e' := upd it j v2) (by rw [c2]) ⟨rfl, c, hc, _, _, _, _, _, _, _, _, _, _, _, _, _, rfl, rfl, Q.1, ur_tf_set hj Q.2.1, Q.2.2.1, Q.2.2.2⟩⟩⟩)) (fun z => absurd z (by omega))))⟩⟩))) (fun z => absurd z (by omega)))
      · exact br_f n0 (pk_lt j 6 (fun _ => br_f h0 (br_f h9 (br_f n0 (pk_le j 5 (fun _ => br_f h0 (br_f h9 ⟨rfl, I0⟩)) (fun z => absurd z (by omega)))))) (fun z => absurd z (by omega)))
theorem i_vc_read {k : Nat} {u : SX} {v : SY} (I : i_Rel k u v) (hk : k + 4 ≤ 2048) (v1 : Int32) (v2 : Int32) (v3 : Int32) : wpX_read (fun r u' => wpY_read (fun r' v' => r' = r ∧ i_Rel (k + 4) u' v') v v1 v2 v3) u v1 v2 v3 := by
  have I0 := I
  obtain ⟨c, hc, hr, rd, tX, b, la, lp, ln, sm, yr, it, tY, am, pe, rfl, rfl, Q⟩ := I
  unfold wpX_read wpY_read
  dsimp only
  rcases ur_cut v1 2 with h | ⟨a, ha, rfl⟩
  · exact ur_xA0 h (ur_yA0 h ⟨rfl, I0⟩)
  · refine ur_xA1 ha ?_
    rcases ur_cut v2 48 with h | ⟨i, hi, rfl⟩
    · exact ur_xI0 h (ur_yA1 ha (ur_yI0 h ⟨rfl, I0⟩))
    · refine ur_xI1 hi ?_
      by_cases h0 : v3 < 0
      · exact br_t h0 (ur_yA1 ha (ur_yI1 hi (br_t h0 ⟨rfl, I0⟩)))
      · by_cases h9 : v3 ≤ 999
        · have e : nI a * 48 + nI i = nI (a * 48 + i) := by rw [show (48 : Int32) = nI 48 from rfl, pk_mul, nI_add]
          have i1 : vp_in (nI (a * 48 + i)) 96 := vp_in_nI (by omega) (by decide)
          have c1 : (nI (a * 48 + i)).toNatClampNeg = a * 48 + i := nI_clamp (by omega)
          have i2 : vp_in (nI a * 48 + nI i) 96 := by rw [e]; exact i1
          have c2 : (nI a * 48 + nI i).toNatClampNeg = a * 48 + i := by rw [e]; exact c1
          obtain ⟨r, u', v', K, hX, hY⟩ := ur_billA (hr := upd hr (a * 48 + i) (vp_nar .boolean 1)) (rd := upd rd (a * 48 + i) v3) (tX := tX) (la := la) (lp := lp) (yr := upd yr (a * 48 + i) v3) (it := it) (tY := tY) (am := am) (pe := pe) hc ha (b := b) (ln := ln) (sm := sm) ⟨ur_rd_set Q.1 ur_nb1 h0, Q.2⟩
          exact br_f h0 (br_t h9 (nm_r e ⟨i1, nm_r (e' := upd hr (a * 48 + i) (vp_nar .boolean 1)) (by rw [c1]) ⟨i1, nm_r (e' := upd rd (a * 48 + i) v3) (by rw [c1])
            (hX _ (ur_yA1 ha (ur_yI1 hi (br_f h0 (br_t h9 ⟨i2, nm_r (e' := upd yr (a * 48 + i) v3) (by rw [c2]) (hY _ ⟨rfl, c, hc, K⟩)⟩)))))⟩⟩))
        · exact br_f h0 (br_f h9 (ur_yA1 ha (ur_yI1 hi (br_f h0 (br_f h9 ⟨rfl, I0⟩)))))
theorem i_vc_unread {k : Nat} {u : SX} {v : SY} (I : i_Rel k u v) (hk : k + 4 ≤ 2048) (v1 : Int32) (v2 : Int32) : wpX_unread (fun r u' => wpY_unread (fun r' v' => r' = r ∧ i_Rel (k + 4) u' v') v v1 v2) u v1 v2 := by
  have I0 := I
  obtain ⟨c, hc, hr, rd, tX, b, la, lp, ln, sm, yr, it, tY, am, pe, rfl, rfl, Q⟩ := I
  unfold wpX_unread wpY_unread
  dsimp only
  rcases ur_cut v1 2 with h | ⟨a, ha, rfl⟩
  · exact ur_xA0 h (ur_yA0 h ⟨rfl, I0⟩)
  · refine ur_xA1 ha ?_
    rcases ur_cut v2 48 with h | ⟨i, hi, rfl⟩
    · exact ur_xI0 h (ur_yA1 ha (ur_yI0 h ⟨rfl, I0⟩))
    · refine ur_xI1 hi ?_
      have e : nI a * 48 + nI i = nI (a * 48 + i) := by rw [show (48 : Int32) = nI 48 from rfl, pk_mul, nI_add]
      have i1 : vp_in (nI (a * 48 + i)) 96 := vp_in_nI (by omega) (by decide)
      have c1 : (nI (a * 48 + i)).toNatClampNeg = a * 48 + i := nI_clamp (by omega)
      have i2 : vp_in (nI a * 48 + nI i) 96 := by rw [e]; exact i1
      have c2 : (nI a * 48 + nI i).toNatClampNeg = a * 48 + i := by rw [e]; exact c1
      rcases Q.1 (a * 48 + i) (by omega) with ⟨h0, y0⟩ | ⟨h1, e1, y1⟩
      · have y0' : ¬ 0 ≤ yr (a * 48 + i) := fun z => Int32.not_lt.mpr z y0
        exact nm_r e ⟨i1, br_t (by rw [c1]; exact h0) (ur_yA1 ha (ur_yI1 hi ⟨i2, br_f (by rw [c2]; exact y0') ⟨rfl, I0⟩⟩))⟩
      · have y1' : 0 ≤ yr (a * 48 + i) := Int32.not_lt.mp y1
        obtain ⟨r, u', v', K, hX, hY⟩ := ur_billA (hr := upd hr (a * 48 + i) 0) (rd := rd) (tX := tX) (la := la) (lp := lp) (yr := upd yr (a * 48 + i) (-1)) (it := it) (tY := tY) (am := am) (pe := pe) hc ha (b := b) (ln := ln) (sm := sm) ⟨ur_rd_del Q.1 ur_m1, Q.2⟩
        exact nm_r e ⟨i1, br_f (by rw [c1]; exact h1) ⟨i1, nm_r (e' := upd hr (a * 48 + i) 0) (by rw [c1, ur_nb0])
          (hX _ (ur_yA1 ha (ur_yI1 hi ⟨i2, br_t (by rw [c2]; exact y1') ⟨i2, nm_r (e' := upd yr (a * 48 + i) (-1)) (by rw [c2]) (hY _ ⟨rfl, c, hc, K⟩)⟩⟩)))⟩⟩
theorem i_vc_close {k : Nat} {u : SX} {v : SY} (I : i_Rel k u v) (hk : k + 4 ≤ 2048) : wpX_close (fun r u' => wpY_close (fun r' v' => r' = r ∧ i_Rel (k + 4) u' v') v) u := by
  have I0 := I
  obtain ⟨c, hc, hr, rd, tX, b, la, lp, ln, sm, yr, it, tY, am, pe, rfl, rfl, Q⟩ := I
  by_cases h : c < 6
  · obtain ⟨u', v', K, hX, hY⟩ := ur_close h (b := b) (sm := sm) Q
    exact hX _ (hY _ ⟨rfl, c + 1, by omega, K⟩)
  · exact pk_lt c 6 (fun z => absurd z h) (fun _ => pk_lt c 6 (fun z => absurd z h) (fun _ => ⟨rfl, I0⟩))
theorem i_vc_usage {k : Nat} {u : SX} {v : SY} (I : i_Rel k u v) (hk : k + 4 ≤ 2048) (v1 : Int32) (v2 : Int32) : wpX_usage (fun r => wpY_usage (fun r' => r' = r ∧ i_Rel (k + 4) u v) v v1 v2) u v1 v2 := by
  have I0 := I
  obtain ⟨c, hc, hr, rd, tX, b, la, lp, ln, sm, yr, it, tY, am, pe, rfl, rfl, Q⟩ := I
  unfold wpX_usage
  dsimp only
  rcases ur_cut v1 2 with h | ⟨a, ha, rfl⟩
  · exact ur_xA0 h (ur_yA0 (u := (nI c, yr, it, tY, b, ln, sm, am, pe)) h ⟨rfl, I0⟩)
  · refine ur_xA1 ha ?_
    rcases ur_cut v2 48 with h | ⟨i, hi, rfl⟩
    · exact ur_xI0 h (ur_yA1 (u := (nI c, yr, it, tY, b, ln, sm, am, pe)) ha (ur_yI0 (u := (nI c, yr, it, tY, b, ln, sm, am, pe)) h ⟨rfl, I0⟩))
    · obtain ⟨r, hX, hY⟩ := ur_usage (fc := nI c) (gc := nI c) (tX := tX) (bX := b) (la := la) (lp := lp) (lX := ln) (sX := sm) (it := it) (tY := tY) (bY := b) (lY := ln) (sY := sm) (am := am) (pe := pe) Q.1 ha hi
      exact ur_xI1 hi (hX _ rfl _ (hY _ rfl _ ⟨rfl, I0⟩))
theorem i_vc_amount {k : Nat} {u : SX} {v : SY} (I : i_Rel k u v) (hk : k + 4 ≤ 2048) (v1 : Int32) (v2 : Int32) : wpX_amount (fun r => wpY_amount (fun r' => r' = r ∧ i_Rel (k + 4) u v) v v1 v2) u v1 v2 := by
  have I0 := I
  obtain ⟨c, hc, hr, rd, tX, b, la, lp, ln, sm, yr, it, tY, am, pe, rfl, rfl, Q⟩ := I
  unfold wpX_amount
  dsimp only
  rcases ur_cut v1 2 with h | ⟨a, ha, rfl⟩
  · exact ur_xA0 h (ur_yA0 (u := (nI c, yr, it, tY, b, ln, sm, am, pe)) h ⟨rfl, I0⟩)
  · refine ur_xA1 ha ?_
    rcases ur_cut v2 6 with (h | ⟨j, h6, hj, rfl⟩) | ⟨p, hp, rfl⟩
    · exact br_t h (ur_yA1 (u := (nI c, yr, it, tY, b, ln, sm, am, pe)) ha (br_t h ⟨rfl, I0⟩))
    · exact br_f (nI_pos hj) (pk_lt j 6 (fun z => absurd z (by omega)) (fun _ => ur_yA1 (u := (nI c, yr, it, tY, b, ln, sm, am, pe)) ha (br_f (nI_pos hj) (pk_le j 5 (fun z => absurd z (by omega)) (fun _ => ⟨rfl, I0⟩)))))
    · obtain ⟨r, hX, hY⟩ := ur_amount (bX := b) (la := la) (lp := lp) (lX := ln) (sX := sm) (bY := b) (lY := ln) (sY := sm) (am := am) (pe := pe) Q.1 Q.2.1 hc ha hp
      exact br_f (nI_pos (by omega)) (pk_lt p 6 (fun _ => hX _ (hY _ ⟨rfl, I0⟩)) (fun z => absurd z (by omega)))
theorem i_vc_balance {k : Nat} {u : SX} {v : SY} (I : i_Rel k u v) (hk : k + 4 ≤ 2048) (v1 : Int32) : wpX_balance (fun r => wpY_balance (fun r' => r' = r ∧ i_Rel (k + 4) u v) v v1) u v1 := by
  have I0 := I
  obtain ⟨c, hc, hr, rd, tX, b, la, lp, ln, sm, yr, it, tY, am, pe, rfl, rfl, Q⟩ := I
  unfold wpX_balance wpY_balance
  dsimp only
  rcases ur_cut v1 2 with h | ⟨a, ha, rfl⟩
  · exact ur_xA0 h (ur_yA0 h ⟨rfl, I0⟩)
  · have iA : vp_in (nI a) 2 := vp_in_nI ha (by decide)
    exact ur_xA1 ha ⟨iA, ur_yA1 ha ⟨iA, rfl, I0⟩⟩
theorem i_vc_lines {k : Nat} {u : SX} {v : SY} (I : i_Rel k u v) (hk : k + 4 ≤ 2048) (v1 : Int32) : wpX_lines (fun r => wpY_lines (fun r' => r' = r ∧ i_Rel (k + 4) u v) v v1) u v1 := by
  have I0 := I
  obtain ⟨c, hc, hr, rd, tX, b, la, lp, ln, sm, yr, it, tY, am, pe, rfl, rfl, Q⟩ := I
  unfold wpX_lines wpY_lines
  dsimp only
  rcases ur_cut v1 2 with h | ⟨a, ha, rfl⟩
  · exact ur_xA0 h (ur_yA0 h ⟨rfl, I0⟩)
  · have iA : vp_in (nI a) 2 := vp_in_nI ha (by decide)
    exact ur_xA1 ha ⟨iA, ur_yA1 ha ⟨iA, rfl, I0⟩⟩
/-- the two sides find the same line, or none -/
theorem ur_cell {c : Nat} {hr rd tX b la lp ln sm yr it tY am pe : Nat → Int32} (v1 v2 : Int32) :
    ((∀ post : Int32 → Prop, post (-1) → wpX_lineCell post (nI c, hr, rd, tX, b, la, lp, ln, sm) v1 v2) ∧ (∀ post : Int32 → Prop, post 1 → wpY_noLine post (nI c, yr, it, tY, b, ln, sm, am, pe) v1 v2)) ∨
    ∃ a i : Nat, a < 2 ∧ i < 8 ∧ nI a * 8 + v2 = nI (a * 8 + i) ∧ nI a * 8 + v2 = v1 * 8 + v2 ∧
      (∀ post : Int32 → Prop, post (nI (a * 8 + ur_ix (ln a) i)) → wpX_lineCell post (nI c, hr, rd, tX, b, la, lp, ln, sm) v1 v2) ∧ (∀ post : Int32 → Prop, post 0 → wpY_noLine post (nI c, yr, it, tY, b, ln, sm, am, pe) v1 v2) := by
  rcases ur_cut v1 2 with h | ⟨a, ha, rfl⟩
  · refine Or.inl ⟨fun post hp => ?_, fun post hp => ?_⟩
    · exact ur_xA0 h hp
    · exact ur_yA0 (u := (nI c, yr, it, tY, b, ln, sm, am, pe)) h hp
  · have iA : vp_in (nI a) 2 := vp_in_nI ha (by decide)
    have cA : (nI a).toNatClampNeg = a := nI_clamp (by omega)
    rcases ur_cut v2 8 with (h | ⟨j, h8, hj, rfl⟩) | ⟨i, hi, rfl⟩
    · refine Or.inl ⟨fun post hp => ?_, fun post hp => ?_⟩
      · exact ur_xA1 ha (br_t h hp)
      · exact ur_yA1 (u := (nI c, yr, it, tY, b, ln, sm, am, pe)) ha (br_t h hp)
    · refine Or.inl ⟨fun post hp => ?_, fun post hp => ?_⟩
      · exact ur_xA1 ha (br_f (nI_pos hj) (pk_le 8 j (fun _ => hp) (fun z => absurd z (by omega))))
      · exact ur_yA1 (u := (nI c, yr, it, tY, b, ln, sm, am, pe)) ha (br_f (nI_pos hj) (pk_lt 7 j (fun _ => hp) (fun z => absurd z (by omega))))
    · have n0 : ¬ nI i < 0 := nI_pos (by omega)
      by_cases hl : nI i < ln a
      · have e : nI a * 8 + ((ln a - 1 - nI i) &&& 7) = nI (a * 8 + ur_ix (ln a) i) := by
          rw [show (ln a - 1 - nI i) &&& 7 = nI (ur_ix (ln a) i) from pk_and _ 3 (by decide), show (8 : Int32) = nI 8 from rfl, pk_mul, nI_add]
        refine Or.inr ⟨a, i, ha, hi, ?_, rfl, fun post hp => ?_, fun post hp => ?_⟩
        · rw [show (8 : Int32) = nI 8 from rfl, pk_mul, nI_add]
        · exact ur_xA1 ha (br_f n0 (pk_le 8 i (fun z => absurd z (by omega)) (fun _ => ⟨iA, br_t (by rw [cA]; exact hl) ⟨iA, nm_r (e' := ln a - 1 - nI i) (by rw [cA]) (by rw [e]; exact hp)⟩⟩)))
        · exact ur_yA1 (u := (nI c, yr, it, tY, b, ln, sm, am, pe)) ha (br_f n0 (pk_lt 7 i (fun z => absurd z (by omega)) (fun _ => ⟨iA, br_t (by rw [cA]; exact hl) hp⟩)))
      · refine Or.inl ⟨fun post hp => ?_, fun post hp => ?_⟩
        · exact ur_xA1 ha (br_f n0 (pk_le 8 i (fun z => absurd z (by omega)) (fun _ => ⟨iA, br_f (by rw [cA]; exact hl) hp⟩)))
        · exact ur_yA1 (u := (nI c, yr, it, tY, b, ln, sm, am, pe)) ha (br_f n0 (pk_lt 7 i (fun z => absurd z (by omega)) (fun _ => ⟨iA, br_f (by rw [cA]; exact hl) hp⟩)))
theorem ur_nm1 {n : Nat} (h : n < 2 ^ 31) : ¬ nI n = -1 := fun z => nI_pos h (by rw [z]; exact ur_m1)
theorem i_vc_lineAmount {k : Nat} {u : SX} {v : SY} (I : i_Rel k u v) (hk : k + 4 ≤ 2048) (v1 : Int32) (v2 : Int32) : wpX_lineAmount (fun r => wpY_lineAmount (fun r' => r' = r ∧ i_Rel (k + 4) u v) v v1 v2) u v1 v2 := by
  have I0 := I
  obtain ⟨c, hc, hr, rd, tX, b, la, lp, ln, sm, yr, it, tY, am, pe, rfl, rfl, Q⟩ := I
  unfold wpX_lineAmount wpY_lineAmount
  dsimp only
  rcases ur_cell (c := c) (hr := hr) (rd := rd) (tX := tX) (b := b) (la := la) (lp := lp) (ln := ln) (sm := sm) (yr := yr) (it := it) (tY := tY) (am := am) (pe := pe) v1 v2 with ⟨hX, hY⟩ | ⟨a, i, ha, hi, e, e', hX, hY⟩
  · exact hX _ (br_t rfl (hY _ (br_f (by decide) ⟨rfl, I0⟩)))
  · have hx := ur_ix_lt (ln a) i
    have iX : vp_in (nI (a * 8 + ur_ix (ln a) i)) 16 := vp_in_nI (by omega) (by decide)
    have cX : (nI (a * 8 + ur_ix (ln a) i)).toNatClampNeg = a * 8 + ur_ix (ln a) i := nI_clamp (by omega)
    have iY : vp_in (v1 * 8 + v2) 16 := by rw [← e', e]; exact vp_in_nI (by omega) (by decide)
    have cY : (v1 * 8 + v2).toNatClampNeg = a * 8 + i := by rw [← e', e]; exact nI_clamp (by omega)
    exact hX _ (br_f (ur_nm1 (by omega)) ⟨iX, hY _ (br_t rfl ⟨iY, by rw [cX, cY]; exact Q.2.2.1 a ha i hi, I0⟩)⟩)
theorem i_vc_linePeriod {k : Nat} {u : SX} {v : SY} (I : i_Rel k u v) (hk : k + 4 ≤ 2048) (v1 : Int32) (v2 : Int32) : wpX_linePeriod (fun r => wpY_linePeriod (fun r' => r' = r ∧ i_Rel (k + 4) u v) v v1 v2) u v1 v2 := by
  have I0 := I
  obtain ⟨c, hc, hr, rd, tX, b, la, lp, ln, sm, yr, it, tY, am, pe, rfl, rfl, Q⟩ := I
  unfold wpX_linePeriod wpY_linePeriod
  dsimp only
  rcases ur_cell (c := c) (hr := hr) (rd := rd) (tX := tX) (b := b) (la := la) (lp := lp) (ln := ln) (sm := sm) (yr := yr) (it := it) (tY := tY) (am := am) (pe := pe) v1 v2 with ⟨hX, hY⟩ | ⟨a, i, ha, hi, e, e', hX, hY⟩
  · exact hX _ (br_t rfl (hY _ (br_f (by decide) ⟨rfl, I0⟩)))
  · have hx := ur_ix_lt (ln a) i
    have iX : vp_in (nI (a * 8 + ur_ix (ln a) i)) 16 := vp_in_nI (by omega) (by decide)
    have cX : (nI (a * 8 + ur_ix (ln a) i)).toNatClampNeg = a * 8 + ur_ix (ln a) i := nI_clamp (by omega)
    have iY : vp_in (v1 * 8 + v2) 16 := by rw [← e', e]; exact vp_in_nI (by omega) (by decide)
    have cY : (v1 * 8 + v2).toNatClampNeg = a * 8 + i := by rw [← e', e]; exact nI_clamp (by omega)
    exact hX _ (br_f (ur_nm1 (by omega)) ⟨iX, hY _ (br_t rfl ⟨iY, by rw [cX, cY]; exact Q.2.2.2 a ha i hi, I0⟩)⟩)
end
