/-! ur: pasted rows of kit/rows (pk_), then the pure facts of this claim (ur_) -/
theorem pk_us {f : Nat → Int32} {k : Nat} {x : Int32} : upd f k x k = x := if_pos rfl
theorem pk_un {f : Nat → Int32} {k j : Nat} {x : Int32} (h : j ≠ k) : upd f k x j = f j := if_neg h
theorem pk_sub {a b : Nat} (h : b ≤ a) : nI a - nI b = nI (a - b) := by
  obtain ⟨c, rfl⟩ : ∃ c, a = c + b := ⟨a - b, by omega⟩
  rw [← nI_add, Int32.add_sub_cancel, Nat.add_sub_cancel]
theorem pk_m1 (n : Nat) : nI (n + 1) + (-1) = nI n := by
  rw [← nI_1, Int32.add_assoc, show (1 : Int32) + (-1) = 0 from rfl, Int32.add_zero]
theorem pk_mul (a b : Nat) : nI a * nI b = nI (a * b) := (Int32.ofNat_mul a b).symm
theorem pk_div {a d : Nat} (ha : a < 2 ^ 31) (h0 : 0 < d) (hd : d < 2 ^ 31) : nI a / nI d = nI (a / d) := by
  apply Int32.toInt_inj.mp
  rw [lg_idiv_nonneg (by rw [nI_toInt ha]; omega) (by rw [nI_toInt hd]; omega), nI_toInt ha, nI_toInt hd, nI_toInt (Nat.lt_of_le_of_lt (Nat.div_le_self a d) ha)]
  first | rfl | exact (Int.natCast_ediv _ _).symm
theorem pk_sub_toInt {a b : Nat} (ha : a < 2 ^ 30) (hb : b < 2 ^ 30) : (nI a - nI b).toInt = (a : Int) - b := by
  rw [Int32.toInt_sub, nI_toInt (by omega), nI_toInt (by omega)]
  exact Int.bmod_eq_of_le (by omega) (by omega)
theorem pk_sneg {a b : Nat} (hb : b < 2 ^ 30) (h : a < b) : nI a - nI b < 0 := by
  rw [Int32.lt_iff_toInt_lt, pk_sub_toInt (by omega) hb, show (0 : Int32).toInt = 0 from by decide]
  omega
theorem pk_ix (x : Int32) {n : Nat} (hn : n < 2 ^ 31) : x < 0 ∨ nI n ≤ x ∨ ∃ j : Nat, j < n ∧ x = nI j := by
  by_cases h : x < 0
  · exact Or.inl h
  · obtain ⟨j, hj, rfl⟩ := nI_of h
    by_cases h2 : j < n
    · exact Or.inr (Or.inr ⟨j, h2, rfl⟩)
    · exact Or.inr (Or.inl (nI_le (by omega) hj))
theorem pk_le {x y : Int32} {A B : Prop} (a b : Nat) (f : a ≤ b → A) (g : b < a → B) (hx : x = nI a := by rfl) (hy : y = nI b := by rfl) (ha : a < 2 ^ 31 := by omega) (hb : b < 2 ^ 31 := by omega) : (x ≤ y → A) ∧ (¬ x ≤ y → B) := by
  subst hx hy
  rw [nI_leI ha hb]
  exact ⟨f, fun z => g (by omega)⟩
theorem pk_lt {x y : Int32} {A B : Prop} (a b : Nat) (f : a < b → A) (g : b ≤ a → B) (hx : x = nI a := by rfl) (hy : y = nI b := by rfl) (ha : a < 2 ^ 31 := by omega) (hb : b < 2 ^ 31 := by omega) : (x < y → A) ∧ (¬ x < y → B) := by
  subst hx hy
  rw [nI_ltI ha hb]
  exact ⟨f, fun z => g (by omega)⟩
theorem pk_eq {x y : Int32} {A B : Prop} (a b : Nat) (f : a = b → A) (g : a ≠ b → B) (hx : x = nI a := by rfl) (hy : y = nI b := by rfl) (ha : a < 2 ^ 31 := by omega) (hb : b < 2 ^ 31 := by omega) : (x = y → A) ∧ (¬ x = y → B) := by
  subst hx hy
  rw [nI_eq ha hb]
  exact ⟨f, g⟩
theorem pk_in {x : Int32} (n N : Nat) (h : n < N) (hx : x = nI n := by rfl) (hN : N < 2 ^ 31 := by omega) : vp_in x N := by
  subst hx
  exact vp_in_nI h hN
theorem pk_cl {x : Int32} (n : Nat) (hx : x = nI n := by rfl) (h : n < 2 ^ 31 := by omega) : x.toNatClampNeg = n := by
  subst hx
  exact nI_clamp h
theorem pk_tn {n : Nat} (h : n < 2 ^ 32) : (nI n).toBitVec.toNat = n := Nat.mod_eq_of_lt h
theorem pk_and (x : Int32) {m : Int32} (k : Nat) (hm : m.toBitVec.toNat = 2 ^ k - 1) : x &&& m = nI (x.toBitVec.toNat % 2 ^ k) := by
  apply Int32.toBitVec_inj.mp
  apply BitVec.eq_of_toNat_eq
  rw [Int32.toBitVec_and, BitVec.toNat_and, hm, Nat.and_two_pow_sub_one_eq_mod]
  show _ = (BitVec.ofNat 32 _).toNat
  rw [BitVec.toNat_ofNat]
  exact (Nat.mod_eq_of_lt (Nat.lt_of_le_of_lt (Nat.mod_le _ _) x.toBitVec.isLt)).symm
theorem ur_m8 (n : Nat) : nI (n + 8) + (-8) = nI n := by
  rw [← nI_add, show nI 8 = (8 : Int32) from rfl, Int32.add_assoc, show (8 : Int32) + (-8) = 0 from by decide, Int32.add_zero]
theorem ur_s8 (n : Nat) : nI (n + 8) - 8 = nI n := by
  rw [← nI_add, show nI 8 = (8 : Int32) from rfl]
  exact Int32.add_sub_cancel _ _
theorem ur_n8 : ∀ s, s < 8 → nI s + (-8) < 0 := by decide +kernel
theorem ur_n8s : ∀ s, s < 8 → nI s - 8 < 0 := by decide +kernel
/-- where the component's ring holds the line that lies b back, under the count L -/
def ur_ix (L : Int32) (b : Nat) : Nat := (L - 1 - nI b).toBitVec.toNat % 8
theorem ur_ix_lt (L : Int32) (b : Nat) : ur_ix L b < 8 := Nat.mod_lt _ (by decide)
theorem ur_ix_0 (L : Int32) : ur_ix (L + 1) 0 = L.toBitVec.toNat % 8 := by
  unfold ur_ix
  rw [nI_0, show L + 1 - 1 - 0 = L from by grind]
theorem ur_ix_s (L : Int32) (b : Nat) : ur_ix (L + 1) (b + 1) = ur_ix L b := by
  unfold ur_ix
  rw [← nI_1 b, show L + 1 - 1 - (nI b + 1) = L - 1 - nI b from by grind]
theorem ur_ix_ne (L : Int32) {b : Nat} (h : b < 7) : ur_ix L b ≠ L.toBitVec.toNat % 8 := by
  unfold ur_ix
  have hl := L.toBitVec.isLt
  rw [Int32.toBitVec_sub, Int32.toBitVec_sub, BitVec.toNat_sub, BitVec.toNat_sub, pk_tn (n := b) (by omega), show (1 : Int32).toBitVec.toNat = 1 from rfl]
  omega
/-- the last eight lines of each account: the component's ring, the reference's row -/
def ur_Ring (ln la am : Nat → Int32) : Prop := ∀ a, a < 2 → ∀ b, b < 8 → am (a * 8 + b) = la (a * 8 + ur_ix (ln a) b)
/-- the reference's row of account a, shifted down to place k -/
def ur_sh (am : Nat → Int32) (a k : Nat) : Nat → Int32 := fun j => if a * 8 + k < j ∧ j ≤ a * 8 + 7 then am (j - 1) else am j
theorem ur_sh7 (am : Nat → Int32) (a : Nat) : ur_sh am a 7 = am := funext fun j => if_neg (by omega)
theorem ur_shs (am : Nat → Int32) (a : Nat) {k : Nat} (h : k < 7) : upd (ur_sh am a (k + 1)) (a * 8 + (k + 1)) (ur_sh am a (k + 1) (a * 8 + k)) = ur_sh am a k := by
  funext j
  by_cases e : j = a * 8 + (k + 1)
  · subst e
    have e1 : upd (ur_sh am a (k + 1)) (a * 8 + (k + 1)) (ur_sh am a (k + 1) (a * 8 + k)) (a * 8 + (k + 1)) = ur_sh am a (k + 1) (a * 8 + k) := pk_us
    rw [e1]
    unfold ur_sh
    rw [if_neg (by omega), if_pos (by omega)]
    exact congrArg am (by omega)
  · rw [pk_un e]
    unfold ur_sh
    by_cases h : a * 8 + k < j ∧ j ≤ a * 8 + 7
    · rw [if_pos h, if_pos (by omega)]
    · rw [if_neg h, if_neg (by omega)]
theorem ur_ring_add {ln la am : Nat → Int32} {a : Nat} (x : Int32) (ha : a < 2) (h : ur_Ring ln la am) :
    ur_Ring (upd ln a (ln a + 1)) (upd la (a * 8 + (ln a).toBitVec.toNat % 8) x) (upd (ur_sh am a 0) (a * 8) x) := by
  intro c hc b hb
  by_cases e : c = a
  · subst e
    have e1 : upd ln c (ln c + 1) c = ln c + 1 := pk_us
    rw [e1]
    cases b with
    | zero =>
      rw [ur_ix_0]
      exact pk_us.trans pk_us.symm
    | succ b =>
      have h1 := ur_ix_ne (ln c) (b := b) (by omega)
      rw [ur_ix_s, pk_un (f := ur_sh am c 0) (by omega), pk_un (f := la) (by omega)]
      unfold ur_sh
      rw [if_pos (by omega)]
      exact h c hc b (by omega)
  · have h1 := ur_ix_lt (ln c) b
    rw [pk_un (f := ln) e, pk_un (f := ur_sh am a 0) (by omega), pk_un (f := la) (by omega)]
    unfold ur_sh
    rw [if_neg (by omega)]
    exact h c hc b hb
/-- the reads: a flag and a number in the component, a number or one below 0 in the reference -/
def ur_Rd (hr rd yr : Nat → Int32) : Prop := ∀ j, j < 96 → (hr j = 0 ∧ yr j < 0) ∨ (¬ hr j = 0 ∧ yr j = rd j ∧ ¬ yr j < 0)
theorem ur_rd_set {hr rd yr : Nat → Int32} {k : Nat} {b x : Int32} (h : ur_Rd hr rd yr) (hb : ¬ b = 0) (hx : ¬ x < 0) : ur_Rd (upd hr k b) (upd rd k x) (upd yr k x) := by
  intro j hj
  by_cases e : j = k
  · subst e
    have e1 : upd hr j b j = b := pk_us
    have e2 : upd rd j x j = x := pk_us
    have e3 : upd yr j x j = x := pk_us
    rw [e1, e2, e3]
    exact Or.inr ⟨hb, rfl, hx⟩
  · rw [pk_un e, pk_un e, pk_un e]
    exact h j hj
theorem ur_rd_del {hr rd yr : Nat → Int32} {k : Nat} {x : Int32} (h : ur_Rd hr rd yr) (hx : x < 0) : ur_Rd (upd hr k 0) rd (upd yr k x) := by
  intro j hj
  by_cases e : j = k
  · subst e
    have e1 : upd hr j 0 j = 0 := pk_us
    have e3 : upd yr j x j = x := pk_us
    rw [e1, e3]
    exact Or.inl ⟨rfl, hx⟩
  · rw [pk_un e, pk_un e]
    exact h j hj
/-- the tariffs: one table of seven rows in the component, six rows and the current one in the reference -/
def ur_Tf (tX tY it : Nat → Int32) : Prop := (∀ j, j < 36 → tX j = tY j) ∧ (∀ j, j < 6 → tX (36 + j) = it j)
theorem ur_tf_set {tX tY it : Nat → Int32} {k : Nat} {x : Int32} (hk : k < 6) (h : ur_Tf tX tY it) : ur_Tf (upd tX (36 + k) x) tY (upd it k x) := by
  refine ⟨fun j hj => ?_, fun j hj => ?_⟩
  · rw [pk_un (by omega)]
    exact h.1 j hj
  · by_cases e : j = k
    · subst e
      exact pk_us.trans pk_us.symm
    · rw [pk_un (by omega), pk_un e]
      exact h.2 j hj
/-- the first k items of row p taken from g -/
def ur_cp (f g : Nat → Int32) (p k : Nat) : Nat → Int32 := fun j => if p * 6 ≤ j ∧ j < p * 6 + k then g (j - p * 6) else f j
theorem ur_cp0 (f g : Nat → Int32) (p : Nat) : ur_cp f g p 0 = f := funext fun j => if_neg (by omega)
theorem ur_cps (f g : Nat → Int32) (p k : Nat) : upd (ur_cp f g p k) (p * 6 + k) (g k) = ur_cp f g p (k + 1) := by
  funext j
  by_cases e : j = p * 6 + k
  · subst e
    have e1 : upd (ur_cp f g p k) (p * 6 + k) (g k) (p * 6 + k) = g k := pk_us
    rw [e1]
    unfold ur_cp
    rw [if_pos (by omega)]
    exact congrArg g (by omega)
  · rw [pk_un e]
    unfold ur_cp
    by_cases h : p * 6 ≤ j ∧ j < p * 6 + k
    · rw [if_pos h, if_pos (by omega)]
    · rw [if_neg h, if_neg (by omega)]
theorem ur_cp_out (f g : Nat → Int32) {p k j : Nat} (h : p * 6 + k ≤ j) : ur_cp f g p k j = f j := if_neg (by omega)
theorem ur_cp_tf {tX tY it : Nat → Int32} {p : Nat} (hp : p < 6) (h : ur_Tf tX tY it) : ur_Tf (ur_cp tX (fun i => tX (36 + i)) p 6) (ur_cp tY it p 6) it := by
  refine ⟨fun j hj => ?_, fun j hj => ?_⟩
  · unfold ur_cp
    by_cases e : p * 6 ≤ j ∧ j < p * 6 + 6
    · rw [if_pos e, if_pos e]
      exact h.2 _ (by omega)
    · rw [if_neg e, if_neg e]
      exact h.1 j hj
  · rw [ur_cp_out _ _ (by omega)]
    exact h.2 j hj
