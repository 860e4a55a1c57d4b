/-! ur: the tests of an account and of an interval on both sides; the usage, both sides in lockstep -/
section
def ur_Out (x : Int32) (n : Nat) : Prop := x < 0 ∨ ∃ j : Nat, n ≤ j ∧ j < 2 ^ 31 ∧ x = nI j
theorem ur_cut (x : Int32) (n : Nat) : ur_Out x n ∨ ∃ j : Nat, j < n ∧ x = nI j := by
  by_cases h : x < 0
  · exact Or.inl (Or.inl h)
  · obtain ⟨j, hj, rfl⟩ := nI_of h
    by_cases h2 : j < n
    · exact Or.inr ⟨j, h2, rfl⟩
    · exact Or.inl (Or.inr ⟨j, by omega, hj, rfl⟩)
theorem ur_xA1 {A B : Prop} {a : Nat} (ha : a < 2) (h : B) : wpX_isAccount (fun r => (r = 0 → A) ∧ (¬ r = 0 → B)) (nI a) :=
  br_f (nI_pos (by omega)) (pk_le 2 a (fun h => absurd h (by omega)) (fun _ => br_f (by decide) h))
theorem ur_xA0 {A B : Prop} {x : Int32} (hx : ur_Out x 2) (h : A) : wpX_isAccount (fun r => (r = 0 → A) ∧ (¬ r = 0 → B)) x := by
  rcases hx with hx | ⟨j, h2, hj, rfl⟩
  · exact br_t hx (br_t rfl h)
  · exact br_f (nI_pos hj) (pk_le 2 j (fun _ => br_t rfl h) (fun h => absurd h (by omega)))
theorem ur_xI1 {A B : Prop} {a : Nat} (ha : a < 48) (h : B) : wpX_isInterval (fun r => (r = 0 → A) ∧ (¬ r = 0 → B)) (nI a) :=
  br_f (nI_pos (by omega)) (pk_le 48 a (fun h => absurd h (by omega)) (fun _ => br_f (by decide) h))
theorem ur_xI0 {A B : Prop} {x : Int32} (hx : ur_Out x 48) (h : A) : wpX_isInterval (fun r => (r = 0 → A) ∧ (¬ r = 0 → B)) x := by
  rcases hx with hx | ⟨j, h2, hj, rfl⟩
  · exact br_t hx (br_t rfl h)
  · exact br_f (nI_pos hj) (pk_le 48 j (fun _ => br_t rfl h) (fun h => absurd h (by omega)))
theorem ur_yA1 {A B : Prop} {u : SY} {a : Nat} (ha : a < 2) (h : A) : wpY_badAccount (fun r => (r = 0 → A) ∧ (¬ r = 0 → B)) u (nI a) := by
  obtain ⟨g1, g2, g3, g4, g5, g6, g7, g8, g9⟩ := u
  exact br_f (nI_pos (by omega)) (pk_le a 1 (fun _ => br_t rfl h) (fun h => absurd h (by omega)))
theorem ur_yA0 {A B : Prop} {u : SY} {x : Int32} (hx : ur_Out x 2) (h : B) : wpY_badAccount (fun r => (r = 0 → A) ∧ (¬ r = 0 → B)) u x := by
  obtain ⟨g1, g2, g3, g4, g5, g6, g7, g8, g9⟩ := u
  rcases hx with hx | ⟨j, h2, hj, rfl⟩
  · exact br_t hx (br_f (by decide) h)
  · exact br_f (nI_pos hj) (pk_le j 1 (fun h => absurd h (by omega)) (fun _ => br_f (by decide) h))
theorem ur_yI1 {A B : Prop} {u : SY} {a : Nat} (ha : a < 48) (h : A) : wpY_badInterval (fun r => (r = 0 → A) ∧ (¬ r = 0 → B)) u (nI a) := by
  obtain ⟨g1, g2, g3, g4, g5, g6, g7, g8, g9⟩ := u
  exact br_f (nI_pos (by omega)) (pk_le a 47 (fun _ => br_t rfl h) (fun h => absurd h (by omega)))
theorem ur_yI0 {A B : Prop} {u : SY} {x : Int32} (hx : ur_Out x 48) (h : B) : wpY_badInterval (fun r => (r = 0 → A) ∧ (¬ r = 0 → B)) u x := by
  obtain ⟨g1, g2, g3, g4, g5, g6, g7, g8, g9⟩ := u
  rcases hx with hx | ⟨j, h2, hj, rfl⟩
  · exact br_t hx (br_f (by decide) h)
  · exact br_f (nI_pos hj) (pk_le j 47 (fun h => absurd h (by omega)) (fun _ => br_f (by decide) h))
theorem ur_d8 {i : Nat} (h : i < 2 ^ 31) : nI i / 8 = nI (i / 8) := pk_div (d := 8) h (by decide) (by decide)
theorem ur_d8ne {i x : Nat} (hi : i < 48) (hx : x < 48) (h : i / 8 ≠ x / 8) : ¬ nI i / 8 = nI x / 8 := by
  rw [ur_d8 (by omega), ur_d8 (by omega), nI_eq (by omega) (by omega)]
  exact h
theorem ur_d8eq {i x : Nat} (hi : i < 48) (hx : x < 48) (h : i / 8 = x / 8) : nI i / 8 = nI x / 8 := by
  rw [ur_d8 (by omega), ur_d8 (by omega), h]
variable {fc gc : Int32} {hr rd tX bX la lp lX sX yr it tY bY lY sY am pe : Nat → Int32}
theorem ur_yTail {a x : Nat} (hx : x < 48) : ∀ d i, i + d = 48 → x / 8 * 8 + 8 ≤ i → ∀ (post : Int32 → Prop) (s c : Int32), ((c = 0 → post 0) ∧ (¬ c = 0 → (¬ c = 0 ∧ post (s / c)))) →
    wY_usage_69 post (nI a) (nI x) gc yr it tY bY lY sY am pe (d + 1) s c (nI i) := by
  intro d
  induction d with
  | zero =>
    intro i hi hp post s c H
    exact pk_le 48 i (fun _ => H) (fun h => absurd h (by omega))
  | succ d ih =>
    intro i hi hp post s c H
    exact pk_le 48 i (fun h => absurd h (by omega)) (fun _ => ⟨by decide, by decide, br_f (ur_d8ne (by omega) hx (by omega)) (nm_r (nI_1 i) (ih (i + 1) (by omega) (by omega) post s c H))⟩)
theorem ur_yHead {a x : Nat} (hx : x < 48) : ∀ d i, i + d = x / 8 * 8 → ∀ (post : Int32 → Prop) (n : Nat) (s c : Int32), wY_usage_69 post (nI a) (nI x) gc yr it tY bY lY sY am pe n s c (nI (x / 8 * 8)) →
    wY_usage_69 post (nI a) (nI x) gc yr it tY bY lY sY am pe (n + d) s c (nI i) := by
  intro d
  induction d with
  | zero =>
    intro i hi post n s c H
    have e : i = x / 8 * 8 := by omega
    rw [e]
    exact H
  | succ d ih =>
    intro i hi post n s c H
    exact pk_le 48 i (fun h => absurd h (by omega)) (fun _ => ⟨by decide, by decide, br_f (ur_d8ne (by omega) hx (by omega)) (nm_r (nI_1 i) (ih (i + 1) (by omega) post n s c H))⟩)
theorem ur_mean (R : ur_Rd hr rd yr) {a x : Nat} (ha : a < 2) (hx : x < 48) : ∀ d j, j + d = 8 → ∀ s c : Int32, ∃ r : Int32,
    (∀ post : Int32 → Prop, post r → wX_meanRead_19 post (nI (a * 48 + x / 8 * 8)) fc hr rd tX bX la lp lX sX (d + 1) s c (nI j)) ∧
    (∀ post : Int32 → Prop, post r → ∀ e, x / 8 * 8 + j + e = 48 → wY_usage_69 post (nI a) (nI x) gc yr it tY bY lY sY am pe (e + 1) s c (nI (x / 8 * 8 + j))) := by
  intro d
  induction d with
  | zero =>
    intro j hj s c
    by_cases hc : c = 0
    · exact ⟨0, fun post hp => pk_le 8 j (fun _ => br_t hc hp) (fun h => absurd h (by omega)), fun post hp e he => ur_yTail hx e _ he (by omega) post s c (br_t hc hp)⟩
    · exact ⟨s / c, fun post hp => pk_le 8 j (fun _ => br_f hc ⟨hc, hp⟩) (fun h => absurd h (by omega)), fun post hp e he => ur_yTail hx e _ he (by omega) post s c (br_f hc ⟨hc, hp⟩)⟩
  | succ d ih =>
    intro j hj s c
    have bJ : a * 48 + (x / 8 * 8 + j) < 96 := by omega
    have eX : nI (a * 48 + x / 8 * 8) + nI j = nI (a * 48 + (x / 8 * 8 + j)) := by rw [nI_add, Nat.add_assoc]
    have eY : nI a * 48 + nI (x / 8 * 8 + j) = nI (a * 48 + (x / 8 * 8 + j)) := by rw [show (48 : Int32) = nI 48 from rfl, pk_mul, nI_add]
    have iX : vp_in (nI (a * 48 + x / 8 * 8) + nI j) 96 := by rw [eX]; exact vp_in_nI bJ (by decide)
    have iY : vp_in (nI a * 48 + nI (x / 8 * 8 + j)) 96 := by rw [eY]; exact vp_in_nI bJ (by decide)
    have cX : (nI (a * 48 + x / 8 * 8) + nI j).toNatClampNeg = a * 48 + (x / 8 * 8 + j) := by rw [eX]; exact nI_clamp (by omega)
    have cY : (nI a * 48 + nI (x / 8 * 8 + j)).toNatClampNeg = a * 48 + (x / 8 * 8 + j) := by rw [eY]; exact nI_clamp (by omega)
    have q : nI (x / 8 * 8 + j) / 8 = nI x / 8 := ur_d8eq (by omega) hx (by omega)
    rcases R _ bJ with ⟨h0, y0⟩ | ⟨h1, e1, y1⟩
    · obtain ⟨r, hX, hY⟩ := ih (j + 1) (by omega) s c
      refine ⟨r, fun post hp => ?_, fun post hp e he => ?_⟩
      · exact pk_le 8 j (fun h => absurd h (by omega)) (fun _ => ⟨iX, br_t (by rw [cX]; exact h0) (nm_r (nI_1 j) (hX post hp))⟩)
      · obtain ⟨e', rfl⟩ : ∃ e', e = e' + 1 := ⟨e - 1, by omega⟩
        exact pk_le 48 (x / 8 * 8 + j) (fun h => absurd h (by omega)) (fun _ => ⟨by decide, by decide, br_t q ⟨iY, br_t (by rw [cY]; exact y0) (nm_r (nI_1 (x / 8 * 8 + j)) (hY post hp e' (by omega)))⟩⟩)
    · obtain ⟨r, hX, hY⟩ := ih (j + 1) (by omega) (s + rd (a * 48 + (x / 8 * 8 + j))) (c + 1)
      refine ⟨r, fun post hp => ?_, fun post hp e he => ?_⟩
      · exact pk_le 8 j (fun h => absurd h (by omega)) (fun _ => ⟨iX, br_f (by rw [cX]; exact h1) ⟨iX, nm_r (by rw [cX]) (nm_e (nm_r (nI_1 j) (hX post hp)))⟩⟩)
      · obtain ⟨e', rfl⟩ : ∃ e', e = e' + 1 := ⟨e - 1, by omega⟩
        exact pk_le 48 (x / 8 * 8 + j) (fun h => absurd h (by omega)) (fun _ => ⟨by decide, by decide, br_t q ⟨iY, br_f (by rw [cY]; exact y1) ⟨iY, nm_r (by rw [cY, e1]) (nm_e (nm_r (nI_1 (x / 8 * 8 + j)) (hY post hp e' (by omega))))⟩⟩⟩)
theorem ur_meanA (R : ur_Rd hr rd yr) {a x : Nat} (ha : a < 2) (hx : x < 48) : ∃ r : Int32,
    (∀ post : Int32 → Prop, post r → wpX_meanRead post (fc, hr, rd, tX, bX, la, lp, lX, sX) (nI a) (nI x / 8)) ∧
    (∀ post : Int32 → Prop, post r → ∃ n, wY_usage_69 post (nI a) (nI x) gc yr it tY bY lY sY am pe n 0 0 0) := by
  obtain ⟨r, hX, hY⟩ := ur_mean (fc := fc) (gc := gc) (tX := tX) (bX := bX) (la := la) (lp := lp) (lX := lX) (sX := sX) (it := it) (tY := tY) (bY := bY) (lY := lY) (sY := sY) (am := am) (pe := pe) R ha hx 8 0 rfl 0 0
  have e : nI a * 48 + nI x / 8 * 8 = nI (a * 48 + x / 8 * 8) := by
    rw [ur_d8 (by omega), show (48 : Int32) = nI 48 from rfl, show (8 : Int32) = nI 8 from rfl, pk_mul, pk_mul, nI_add]
  refine ⟨r, fun post hp => ?_, fun post hp => ?_⟩
  · exact nm_r e ⟨9, hX post hp⟩
  · exact ⟨_, ur_yHead hx (x / 8 * 8) 0 (by omega) post _ 0 0 (hY post hp (48 - x / 8 * 8) (by omega))⟩
theorem ur_search (R : ur_Rd hr rd yr) {a x s : Nat} (ha : a < 2) (hs : s < 8) {r0 : Int32}
    (X0 : ∀ post : Int32 → Prop, post r0 → wpX_meanRead post (fc, hr, rd, tX, bX, la, lp, lX, sX) (nI a) (nI x / 8))
    (Y0 : ∀ post : Int32 → Prop, post r0 → ∃ n, wY_usage_69 post (nI a) (nI x) gc yr it tY bY lY sY am pe n 0 0 0) : ∀ q, q < 6 → ∃ r : Int32,
    (∀ post : Int32 → Prop, post r → wX_usageIn_8 post (nI a) (nI x) (nI (a * 48)) fc hr rd tX bX la lp lX sX (q + 2) (nI (q * 8 + s))) ∧
    (∀ post : Int32 → Prop, post r → wY_usage_23 post (nI a) (nI x) gc yr it tY bY lY sY am pe (q + 2) (nI (q * 8 + s))) := by
  intro q
  induction q with
  | zero =>
    intro hq
    have bJ : a * 48 + (0 * 8 + s) < 96 := by omega
    have eX : nI (a * 48) + nI (0 * 8 + s) = nI (a * 48 + (0 * 8 + s)) := by rw [nI_add]
    have eY : nI a * 48 + nI (0 * 8 + s) = nI (a * 48 + (0 * 8 + s)) := by rw [show (48 : Int32) = nI 48 from rfl, pk_mul, nI_add]
    have iX : vp_in (nI (a * 48) + nI (0 * 8 + s)) 96 := by rw [eX]; exact vp_in_nI bJ (by decide)
    have iY : vp_in (nI a * 48 + nI (0 * 8 + s)) 96 := by rw [eY]; exact vp_in_nI bJ (by decide)
    have cX : (nI (a * 48) + nI (0 * 8 + s)).toNatClampNeg = a * 48 + (0 * 8 + s) := by rw [eX]; exact nI_clamp (by omega)
    have cY : (nI a * 48 + nI (0 * 8 + s)).toNatClampNeg = a * 48 + (0 * 8 + s) := by rw [eY]; exact nI_clamp (by omega)
    have nn : ¬ nI (0 * 8 + s) < 0 := nI_pos (by omega)
    rcases R _ bJ with ⟨h0, y0⟩ | ⟨h1, e1, y1⟩
    · refine ⟨r0, fun post hp => ?_, fun post hp => ?_⟩
      · exact br_f nn ⟨iX, br_t (by rw [cX]; exact h0) (nm_e (br_t (ur_n8 _ (by omega)) ⟨by decide, X0 post hp⟩))⟩
      · exact br_f nn ⟨iY, br_t (by rw [cY]; exact y0) (nm_e (br_t (ur_n8s _ (by omega)) (Y0 post hp)))⟩
    · refine ⟨rd (a * 48 + (0 * 8 + s)), fun post hp => ?_, fun post hp => ?_⟩
      · exact br_f nn ⟨iX, br_f (by rw [cX]; exact h1) ⟨iX, by rw [cX]; exact hp⟩⟩
      · exact br_f nn ⟨iY, br_f (by rw [cY]; exact y1) ⟨iY, by rw [cY, e1]; exact hp⟩⟩
  | succ q ih =>
    intro hq
    have bJ : a * 48 + ((q + 1) * 8 + s) < 96 := by omega
    have eX : nI (a * 48) + nI ((q + 1) * 8 + s) = nI (a * 48 + ((q + 1) * 8 + s)) := by rw [nI_add]
    have eY : nI a * 48 + nI ((q + 1) * 8 + s) = nI (a * 48 + ((q + 1) * 8 + s)) := by rw [show (48 : Int32) = nI 48 from rfl, pk_mul, nI_add]
    have iX : vp_in (nI (a * 48) + nI ((q + 1) * 8 + s)) 96 := by rw [eX]; exact vp_in_nI bJ (by decide)
    have iY : vp_in (nI a * 48 + nI ((q + 1) * 8 + s)) 96 := by rw [eY]; exact vp_in_nI bJ (by decide)
    have cX : (nI (a * 48) + nI ((q + 1) * 8 + s)).toNatClampNeg = a * 48 + ((q + 1) * 8 + s) := by rw [eX]; exact nI_clamp (by omega)
    have cY : (nI a * 48 + nI ((q + 1) * 8 + s)).toNatClampNeg = a * 48 + ((q + 1) * 8 + s) := by rw [eY]; exact nI_clamp (by omega)
    have nn : ¬ nI ((q + 1) * 8 + s) < 0 := nI_pos (by omega)
    have e8 : (q + 1) * 8 + s = (q * 8 + s) + 8 := by omega
    have mX : nI ((q + 1) * 8 + s) + (-8) = nI (q * 8 + s) := by rw [e8, ur_m8]
    have mY : nI ((q + 1) * 8 + s) - 8 = nI (q * 8 + s) := by rw [e8, ur_s8]
    rcases R _ bJ with ⟨h0, y0⟩ | ⟨h1, e1, y1⟩
    · obtain ⟨r, hX, hY⟩ := ih (by omega)
      refine ⟨r, fun post hp => ?_, fun post hp => ?_⟩
      · exact br_f nn ⟨iX, br_t (by rw [cX]; exact h0) (nm_r mX (hX post hp))⟩
      · exact br_f nn ⟨iY, br_t (by rw [cY]; exact y0) (nm_r mY (hY post hp))⟩
    · refine ⟨rd (a * 48 + ((q + 1) * 8 + s)), fun post hp => ?_, fun post hp => ?_⟩
      · exact br_f nn ⟨iX, br_f (by rw [cX]; exact h1) ⟨iX, by rw [cX]; exact hp⟩⟩
      · exact br_f nn ⟨iY, br_f (by rw [cY]; exact y1) ⟨iY, by rw [cY, e1]; exact hp⟩⟩
theorem ur_usage (R : ur_Rd hr rd yr) {a x : Nat} (ha : a < 2) (hx : x < 48) : ∃ r : Int32,
    (∀ y, y = nI x → ∀ post : Int32 → Prop, post r → wpX_usageIn post (fc, hr, rd, tX, bX, la, lp, lX, sX) (nI a) y) ∧
    (∀ y, y = nI x → ∀ post : Int32 → Prop, post r → wpY_usage post (gc, yr, it, tY, bY, lY, sY, am, pe) (nI a) y) := by
  obtain ⟨r0, X0, Y0⟩ := ur_meanA (fc := fc) (gc := gc) (tX := tX) (bX := bX) (la := la) (lp := lp) (lX := lX) (sX := sX) (it := it) (tY := tY) (bY := bY) (lY := lY) (sY := sY) (am := am) (pe := pe) R ha hx
  obtain ⟨r, hX, hY⟩ := ur_search R ha (Nat.mod_lt x (by decide : 0 < 8)) X0 Y0 (x / 8) (by omega)
  have e : x / 8 * 8 + x % 8 = x := by omega
  rw [e] at hX hY
  refine ⟨r, fun y hy post hp => ?_, fun y hy post hp => ?_⟩
  · subst hy
    exact nm_r (pk_mul a 48) ⟨_, hX post hp⟩
  · subst hy
    exact ur_yA1 (u := (gc, yr, it, tY, bY, lY, sY, am, pe)) ha (ur_yI1 (u := (gc, yr, it, tY, bY, lY, sY, am, pe)) hx ⟨_, hY post hp⟩)
end
