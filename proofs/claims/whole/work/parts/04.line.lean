/-! ur: a new line: the component's ring, the reference's shift; then the billing anew, in lockstep -/
section
variable {fc gc : Int32} {hr rd tX bX la lp lX sX yr it tY bY lY sY am pe : Nat → Int32}
theorem ur_xAdd {post : SX → Prop} {a : Nat} (ha : a < 2) {p x : Int32}
    (h : post (fc, hr, rd, tX, bX, upd la (a * 8 + (lX a).toBitVec.toNat % 8) x, upd lp (a * 8 + (lX a).toBitVec.toNat % 8) p, upd lX a (lX a + 1), upd sX a (sX a + x))) :
    wpX_addLine post (fc, hr, rd, tX, bX, la, lp, lX, sX) (nI a) p x := by
  have c : (nI a).toNatClampNeg = a := nI_clamp (by omega)
  have e7 : lX a &&& 7 = nI ((lX a).toBitVec.toNat % 8) := pk_and _ 3 (by decide)
  have hm : (lX a).toBitVec.toNat % 8 < 8 := Nat.mod_lt _ (by decide)
  have e : nI a * 8 + (lX (nI a).toNatClampNeg &&& 7) = nI (a * 8 + (lX a).toBitVec.toNat % 8) := by
    rw [c, e7, show (8 : Int32) = nI 8 from rfl, pk_mul, nI_add]
  have iA : vp_in (nI a) 2 := vp_in_nI ha (by decide)
  have i16 : vp_in (nI (a * 8 + (lX a).toBitVec.toNat % 8)) 16 := vp_in_nI (by omega) (by decide)
  have cK : (nI (a * 8 + (lX a).toBitVec.toNat % 8)).toNatClampNeg = a * 8 + (lX a).toBitVec.toNat % 8 := nI_clamp (by omega)
  exact ⟨iA, nm_r e ⟨i16, nm_r (by rw [cK]) ⟨i16, nm_r (by rw [cK]) ⟨iA, iA, nm_r (by rw [c]) ⟨iA, iA, nm_r (by rw [c]) h⟩⟩⟩⟩⟩
theorem ur_yShift {post : SY → Prop} {a : Nat} (ha : a < 2) {p x : Int32}
    (h : post (gc, yr, it, tY, bY, upd lY a (lY a + 1), upd sY a (sY a + x), upd (ur_sh am a 0) (a * 8) x, upd (ur_sh pe a 0) (a * 8) p)) :
    ∀ k, k ≤ 7 → wY_line_9 post (nI a) p x gc (k + 1) (nI (a * 8 + k)) yr it tY bY lY sY (ur_sh am a k) (ur_sh pe a k) := by
  have c : (nI a).toNatClampNeg = a := nI_clamp (by omega)
  have iA : vp_in (nI a) 2 := vp_in_nI ha (by decide)
  have e8 : nI a * 8 = nI (a * 8) := pk_mul a 8
  have i8 : vp_in (nI a * 8) 16 := by rw [e8]; exact vp_in_nI (by omega) (by decide)
  have c8 : (nI a * 8).toNatClampNeg = a * 8 := by rw [e8]; exact nI_clamp (by omega)
  intro k
  induction k with
  | zero =>
    intro hk
    exact pk_le (a * 8 + 0) (a * 8) (fun _ => ⟨i8, nm_r (by rw [c8]) ⟨i8, nm_r (by rw [c8]) ⟨iA, iA, nm_r (by rw [c]) ⟨iA, iA, nm_r (by rw [c]) h⟩⟩⟩⟩) (fun z => absurd z (by omega)) rfl e8
  | succ k ih =>
    intro hk
    have i1 : vp_in (nI (a * 8 + (k + 1))) 16 := vp_in_nI (by omega) (by decide)
    have c1 : (nI (a * 8 + (k + 1))).toNatClampNeg = a * 8 + (k + 1) := nI_clamp (by omega)
    have e0 : nI (a * 8 + (k + 1)) - 1 = nI (a * 8 + k) := nI_pred (a * 8 + k)
    have i0 : vp_in (nI (a * 8 + (k + 1)) - 1) 16 := by rw [e0]; exact vp_in_nI (by omega) (by decide)
    have c0 : (nI (a * 8 + (k + 1)) - 1).toNatClampNeg = a * 8 + k := by rw [e0]; exact nI_clamp (by omega)
    exact pk_le (a * 8 + (k + 1)) (a * 8) (fun z => absurd z (by omega))
      (fun _ => ⟨i0, i1, nm_r (e' := ur_sh am a k) (by rw [c1, c0]; exact ur_shs am a (by omega))
        ⟨i0, i1, nm_r (e' := ur_sh pe a k) (by rw [c1, c0]; exact ur_shs pe a (by omega)) (nm_r (pk_m1 (a * 8 + k)) (ih (by omega)))⟩⟩) rfl e8
theorem ur_yLine {post : SY → Prop} {a : Nat} (ha : a < 2) {p x : Int32}
    (h : post (gc, yr, it, tY, bY, upd lY a (lY a + 1), upd sY a (sY a + x), upd (ur_sh am a 0) (a * 8) x, upd (ur_sh pe a 0) (a * 8) p)) :
    wpY_line post (gc, yr, it, tY, bY, lY, sY, am, pe) (nI a) p x := by
  have e : nI a * 8 + 7 = nI (a * 8 + 7) := by rw [show (8 : Int32) = nI 8 from rfl, show (7 : Int32) = nI 7 from rfl, pk_mul, nI_add]
  have k := ur_yShift ha h 7 (Nat.le_refl 7)
  rw [ur_sh7, ur_sh7] at k
  exact nm_r e ⟨_, k⟩
/-- what the two sides hold of each other, beside what is the same function in both -/
def ur_P (hr rd tX la lp ln yr it tY am pe : Nat → Int32) : Prop := ur_Rd hr rd yr ∧ ur_Tf tX tY it ∧ ur_Ring ln la am ∧ ur_Ring ln lp pe
def ur_R (c : Nat) (u : SX) (v : SY) : Prop := ∃ hr rd tX b la lp ln sm yr it tY am pe : Nat → Int32,
  u = (nI c, hr, rd, tX, b, la, lp, ln, sm) ∧ v = (nI c, yr, it, tY, b, ln, sm, am, pe) ∧ ur_P hr rd tX la lp ln yr it tY am pe
theorem ur_add {ln sm : Nat → Int32} (Q : ur_P hr rd tX la lp ln yr it tY am pe) {a : Nat} (ha : a < 2) (p x : Int32) : ∃ la' lp' ln' sm' am' pe' : Nat → Int32,
    ur_P hr rd tX la' lp' ln' yr it tY am' pe' ∧
    (∀ (post : SX → Prop) (fc : Int32) (b : Nat → Int32), post (fc, hr, rd, tX, b, la', lp', ln', sm') → wpX_addLine post (fc, hr, rd, tX, b, la, lp, ln, sm) (nI a) p x) ∧
    (∀ (post : SY → Prop) (gc : Int32) (b : Nat → Int32), post (gc, yr, it, tY, b, ln', sm', am', pe') → wpY_line post (gc, yr, it, tY, b, ln, sm, am, pe) (nI a) p x) :=
  ⟨_, _, _, _, _, _, ⟨Q.1, Q.2.1, ur_ring_add x ha Q.2.2.1, ur_ring_add p ha Q.2.2.2⟩, fun _ _ _ h => ur_xAdd ha h, fun _ _ _ h => ur_yLine ha h⟩
theorem ur_bill {c a : Nat} (hc : c ≤ 6) (ha : a < 2) : ∀ d p, p + d = c → ∀ (n : Int32) (hr rd tX b la lp ln sm yr it tY am pe : Nat → Int32), ur_P hr rd tX la lp ln yr it tY am pe →
    ∃ (r : Int32) (u' : SX) (v' : SY), ur_R c u' v' ∧
    (∀ post : Int32 → SX → Prop, post r u' → wX_billAnew_4 post (nI a) (d + 1) n (nI p) (nI c) hr rd tX b la lp ln sm) ∧
    (∀ post : Int32 → SY → Prop, post r v' → wY_rebill_4 post (nI a) (d + 1) n (nI p) (nI c) yr it tY b ln sm am pe) := by
  intro d
  induction d with
  | zero =>
    intro p hp n hr rd tX b la lp ln sm yr it tY am pe Q
    exact ⟨n, _, _, ⟨hr, rd, tX, b, la, lp, ln, sm, yr, it, tY, am, pe, rfl, rfl, Q⟩, fun post h => pk_le c p (fun _ => h) (fun z => absurd z (by omega)), fun post h => pk_le c p (fun _ => h) (fun z => absurd z (by omega))⟩
  | succ d ih =>
    intro p hp n hr rd tX b la lp ln sm yr it tY am pe Q
    have e6 : nI a * 6 + nI p = nI (a * 6 + p) := by rw [show (6 : Int32) = nI 6 from rfl, pk_mul, nI_add]
    have i6 : vp_in (nI (a * 6 + p)) 12 := vp_in_nI (by omega) (by decide)
    have c6 : (nI (a * 6 + p)).toNatClampNeg = a * 6 + p := nI_clamp (by omega)
    have j6 : vp_in (nI a * 6 + nI p) 12 := by rw [e6]; exact i6
    have d6 : (nI a * 6 + nI p).toNatClampNeg = a * 6 + p := by rw [e6]; exact c6
    obtain ⟨q, aX, aY⟩ := ur_amount (bX := b) (la := la) (lp := lp) (lX := ln) (sX := sm) (bY := b) (lY := ln) (sY := sm) (am := am) (pe := pe) Q.1 Q.2.1 hc ha (p := p) (by omega)
    by_cases hq : q = b (a * 6 + p)
    · obtain ⟨r, u', v', K, hX, hY⟩ := ih (p + 1) (by omega) n hr rd tX b la lp ln sm yr it tY am pe Q
      refine ⟨r, u', v', K, fun post h => ?_, fun post h => ?_⟩
      · exact pk_le c p (fun z => absurd z (by omega)) (fun _ => nm_r e6 ⟨i6, nm_r (e' := b (a * 6 + p)) (by rw [c6]) (aX _ (br_t hq (nm_r (nI_1 p) (hX post h))))⟩)
      · exact pk_le c p (fun z => absurd z (by omega)) (fun _ => ⟨j6, nm_r (e' := b (a * 6 + p)) (by rw [d6]) (aY _ (br_t hq (nm_r (nI_1 p) (hY post h))))⟩)
    · obtain ⟨la1, lp1, ln1, sm1, am1, pe1, Q1, X1, Y1⟩ := ur_add (sm := sm) Q ha (nI p) (-(b (a * 6 + p)))
      obtain ⟨la2, lp2, ln2, sm2, am2, pe2, Q2, X2, Y2⟩ := ur_add (sm := sm1) Q1 ha (nI p) q
      obtain ⟨r, u', v', K, hX, hY⟩ := ih (p + 1) (by omega) (n + 1) hr rd tX (upd b (a * 6 + p) q) la2 lp2 ln2 sm2 yr it tY am2 pe2 Q2
      refine ⟨r, u', v', K, fun post h => ?_, fun post h => ?_⟩
      · exact pk_le c p (fun z => absurd z (by omega)) (fun _ => nm_r e6 ⟨i6, nm_r (e' := b (a * 6 + p)) (by rw [c6]) (aX _ (br_f hq (X1 _ _ _ (X2 _ _ _ ⟨i6, nm_r (e' := upd b (a * 6 + p) q) (by rw [c6]) (nm_e (nm_r (nI_1 p) (hX post h)))⟩))))⟩)
      · exact pk_le c p (fun z => absurd z (by omega)) (fun _ => ⟨j6, nm_r (e' := b (a * 6 + p)) (by rw [d6]) (aY _ (br_f hq (Y1 _ _ _ (Y2 _ _ _ ⟨j6, nm_r (e' := upd b (a * 6 + p) q) (by rw [d6]) (nm_e (nm_r (nI_1 p) (hY post h)))⟩))))⟩)
theorem ur_billA {c a : Nat} (hc : c ≤ 6) (ha : a < 2) {b ln sm : Nat → Int32} (Q : ur_P hr rd tX la lp ln yr it tY am pe) :
    ∃ (r : Int32) (u' : SX) (v' : SY), ur_R c u' v' ∧
    (∀ post : Int32 → SX → Prop, post r u' → wpX_billAnew post (nI c, hr, rd, tX, b, la, lp, ln, sm) (nI a)) ∧
    (∀ post : Int32 → SY → Prop, post r v' → wpY_rebill post (nI c, yr, it, tY, b, ln, sm, am, pe) (nI a)) := by
  obtain ⟨r, u', v', K, hX, hY⟩ := ur_bill hc ha c 0 (by omega) 0 hr rd tX b la lp ln sm yr it tY am pe Q
  exact ⟨r, u', v', K, fun post h => ⟨_, hX post h⟩, fun post h => ⟨_, hY post h⟩⟩
end
