/-! ur: the close: the copied row, then the two accounts in lockstep; the reference's start -/
section
variable {fc gc : Int32} {hr rd tX bX la lp lX sX yr it tY bY lY sY am pe : Nat → Int32}
theorem ur_xFix {post : SX → Prop} {p : Nat} (hp : p < 6) (h : post (fc, hr, rd, ur_cp tX (fun i => tX (36 + i)) p 6, bX, la, lp, lX, sX)) :
    ∀ d k, k + d = 6 → wX_fixTariff_2 post (nI p) fc (d + 1) (nI k) hr rd (ur_cp tX (fun i => tX (36 + i)) p k) bX la lp lX sX := by
  intro d
  induction d with
  | zero =>
    intro k hk
    have e : k = 6 := by omega
    subst e
    exact pk_le 6 6 (fun _ => h) (fun z => absurd z (by omega))
  | succ d ih =>
    intro k hk
    have e1 : 36 + nI k = nI (36 + k) := by rw [show (36 : Int32) = nI 36 from rfl, nI_add]
    have e2 : nI p * 6 + nI k = nI (p * 6 + k) := by rw [show (6 : Int32) = nI 6 from rfl, pk_mul, nI_add]
    have i1 : vp_in (36 + nI k) 42 := by rw [e1]; exact vp_in_nI (by omega) (by decide)
    have i2 : vp_in (nI p * 6 + nI k) 42 := by rw [e2]; exact vp_in_nI (by omega) (by decide)
    have c1 : (36 + nI k).toNatClampNeg = 36 + k := by rw [e1]; exact nI_clamp (by omega)
    have c2 : (nI p * 6 + nI k).toNatClampNeg = p * 6 + k := by rw [e2]; exact nI_clamp (by omega)
    exact pk_le 6 k (fun z => absurd z (by omega)) (fun _ => ⟨i1, i2, nm_r (e' := ur_cp tX (fun i => tX (36 + i)) p (k + 1))
      (by rw [c1, c2, ur_cp_out tX _ (by omega)]; exact ur_cps tX (fun i => tX (36 + i)) p k) (nm_r (nI_1 k) (ih (k + 1) (by omega)))⟩)
theorem ur_xFixA {post : SX → Prop} {p : Nat} (hp : p < 6) (h : post (fc, hr, rd, ur_cp tX (fun i => tX (36 + i)) p 6, bX, la, lp, lX, sX)) :
    wpX_fixTariff post (fc, hr, rd, tX, bX, la, lp, lX, sX) (nI p) := by
  have k := ur_xFix hp h 6 0 rfl
  rw [ur_cp0] at k
  exact ⟨_, k⟩
theorem ur_yFix {post : Int32 → SY → Prop} {p : Nat} (hp : p < 6) (h : ∃ n, wY_close_57 post (nI p) n 0 (nI (p + 1)) yr it (ur_cp tY it p 6) bY lY sY am pe) :
    ∀ d k, k + d = 6 → wY_close_19 post (nI p) gc (d + 1) (nI k) yr it (ur_cp tY it p k) bY lY sY am pe := by
  intro d
  induction d with
  | zero =>
    intro k hk
    have e : k = 6 := by omega
    subst e
    exact pk_le 6 6 (fun _ => nm_r (nI_1 p) h) (fun z => absurd z (by omega))
  | succ d ih =>
    intro k hk
    have e2 : nI p * 6 + nI k = nI (p * 6 + k) := by rw [show (6 : Int32) = nI 6 from rfl, pk_mul, nI_add]
    have i1 : vp_in (nI k) 6 := vp_in_nI (by omega) (by decide)
    have i2 : vp_in (nI p * 6 + nI k) 36 := by rw [e2]; exact vp_in_nI (by omega) (by decide)
    have c1 : (nI k).toNatClampNeg = k := nI_clamp (by omega)
    have c2 : (nI p * 6 + nI k).toNatClampNeg = p * 6 + k := by rw [e2]; exact nI_clamp (by omega)
    exact pk_le 6 k (fun z => absurd z (by omega)) (fun _ => ⟨i1, i2, nm_r (e' := ur_cp tY it p (k + 1))
      (by rw [c1, c2]; exact ur_cps tY it p k) (nm_r (nI_1 k) (ih (k + 1) (by omega)))⟩)
theorem ur_two {p : Nat} (hp : p < 6) : ∀ d a, a + d = 2 → ∀ (hr rd tX b la lp ln sm yr it tY am pe : Nat → Int32), ur_P hr rd tX la lp ln yr it tY am pe →
    ∃ (u' : SX) (v' : SY), ur_R (p + 1) u' v' ∧
    (∀ post : Int32 → SX → Prop, post (nI p) u' → wX_close_31 post (nI p) (d + 1) (nI a) (nI (p + 1)) hr rd tX b la lp ln sm) ∧
    (∀ post : Int32 → SY → Prop, post (nI p) v' → wY_close_57 post (nI p) (d + 1) (nI a) (nI (p + 1)) yr it tY b ln sm am pe) := by
  intro d
  induction d with
  | zero =>
    intro a ha hr rd tX b la lp ln sm yr it tY am pe Q
    exact ⟨_, _, ⟨hr, rd, tX, b, la, lp, ln, sm, yr, it, tY, am, pe, rfl, rfl, Q⟩, fun post h => pk_le 2 a (fun _ => h) (fun z => absurd z (by omega)), fun post h => pk_le 2 a (fun _ => h) (fun z => absurd z (by omega))⟩
  | succ d ih =>
    intro a ha hr rd tX b la lp ln sm yr it tY am pe Q
    have e6 : nI a * 6 + nI p = nI (a * 6 + p) := by rw [show (6 : Int32) = nI 6 from rfl, pk_mul, nI_add]
    have j6 : vp_in (nI a * 6 + nI p) 12 := by rw [e6]; exact vp_in_nI (by omega) (by decide)
    have d6 : (nI a * 6 + nI p).toNatClampNeg = a * 6 + p := by rw [e6]; exact nI_clamp (by omega)
    obtain ⟨q, aX, aY⟩ := ur_amount (c := p + 1) (a := a) (bX := b) (la := la) (lp := lp) (lX := ln) (sX := sm) (bY := b) (lY := ln) (sY := sm) (am := am) (pe := pe) Q.1 Q.2.1 (by omega) (by omega) (p := p) hp
    obtain ⟨la1, lp1, ln1, sm1, am1, pe1, Q1, X1, Y1⟩ := ur_add (sm := sm) Q (a := a) (by omega) (nI p) q
    obtain ⟨u', v', K, hX, hY⟩ := ih (a + 1) (by omega) hr rd tX (upd b (a * 6 + p) q) la1 lp1 ln1 sm1 yr it tY am1 pe1 Q1
    refine ⟨u', v', K, fun post h => ?_, fun post h => ?_⟩
    · exact pk_le 2 a (fun z => absurd z (by omega)) (fun _ => aX _ ⟨j6, nm_r (e' := upd b (a * 6 + p) q) (by rw [d6]) (X1 _ _ _ (nm_r (nI_1 a) (hX post h)))⟩)
    · exact pk_le 2 a (fun z => absurd z (by omega)) (fun _ => aY _ ⟨j6, nm_r (e' := upd b (a * 6 + p) q) (by rw [d6]) (Y1 _ _ _ (nm_r (nI_1 a) (hY post h)))⟩)
theorem ur_close {p : Nat} (hp : p < 6) {b ln sm : Nat → Int32} (Q : ur_P hr rd tX la lp ln yr it tY am pe) :
    ∃ (u' : SX) (v' : SY), ur_R (p + 1) u' v' ∧
    (∀ post : Int32 → SX → Prop, post (nI p) u' → wpX_close post (nI p, hr, rd, tX, b, la, lp, ln, sm)) ∧
    (∀ post : Int32 → SY → Prop, post (nI p) v' → wpY_close post (nI p, yr, it, tY, b, ln, sm, am, pe)) := by
  obtain ⟨u', v', K, hX, hY⟩ := ur_two hp 2 0 rfl hr rd (ur_cp tX (fun i => tX (36 + i)) p 6) b la lp ln sm yr it (ur_cp tY it p 6) am pe ⟨Q.1, ur_cp_tf hp Q.2.1, Q.2.2.1, Q.2.2.2⟩
  refine ⟨u', v', K, fun post h => ?_, fun post h => ?_⟩
  · exact pk_lt p 6 (fun _ => ur_xFixA hp (nm_r (nI_1 p) ⟨_, hX post h⟩)) (fun z => absurd z (by omega))
  · have k := ur_yFix (gc := nI p) hp ⟨_, hY post h⟩ 6 0 rfl
    rw [ur_cp0] at k
    exact pk_lt p 6 (fun _ => ⟨_, k⟩) (fun z => absurd z (by omega))
theorem ur_yInit {post : SY → Prop} (h : ∀ yr' : Nat → Int32, (∀ j, j < 96 → yr' j = -1) → post (gc, yr', it, tY, bY, lY, sY, am, pe)) :
    ∀ d k, k + d = 96 → ∀ yr : Nat → Int32, (∀ j, j < k → yr j = -1) → wY_init_68 post gc (d + 1) (nI k) yr it tY bY lY sY am pe := by
  intro d
  induction d with
  | zero =>
    intro k hk yr hy
    exact pk_le 96 k (fun _ => h yr (fun j hj => hy j (by omega))) (fun z => absurd z (by omega))
  | succ d ih =>
    intro k hk yr hy
    have c1 : (nI k).toNatClampNeg = k := nI_clamp (by omega)
    exact pk_le 96 k (fun z => absurd z (by omega)) (fun _ => ⟨vp_in_nI (by omega) (by decide), nm_r (e' := upd yr k (-1)) (by rw [c1]) (nm_r (nI_1 k) (ih (k + 1) (by omega) (upd yr k (-1)) (fun j hj => by
      by_cases e : j = k
      · subst e
        exact pk_us
      · rw [pk_un e]
        exact hy j (by omega))))⟩)
end
