/-! ur: what is owed -/
/-- c periods are closed on both sides; billed, counts and sums are the same functions; reads, tariffs and lines as ur_P says -/
def i_Rel (k : Nat) (u : SX) (v : SY) : Prop := ∃ c : Nat, c ≤ 6 ∧ ur_R c u v
theorem i_up {k : Nat} {u : SX} {v : SY} (h : i_Rel k u v) : i_Rel (k + 4) u v := h
theorem ur_nb1 : ¬ vp_nar .boolean 1 = 0 := by decide
theorem ur_nb0 : vp_nar .boolean 0 = 0 := by decide
theorem ur_m1 : (-1 : Int32) < 0 := by decide
theorem i_vc0 : wpX_init (fun u => wpY_init (fun v => i_Rel 0 u v)) :=
  ⟨_, ur_yInit (fun yr hy => ⟨0, by decide, _, _, _, _, _, _, _, _, _, _, _, _, _, rfl, rfl, fun j hj => Or.inl ⟨rfl, by rw [hy j hj]; exact ur_m1⟩, ⟨fun _ _ => rfl, fun _ _ => rfl⟩, fun _ _ _ _ => rfl, fun _ _ _ _ => rfl⟩) 96 0 rfl (fun _ => 0) (fun j hj => absurd hj (by omega))⟩
theorem i_vc_tariff {k : Nat} {u : SX} {v : SY} (I : i_Rel k u v) (hk : k + 4 ≤ 2048) (v1 : Int32) (v2 : Int32) : wpX_tariff (fun r u' => wpY_tariff (fun r' v' => r' = r ∧ i_Rel (k + 4) u' v') v v1 v2) u v1 v2 := by
  have I0 := I
  obtain ⟨c, hc, hr, rd, tX, b, la, lp, ln, sm, yr, it, tY, am, pe, rfl, rfl, Q⟩ := I
  rcases ur_cut v1 6 with (h | ⟨j, h6, hj, rfl⟩) | ⟨j, hj, rfl⟩
  · exact br_t h (br_t h ⟨rfl, I0⟩)
  · exact br_f (nI_pos hj) (pk_lt j 6 (fun z => absurd z (by omega)) (fun _ => br_f (nI_pos hj) (pk_le j 5 (fun z => absurd z (by omega)) (fun _ => ⟨rfl, I0⟩))))
  · have n0 : ¬ nI j < 0 := nI_pos (by omega)
    by_cases h0 : v2 < 0
    · exact br_f n0 (pk_lt j 6 (fun _ => br_t h0 (br_f n0 (pk_le j 5 (fun _ => br_t h0 ⟨rfl, I0⟩) (fun z => absurd z (by omega))))) (fun z => absurd z (by omega)))
    · by_cases h9 : v2 ≤ 99
      · have e : 36 + nI j = nI (36 + j) := by rw [show (36 : Int32) = nI 36 from rfl, nI_add]
        have i1 : vp_in (nI (36 + j)) 42 := vp_in_nI (by omega) (by decide)
        have c1 : (nI (36 + j)).toNatClampNeg = 36 + j := nI_clamp (by omega)
        have i2 : vp_in (nI j) 6 := vp_in_nI hj (by decide)
        have c2 : (nI j).toNatClampNeg = j := nI_clamp (by omega)
        exact br_f n0 (pk_lt j 6 (fun _ => br_f h0 (br_t h9 (nm_r e ⟨i1, nm_r (e' := it j) (by rw [c1]; exact Q.2.1.2 j hj) ⟨i1, nm_r (e' := upd tX (36 + j) v2) (by rw [c1])
          (br_f n0 (pk_le j 5 (fun _ => br_f h0 (br_t h9 ⟨i2, nm_r (e' := it j) (by rw [c2]) ⟨i2, nm_r (e' := upd it j v2) (by rw [c2]) ⟨rfl, c, hc, _, _, _, _, _, _, _, _, _, _, _, _, _, rfl, rfl, Q.1, ur_tf_set hj Q.2.1, Q.2.2.1, Q.2.2.2⟩⟩⟩)) (fun z => absurd z (by omega))))⟩⟩))) (fun z => absurd z (by omega)))
      · exact br_f n0 (pk_lt j 6 (fun _ => br_f h0 (br_f h9 (br_f n0 (pk_le j 5 (fun _ => br_f h0 (br_f h9 ⟨rfl, I0⟩)) (fun z => absurd z (by omega)))))) (fun z => absurd z (by omega)))
theorem i_vc_read {k : Nat} {u : SX} {v : SY} (I : i_Rel k u v) (hk : k + 4 ≤ 2048) (v1 : Int32) (v2 : Int32) (v3 : Int32) : wpX_read (fun r u' => wpY_read (fun r' v' => r' = r ∧ i_Rel (k + 4) u' v') v v1 v2 v3) u v1 v2 v3 := by
  have I0 := I
  obtain ⟨c, hc, hr, rd, tX, b, la, lp, ln, sm, yr, it, tY, am, pe, rfl, rfl, Q⟩ := I
  unfold wpX_read wpY_read
  dsimp only
  rcases ur_cut v1 2 with h | ⟨a, ha, rfl⟩
  · exact ur_xA0 h (ur_yA0 h ⟨rfl, I0⟩)
  · refine ur_xA1 ha ?_
    rcases ur_cut v2 48 with h | ⟨i, hi, rfl⟩
    · exact ur_xI0 h (ur_yA1 ha (ur_yI0 h ⟨rfl, I0⟩))
    · refine ur_xI1 hi ?_
      by_cases h0 : v3 < 0
      · exact br_t h0 (ur_yA1 ha (ur_yI1 hi (br_t h0 ⟨rfl, I0⟩)))
      · by_cases h9 : v3 ≤ 999
        · have e : nI a * 48 + nI i = nI (a * 48 + i) := by rw [show (48 : Int32) = nI 48 from rfl, pk_mul, nI_add]
          have i1 : vp_in (nI (a * 48 + i)) 96 := vp_in_nI (by omega) (by decide)
          have c1 : (nI (a * 48 + i)).toNatClampNeg = a * 48 + i := nI_clamp (by omega)
          have i2 : vp_in (nI a * 48 + nI i) 96 := by rw [e]; exact i1
          have c2 : (nI a * 48 + nI i).toNatClampNeg = a * 48 + i := by rw [e]; exact c1
          obtain ⟨r, u', v', K, hX, hY⟩ := ur_billA (hr := upd hr (a * 48 + i) (vp_nar .boolean 1)) (rd := upd rd (a * 48 + i) v3) (tX := tX) (la := la) (lp := lp) (yr := upd yr (a * 48 + i) v3) (it := it) (tY := tY) (am := am) (pe := pe) hc ha (b := b) (ln := ln) (sm := sm) ⟨ur_rd_set Q.1 ur_nb1 h0, Q.2⟩
          exact br_f h0 (br_t h9 (nm_r e ⟨i1, nm_r (e' := upd hr (a * 48 + i) (vp_nar .boolean 1)) (by rw [c1]) ⟨i1, nm_r (e' := upd rd (a * 48 + i) v3) (by rw [c1])
            (hX _ (ur_yA1 ha (ur_yI1 hi (br_f h0 (br_t h9 ⟨i2, nm_r (e' := upd yr (a * 48 + i) v3) (by rw [c2]) (hY _ ⟨rfl, c, hc, K⟩)⟩)))))⟩⟩))
        · exact br_f h0 (br_f h9 (ur_yA1 ha (ur_yI1 hi (br_f h0 (br_f h9 ⟨rfl, I0⟩)))))
theorem i_vc_unread {k : Nat} {u : SX} {v : SY} (I : i_Rel k u v) (hk : k + 4 ≤ 2048) (v1 : Int32) (v2 : Int32) : wpX_unread (fun r u' => wpY_unread (fun r' v' => r' = r ∧ i_Rel (k + 4) u' v') v v1 v2) u v1 v2 := by
  have I0 := I
  obtain ⟨c, hc, hr, rd, tX, b, la, lp, ln, sm, yr, it, tY, am, pe, rfl, rfl, Q⟩ := I
  unfold wpX_unread wpY_unread
  dsimp only
  rcases ur_cut v1 2 with h | ⟨a, ha, rfl⟩
  · exact ur_xA0 h (ur_yA0 h ⟨rfl, I0⟩)
  · refine ur_xA1 ha ?_
    rcases ur_cut v2 48 with h | ⟨i, hi, rfl⟩
    · exact ur_xI0 h (ur_yA1 ha (ur_yI0 h ⟨rfl, I0⟩))
    · refine ur_xI1 hi ?_
      have e : nI a * 48 + nI i = nI (a * 48 + i) := by rw [show (48 : Int32) = nI 48 from rfl, pk_mul, nI_add]
      have i1 : vp_in (nI (a * 48 + i)) 96 := vp_in_nI (by omega) (by decide)
      have c1 : (nI (a * 48 + i)).toNatClampNeg = a * 48 + i := nI_clamp (by omega)
      have i2 : vp_in (nI a * 48 + nI i) 96 := by rw [e]; exact i1
      have c2 : (nI a * 48 + nI i).toNatClampNeg = a * 48 + i := by rw [e]; exact c1
      rcases Q.1 (a * 48 + i) (by omega) with ⟨h0, y0⟩ | ⟨h1, e1, y1⟩
      · have y0' : ¬ 0 ≤ yr (a * 48 + i) := fun z => Int32.not_lt.mpr z y0
        exact nm_r e ⟨i1, br_t (by rw [c1]; exact h0) (ur_yA1 ha (ur_yI1 hi ⟨i2, br_f (by rw [c2]; exact y0') ⟨rfl, I0⟩⟩))⟩
      · have y1' : 0 ≤ yr (a * 48 + i) := Int32.not_lt.mp y1
        obtain ⟨r, u', v', K, hX, hY⟩ := ur_billA (hr := upd hr (a * 48 + i) 0) (rd := rd) (tX := tX) (la := la) (lp := lp) (yr := upd yr (a * 48 + i) (-1)) (it := it) (tY := tY) (am := am) (pe := pe) hc ha (b := b) (ln := ln) (sm := sm) ⟨ur_rd_del Q.1 ur_m1, Q.2⟩
        exact nm_r e ⟨i1, br_f (by rw [c1]; exact h1) ⟨i1, nm_r (e' := upd hr (a * 48 + i) 0) (by rw [c1, ur_nb0])
          (hX _ (ur_yA1 ha (ur_yI1 hi ⟨i2, br_t (by rw [c2]; exact y1') ⟨i2, nm_r (e' := upd yr (a * 48 + i) (-1)) (by rw [c2]) (hY _ ⟨rfl, c, hc, K⟩)⟩⟩)))⟩⟩
theorem i_vc_close {k : Nat} {u : SX} {v : SY} (I : i_Rel k u v) (hk : k + 4 ≤ 2048) : wpX_close (fun r u' => wpY_close (fun r' v' => r' = r ∧ i_Rel (k + 4) u' v') v) u := by
  have I0 := I
  obtain ⟨c, hc, hr, rd, tX, b, la, lp, ln, sm, yr, it, tY, am, pe, rfl, rfl, Q⟩ := I
  by_cases h : c < 6
  · obtain ⟨u', v', K, hX, hY⟩ := ur_close h (b := b) (sm := sm) Q
    exact hX _ (hY _ ⟨rfl, c + 1, by omega, K⟩)
  · exact pk_lt c 6 (fun z => absurd z h) (fun _ => pk_lt c 6 (fun z => absurd z h) (fun _ => ⟨rfl, I0⟩))
theorem i_vc_usage {k : Nat} {u : SX} {v : SY} (I : i_Rel k u v) (hk : k + 4 ≤ 2048) (v1 : Int32) (v2 : Int32) : wpX_usage (fun r => wpY_usage (fun r' => r' = r ∧ i_Rel (k + 4) u v) v v1 v2) u v1 v2 := by
  have I0 := I
  obtain ⟨c, hc, hr, rd, tX, b, la, lp, ln, sm, yr, it, tY, am, pe, rfl, rfl, Q⟩ := I
  unfold wpX_usage
  dsimp only
  rcases ur_cut v1 2 with h | ⟨a, ha, rfl⟩
  · exact ur_xA0 h (ur_yA0 (u := (nI c, yr, it, tY, b, ln, sm, am, pe)) h ⟨rfl, I0⟩)
  · refine ur_xA1 ha ?_
    rcases ur_cut v2 48 with h | ⟨i, hi, rfl⟩
    · exact ur_xI0 h (ur_yA1 (u := (nI c, yr, it, tY, b, ln, sm, am, pe)) ha (ur_yI0 (u := (nI c, yr, it, tY, b, ln, sm, am, pe)) h ⟨rfl, I0⟩))
    · obtain ⟨r, hX, hY⟩ := ur_usage (fc := nI c) (gc := nI c) (tX := tX) (bX := b) (la := la) (lp := lp) (lX := ln) (sX := sm) (it := it) (tY := tY) (bY := b) (lY := ln) (sY := sm) (am := am) (pe := pe) Q.1 ha hi
      exact ur_xI1 hi (hX _ rfl _ (hY _ rfl _ ⟨rfl, I0⟩))
theorem i_vc_amount {k : Nat} {u : SX} {v : SY} (I : i_Rel k u v) (hk : k + 4 ≤ 2048) (v1 : Int32) (v2 : Int32) : wpX_amount (fun r => wpY_amount (fun r' => r' = r ∧ i_Rel (k + 4) u v) v v1 v2) u v1 v2 := by
  have I0 := I
  obtain ⟨c, hc, hr, rd, tX, b, la, lp, ln, sm, yr, it, tY, am, pe, rfl, rfl, Q⟩ := I
  unfold wpX_amount
  dsimp only
  rcases ur_cut v1 2 with h | ⟨a, ha, rfl⟩
  · exact ur_xA0 h (ur_yA0 (u := (nI c, yr, it, tY, b, ln, sm, am, pe)) h ⟨rfl, I0⟩)
  · refine ur_xA1 ha ?_
    rcases ur_cut v2 6 with (h | ⟨j, h6, hj, rfl⟩) | ⟨p, hp, rfl⟩
    · exact br_t h (ur_yA1 (u := (nI c, yr, it, tY, b, ln, sm, am, pe)) ha (br_t h ⟨rfl, I0⟩))
    · exact br_f (nI_pos hj) (pk_lt j 6 (fun z => absurd z (by omega)) (fun _ => ur_yA1 (u := (nI c, yr, it, tY, b, ln, sm, am, pe)) ha (br_f (nI_pos hj) (pk_le j 5 (fun z => absurd z (by omega)) (fun _ => ⟨rfl, I0⟩)))))
    · obtain ⟨r, hX, hY⟩ := ur_amount (bX := b) (la := la) (lp := lp) (lX := ln) (sX := sm) (bY := b) (lY := ln) (sY := sm) (am := am) (pe := pe) Q.1 Q.2.1 hc ha hp
      exact br_f (nI_pos (by omega)) (pk_lt p 6 (fun _ => hX _ (hY _ ⟨rfl, I0⟩)) (fun z => absurd z (by omega)))
theorem i_vc_balance {k : Nat} {u : SX} {v : SY} (I : i_Rel k u v) (hk : k + 4 ≤ 2048) (v1 : Int32) : wpX_balance (fun r => wpY_balance (fun r' => r' = r ∧ i_Rel (k + 4) u v) v v1) u v1 := by
  have I0 := I
  obtain ⟨c, hc, hr, rd, tX, b, la, lp, ln, sm, yr, it, tY, am, pe, rfl, rfl, Q⟩ := I
  unfold wpX_balance wpY_balance
  dsimp only
  rcases ur_cut v1 2 with h | ⟨a, ha, rfl⟩
  · exact ur_xA0 h (ur_yA0 h ⟨rfl, I0⟩)
  · have iA : vp_in (nI a) 2 := vp_in_nI ha (by decide)
    exact ur_xA1 ha ⟨iA, ur_yA1 ha ⟨iA, rfl, I0⟩⟩
theorem i_vc_lines {k : Nat} {u : SX} {v : SY} (I : i_Rel k u v) (hk : k + 4 ≤ 2048) (v1 : Int32) : wpX_lines (fun r => wpY_lines (fun r' => r' = r ∧ i_Rel (k + 4) u v) v v1) u v1 := by
  have I0 := I
  obtain ⟨c, hc, hr, rd, tX, b, la, lp, ln, sm, yr, it, tY, am, pe, rfl, rfl, Q⟩ := I
  unfold wpX_lines wpY_lines
  dsimp only
  rcases ur_cut v1 2 with h | ⟨a, ha, rfl⟩
  · exact ur_xA0 h (ur_yA0 h ⟨rfl, I0⟩)
  · have iA : vp_in (nI a) 2 := vp_in_nI ha (by decide)
    exact ur_xA1 ha ⟨iA, ur_yA1 ha ⟨iA, rfl, I0⟩⟩
/-- the two sides find the same line, or none -/
theorem ur_cell {c : Nat} {hr rd tX b la lp ln sm yr it tY am pe : Nat → Int32} (v1 v2 : Int32) :
    ((∀ post : Int32 → Prop, post (-1) → wpX_lineCell post (nI c, hr, rd, tX, b, la, lp, ln, sm) v1 v2) ∧ (∀ post : Int32 → Prop, post 1 → wpY_noLine post (nI c, yr, it, tY, b, ln, sm, am, pe) v1 v2)) ∨
    ∃ a i : Nat, a < 2 ∧ i < 8 ∧ nI a * 8 + v2 = nI (a * 8 + i) ∧ nI a * 8 + v2 = v1 * 8 + v2 ∧
      (∀ post : Int32 → Prop, post (nI (a * 8 + ur_ix (ln a) i)) → wpX_lineCell post (nI c, hr, rd, tX, b, la, lp, ln, sm) v1 v2) ∧ (∀ post : Int32 → Prop, post 0 → wpY_noLine post (nI c, yr, it, tY, b, ln, sm, am, pe) v1 v2) := by
  rcases ur_cut v1 2 with h | ⟨a, ha, rfl⟩
  · refine Or.inl ⟨fun post hp => ?_, fun post hp => ?_⟩
    · exact ur_xA0 h hp
    · exact ur_yA0 (u := (nI c, yr, it, tY, b, ln, sm, am, pe)) h hp
  · have iA : vp_in (nI a) 2 := vp_in_nI ha (by decide)
    have cA : (nI a).toNatClampNeg = a := nI_clamp (by omega)
    rcases ur_cut v2 8 with (h | ⟨j, h8, hj, rfl⟩) | ⟨i, hi, rfl⟩
    · refine Or.inl ⟨fun post hp => ?_, fun post hp => ?_⟩
      · exact ur_xA1 ha (br_t h hp)
      · exact ur_yA1 (u := (nI c, yr, it, tY, b, ln, sm, am, pe)) ha (br_t h hp)
    · refine Or.inl ⟨fun post hp => ?_, fun post hp => ?_⟩
      · exact ur_xA1 ha (br_f (nI_pos hj) (pk_le 8 j (fun _ => hp) (fun z => absurd z (by omega))))
      · exact ur_yA1 (u := (nI c, yr, it, tY, b, ln, sm, am, pe)) ha (br_f (nI_pos hj) (pk_lt 7 j (fun _ => hp) (fun z => absurd z (by omega))))
    · have n0 : ¬ nI i < 0 := nI_pos (by omega)
      by_cases hl : nI i < ln a
      · have e : nI a * 8 + ((ln a - 1 - nI i) &&& 7) = nI (a * 8 + ur_ix (ln a) i) := by
          rw [show (ln a - 1 - nI i) &&& 7 = nI (ur_ix (ln a) i) from pk_and _ 3 (by decide), show (8 : Int32) = nI 8 from rfl, pk_mul, nI_add]
        refine Or.inr ⟨a, i, ha, hi, ?_, rfl, fun post hp => ?_, fun post hp => ?_⟩
        · rw [show (8 : Int32) = nI 8 from rfl, pk_mul, nI_add]
        · exact ur_xA1 ha (br_f n0 (pk_le 8 i (fun z => absurd z (by omega)) (fun _ => ⟨iA, br_t (by rw [cA]; exact hl) ⟨iA, nm_r (e' := ln a - 1 - nI i) (by rw [cA]) (by rw [e]; exact hp)⟩⟩)))
        · exact ur_yA1 (u := (nI c, yr, it, tY, b, ln, sm, am, pe)) ha (br_f n0 (pk_lt 7 i (fun z => absurd z (by omega)) (fun _ => ⟨iA, br_t (by rw [cA]; exact hl) hp⟩)))
      · refine Or.inl ⟨fun post hp => ?_, fun post hp => ?_⟩
        · exact ur_xA1 ha (br_f n0 (pk_le 8 i (fun z => absurd z (by omega)) (fun _ => ⟨iA, br_f (by rw [cA]; exact hl) hp⟩)))
        · exact ur_yA1 (u := (nI c, yr, it, tY, b, ln, sm, am, pe)) ha (br_f n0 (pk_lt 7 i (fun z => absurd z (by omega)) (fun _ => ⟨iA, br_f (by rw [cA]; exact hl) hp⟩)))
theorem ur_nm1 {n : Nat} (h : n < 2 ^ 31) : ¬ nI n = -1 := fun z => nI_pos h (by rw [z]; exact ur_m1)
theorem i_vc_lineAmount {k : Nat} {u : SX} {v : SY} (I : i_Rel k u v) (hk : k + 4 ≤ 2048) (v1 : Int32) (v2 : Int32) : wpX_lineAmount (fun r => wpY_lineAmount (fun r' => r' = r ∧ i_Rel (k + 4) u v) v v1 v2) u v1 v2 := by
  have I0 := I
  obtain ⟨c, hc, hr, rd, tX, b, la, lp, ln, sm, yr, it, tY, am, pe, rfl, rfl, Q⟩ := I
  unfold wpX_lineAmount wpY_lineAmount
  dsimp only
  rcases ur_cell (c := c) (hr := hr) (rd := rd) (tX := tX) (b := b) (la := la) (lp := lp) (ln := ln) (sm := sm) (yr := yr) (it := it) (tY := tY) (am := am) (pe := pe) v1 v2 with ⟨hX, hY⟩ | ⟨a, i, ha, hi, e, e', hX, hY⟩
  · exact hX _ (br_t rfl (hY _ (br_f (by decide) ⟨rfl, I0⟩)))
  · have hx := ur_ix_lt (ln a) i
    have iX : vp_in (nI (a * 8 + ur_ix (ln a) i)) 16 := vp_in_nI (by omega) (by decide)
    have cX : (nI (a * 8 + ur_ix (ln a) i)).toNatClampNeg = a * 8 + ur_ix (ln a) i := nI_clamp (by omega)
    have iY : vp_in (v1 * 8 + v2) 16 := by rw [← e', e]; exact vp_in_nI (by omega) (by decide)
    have cY : (v1 * 8 + v2).toNatClampNeg = a * 8 + i := by rw [← e', e]; exact nI_clamp (by omega)
    exact hX _ (br_f (ur_nm1 (by omega)) ⟨iX, hY _ (br_t rfl ⟨iY, by rw [cX, cY]; exact Q.2.2.1 a ha i hi, I0⟩)⟩)
theorem i_vc_linePeriod {k : Nat} {u : SX} {v : SY} (I : i_Rel k u v) (hk : k + 4 ≤ 2048) (v1 : Int32) (v2 : Int32) : wpX_linePeriod (fun r => wpY_linePeriod (fun r' => r' = r ∧ i_Rel (k + 4) u v) v v1 v2) u v1 v2 := by
  have I0 := I
  obtain ⟨c, hc, hr, rd, tX, b, la, lp, ln, sm, yr, it, tY, am, pe, rfl, rfl, Q⟩ := I
  unfold wpX_linePeriod wpY_linePeriod
  dsimp only
  rcases ur_cell (c := c) (hr := hr) (rd := rd) (tX := tX) (b := b) (la := la) (lp := lp) (ln := ln) (sm := sm) (yr := yr) (it := it) (tY := tY) (am := am) (pe := pe) v1 v2 with ⟨hX, hY⟩ | ⟨a, i, ha, hi, e, e', hX, hY⟩
  · exact hX _ (br_t rfl (hY _ (br_f (by decide) ⟨rfl, I0⟩)))
  · have hx := ur_ix_lt (ln a) i
    have iX : vp_in (nI (a * 8 + ur_ix (ln a) i)) 16 := vp_in_nI (by omega) (by decide)
    have cX : (nI (a * 8 + ur_ix (ln a) i)).toNatClampNeg = a * 8 + ur_ix (ln a) i := nI_clamp (by omega)
    have iY : vp_in (v1 * 8 + v2) 16 := by rw [← e', e]; exact vp_in_nI (by omega) (by decide)
    have cY : (v1 * 8 + v2).toNatClampNeg = a * 8 + i := by rw [← e', e]; exact nI_clamp (by omega)
    exact hX _ (br_f (ur_nm1 (by omega)) ⟨iX, hY _ (br_t rfl ⟨iY, by rw [cX, cY]; exact Q.2.2.2 a ha i hi, I0⟩)⟩)
