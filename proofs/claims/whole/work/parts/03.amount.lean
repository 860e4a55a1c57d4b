/-! ur: the amount, both sides in lockstep -/
section
/-- the rate of item i for period p, c periods being closed -/
def ur_T (c p : Nat) (it tY : Nat → Int32) (i : Nat) : Int32 := if c ≤ p then it i else tY (p * 6 + i)
/-- the component's row of period p -/
def ur_row (c p : Nat) : Nat := if c ≤ p then 36 else p * 6
def ur_it (j : Nat) : Nat := if j ≤ 2 then 0 else if j ≤ 4 then 1 else 2
theorem ur_it_lt (j : Nat) : ur_it j < 6 := by
  unfold ur_it
  by_cases h : j ≤ 2
  · rw [if_pos h]; decide
  · rw [if_neg h]
    by_cases h4 : j ≤ 4
    · rw [if_pos h4]; decide
    · rw [if_neg h4]; decide
theorem ur_row_le {c p : Nat} (hp : p < 6) : ur_row c p ≤ 36 := by
  unfold ur_row
  by_cases h : c ≤ p
  · rw [if_pos h]; decide
  · rw [if_neg h]; omega
/-- the greater of what is due and the least -/
def ur_mx (W L : Int32) : Int32 := if L ≤ W then W else L
theorem ur_mx_br {post : Int32 → Prop} {W L : Int32} (h : post (ur_mx W L)) : (L ≤ W → post W) ∧ (¬ L ≤ W → post L) := by
  unfold ur_mx at h
  refine ⟨fun z => ?_, fun z => ?_⟩
  · rw [if_pos z] at h
    exact h
  · rw [if_neg z] at h
    exact h
theorem ur_xItem {post : Int32 → Prop} {j : Nat} (hj : j < 8) (h : post (nI (ur_it j))) : wpX_energyItem post (nI j) := by
  unfold ur_it at h
  exact pk_lt 2 j
    (fun h2 => pk_lt 4 j
      (fun h4 => by rw [if_neg (by omega), if_neg (by omega)] at h; exact h)
      (fun h4 => by rw [if_neg (by omega), if_pos (by omega)] at h; exact h))
    (fun h2 => by rw [if_pos (by omega)] at h; exact h)
variable {fc gc : Int32} {hr rd tX bX la lp lX sX yr it tY bY lY sY am pe : Nat → Int32}
theorem ur_tX (F : ur_Tf tX tY it) {c p i : Nat} (hp : p < 6) (hi : i < 6) : tX (ur_row c p + i) = ur_T c p it tY i := by
  unfold ur_row ur_T
  by_cases h : c ≤ p
  · rw [if_pos h, if_pos h]
    exact F.2 i hi
  · rw [if_neg h, if_neg h]
    exact F.1 _ (by omega)
theorem ur_tXi {c p : Nat} (hp : p < 6) {i : Nat} (hi : i < 6) {y : Int32} (hy : y = nI i) : vp_in (nI (ur_row c p) + y) 42 := by
  subst hy
  have := ur_row_le (c := c) hp
  rw [nI_add]
  exact vp_in_nI (by omega) (by decide)
theorem ur_tXv (F : ur_Tf tX tY it) {c p : Nat} (hp : p < 6) {i : Nat} (hi : i < 6) {y : Int32} (hy : y = nI i) : tX (nI (ur_row c p) + y).toNatClampNeg = ur_T c p it tY i := by
  subst hy
  have := ur_row_le (c := c) hp
  rw [nI_add, nI_clamp (by omega)]
  exact ur_tX F hp hi
theorem ur_yRate {post : Int32 → Prop} {c p i : Nat} (hc : c ≤ 6) (hp : p < 6) (hi : i < 6) {y : Int32} (hy : y = nI i) (h : post (ur_T c p it tY i)) :
    wpY_rate post (nI c, yr, it, tY, bY, lY, sY, am, pe) (nI p) y := by
  subst hy
  have e : nI p * 6 + nI i = nI (p * 6 + i) := by rw [show (6 : Int32) = nI 6 from rfl, pk_mul, nI_add]
  unfold ur_T at h
  refine pk_le c p (fun z => ⟨vp_in_nI hi (by decide), ?_⟩) (fun z => ⟨?_, ?_⟩)
  · rw [if_pos z] at h
    rw [nI_clamp (by omega)]
    exact h
  · rw [e]
    exact vp_in_nI (by omega) (by decide)
  · rw [if_neg (by omega)] at h
    rw [e, nI_clamp (by omega)]
    exact h
theorem ur_x130 (F : ur_Tf tX tY it) {post : Int32 → Prop} {c p : Nat} (hp : p < 6) {e x7 z W : Int32} (hW : e + x7 + z * ur_T c p it tY 4 = W)
    (h : post (ur_mx W (ur_T c p it tY 5 * 1000))) : wX_amountDue_130 post (nI (ur_row c p)) e x7 z fc hr rd tX bX la lp lX sX := by
  refine ⟨ur_tXi hp (i := 4) (by decide) rfl, nm_r (e' := W) ?_ ⟨ur_tXi hp (i := 5) (by decide) rfl, nm_r (e' := ur_T c p it tY 5 * 1000) ?_ (ur_mx_br h)⟩⟩
  · rw [ur_tXv F hp (i := 4) (by decide) (y := 4) rfl]
    exact hW
  · rw [ur_tXv F hp (i := 5) (by decide) (y := 5) rfl]
theorem ur_y159 {post : Int32 → Prop} {c p : Nat} (hc : c ≤ 6) (hp : p < 6) {W : Int32} (h : post (ur_mx W (ur_T c p it tY 5 * 1000))) :
    wY_amount_159 post (nI p) W (nI c) yr it tY bY lY sY am pe := by
  unfold wY_amount_159
  exact ur_yRate (i := 5) hc hp (by decide) rfl (nm_e (ur_mx_br h))
theorem ur_y75 {post : Int32 → Prop} {J : Int32 → Int32 → Int32 → Int32 → Prop} {c p a j i : Nat} (hc : c ≤ 6) (hp : p < 6) (hi : i < 6) {e g s u y : Int32} (hy : y = nI i)
    (h1 : u ≤ g → J (e + u * ur_T c p it tY i) g (s + u) (nI (j + 1))) (h2 : ¬ u ≤ g → J (e + u * ur_T c p it tY i) u (s + u) (nI (j + 1))) :
    wY_amount_75 post J (nI a) (nI p) e g s (nI j) u y (nI c) yr it tY bY lY sY am pe := by
  unfold wY_amount_75
  exact ur_yRate hc hp hi hy (nm_e (nm_e (br_c (fun z => nm_r (nI_1 j) (h1 z)) (fun z => nm_r (nI_1 j) (h2 z)))))
theorem ur_sum (R : ur_Rd hr rd yr) (F : ur_Tf tX tY it) {c a p : Nat} (hc : c ≤ 6) (ha : a < 2) (hp : p < 6) : ∀ d j, j + d = 8 → ∀ e g s : Int32, ∃ r : Int32,
    (∀ post : Int32 → Prop, post r → wX_amountDue_30 post (nI a) (nI p) (nI (ur_row c p)) fc hr rd tX bX la lp lX sX (d + 1) e g s (nI j)) ∧
    (∀ post : Int32 → Prop, post r → wY_amount_33 post (nI a) (nI p) (nI c) yr it tY bY lY sY am pe (d + 1) e g s (nI j)) := by
  intro d
  induction d with
  | zero =>
    intro j hj e g s
    by_cases hs : s ≤ 2000
    · refine ⟨ur_mx (e + g * ur_T c p it tY 3) (ur_T c p it tY 5 * 1000), fun post h => ?_, fun post h => ?_⟩
      · exact pk_le 8 j (fun _ => ⟨ur_tXi hp (i := 3) (by decide) rfl, nm_r (e' := g * ur_T c p it tY 3) (by rw [ur_tXv F hp (i := 3) (by decide) (y := 3) rfl]) (br_t hs (ur_x130 F hp (by grind) h))⟩) (fun h => absurd h (by omega))
      · exact pk_le 8 j (fun _ => ur_yRate (i := 3) hc hp (by decide) rfl (nm_e (br_t hs (ur_y159 hc hp h)))) (fun h => absurd h (by omega))
    · refine ⟨ur_mx (e + g * ur_T c p it tY 3 + (s - 2000) * ur_T c p it tY 4) (ur_T c p it tY 5 * 1000), fun post h => ?_, fun post h => ?_⟩
      · exact pk_le 8 j (fun _ => ⟨ur_tXi hp (i := 3) (by decide) rfl, nm_r (e' := g * ur_T c p it tY 3) (by rw [ur_tXv F hp (i := 3) (by decide) (y := 3) rfl]) (br_f hs (ur_x130 F hp rfl h))⟩) (fun h => absurd h (by omega))
      · exact pk_le 8 j (fun _ => ur_yRate (i := 3) hc hp (by decide) rfl (nm_e (br_f hs (ur_yRate (i := 4) hc hp (by decide) rfl (nm_e (ur_y159 hc hp h)))))) (fun h => absurd h (by omega))
  | succ d ih =>
    intro j hj e g s
    have eP : nI p * 8 + nI j = nI (p * 8 + j) := by rw [show (8 : Int32) = nI 8 from rfl, pk_mul, nI_add]
    obtain ⟨u, uX, uY⟩ := ur_usage (fc := fc) (gc := nI c) (tX := tX) (bX := bX) (la := la) (lp := lp) (lX := lX) (sX := sX) (it := it) (tY := tY) (bY := bY) (lY := lY) (sY := sY) (am := am) (pe := pe) R ha (x := p * 8 + j) (by omega)
    have hi := ur_it_lt j
    have key : ∃ r : Int32,
        (∀ post : Int32 → Prop, post r → (u ≤ g → wX_amountDue_30 post (nI a) (nI p) (nI (ur_row c p)) fc hr rd tX bX la lp lX sX (d + 1) (e + u * ur_T c p it tY (ur_it j)) g (s + u) (nI (j + 1))) ∧
          (¬ u ≤ g → wX_amountDue_30 post (nI a) (nI p) (nI (ur_row c p)) fc hr rd tX bX la lp lX sX (d + 1) (e + u * ur_T c p it tY (ur_it j)) u (s + u) (nI (j + 1)))) ∧
        (∀ post : Int32 → Prop, post r → (u ≤ g → wY_amount_33 post (nI a) (nI p) (nI c) yr it tY bY lY sY am pe (d + 1) (e + u * ur_T c p it tY (ur_it j)) g (s + u) (nI (j + 1))) ∧
          (¬ u ≤ g → wY_amount_33 post (nI a) (nI p) (nI c) yr it tY bY lY sY am pe (d + 1) (e + u * ur_T c p it tY (ur_it j)) u (s + u) (nI (j + 1)))) := by
      by_cases hg : u ≤ g
      · obtain ⟨r, hX, hY⟩ := ih (j + 1) (by omega) (e + u * ur_T c p it tY (ur_it j)) g (s + u)
        exact ⟨r, fun post h => br_t hg (hX post h), fun post h => br_t hg (hY post h)⟩
      · obtain ⟨r, hX, hY⟩ := ih (j + 1) (by omega) (e + u * ur_T c p it tY (ur_it j)) u (s + u)
        exact ⟨r, fun post h => br_f hg (hX post h), fun post h => br_f hg (hY post h)⟩
    obtain ⟨r, hX, hY⟩ := key
    refine ⟨r, fun post h => ?_, fun post h => ?_⟩
    · refine pk_le 8 j (fun h => absurd h (by omega)) (fun _ => uX _ eP _ (ur_xItem (by omega) ⟨ur_tXi hp hi rfl, nm_r (e' := e + u * ur_T c p it tY (ur_it j)) ?_ (nm_e (br_c (fun z => nm_r (nI_1 j) ((hX post h).1 z)) (fun z => nm_r (nI_1 j) ((hX post h).2 z))))⟩))
      rw [ur_tXv F hp hi rfl]
    · refine pk_le 8 j (fun h => absurd h (by omega)) (fun _ => uY _ eP _ ?_)
      unfold ur_it at hi hY
      refine pk_le 3 j (fun h3 => pk_le 5 j (fun h5 => ?_) (fun h5 => ?_)) (fun h3 => ?_)
      · rw [if_neg (by omega), if_neg (by omega)] at hi hY
        exact ur_y75 hc hp hi rfl (hY post h).1 (hY post h).2
      · rw [if_neg (by omega), if_pos (by omega)] at hi hY
        exact ur_y75 hc hp hi rfl (hY post h).1 (hY post h).2
      · rw [if_pos (by omega)] at hi hY
        exact ur_y75 hc hp hi rfl (hY post h).1 (hY post h).2
theorem ur_amount (R : ur_Rd hr rd yr) (F : ur_Tf tX tY it) {c a p : Nat} (hc : c ≤ 6) (ha : a < 2) (hp : p < 6) : ∃ r : Int32,
    (∀ post : Int32 → Prop, post r → wpX_amountDue post (nI c, hr, rd, tX, bX, la, lp, lX, sX) (nI a) (nI p)) ∧
    (∀ post : Int32 → Prop, post r → wpY_amount post (nI c, yr, it, tY, bY, lY, sY, am, pe) (nI a) (nI p)) := by
  obtain ⟨r, hX, hY⟩ := ur_sum (fc := nI c) (bX := bX) (la := la) (lp := lp) (lX := lX) (sX := sX) (bY := bY) (lY := lY) (sY := sY) (am := am) (pe := pe) R F hc ha hp 8 0 rfl 0 0 0
  refine ⟨r, fun post h => ?_, fun post h => ?_⟩
  · have e1 : c ≤ p → (6 : Int32) * 6 = nI (ur_row c p) := fun z => by unfold ur_row; rw [if_pos z]; rfl
    have e2 : p < c → nI p * 6 = nI (ur_row c p) := fun z => by unfold ur_row; rw [if_neg (by omega)]; exact pk_mul p 6
    exact pk_le c p (fun z => nm_r (e1 z) ⟨_, hX post h⟩) (fun z => nm_r (e2 z) ⟨_, hX post h⟩)
  · exact ur_yA1 (u := (nI c, yr, it, tY, bY, lY, sY, am, pe)) ha (br_f (nI_pos (by omega)) (pk_le p 5 (fun _ => ⟨_, hY post h⟩) (fun z => absurd z (by omega))))
end
