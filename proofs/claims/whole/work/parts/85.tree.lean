/-! Trails: the least tree -/
noncomputable def brd (G : Geo) (H : Int × Int) (T : Tr) (a b : Nat) : Int := min (min (apd G H (tB T a) (tB T b)) (apd G H (tB T a) (tE G T b))) (min (apd G H (tE G T a) (tB T b)) (apd G H (tE G T a) (tE G T b)))
noncomputable def brh (G : Geo) (H : Int × Int) (T : Tr) (t : Nat) : Int := min (apd G H (-1) (tB T t)) (apd G H (-1) (tE G T t))
def na (J : Nat → Bool) (w : Nat → Int) : Nat → Int
  | 0 => -1
  | t + 1 => if J t = false ∧ (na J w t = -1 ∨ w t < w (na J w t).toNat) then (t : Int) else na J w t
def jn (J : Nat → Bool) (x : Nat) : Nat → Bool := fun t => J t || decide (t = x)
noncomputable def pm (G : Geo) (H : Int × Int) (T : Tr) (M : Nat) : Nat → (Nat → Bool) → (Nat → Int) → Int
  | 0, _, _ => 0
  | n + 1, J, w => if na J w M = -1 then pm G H T M n J w else w (na J w M).toNat + pm G H T M n (jn J (na J w M).toNat) (fun t => min (w t) (brd G H T (na J w M).toNat t))
noncomputable def flr (G : Geo) (H : Int × Int) (T : Tr) : Int := pm G H T T.length T.length (fun _ => false) (brh G H T)
theorem na_in (J : Nat → Bool) (w : Nat → Int) : ∀ t, na J w t = -1 ∨ 0 ≤ na J w t ∧ na J w t < t
  | 0 => Or.inl rfl
  | t + 1 => by
    unfold na
    have := na_in J w t
    split <;> omega
theorem na_ext {J J' : Nat → Bool} {w w' : Nat → Int} {n : Nat} (h1 : ∀ t, t < n → J t = J' t) (h2 : ∀ t, t < n → w t = w' t) : ∀ k, k ≤ n → na J w k = na J' w' k
  | 0, _ => rfl
  | k + 1, hk => by
    have ih := na_ext h1 h2 k (by omega)
    have hin := na_in J' w' k
    unfold na
    rw [ih, h1 k (by omega), h2 k (by omega)]
    by_cases c : na J' w' k = -1
    · rw [c]; simp
    · rw [h2 (na J' w' k).toNat (by omega)]
section TREE
variable {S : ShT} {σ : StT} {p : Nat} {Q : Int → StT → Prop} {G : Geo} {H : Int × Int} {T : Tr}
theorem brd_in (h : wP σ G H T) (a b : Nat) : 0 ≤ brd G H T a b ∧ brd G H T a b ≤ 400 := by
  have d := fun a b => apd_in (H := H) h.1.2.2.1 h.2.2.2.1 a b
  have d1 := d (tB T a) (tB T b)
  have d2 := d (tB T a) (tE G T b)
  have d3 := d (tE G T a) (tB T b)
  have d4 := d (tE G T a) (tE G T b)
  unfold brd; omega
theorem brh_in (h : wP σ G H T) (a : Nat) : 0 ≤ brh G H T a ∧ brh G H T a ≤ 400 := by
  have d := fun a b => apd_in (H := H) h.1.2.2.1 h.2.2.2.1 a b
  have d1 := d (-1) (tB T a)
  have d2 := d (-1) (tE G T a)
  unfold brh; omega
theorem okS_t {t : Nat} (h : wP σ G H T) (ht : t < T.length) : okS G (tB T t) ∧ okS G (tE G T t) := by
  obtain ⟨a, b⟩ := h.2.2.2.2.2.be h.n ht
  exact ⟨Or.inr ⟨by omega, by omega⟩, Or.inr ⟨by omega, by omega⟩⟩
theorem sp_branch {a b : Nat} (hS : SHP S) (h : wP σ G H T) (ha : a < T.length) (hb : b < T.length) (hQ : Q (brd G H T a b) σ) : WPs mX8_branch [vR 40, vI (a : Int), vI (b : Int)] S σ Q := by
  have hle := h.le
  obtain ⟨a1, a2⟩ := h.be ha
  obtain ⟨b1, b2⟩ := h.be hb
  obtain ⟨sa1, sa2⟩ := okS_t h ha
  obtain ⟨sb1, sb2⟩ := okS_t h hb
  refine e_X8_branch hS ?_
  simp only [tn_cast, a1, a2, b1, b2]
  exact ⟨⟨by omega, by omega⟩, ⟨by omega, by omega⟩, sp_ap hS h sa1 sb1 ⟨⟨by omega, by omega⟩, ⟨by omega, by omega⟩, (by
    rw [a1, b2]
    exact sp_ap hS h sa1 sb2 ⟨⟨by omega, by omega⟩, ⟨by omega, by omega⟩, (by
      rw [a2, b1]
      exact sp_ap hS h sa2 sb1 ⟨⟨by omega, by omega⟩, ⟨by omega, by omega⟩, (by
        rw [a2, b2]
        exact sp_ap hS h sa2 sb2 hQ)⟩)⟩)⟩⟩
theorem sp_nearestTrail {J : Nat → Bool} {w : Nat → Int} (hS : SHP S) (h9 : σ 40 9 = T.length) (hT : T.length ≤ 24) (h49 : ∀ t, t < T.length → σ 49 t = w t) (h50 : ∀ t, t < T.length → σ 50 t = if J t = true then 1 else 0) (hQ : Q (na J w T.length) σ) : WPs mX8_nearestTrail [vR 40] S σ Q := by
  refine e_X8_nearestTrail hS ?_
  refine lupg (α := Int) (I := fun i x => 0 ≤ i ∧ i ≤ (T.length : Int) ∧ x = na J w i.toNat) (W := fun i x => AWs mX8_nearestTrail 4 [(0, vR 40), (1, vI x), (2, vI i)] [] S σ Q) (T.length : Int) ?_ ?_ 0 (-1) ⟨by omega, by omega, rfl⟩
  · rintro i x ⟨i0, i1, rfl⟩ hge
    have ei : i = (T.length : Int) := by omega
    subst ei
    refine t_X8_nearestTrail_4 hS ?_
    rw [h9]
    exact ⟨fun _ => hQ, fun q => absurd hge q⟩
  · rintro i x ⟨i0, i1, rfl⟩ hlt kk
    obtain ⟨i, rfl⟩ := nat_of i0
    rw [tn_cast]
    have hin := na_in J w i
    have hs : na J w (i + 1) = if J i = false ∧ (na J w i = -1 ∨ w i < w (na J w i).toNat) then (i : Int) else na J w i := rfl
    refine t_X8_nearestTrail_4 hS ?_
    rw [h9, tn_cast, h50 i (by omega), h49 i (by omega)]
    have nxt : ∀ v : Int, v = na J w (i + 1) → inR ((i : Int) + 1) ∧ AWs mX8_nearestTrail 4 [(0, vR 40), (1, vI v), (2, vI ((i : Int) + 1))] [] S σ Q := fun v e => ⟨inR_s (by omega) (by omega), kk v ⟨by omega, by omega, e⟩⟩
    refine ⟨fun q => absurd q (by omega), fun _ => ⟨⟨by omega, by omega⟩, fun q => nxt _ ?_, fun q => ⟨fun q2 => nxt _ ?_, fun q2 => ⟨⟨by omega, by omega⟩, ⟨by omega, by omega⟩, ?_⟩⟩⟩⟩
    · have : J i = true := by
        cases c : J i with
        | true => rfl
        | false => rw [c] at q; exact absurd rfl q
      rw [hs, if_neg (by rw [this]; simp)]
    · have : J i = false := by
        cases c : J i with
        | true => rw [c] at q; simp at q
        | false => rfl
      rw [hs, if_pos ⟨this, Or.inl q2⟩]
    · have hj : J i = false := by
        cases c : J i with
        | true => rw [c] at q; simp at q
        | false => rfl
      rw [h49 (na J w i).toNat (by omega)]
      refine ⟨fun q3 => nxt _ ?_, fun q3 => nxt _ ?_⟩
      · rw [hs, if_neg (by rintro ⟨-, c | c⟩ <;> omega)]
      · rw [hs, if_pos ⟨hj, Or.inr (by omega)⟩]
theorem sp_comeNear {x : Nat} {w : Nat → Int} (hS : SHP S) (h : wP σ G H T) (hx : x < T.length) (h49 : ∀ t, t < T.length → σ 49 t = w t) (hQ : ∀ σ' : StT, (∀ t, t < T.length → σ' 49 t = min (w t) (brd G H T x t)) → fr [49] σ σ' → Q 0 σ') : WPs mX8_comeNear [vR 40, vI (x : Int)] S σ Q := by
  have hle := h.le
  refine e_X8_comeNear hS ?_
  refine lup (I := fun i σ' => 0 ≤ i ∧ i ≤ (T.length : Int) ∧ fr [49] σ σ' ∧ ∀ t, t < T.length → σ' 49 t = if (t : Int) < i then min (w t) (brd G H T x t) else w t) (W := fun i σ' => AWs mX8_comeNear 2 [(0, vR 40), (1, vI (x : Int)), (2, vI i)] [] S σ' Q) (T.length : Int) ?_ ?_ 0 σ ⟨by omega, by omega, fr.rf, fun t ht => by rw [if_neg (by omega)]; exact h49 t ht⟩
  · rintro i σ1 ⟨i0, i1, i2, i3⟩ hge
    refine t_X8_comeNear_2 hS ?_
    rw [i2 40 (by decide), h.2.2.2.2.1.1]
    refine ⟨fun _ => hQ σ1 (fun t ht => ?_) i2, fun q => absurd hge q⟩
    rw [i3 t ht, if_pos (by omega)]
  · rintro i σ1 ⟨i0, i1, i2, i3⟩ hlt kk
    obtain ⟨i, rfl⟩ := nat_of i0
    have h1 : wP σ1 G H T := h.ext (lo := 49) (hi := 50) (i2.R (by simp)) (by omega)
    refine t_X8_comeNear_2 hS ?_
    rw [i2 40 (by decide), h.2.2.2.2.1.1]
    refine ⟨fun q => absurd q (by omega), fun _ => ⟨⟨by omega, by omega⟩, sp_branch hS h1 hx (by omega) ⟨⟨by omega, by omega⟩, inR_s (by omega) (by omega), kk _ ⟨by omega, by omega, i2.put (by simp), fun t ht => ?_⟩⟩⟩⟩
    rw [tn_cast]
    by_cases e : t = i
    · subst e; rw [up2_s, if_pos (by omega), i3 t ht, if_neg (by omega)]
    · rw [up2_i e, i3 t ht]
      by_cases c : (t : Int) < i
      · rw [if_pos c, if_pos (by omega)]
      · rw [if_neg c, if_neg (by omega)]
theorem pm_ext {M : Nat} : ∀ (n : Nat) {J J' : Nat → Bool} {w w' : Nat → Int}, (∀ t, t < M → J t = J' t) → (∀ t, t < M → w t = w' t) → pm G H T M n J w = pm G H T M n J' w'
  | 0, _, _, _, _, _, _ => rfl
  | n + 1, J, J', w, w', h1, h2 => by
    have e := na_ext h1 h2 M (Nat.le_refl _)
    have hin := na_in J' w' M
    unfold pm
    rw [e]
    by_cases c : na J' w' M = -1
    · rw [if_pos c, if_pos c]; exact pm_ext n h1 h2
    · rw [if_neg c, if_neg c, h2 _ (by omega)]
      rw [pm_ext n (fun t ht => ?_) (fun t ht => ?_)]
      · unfold jn; rw [h1 t ht]
      · show min (w t) _ = min (w' t) _
        rw [h2 t ht]
theorem sp_leastTree (hS : SHP S) (h : wP σ G H T) (hQ : ∀ σ' : StT, fr [49, 50] σ σ' → Q (flr G H T) σ') : WPs mX8_leastTree [vR 40] S σ Q := by
  have hle := h.le
  refine e_X8_leastTree hS ?_
  refine lup (I := fun i σ' => 0 ≤ i ∧ i ≤ (T.length : Int) ∧ fr [49, 50] σ σ' ∧ ∀ t : Nat, (t : Int) < i → σ' 49 t = brh G H T t ∧ σ' 50 t = 0) (W := fun i σ' => AWs mX8_leastTree 2 [(0, vR 40), (1, vI i)] [] S σ' Q) (T.length : Int) ?_ ?_ 0 σ ⟨by omega, by omega, fr.rf, fun t ht => by omega⟩
  · rintro i σ1 ⟨i0, i1, i2, i3⟩ hge
    refine t_X8_leastTree_2 hS ?_
    rw [i2 40 (by decide), h.2.2.2.2.1.1]
    refine ⟨fun _ => ?_, fun q => absurd hge q⟩
    have key : ∀ (n k : Nat) (J : Nat → Bool) (w : Nat → Int) (sum : Int) (σ2 : StT), n + k = T.length → fr [49, 50] σ σ2 → (∀ t, t < T.length → σ2 49 t = w t) → (∀ t, t < T.length → σ2 50 t = if J t = true then 1 else 0) → (∀ t, 0 ≤ w t ∧ w t ≤ 400) → 0 ≤ sum → sum ≤ 400 * k → flr G H T = sum + pm G H T T.length n J w → AWs mX8_leastTree 64 [(0, vR 40), (1, vI sum), (2, vI (k : Int))] [] S σ2 Q := by
      intro n
      induction n with
      | zero =>
        intro k J w sum σ2 hk F h49 h50 hw s0 s1 e
        refine t_X8_leastTree_64 hS ?_
        rw [F 40 (by decide), h.2.2.2.2.1.1]
        refine ⟨fun _ => ?_, fun q => absurd (by omega) q⟩
        have e' : flr G H T = sum := by rw [e]; show sum + 0 = sum; omega
        rw [← e']; exact hQ σ2 F
      | succ n ih =>
        intro k J w sum σ2 hk F h49 h50 hw s0 s1 e
        have h2 : wP σ2 G H T := h.ext (lo := 49) (hi := 51) (F.R (by simp)) (by omega)
        have hin := na_in J w T.length
        rw [pm] at e
        refine t_X8_leastTree_64 hS ?_
        rw [F 40 (by decide), h.2.2.2.2.1.1]
        refine ⟨fun q => absurd q (by omega), fun _ => sp_nearestTrail hS (by rw [F 40 (by decide)]; exact h.2.2.2.2.1.1) hle h49 h50 ⟨fun q => ⟨inR_s (by omega) (by omega), ?_⟩, fun q => ?_⟩⟩
        · rw [if_pos q] at e
          exact ih (k + 1) J w sum σ2 (by omega) F h49 h50 hw s0 (by omega) e
        · rw [if_neg q] at e
          obtain ⟨x, hx⟩ := nat_of (show 0 ≤ na J w T.length by omega)
          rw [hx, tn_cast] at e
          rw [hx, tn_cast, h49 x (by omega)]
          have hwx := hw x
          refine ⟨⟨by omega, by omega⟩, inR_s (by omega) (by omega), fun y hy => ⟨⟨by omega, by omega⟩, ?_⟩⟩
          subst hy
          have F2 : fr [49, 50] σ (up2 σ2 50 x 1) := F.put (by simp)
          refine sp_comeNear (w := w) hS (h.ext (lo := 49) (hi := 51) (F2.R (by simp)) (by omega)) (by omega) (fun t ht => by rw [up2_a (by decide)]; exact h49 t ht) ?_
          intro σ3 c1 c2
          refine ⟨inR_s (by omega) (by omega), ih (k + 1) (jn J x) (fun t => min (w t) (brd G H T x t)) (sum + w x) σ3 (by omega) (F2.trans (c2.mono (by simp))) c1 (fun t ht => ?_) (fun t => ?_) (by omega) (by omega) (by rw [e]; omega)⟩
          · rw [c2 50 (by decide)]
            by_cases c : t = x
            · subst c; rw [up2_s]; simp [jn]
            · rw [up2_i c, h50 t ht]; simp [jn, c]
          · have := brd_in h x t
            have := hw t
            show 0 ≤ min (w t) (brd G H T x t) ∧ min (w t) (brd G H T x t) ≤ 400
            omega
    refine key T.length 0 (fun _ => false) (brh G H T) 0 σ1 rfl i2 (fun t ht => (i3 t (by omega)).1) (fun t ht => by rw [(i3 t (by omega)).2]; rfl) (fun t => brh_in h t) (by omega) (by omega) ?_
    unfold flr; omega
  · rintro i σ1 ⟨i0, i1, i2, i3⟩ hlt kk
    obtain ⟨i, rfl⟩ := nat_of i0
    have h1 : wP σ1 G H T := h.ext (lo := 49) (hi := 51) (i2.R (by simp)) (by omega)
    obtain ⟨b1, b2⟩ := h1.be (t := i) (by omega)
    obtain ⟨s1, s2⟩ := okS_t h1 (t := i) (by omega)
    refine t_X8_leastTree_2 hS ?_
    rw [i2 40 (by decide), h.2.2.2.2.1.1, tn_cast, b1]
    refine ⟨fun q => absurd q (by omega), fun _ => ⟨⟨by omega, by omega⟩, sp_ap hS h1 (Or.inl rfl) s1 ⟨⟨by omega, by omega⟩, ?_⟩⟩⟩
    rw [b2]
    refine sp_ap hS h1 (Or.inl rfl) s2 ⟨⟨by omega, by omega⟩, ⟨by omega, by omega⟩, inR_s (by omega) (by omega), kk _ ⟨by omega, by omega, (i2.put (by simp)).put (by simp), fun t ht => ?_⟩⟩
    rw [up2_a (show (49 : Nat) ≠ 50 by decide)]
    by_cases e : t = i
    · subst e; rw [up2_s, up2_s]; exact ⟨rfl, rfl⟩
    · rw [up2_i e, up2_i e, up2_a (by decide)]; exact i3 t (by omega)
end TREE
