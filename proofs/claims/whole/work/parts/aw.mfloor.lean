/-! Model: floor and improve, that make a row -/
theorem pushC_S {S : ShT} {kd : Nat × Nat} (hS : SHP S) : SHP (pushC S kd) := by
  obtain ⟨h1, h2, h3⟩ := hS
  refine ⟨by show 155 ≤ S.1 + 1; omega, fun a ha => ?_, fun a k ha => ?_⟩
  · show (if a = S.1 then kd else S.2.1 a) = _
    rw [if_neg (by omega)]; exact h2 a ha
  · show (if a = S.1 then 0 else S.2.2 a k) = _
    rw [if_neg (by omega)]; exact h3 a k ha
def frT (σ σ' : StT) : Prop := ∀ b, (b < 125 ∨ b = 154 ∨ BIG ≤ b) → ∀ j, σ' b j = σ b j
theorem frT.rf {σ : StT} : frT σ σ := fun _ _ _ => rfl
theorem frT.trans {σ σ1 σ2 : StT} (h : frT σ σ1) (k : frT σ1 σ2) : frT σ σ2 := fun b hb j => (k b hb j).trans (h b hb j)
theorem frR.T {σ σ' : StT} (h : frR 125 154 σ σ') : frT σ σ' := fun b hb j => h b (by unfold BIG at hb; omega) j
def xS (S S' : ShT) : Prop := SHP S' ∧ S.1 ≤ S'.1 ∧ S'.1 ≤ S.1 + 1 ∧ ∀ b, BIG ≤ b → S'.2.1 b = S.2.1 b
theorem xS.rf {S : ShT} (h : SHP S) : xS S S := ⟨h, Nat.le_refl _, by omega, fun _ _ => rfl⟩
theorem xS.push {S : ShT} {kd : Nat × Nat} (h : SHP S) (hb : S.1 + 1 < BIG) : xS S (pushC S kd) := ⟨pushC_S h, by show S.1 ≤ S.1 + 1; omega, Nat.le_refl _, fun b hB => by show (if b = S.1 then kd else S.2.1 b) = _; rw [if_neg (by omega)]⟩
/-- a call that may make a row -/
def MCm (S : ShT) (y : ME) (as : List AV) (M : Ms) (r : Int × Ms) (nc ns : Nat) : Prop := ∀ (σ : StT) (Q : Int → ShT → StT → Prop), S.1 + 1 < BIG → okM M → mT σ M → (∀ (S' : ShT) (σ' : StT), xS S S' → mT σ' r.2 → frT σ σ' → Q r.1 S' σ') → WPm y as S σ nc ns Q
theorem pushZ_b {σ : StT} {n b j : Nat} (h : b ≠ n) : pushZ σ n b j = σ b j := if_neg h
section GROW
variable {y : ME} {pc : Nat} {ls : List (Nat × AV)} {st : List AV} {S : ShT} {σ : StT} {rc rs : Nat} {Q : Int → ShT → StT → Prop}
theorem g_callVv {z : ME} {o ci n ix : Nat} (as : List AV) (hd : decode (me_c y) pc = .ok (.invokevirtual ix, 3)) (hm : MV z n ci) (hl : LK (me_n y).cls ix (me_n z)) (hn : as.length = n) (hR : fits2 z y = true) (ho : S.2.1 o = (10 + ci, 0)) (hst : (st.map vcat).sum ≤ 8)
    (k : WPs z (vR o :: as) S σ (fun r σ' => AW y (pc + 3) ls (prt (me_r z) r st) S σ' rc rs Q)) : AW y pc ls (as.reverse ++ vR o :: st) S σ rc rs Q := by
  obtain ⟨h1, h2, h3, q, h4, h5⟩ := hm
  have hz : ∀ (r : Int) (S' : ShT) (σ' : StT), (S' = S ∧ AW y (pc + 3) ls (prt (me_r z) r st) S σ' rc rs Q) → AW y (pc + 3) ls (prt (me_r z) r st) S' σ' rc rs Q := fun r S' σ' h => by rw [h.1]; exact h.2
  have := r_callV (rc' := 0) (rs' := 0) (rc := rc) (rs := rs) hd h1 hl h2 h3 h4 h5 hn (fits2_ok hR) (by rw [ho]) hst hz k
  rw [Nat.zero_add, Nat.zero_add] at this; exact this
end GROW
theorem w_newZ : Cond.arrayClass (newarray.typeOf .boolean) ∈ GB := gb_in (by decide +kernel) (by decide +kernel)
theorem w_newI : Cond.arrayClass (newarray.typeOf .int) ∈ GB := gb_in (by decide +kernel) (by decide +kernel)
theorem brd_sym (G : Geo) (H : Int × Int) (T : Tr) (a b : Nat) : brd G H T a b = brd G H T b a := by
  unfold brd
  rw [apd_sym G H (tB T b) (tB T a), apd_sym G H (tB T b) (tE G T a), apd_sym G H (tE G T b) (tB T a), apd_sym G H (tE G T b) (tE G T a)]
  omega
theorem brd_i {G : Geo} {H : Int × Int} {T : Tr} (hG : okG G) (hH : okH H) (a b : Nat) : 0 ≤ brd G H T a b ∧ brd G H T a b ≤ 400 := by
  have h1 := apd_in hG hH (tB T a) (tB T b)
  have h2 := apd_in hG hH (tB T a) (tE G T b)
  have h3 := apd_in hG hH (tE G T a) (tB T b)
  have h4 := apd_in hG hH (tE G T a) (tE G T b)
  unfold brd; omega
theorem brh_i {G : Geo} {H : Int × Int} {T : Tr} (hG : okG G) (hH : okH H) (a : Nat) : 0 ≤ brh G H T a ∧ brh G H T a ≤ 400 := by
  have h1 := apd_in hG hH (-1) (tB T a)
  have h2 := apd_in hG hH (-1) (tE G T a)
  unfold brh; omega
theorem na_J {J : Nat → Bool} {w : Nat → Int} : ∀ {t : Nat}, na J w t ≠ -1 → J (na J w t).toNat = false
  | 0, h => absurd rfl h
  | t + 1, h => by
    unfold na at h ⊢
    by_cases c : J t = false ∧ (na J w t = -1 ∨ w t < w (na J w t).toNat)
    · rw [if_pos c, tn_cast]; exact c.1
    · rw [if_neg c] at h ⊢; exact na_J h
theorem na_no {J : Nat → Bool} {w : Nat → Int} : ∀ {t : Nat}, na J w t = -1 → ∀ i, i < t → J i = true
  | 0, _, i, hi => by omega
  | t + 1, h, i, hi => by
    unfold na at h
    by_cases c : J t = false ∧ (na J w t = -1 ∨ w t < w (na J w t).toNat)
    · rw [if_pos c] at h; omega
    · rw [if_neg c] at h
      by_cases e : i = t
      · subst e
        cases d : J i with
        | true => rfl
        | false => exact absurd ⟨d, Or.inl h⟩ c
      · exact na_no h i (by omega)
theorem cnt_all {J : Nat → Bool} : ∀ {n : Nat}, (∀ i, i < n → J i = true) → cnt J n = n
  | 0, _ => rfl
  | n + 1, h => by rw [cnt_s, cnt_all (fun i hi => h i (by omega)), h n (by omega), if_pos rfl]
theorem cnt_jn {J : Nat → Bool} {x : Nat} (hx : J x = false) : ∀ n : Nat, cnt (jn J x) n = cnt J n + if x < n then 1 else 0
  | 0 => by rw [if_neg (by omega)]; rfl
  | n + 1 => by
    rw [cnt_s, cnt_s, cnt_jn hx n]
    unfold jn
    by_cases e : n = x
    · subst e; rw [hx]; simp
    · have : decide (n = x) = false := decide_eq_false e
      rw [this, Bool.or_false]
      by_cases c : x < n
      · rw [if_pos c, show (if x < n + 1 then 1 else 0) = 1 from if_pos (by omega)]; omega
      · rw [if_neg c, show (if x < n + 1 then 1 else 0) = 0 from if_neg (by omega)]; omega
section MFLOOR
variable {S : ShT} {σ : StT} {Q : Int → StT → Prop} {D : Dw} {N : Nat} {f : Nat → Nat} {M : Ms}
/-- from a trail to another one, or to home -/
noncomputable def bo (D : Dw) (t o : Nat) : Int := if o = (TT D).length then brh (gG D) (hm D) (TT D) t else brd (gG D) (hm D) (TT D) t o
theorem m_branch {t o : Nat} (hS : SHP S) (h : wQ σ D N f) (ht : t < (TT D).length) (hoT : o ≤ (TT D).length) (hQ : Q (bo D t o) σ) : WPs mX11_branch [vR 125, vI (t : Int), vI (o : Int)] S σ Q := by
  have hl := h.1.le
  have e50 : σ 125 50 = (TT D).length := h.2.2.2.2.2.2.2.1
  obtain ⟨b1, b2⟩ := h.be ht
  obtain ⟨k1, k2⟩ := h.1.T.be h.n ht
  refine e_X11_branch hS ?_
  rw [e50, tn_cast, tn_cast]
  unfold bo at hQ
  refine ⟨fun q => ?_, fun q => ?_⟩
  · have ho : o < (TT D).length := by omega
    rw [if_neg (by omega)] at hQ
    obtain ⟨c1, c2⟩ := h.be ho
    obtain ⟨j1, j2⟩ := h.1.T.be h.n ho
    rw [b1, c1]
    refine ⟨⟨by omega, by omega⟩, ⟨by omega, by omega⟩, m_mds hS h k1 j1 ⟨⟨by omega, by omega⟩, ⟨by omega, by omega⟩, ?_⟩⟩
    rw [b1, c2]
    refine m_mds hS h k1 j2 ⟨⟨by omega, by omega⟩, ⟨by omega, by omega⟩, ?_⟩
    rw [b2, c1]
    refine m_mds hS h k2 j1 ⟨⟨by omega, by omega⟩, ⟨by omega, by omega⟩, ?_⟩
    rw [b2, c2]
    refine m_mds hS h k2 j2 ?_
    have hb : brd (gG D) (hm D) (TT D) t o = min (min (mds (gG D) (tB (TT D) t) (tB (TT D) o)) (mds (gG D) (tB (TT D) t) (tE (gG D) (TT D) o))) (min (mds (gG D) (tE (gG D) (TT D) t) (tB (TT D) o)) (mds (gG D) (tE (gG D) (TT D) t) (tE (gG D) (TT D) o))) := by
      unfold brd
      rw [apd_mds, apd_mds, apd_mds, apd_mds]
    rw [hb] at hQ
    generalize mds (gG D) (tB (TT D) t) (tB (TT D) o) = x1 at hQ ⊢
    generalize mds (gG D) (tB (TT D) t) (tE (gG D) (TT D) o) = x2 at hQ ⊢
    generalize mds (gG D) (tE (gG D) (TT D) t) (tB (TT D) o) = x3 at hQ ⊢
    generalize mds (gG D) (tE (gG D) (TT D) t) (tE (gG D) (TT D) o) = x4 at hQ ⊢
    have fin : ∀ z : Int, z = min (min x1 x2) (min x3 x4) → Q z σ := fun z hz => by rw [hz]; exact hQ
    exact ⟨fun q1 => ⟨fun q2 => ⟨fun q3 => fin _ (by omega), fun q3 => fin _ (by omega)⟩, fun q2 => ⟨fun q3 => fin _ (by omega), fun q3 => fin _ (by omega)⟩⟩, fun q1 => ⟨fun q2 => ⟨fun q3 => fin _ (by omega), fun q3 => fin _ (by omega)⟩, fun q2 => ⟨fun q3 => fin _ (by omega), fun q3 => fin _ (by omega)⟩⟩⟩
  · rw [if_pos (by omega)] at hQ
    rw [b1]
    refine ⟨⟨by omega, by omega⟩, m_fromHome hS h k1 ⟨⟨by omega, by omega⟩, ?_⟩⟩
    rw [b2]
    refine m_fromHome hS h k2 ?_
    unfold brh at hQ
    refine ⟨fun q => ?_, fun q => ?_⟩
    · rw [Int.min_eq_right q] at hQ; exact hQ
    · rw [Int.min_eq_left (by omega)] at hQ; exact hQ
theorem floor_go {a : Nat} (hS : SHP S) (ha : S.2.1 a = (2, 25)) (h155 : 155 ≤ a) (h : wQ σ D N f) (hQ : ∀ σ' : StT, fr [a] σ σ' → Q (flr (gG D) (hm D) (TT D)) σ') : ∀ (n k : Nat) (J : Nat → Bool) (w : Nat → Int) (sum : Int) (σ2 : StT), n + k = (TT D).length → fr [a] σ σ2 → (∀ t, t < (TT D).length → σ2 a t = if J t = true then 1 else 0) → σ2 a (TT D).length = 1 → cnt J (TT D).length = k → (∀ t, 0 ≤ w t ∧ w t ≤ 400) → (∀ t, w t ≤ brh (gG D) (hm D) (TT D) t) → (∀ t o, o < (TT D).length → J o = true → w t ≤ brd (gG D) (hm D) (TT D) t o) → (∀ t, w t = brh (gG D) (hm D) (TT D) t ∨ ∃ o, o < (TT D).length ∧ J o = true ∧ w t = brd (gG D) (hm D) (TT D) t o) → 0 ≤ sum → sum ≤ 400 * k → flr (gG D) (hm D) (TT D) = sum + pm (gG D) (hm D) (TT D) (TT D).length n J w → AWs mX11_floor 26 [(0, vR 125), (1, vR a), (2, vI sum), (3, vI (k : Int))] [] S σ2 Q := by
  have hl := h.1.le
  intro n
  induction n with
  | zero =>
    intro k J w sum σ2 hk F hJ hT hc hw w1 w2 w3 s0 s1 e
    refine t_X11_floor_26 hS ha ?_
    have e50 : σ2 125 50 = (TT D).length := by rw [F 125 (by simp; omega)]; exact h.2.2.2.2.2.2.2.1
    rw [e50]
    refine ⟨fun _ => ?_, fun q => absurd (by omega) q⟩
    have e' : flr (gG D) (hm D) (TT D) = sum := by rw [e]; show sum + 0 = sum; omega
    rw [← e']; exact hQ σ2 F
  | succ n ih =>
    intro k J w sum σ2 hk F hJ hT hc hw w1 w2 w3 s0 s1 e
    have e50 : σ2 125 50 = (TT D).length := by rw [F 125 (by simp; omega)]; exact h.2.2.2.2.2.2.2.1
    have wq : wQ σ2 D N f := h.ext (fun b hb => F b (by simp; omega)) (fun j _ => F 125 (by simp; omega) j)
    refine t_X11_floor_26 hS ha ?_
    rw [e50]
    refine ⟨fun q => absurd q (by omega), fun _ => ?_⟩
    -- the trails
    refine lupg (α := Int × Int) (I := fun t x => 0 ≤ t ∧ t ≤ ((TT D).length : Int) ∧ x.1 = na J w t.toNat ∧ x.2 = if na J w t.toNat = -1 then 1000000 else w (na J w t.toNat).toNat) (W := fun t x => AWs mX11_floor 45 [(0, vR 125), (1, vR a), (2, vI sum), (3, vI (k : Int)), (4, vI x.1), (5, vI x.2), (6, vI t)] [] S σ2 Q) ((TT D).length : Int) ?_ ?_ 0 (-1, 1000000) ⟨by omega, by omega, rfl, rfl⟩
    · rintro t ⟨x, y⟩ ⟨t0, t1, t2, t3⟩ hge
      simp only at t2 t3
      have et : t = ((TT D).length : Int) := by omega
      subst et
      rw [tn_cast] at t2 t3
      show AWs mX11_floor 45 [(0, vR 125), (1, vR a), (2, vI sum), (3, vI (k : Int)), (4, vI x), (5, vI y), (6, vI ((TT D).length : Int))] [] S σ2 Q
      refine t_X11_floor_45 hS ha ?_
      rw [e50]
      refine ⟨fun _ => ?_, fun q => absurd (by omega) q⟩
      have hin := na_in J w (TT D).length
      have hne : na J w (TT D).length ≠ -1 := fun c => by
        have := cnt_all (na_no c)
        omega
      have hJx := na_J hne
      rw [if_neg hne] at t3
      obtain ⟨z, hz⟩ := nat_of (show 0 ≤ na J w (TT D).length by omega)
      rw [hz, tn_cast] at t3 hJx
      rw [hz] at t2
      rw [pm, if_neg hne, hz, tn_cast] at e
      subst t2 t3
      have hwz := hw z
      have hzT : z < (TT D).length := by omega
      rw [tn_cast]
      refine ⟨⟨by omega, by omega⟩, inR_s (by omega) (by omega), inR_s (by omega) (by omega), ?_⟩
      refine ih (k + 1) (jn J z) (fun t => min (w t) (brd (gG D) (hm D) (TT D) z t)) (sum + w z) (up2 σ2 a z 1) (by omega) (F.put (by simp)) (fun t ht => ?_) (by rw [up2_i (by omega)]; exact hT) ?_ (fun t => ?_) (fun t => ?_) (fun t o h1 h2 => ?_) (fun t => ?_) (by omega) (by omega) (by rw [e]; omega)
      · by_cases c : t = z
        · subst c; rw [up2_s]; simp [jn]
        · rw [up2_i c, hJ t ht]; simp [jn, c]
      · rw [cnt_jn hJx, if_pos hzT, hc]
      · have := hw t
        have := brd_i (T := TT D) h.1.G h.1.H z t
        show 0 ≤ min (w t) (brd (gG D) (hm D) (TT D) z t) ∧ min (w t) (brd (gG D) (hm D) (TT D) z t) ≤ 400
        omega
      · have := w1 t
        show min (w t) (brd (gG D) (hm D) (TT D) z t) ≤ _
        omega
      · show min (w t) (brd (gG D) (hm D) (TT D) z t) ≤ _
        by_cases c : o = z
        · subst c; rw [brd_sym (gG D) (hm D) (TT D) t o]; omega
        · have hJo : J o = true := by
            unfold jn at h2
            rw [decide_eq_false c, Bool.or_false] at h2; exact h2
          have := w2 t o h1 hJo
          omega
      · show min (w t) (brd (gG D) (hm D) (TT D) z t) = _ ∨ ∃ o, o < (TT D).length ∧ jn J z o = true ∧ min (w t) (brd (gG D) (hm D) (TT D) z t) = _
        by_cases c : w t ≤ brd (gG D) (hm D) (TT D) z t
        · rw [Int.min_eq_left c]
          rcases w3 t with q | ⟨o, o1, o2, o3⟩
          · exact Or.inl q
          · exact Or.inr ⟨o, o1, by unfold jn; rw [o2]; rfl, o3⟩
        · rw [Int.min_eq_right (by omega)]
          exact Or.inr ⟨z, hzT, by unfold jn; simp, brd_sym _ _ _ _ _⟩
    · rintro t ⟨x, y⟩ ⟨t0, t1, t2, t3⟩ hlt kk
      simp only at t2 t3
      obtain ⟨t, rfl⟩ := nat_of t0
      have ht : t < (TT D).length := by omega
      rw [tn_cast] at t2 t3
      have hin := na_in J w t
      have hwt := hw t
      have ns : na J w (t + 1) = if J t = false ∧ (na J w t = -1 ∨ w t < w (na J w t).toNat) then (t : Int) else na J w t := rfl
      have hy : J t = false → ((na J w t = -1 ∨ w t < w (na J w t).toNat) ↔ w t < y) := fun _ => by
        rw [t3]
        by_cases c : na J w t = -1
        · rw [if_pos c]; exact ⟨fun _ => by omega, fun _ => Or.inl c⟩
        · rw [if_neg c]; exact ⟨fun q => q.resolve_left c, fun q => Or.inr q⟩
      -- behind the scan of a trail
      have fin : ∀ x' y' : Int, (if J t = false ∧ w t < y then x' = t ∧ y' = w t else x' = x ∧ y' = y) → inR ((t : Int) + 1) ∧ AWs mX11_floor 45 [(0, vR 125), (1, vR a), (2, vI sum), (3, vI (k : Int)), (4, vI x'), (5, vI y'), (6, vI ((t : Int) + 1))] [] S σ2 Q := fun x' y' hh => by
        refine ⟨inR_s (by omega) (by omega), kk (x', y') ⟨by omega, by omega, ?_, ?_⟩⟩
        · rw [show ((t : Int) + 1).toNat = t + 1 from rfl]
          show x' = _
          by_cases c : J t = false ∧ w t < y
          · rw [if_pos c] at hh
            rw [ns, if_pos ⟨c.1, (hy c.1).mpr c.2⟩]; exact hh.1
          · rw [if_neg c] at hh
            rw [ns, if_neg (fun q => c ⟨q.1, (hy q.1).mp q.2⟩), hh.1]; exact t2
        · rw [show ((t : Int) + 1).toNat = t + 1 from rfl]
          show y' = _
          by_cases c : J t = false ∧ w t < y
          · rw [if_pos c] at hh
            have ns' : na J w (t + 1) = t := ns.trans (if_pos ⟨c.1, (hy c.1).mpr c.2⟩)
            rw [ns', if_neg (by omega), tn_cast]; exact hh.2
          · rw [if_neg c] at hh
            have ns' : na J w (t + 1) = na J w t := ns.trans (if_neg (fun q => c ⟨q.1, (hy q.1).mp q.2⟩))
            rw [ns', hh.2]; exact t3
      show AWs mX11_floor 45 [(0, vR 125), (1, vR a), (2, vI sum), (3, vI (k : Int)), (4, vI x), (5, vI y), (6, vI (t : Int))] [] S σ2 Q
      refine t_X11_floor_45 hS ha ?_
      rw [e50]
      refine ⟨fun q => absurd q (by omega), fun _ => ?_⟩
      have hat := hJ t ht
      cases hJt : J t with
      | true =>
        rw [hJt, if_pos rfl] at hat
        refine t_X11_floor_57 hS ha ?_
        rw [e50, tn_cast, hat]
        have := fin x y (by rw [if_neg (fun c => by rw [hJt] at c; cases c.1)]; exact ⟨rfl, rfl⟩)
        exact ⟨fun _ => this, fun _ => ⟨⟨by omega, by omega⟩, fun _ => this, fun c => absurd c (by decide)⟩⟩
      | false =>
        rw [hJt, if_neg (by simp)] at hat
        refine lupg (α := Int × Int) (I := fun o x' => 0 ≤ o ∧ o ≤ ((TT D).length : Int) + 1 ∧ (∀ o' : Nat, (o' : Int) < o → (o' = (TT D).length ∨ J o' = true) → x'.2 ≤ bo D t o') ∧ ((x'.1 = x ∧ x'.2 = y) ∨ (x'.1 = t ∧ x'.2 < y ∧ ∃ o' : Nat, o' ≤ (TT D).length ∧ (o' = (TT D).length ∨ J o' = true) ∧ x'.2 = bo D t o'))) (W := fun o x' => AWs mX11_floor 57 [(0, vR 125), (1, vR a), (2, vI sum), (3, vI (k : Int)), (4, vI x'.1), (5, vI x'.2), (6, vI (t : Int)), (7, vI o)] [] S σ2 Q) (((TT D).length : Int) + 1) ?_ ?_ 0 (x, y) ⟨by omega, by omega, fun o' ho' => by omega, Or.inl ⟨rfl, rfl⟩⟩
        · rintro o ⟨x', y'⟩ ⟨o0, o1, o2, o3⟩ hge
          simp only at o2 o3
          show AWs mX11_floor 57 [(0, vR 125), (1, vR a), (2, vI sum), (3, vI (k : Int)), (4, vI x'), (5, vI y'), (6, vI (t : Int)), (7, vI o)] [] S σ2 Q
          refine t_X11_floor_57 hS ha ?_
          rw [e50]
          refine ⟨fun _ => fin x' y' ?_, fun q => absurd (by omega) q⟩
          -- least
          have wle : ∀ o' : Nat, o' ≤ (TT D).length → (o' = (TT D).length ∨ J o' = true) → w t ≤ bo D t o' := fun o' h1 h2 => by
            unfold bo
            by_cases c : o' = (TT D).length
            · rw [if_pos c]; exact w1 t
            · rw [if_neg c]; exact w2 t o' (by omega) (h2.resolve_left c)
          have wat : ∃ o' : Nat, o' ≤ (TT D).length ∧ (o' = (TT D).length ∨ J o' = true) ∧ w t = bo D t o' := by
            rcases w3 t with q | ⟨o', q1, q2, q3⟩
            · exact ⟨(TT D).length, Nat.le_refl _, Or.inl rfl, by unfold bo; rw [if_pos rfl]; exact q⟩
            · exact ⟨o', by omega, Or.inr q2, by unfold bo; rw [if_neg (by omega)]; exact q3⟩
          obtain ⟨ow, ow1, ow2, ow3⟩ := wat
          have yle := o2 ow (by omega) ow2
          rw [← ow3] at yle
          by_cases c : w t < y
          · rw [if_pos ⟨hJt, c⟩]
            rcases o3 with ⟨q1, q2⟩ | ⟨q1, q2, o', q3, q4, q5⟩
            · omega
            · have := wle o' q3 q4
              exact ⟨q1, by omega⟩
          · rw [if_neg (fun q => c q.2)]
            rcases o3 with ⟨q1, q2⟩ | ⟨q1, q2, o', q3, q4, q5⟩
            · exact ⟨q1, q2⟩
            · have := wle o' q3 q4
              omega
        · rintro o ⟨x', y'⟩ ⟨o0, o1, o2, o3⟩ hlt2 kk2
          simp only at o2 o3
          obtain ⟨o, rfl⟩ := nat_of o0
          have hoT : o ≤ (TT D).length := by omega
          show AWs mX11_floor 57 [(0, vR 125), (1, vR a), (2, vI sum), (3, vI (k : Int)), (4, vI x'), (5, vI y'), (6, vI (t : Int)), (7, vI (o : Int))] [] S σ2 Q
          have hbo : 0 ≤ bo D t o ∧ bo D t o ≤ 400 := by
            unfold bo
            split
            · exact brh_i h.1.G h.1.H t
            · exact brd_i h.1.G h.1.H t o
          refine t_X11_floor_57 hS ha ?_
          rw [e50, tn_cast, tn_cast, hat]
          refine ⟨fun q => absurd q (by omega), fun _ => ⟨⟨by omega, by omega⟩, fun c => absurd rfl c, fun _ => ⟨⟨by omega, by omega⟩, fun q => ⟨inR_s (by omega) (by omega), kk2 (x', y') ⟨by omega, by omega, fun o' h1 h2 => ?_, o3⟩⟩, fun q => ?_⟩⟩⟩
          · by_cases e : o' = o
            · subst e
              rcases h2 with h2 | h2
              · rw [h2, hT] at q; exact absurd q (by decide)
              · by_cases c : o' = (TT D).length
                · rw [c, hT] at q; exact absurd q (by decide)
                · rw [hJ o' (by omega), h2, if_pos rfl] at q; exact absurd q (by decide)
            · exact o2 o' (by omega) h2
          · have hin2 : o = (TT D).length ∨ J o = true := by
              by_cases c : o = (TT D).length
              · exact Or.inl c
              · right
                rw [hJ o (by omega)] at q
                cases d : J o with
                | true => rfl
                | false => rw [d, if_neg (by simp)] at q; exact absurd rfl q
            refine m_branch hS wq ht hoT ⟨fun q2 => ⟨inR_s (by omega) (by omega), kk2 (x', y') ⟨by omega, by omega, fun o' h1 h2 => ?_, o3⟩⟩, fun q2 => m_branch hS wq ht hoT ⟨inR_s (by omega) (by omega), kk2 ((t : Int), bo D t o) ⟨by omega, by omega, fun o' h1 h2 => ?_, Or.inr ⟨rfl, ?_, o, hoT, hin2, rfl⟩⟩⟩⟩
            · by_cases e : o' = o
              · subst e; exact q2
              · exact o2 o' (by omega) h2
            · show bo D t o ≤ bo D t o'
              by_cases e : o' = o
              · subst e; omega
              · have := o2 o' (by omega) h2; omega
            · show bo D t o < y
              rcases o3 with ⟨r1, r2⟩ | ⟨r1, r2, -⟩ <;> omega
end MFLOOR
