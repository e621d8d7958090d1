/-! Plan: the pen; the longest, the farthest, the lifts -/
section PLANF
variable {S : ShT} {σ : StT} {p : Nat} {Q : Int → StT → Prop} {G : Geo} {H : Int × Int} {T : Tr} {N : Nat} {f : Nat → Nat}
theorem sp_ofPen {a b c w : Int} (hS : SHP S) (hQ : Q (ofP w (a, b, c)) σ) : WPs mX5_ofPen [vI w, vI a, vI b, vI c] S σ Q := by
  unfold ofP at hQ
  refine e_X5_ofPen (p := 51) hS (Or.inl rfl) ⟨fun q => ⟨fun q2 => ?_, fun q2 => ?_⟩, fun q => ?_⟩
  · rw [if_neg q, if_neg q2] at hQ; exact hQ
  · rw [if_neg q, if_pos q2] at hQ; exact hQ
  · rw [if_pos q] at hQ; exact hQ
theorem atT.len {t : Nat} (h : atT σ G T) (ht : t < T.length) : σ 42 t = (tg T t).2.length := by
  obtain ⟨off, -, -, a2, -⟩ := h.at ht; exact a2
theorem atT.lng {t : Nat} (h : atT σ G T) (ht : t < T.length) : σ 45 t = tL G (tg T t).2 := by
  obtain ⟨off, -, -, -, -, a4, -⟩ := h.at ht; exact a4
theorem pS_in {t d : Int} {g : Nat → Int} {b : Int} (hg : ∀ k, 0 ≤ d * g k ∧ d * g k ≤ b) : ∀ (r k : Nat) (c h : Int), c ≤ (pS t d g r k c h).1 ∧ (pS t d g r k c h).1 ≤ c + b * r ∧ h ≤ (pS t d g r k c h).2.1 ∧ (pS t d g r k c h).2.1 ≤ h + r
  | 0, k, c, h => by unfold pS; simp
  | r + 1, k, c, h => by
    have := hg k
    unfold pS
    have e : b * ((r + 1 : Nat) : Int) = b * r + b := by rw [Int.natCast_add, Int.mul_add]; omega
    have hb : 0 ≤ b * (r : Int) := Int.mul_nonneg (by omega) (by omega)
    split
    · have ih := pS_in (t := t) hg r (k + 1) (c + d * g k) (h + 1)
      rw [e]; omega
    · simp only; rw [e]; omega
theorem sp_penAt {dn up t w : Int} (hS : SHP S) (hp : isP p) (h : wP σ G H T) (hf : pl σ p N f) (ho : okF T N f) (hd : σ 4 7 = dn) (hu : σ 4 8 = up) (d0 : 0 ≤ dn) (d9 : dn ≤ 9) (u0 : 0 ≤ up) (u9 : up ≤ 9) (hQ : Q (ofP w (pen G H T N f dn up t)) σ) : WPs mX5_penAt [vR p, vI t, vI w] S σ Q := by
  have hN := ho.1
  have hn := h.n
  have hfl := h.2.2.2.2.2.2.2.1
  have hgl : ∀ i, 0 ≤ up * lg G H T N f i ∧ up * lg G H T N f i ≤ 3600 := fun i => by
    have b2 := lg_in (N := N) (f := f) h i
    exact mul_in (m := 9) (n := 400) u0 u9 b2.1 (by omega)
  have hgs : ∀ s, 0 ≤ dn * sl G s ∧ dn * sl G s ≤ 3600 := fun s => by
    have b2 := sl_in h.1.2.2.1 s
    exact mul_in (m := 9) (n := 400) d0 d9 b2.1 (by omega)
  have hlen : ∀ i, i < N → (tg T (f i / 2)).2.length ≤ 24 := fun i hi => by
    obtain ⟨off, o1, -⟩ := h.2.2.2.2.1.at (ho.2 i hi); omega
  refine e_X5_penAt hS hp ?_
  have key : ∀ (r i : Nat) (c hh : Int), r + i = N → 0 ≤ c → c ≤ 100000 * i → 0 ≤ hh → hh ≤ 24 * i → pen G H T N f dn up t = pA t dn up (lg G H T N f) (fun i => (tg T (f i / 2)).2.length) (fun i k => sl G (rdN G T (f i) k / 2)) r i c hh → AWs mX5_penAt 8 [(0, vR p), (1, vI t), (2, vI w), (3, vI c), (4, vI hh), (5, vI (i : Int))] [] S σ Q := by
    intro r
    induction r with
    | zero =>
      intro i c hh hr c0 c1 h0 h1 e
      refine t_X5_penAt_8 hS hp ?_
      rw [hf.1]
      refine ⟨fun _ => sp_ofPen hS ?_, fun q => absurd (by omega) q⟩
      rw [e] at hQ
      rw [show N = i by omega]; exact hQ
    | succ r ih =>
      intro i c hh hr c0 c1 h0 h1 e
      have hi : i < N := by omega
      have ht := ho.2 i hi
      have hle := h.le
      have b1 := hgl i
      refine t_X5_penAt_8 hS hp ?_
      rw [hf.1]
      refine ⟨fun q => absurd q (by omega), fun _ => sp_leg hS hp h hf ho (by omega) ?_⟩
      rw [hu]
      refine ⟨inR_s (by omega) (by omega), inR_s (by omega) (by omega), fun x hx => ?_⟩
      subst hx
      rw [show pA t dn up (lg G H T N f) (fun i => (tg T (f i / 2)).2.length) (fun i k => sl G (rdN G T (f i) k / 2)) (r + 1) i c hh = (if c + up * lg G H T N f i ≤ t then (if (pS t dn (fun k => sl G (rdN G T (f i) k / 2)) (tg T (f i / 2)).2.length 0 (c + up * lg G H T N f i) hh).2.2 = true then ((pS t dn (fun k => sl G (rdN G T (f i) k / 2)) (tg T (f i / 2)).2.length 0 (c + up * lg G H T N f i) hh).2.1, 1, (i : Int)) else pA t dn up (lg G H T N f) (fun i => (tg T (f i / 2)).2.length) (fun i k => sl G (rdN G T (f i) k / 2)) r (i + 1) (pS t dn (fun k => sl G (rdN G T (f i) k / 2)) (tg T (f i / 2)).2.length 0 (c + up * lg G H T N f i) hh).1 (pS t dn (fun k => sl G (rdN G T (f i) k / 2)) (tg T (f i / 2)).2.length 0 (c + up * lg G H T N f i) hh).2.1) else (hh, 0, (i : Int))) from rfl] at e
      refine ⟨fun q => ?_, fun q => sp_ofPen hS ?_⟩
      · rw [if_pos q] at e
        have hL := hlen i hi
        have hb0 := pS_in (t := t) (d := dn) (g := fun k => sl G (rdN G T (f i) k / 2)) (fun k => hgs _) (tg T (f i / 2)).2.length 0 (c + up * lg G H T N f i) hh
        -- the strokes of the trail
        have key2 : ∀ (r2 k : Nat) (c2 h2 : Int), r2 + k = (tg T (f i / 2)).2.length → 0 ≤ c2 → c2 ≤ 100000 * i + 3600 + 3600 * k → 0 ≤ h2 → h2 ≤ 24 * i + k → pS t dn (fun k => sl G (rdN G T (f i) k / 2)) (tg T (f i / 2)).2.length 0 (c + up * lg G H T N f i) hh = pS t dn (fun k => sl G (rdN G T (f i) k / 2)) r2 k c2 h2 → AWs mX5_penAt 52 [(0, vR p), (1, vI t), (2, vI w), (3, vI c2), (4, vI h2), (5, vI (i : Int)), (6, vI (k : Int))] [] S σ Q := by
          intro r2
          induction r2 with
          | zero =>
            intro k c2 h2 hk c20 c21 h20 h21 e2
            refine t_X5_penAt_52 hS hp (sp_trailAt hS hp hf hN hi ?_)
            rw [tn_cast, h.2.2.2.2.1.len ht]
            refine ⟨⟨by omega, by omega⟩, fun _ => ⟨inR_s (by omega) (by omega), ?_⟩, fun q => absurd (by omega) q⟩
            rw [e2] at e
            rw [show (pS t dn (fun k => sl G (rdN G T (f i) k / 2)) 0 k c2 h2) = (c2, h2, false) from rfl] at e
            rw [if_neg (by simp)] at e
            exact ih (i + 1) c2 h2 (by omega) c20 (by omega) h20 (by omega) e
          | succ r2 ih2 =>
            intro k c2 h2 hk c20 c21 h20 h21 e2
            have hk' : k < (tg T (f i / 2)).2.length := by omega
            obtain ⟨s1, s2⟩ := rdN_ok hn h.2.2.2.2.2 ht hk'
            have b2 := hgs (rdN G T (f i) k / 2)
            refine t_X5_penAt_52 hS hp (sp_trailAt hS hp hf hN hi ?_)
            rw [tn_cast, h.2.2.2.2.1.len ht]
            refine ⟨⟨by omega, by omega⟩, fun q => absurd q (by omega), fun _ => sp_strokeAt hS hp h hf ho hi hk' ⟨by omega, ?_⟩⟩
            rw [show ((rdN G T (f i) k : Int) / 2) = ((rdN G T (f i) k / 2 : Nat) : Int) by omega]
            refine sp_strokeLength hS h.1 s1 ?_
            rw [hd]
            refine ⟨inR_s (by omega) (by omega), inR_s (by omega) (by omega), fun x hx => ?_⟩
            subst hx
            rw [show pS t dn (fun k => sl G (rdN G T (f i) k / 2)) (r2 + 1) k c2 h2 = (if c2 + dn * sl G (rdN G T (f i) k / 2) ≤ t then pS t dn (fun k => sl G (rdN G T (f i) k / 2)) r2 (k + 1) (c2 + dn * sl G (rdN G T (f i) k / 2)) (h2 + 1) else (c2 + dn * sl G (rdN G T (f i) k / 2), h2, true)) from rfl] at e2
            refine ⟨fun q2 => ⟨inR_s (by omega) (by omega), inR_s (by omega) (by omega), ?_⟩, fun q2 => sp_ofPen hS ?_⟩
            · rw [if_pos q2] at e2
              exact ih2 (k + 1) _ _ (by omega) (by omega) (by omega) (by omega) (by omega) e2
            · rw [if_neg q2] at e2
              rw [e2, if_pos rfl] at e
              rw [e] at hQ; exact hQ
        exact key2 _ 0 _ _ rfl (by omega) (by omega) h0 (by omega) rfl
      · rw [if_neg q] at e
        rw [e] at hQ; exact hQ
  exact key N 0 0 0 rfl (by omega) (by omega) (by omega) (by omega) rfl
theorem sp_longestPlace (hS : SHP S) (hp : isP p) (h : wP σ G H T) (hf : pl σ p N f) (ho : okF T N f) (hQ : Q (lgs G T f N) σ) : WPs mX5_longestPlace [vR p] S σ Q := by
  have hN := ho.1
  refine e_X5_longestPlace hS hp ?_
  refine lupg (α := Int × Int) (I := fun i x => 0 ≤ i ∧ i ≤ (N : Int) ∧ x.1 = lgs G T f i.toNat ∧ (x.1 ≠ -2 → x.2 = tL G (tg T (f x.1.toNat / 2)).2)) (W := fun i x => AWs mX5_longestPlace 7 [(0, vR p), (1, vI x.1), (2, vI x.2), (3, vI i)] [] S σ Q) (N : Int) ?_ ?_ 0 (-2, 0) ⟨by omega, by omega, rfl, fun q => absurd rfl q⟩
  · rintro i ⟨x, y⟩ ⟨i0, i1, i2, i3⟩ hge
    have ei : i = (N : Int) := by omega
    subst ei
    refine t_X5_longestPlace_7 hS hp ?_
    rw [hf.1]
    refine ⟨fun _ => ?_, fun q => absurd hge q⟩
    simp only at i2
    rw [i2, tn_cast]; exact hQ
  · rintro i ⟨x, y⟩ ⟨i0, i1, i2, i3⟩ hlt kk
    obtain ⟨i, rfl⟩ := nat_of i0
    simp only [tn_cast] at i2 i3
    have ht := ho.2 i (by omega)
    have hle := h.le
    have hs : lgs G T f (i + 1) = if lgs G T f i = -2 ∨ tL G (tg T (f (lgs G T f i).toNat / 2)).2 < tL G (tg T (f i / 2)).2 then (i : Int) else lgs G T f i := rfl
    refine t_X5_longestPlace_7 hS hp ?_
    rw [hf.1]
    refine ⟨fun q => absurd q (by omega), fun _ => sp_trailAt hS hp hf hN (by omega) ⟨⟨by omega, by omega⟩, fun z hz => ?_⟩⟩
    rw [tn_cast, h.2.2.2.2.1.lng ht] at hz
    subst hz
    have new : lgs G T f (i + 1) = (i : Int) → inR ((i : Int) + 1) ∧ AWs mX5_longestPlace 7 [(0, vR p), (1, vI (i : Int)), (2, vI (tL G (tg T (f i / 2)).2)), (3, vI ((i : Int) + 1))] [] S σ Q := fun e => ⟨inR_s (by omega) (by omega), kk ((i : Int), tL G (tg T (f i / 2)).2) ⟨by omega, by omega, e.symm, fun _ => rfl⟩⟩
    refine ⟨fun q => new ?_, fun q => ⟨fun q2 => ⟨inR_s (by omega) (by omega), kk (x, y) ⟨by omega, by omega, ?_, i3⟩⟩, fun q2 => new ?_⟩⟩
    · rw [hs, if_pos (Or.inl (by omega))]
    · show x = lgs G T f (i + 1)
      rw [hs, ← i2, ← i3 q, if_neg (by omega)]
    · rw [hs, ← i2, ← i3 q, if_pos (Or.inr (by omega))]
theorem sp_farthestLeg (hS : SHP S) (hp : isP p) (h : wP σ G H T) (hf : pl σ p N f) (ho : okF T N f) (hQ : Q (if N = 0 then -2 else (frt (lg G H T N f) N : Int)) σ) : WPs mX5_farthestLeg [vR p] S σ Q := by
  have hN := ho.1
  refine e_X5_farthestLeg hS hp ?_
  rw [hf.1]
  refine ⟨fun q => ?_, fun q => by rw [if_pos (by omega)] at hQ; exact hQ⟩
  rw [if_neg (by omega)] at hQ
  refine lupg (α := Int) (I := fun i x => 1 ≤ i ∧ i ≤ (N : Int) + 1 ∧ x = (frt (lg G H T N f) (i.toNat - 1) : Int)) (W := fun i x => AWs mX5_farthestLeg 14 [(0, vR p), (1, vI x), (2, vI i)] [] S σ Q) ((N : Int) + 1) ?_ ?_ 1 0 ⟨by omega, by omega, rfl⟩
  · rintro i x ⟨i0, i1, rfl⟩ hge
    have ei : i = ((N + 1 : Nat) : Int) := by omega
    subst ei
    refine t_X5_farthestLeg_14 hS hp ?_
    rw [hf.1]
    refine ⟨fun _ => ?_, fun q => absurd (by omega) q⟩
    rw [tn_cast, show N + 1 - 1 = N by omega]; exact hQ
  · rintro i x ⟨i0, i1, rfl⟩ hlt kk
    obtain ⟨i, rfl⟩ := nat_of (show 0 ≤ i by omega)
    obtain ⟨j, rfl⟩ : ∃ j, i = j + 1 := ⟨i - 1, by omega⟩
    rw [tn_cast, show j + 1 - 1 = j by omega]
    have hj := frt_le (lg G H T N f) j
    have hs : frt (lg G H T N f) (j + 1) = if lg G H T N f (frt (lg G H T N f) j) < lg G H T N f (j + 1) then j + 1 else frt (lg G H T N f) j := rfl
    refine t_X5_farthestLeg_14 hS hp ?_
    rw [hf.1]
    refine ⟨fun q => absurd q (by omega), fun _ => sp_leg hS hp h hf ho (by omega) (sp_leg hS hp h hf ho (by omega) ⟨fun q => ⟨inR_s (by omega) (by omega), kk _ ⟨by omega, by omega, ?_⟩⟩, fun q => ⟨inR_s (by omega) (by omega), kk _ ⟨by omega, by omega, ?_⟩⟩⟩)⟩
    · rw [show (((j + 1 : Nat) : Int) + 1).toNat - 1 = j + 1 by omega, hs, if_neg (by omega)]
    · rw [show (((j + 1 : Nat) : Int) + 1).toNat - 1 = j + 1 by omega, hs, if_pos (by omega)]
/-- how many lifts there are among the legs from 1 to below n -/
noncomputable def lif (G : Geo) (H : Int × Int) (T : Tr) (N : Nat) (f : Nat → Nat) (n : Nat) : Nat := cnt (fun i => decide (1 ≤ i) && decide (0 < lg G H T N f i)) n
theorem sp_lifts (hS : SHP S) (hp : isP p) (h : wP σ G H T) (hf : pl σ p N f) (ho : okF T N f) (hQ : Q (lif G H T N f N : Int) σ) : WPs mX5_liftsBetween [vR p] S σ Q := by
  have hN := ho.1
  refine e_X5_liftsBetween hS hp ?_
  by_cases hz : N = 0
  · subst hz
    refine t_X5_liftsBetween_4 hS hp ?_
    rw [hf.1]
    exact ⟨fun _ => hQ, fun q => absurd (by omega) q⟩
  refine lupg (α := Int) (I := fun i x => 1 ≤ i ∧ i ≤ (N : Int) ∧ x = (lif G H T N f i.toNat : Int)) (W := fun i x => AWs mX5_liftsBetween 4 [(0, vR p), (1, vI x), (2, vI i)] [] S σ Q) (N : Int) ?_ ?_ 1 0 ⟨by omega, by omega, by simp [lif, cnt]⟩
  · rintro i x ⟨i0, i1, rfl⟩ hge
    have ei : i = (N : Int) := by omega
    subst ei
    refine t_X5_liftsBetween_4 hS hp ?_
    rw [hf.1]
    exact ⟨fun _ => hQ, fun q => absurd hge q⟩
  · rintro i x ⟨i0, i1, rfl⟩ hlt kk
    obtain ⟨i, rfl⟩ := nat_of (show 0 ≤ i by omega)
    rw [tn_cast]
    have hs : lif G H T N f (i + 1) = lif G H T N f i + (if (decide (1 ≤ i) && decide (0 < lg G H T N f i)) = true then 1 else 0) := rfl
    have hc := cnt_le (fun i => decide (1 ≤ i) && decide (0 < lg G H T N f i)) i
    have hc2 : lif G H T N f i ≤ i := hc
    have h1 : 1 ≤ i := by omega
    refine t_X5_liftsBetween_4 hS hp ?_
    rw [hf.1]
    refine ⟨fun q => absurd q (by omega), fun _ => sp_leg hS hp h hf ho (by omega) ⟨fun q => ⟨inR_s (by omega) (by omega), kk _ ⟨by omega, by omega, ?_⟩⟩, fun q => ⟨inR_s (by omega) (by omega), inR_s (by omega) (by omega), kk _ ⟨by omega, by omega, ?_⟩⟩⟩⟩
    · rw [show ((i : Int) + 1).toNat = i + 1 from rfl, hs, if_neg (by simp; omega)]; rfl
    · rw [show ((i : Int) + 1).toNat = i + 1 from rfl, hs, if_pos (by simp; omega)]; rfl
end PLANF
