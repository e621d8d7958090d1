/-! the reference: the least of all sets -/
/-- a part's odd meetings lie in the row -/
def wB (σ : StT) (G : Geo) (p : Nat) : Prop := rG σ G ∧ okG G ∧ (∀ k, k < mcn G → σ 132 k = fe G k) ∧ σ 125 34 = ocn G p ∧ ocn G p ≤ 14 ∧ ∀ i, i < ocn G p → σ 139 i = ol G p i
theorem wB.ext {σ σ' : StT} {G : Geo} {p : Nat} (h : wB σ G p) (h1 : ∀ j, σ' 127 j = σ 127 j) (h2 : ∀ j, σ' 132 j = σ 132 j) (h3 : σ' 125 34 = σ 125 34) (h4 : ∀ j, σ' 139 j = σ 139 j) : wB σ' G p :=
  ⟨h.1.ext h1, h.2.1, fun k hk => by rw [h2]; exact h.2.2.1 k hk, h3.trans h.2.2.2.1, h.2.2.2.2.1, fun i hi => by rw [h4]; exact h.2.2.2.2.2 i hi⟩
theorem oD_in {G : Geo} (h : okG G) (p a b : Nat) : 0 ≤ oD G p a b ∧ oD G p a b ≤ 400 := ds_in h _ _
section MLEAST
variable {S : ShT} {σ : StT} {Q : Int → StT → Prop} {G : Geo} {p : Nat}
theorem m_farO {a b : Nat} (hS : SHP S) (h : wB σ G p) (ha : a < ocn G p) (hb : b < ocn G p) (hQ : Q (oD G p a b) σ) : WPs mX11_far [vR 125, vI (σ 139 ((a : Int)).toNat), vI (σ 139 ((b : Int)).toNat)] S σ Q := by
  rw [tn_cast, tn_cast, h.2.2.2.2.2 a ha, h.2.2.2.2.2 b hb]
  exact m_far hS h.1 h.2.1 h.2.2.1 (ol_mem ha).1 (ol_mem hb).1 hQ
theorem lea_rest {D : Nat → Nat → Int} {L u a b : Nat} (ha : a < L) (h0 : u.testBit a = true) (h1 : ∀ x, x < a → u.testBit x = false) (hb : b ∈ mfb a u L) : lea D L (clr u (2 ^ a ||| 2 ^ b)) = if (mfb a u L).length % 2 = 1 then bl D ((mfb a u L).length / 2) (rem (mfb a u L) b) else 1000000 := by
  have hl := rem_len (mfb_nodup a u L) hb
  unfold lea
  rw [msb_rest h1]
  by_cases c : (mfb a u L).length % 2 = 1
  · rw [if_pos (by omega), if_pos c, show (rem (mfb a u L) b).length / 2 = (mfb a u L).length / 2 by omega]
  · rw [if_neg (by omega), if_neg c]
theorem lea_u {D : Nat → Nat → Int} {L u a : Nat} (ha : a < L) (h0 : u.testBit a = true) (h1 : ∀ x, x < a → u.testBit x = false) : lea D L u = if (mfb a u L).length % 2 = 1 then D a (prt1 D ((mfb a u L).length / 2) a (mfb a u L)) + bl D ((mfb a u L).length / 2) (rem (mfb a u L) (prt1 D ((mfb a u L).length / 2) a (mfb a u L))) else 1000000 := by
  unfold lea
  rw [msb_cons ha h0 h1, List.length_cons]
  by_cases c : (mfb a u L).length % 2 = 1
  · rw [if_pos (by omega), if_pos c, show ((mfb a u L).length + 1) / 2 = (mfb a u L).length / 2 + 1 by omega]; rfl
  · rw [if_neg (by omega), if_neg c]
theorem m_least (hS : SHP S) (h : wB σ G p) (hQ : ∀ σ' : StT, (∀ x, x < 2 ^ ocn G p → σ' 140 x = lea (oD G p) (ocn G p) x) → fr [140] σ σ' → AWs mX11_pairsBest 170 [(0, vR 125), (1, vI (p : Int)), (2, vI ((2 ^ ocn G p - 1 : Nat) : Int))] [] S σ' Q) : WPs mX11_pairsBest [vR 125, vI (p : Int)] S σ Q := by
  obtain ⟨L, hL⟩ : ∃ L, L = ocn G p := ⟨_, rfl⟩
  have hL14 : L ≤ 14 := by rw [hL]; exact h.2.2.2.2.1
  have hp1 : (2 : Nat) ^ L ≤ 16384 := by
    have : (2 : Nat) ^ L ≤ 2 ^ 14 := Nat.pow_le_pow_right (by omega) hL14
    omega
  have hp0 : 0 < (2 : Nat) ^ L := Nat.pow_pos (by omega)
  have hbl := fun k l => bl_in (D := oD G p) (fun a b => oD_in h.2.1 p a b) k l
  rw [← hL] at hQ
  refine e_X11_pairsBest hS ?_
  refine lup (I := fun u σ' => 1 ≤ u ∧ u ≤ ((2 ^ L : Nat) : Int) ∧ fr [140] σ σ' ∧ ∀ x : Nat, (x : Int) < u → σ' 140 x = lea (oD G p) L x) (W := fun u σ' => AWs mX11_pairsBest 9 [(0, vR 125), (1, vI (p : Int)), (2, vI u)] [] S σ' Q) ((2 ^ L : Nat) : Int) ?_ ?_ 1 _ ⟨by omega, by omega, fr.rf.put (by simp), fun x hx => ?_⟩
  · rintro u σ1 ⟨u0, u1, u2, u3⟩ hge
    refine t_X11_pairsBest_9 hS ?_
    rw [u2 125 (by decide), h.2.2.2.1, ← hL, iShl_1 L (by omega)]
    refine ⟨fun _ => ⟨inR_s (by omega) (by omega), fun x hx => ?_⟩, fun q => absurd hge q⟩
    rw [show x = ((2 ^ L - 1 : Nat) : Int) by omega]
    exact hQ σ1 (fun x hx => u3 x (by omega)) u2
  · rintro u σ1 ⟨u0, u1, u2, u3⟩ hlt kk
    obtain ⟨u, rfl⟩ := nat_of (show 0 ≤ u by omega)
    have huL : u < 2 ^ L := by omega
    refine t_X11_pairsBest_9 hS ?_
    rw [u2 125 (by decide), h.2.2.2.1, ← hL, iShl_1 L (by omega)]
    refine ⟨fun q => absurd q (by omega), fun _ => m_lowest hS (by omega) (by omega) ?_⟩
    intro a a14 a0 a1
    have haL : a < L := by
      by_cases c : a < L
      · exact c
      · have := Nat.testBit_lt_two_pow (x := u) (i := a) (Nat.lt_of_lt_of_le huL (Nat.pow_le_pow_right (by omega) (by omega)))
        rw [a0] at this; cases this
    refine ⟨⟨by omega, by omega⟩, inR_s (by omega) (by omega), ?_⟩
    have hr := fun b (hb : b ∈ mfb a u L) => lea_rest (D := oD G p) haL a0 a1 hb
    have hrl : ∀ b, clr u (2 ^ a ||| 2 ^ b) < u := fun b => clr_lt a0 (by rw [Nat.testBit_or, Nat.testBit_two_pow]; simp)
    generalize hT : mfb a u L = T at hr
    generalize hv : (fun b => oD G p a b + bl (oD G p) (T.length / 2) (rem T b)) = v
    -- the least over the partners so far
    refine lup (I := fun o σ' => (a : Int) + 1 ≤ o ∧ o ≤ (L : Int) ∧ fr [140] σ σ' ∧ (∀ x : Nat, x < u → σ' 140 x = lea (oD G p) L x) ∧ σ' 140 u = if T.length % 2 = 1 ∧ mfb a u o.toNat ≠ [] then v (amin v (mfb a u o.toNat)) else 1000000) (W := fun o σ' => AWs mX11_pairsBest 38 [(0, vR 125), (1, vI (p : Int)), (2, vI (u : Int)), (3, vI (a : Int)), (4, vI o)] [] S σ' Q) (L : Int) ?_ ?_ ((a : Int) + 1) _ ⟨by omega, by omega, u2.put (by simp), fun x hx => ?_, ?_⟩
    · rintro o σ2 ⟨o0, o1, o2, o3, o4⟩ hge2
      have eo : o = (L : Int) := by omega
      subst eo
      refine t_X11_pairsBest_38 hS ?_
      rw [o2 125 (by decide), h.2.2.2.1, ← hL]
      refine ⟨fun _ => ⟨inR_s (by omega) (by omega), kk σ2 ⟨by omega, by omega, o2, fun x hx => ?_⟩⟩, fun q => absurd hge2 q⟩
      by_cases c : x = u
      · subst c
        rw [o4, tn_cast, hT, lea_u haL a0 a1, hT]
        by_cases c2 : T.length % 2 = 1
        · rw [if_pos ⟨c2, fun z => by rw [z] at c2; simp at c2⟩, if_pos c2, ← hv]; rfl
        · rw [if_neg (fun z => c2 z.1), if_neg c2]
      · exact o3 x (by omega)
    · rintro o σ2 ⟨o0, o1, o2, o3, o4⟩ hlt2 kk2
      obtain ⟨o, rfl⟩ := nat_of (show 0 ≤ o by omega)
      rw [tn_cast] at o4
      have hao : a < o := by omega
      have w2 : wB σ2 G p := h.ext (fun j => o2 127 (by decide) j) (fun j => o2 132 (by decide) j) (o2 125 (by decide) 34) (fun j => o2 139 (by decide) j)
      have hs := mfb_s a u o
      refine t_X11_pairsBest_38 hS ?_
      rw [o2 125 (by decide), h.2.2.2.1, ← hL, mskI a14 (by omega), iClr (by omega), iBit (by omega) (by omega)]
      refine ⟨fun q => absurd q (by omega), fun _ x hx => ?_⟩
      subst hx
      rw [tn_cast]
      have hx1 := hrl o
      cases eb : u.testBit o with
      | false =>
        rw [if_neg (by rw [eb]; simp)] at hs
        refine ⟨fun _ => ⟨inR_s (by omega) (by omega), kk2 σ2 ⟨by omega, by omega, o2, o3, ?_⟩⟩, fun q => absurd q (by decide)⟩
        rw [show ((o : Int) + 1).toNat = o + 1 from rfl, hs]; exact o4
      | true =>
        rw [if_pos ⟨hao, eb⟩] at hs
        have hoT : o ∈ mfb a u L := mfb_mem.mpr ⟨by omega, hao, eb⟩
        have hro := hr o (by rw [← hT]; exact hoT)
        refine ⟨fun q => absurd rfl q, fun _ => ⟨⟨by omega, by omega⟩, ?_⟩⟩
        rw [o3 _ hx1, hro]
        by_cases c : T.length % 2 = 1
        · rw [if_pos c]
          have hb0 := hbl (T.length / 2) (rem T o)
          have hTl : T.length ≤ 14 := by
            have := nodup_le (l := List.range 14) (mfb_nodup a u L) (fun x hx => List.mem_range.mpr (by have := (mfb_mem.mp hx).1; omega))
            rw [hT] at this; simpa using this
          have hD := oD_in h.2.1 p a o
          have hvo : v o = oD G p a o + bl (oD G p) (T.length / 2) (rem T o) := by rw [← hv]
          refine ⟨fun q => absurd q (by omega), fun _ => ⟨⟨by omega, by omega⟩, ⟨by omega, by omega⟩, ⟨by omega, by omega⟩, m_farO hS w2 (by omega) (by omega) ⟨inR_s (by omega) (by omega), ⟨by omega, by omega⟩, ?_⟩⟩⟩
          rw [tn_cast u, o4]
          have cur : (if T.length % 2 = 1 ∧ mfb a u o ≠ [] then v (amin v (mfb a u o)) else 1000000) ≤ v o → amin v (mfb a u o ++ [o]) = amin v (mfb a u o) ∧ mfb a u o ≠ [] := fun z => by
            have hne : mfb a u o ≠ [] := fun e => by rw [if_neg (fun y => y.2 e)] at z; omega
            rw [if_pos ⟨c, hne⟩] at z
            refine ⟨?_, hne⟩
            rw [amin_snoc v o _ hne, if_neg (by omega)]
          have new : ¬ (if T.length % 2 = 1 ∧ mfb a u o ≠ [] then v (amin v (mfb a u o)) else 1000000) ≤ v o → amin v (mfb a u o ++ [o]) = o := fun z => by
            by_cases e : mfb a u o = []
            · rw [e]; rfl
            · rw [if_pos ⟨c, e⟩] at z
              rw [amin_snoc v o _ e, if_pos (by omega)]
          refine ⟨fun q => ⟨inR_s (by omega) (by omega), kk2 σ2 ⟨by omega, by omega, o2, o3, ?_⟩⟩, fun q => ⟨⟨by omega, by omega⟩, ⟨by omega, by omega⟩, ⟨by omega, by omega⟩, m_farO hS w2 (by omega) (by omega) ?_⟩⟩
          · obtain ⟨n1, n2⟩ := cur (by omega)
            rw [show ((o : Int) + 1).toNat = o + 1 from rfl, hs, if_pos ⟨c, by simp⟩, n1, o4, if_pos ⟨c, n2⟩]
          · rw [o3 _ hx1, hro, if_pos c]
            refine ⟨inR_s (by omega) (by omega), ⟨by omega, by omega⟩, inR_s (by omega) (by omega), kk2 _ ⟨by omega, by omega, o2.put (by simp), fun x hx => by rw [up2_i (by omega)]; exact o3 x hx, ?_⟩⟩
            rw [up2_s, show ((o : Int) + 1).toNat = o + 1 from rfl, hs, if_pos ⟨c, by simp⟩, new (by omega), hvo]; omega
        · rw [if_neg c]
          refine ⟨fun _ => ⟨inR_s (by omega) (by omega), kk2 σ2 ⟨by omega, by omega, o2, o3, ?_⟩⟩, fun q => absurd (Int.le_refl _) q⟩
          rw [o4, if_neg (fun z => c z.1), if_neg (fun z => c z.1)]
    · rw [tn_cast, up2_i (by omega)]; exact u3 x (by omega)
    · rw [tn_cast, up2_s, show ((a : Int) + 1).toNat = a + 1 from rfl]
      have e2 : mfb a u (a + 1) = [] := List.filter_eq_nil_iff.mpr (fun x hx => by have := List.mem_range.mp hx; simp; omega)
      rw [if_neg (fun z => z.2 e2)]
  · have : x = 0 := by omega
    subst this
    rw [up2_s]
    have : msb L 0 = [] := List.filter_eq_nil_iff.mpr (fun x hx => by simp)
    unfold lea
    rw [this]; rfl
end MLEAST
