/-! the reference: pairs -/
def mQ (σ : StT) (P : List (Nat × Nat)) : Prop := σ 125 31 = P.length ∧ ∀ i, i < P.length → σ 135 i = (pg P i).1 ∧ σ 136 i = (pg P i).2
theorem mfb_split {a u o : Nat} : ∀ {L : Nat}, o ≤ L → ∃ q, mfb a u L = mfb a u o ++ q
  | 0, h => ⟨[], by rw [show o = 0 by omega]; simp⟩
  | L + 1, h => by
    by_cases e : o = L + 1
    · subst e; exact ⟨[], by simp⟩
    · obtain ⟨q, hq⟩ := mfb_split (a := a) (u := u) (o := o) (L := L) (by omega)
      rw [mfb_s]
      split
      · exact ⟨q ++ [L], by rw [hq, List.append_assoc]⟩
      · exact ⟨q, hq⟩
section MPAIRS
variable {S : ShT} {σ : StT} {Q : Int → StT → Prop} {G : Geo} {p : Nat}
theorem m_pairs {P : List (Nat × Nat)} {x y : Nat} (hS : SHP S) (hq : mQ σ P) (hl : P.length < 24) (hQ : ∀ σ' : StT, mQ σ' (P ++ [(x, y)]) → σ' 137 P.length = p → (∀ i, i ≠ P.length → σ' 137 i = σ 137 i) → fr [125, 135, 136, 137] σ σ' → (∀ j, j ≠ 31 → σ' 125 j = σ 125 j) → Q 0 σ') : WPs mX11_pairs [vR 125, vI (x : Int), vI (y : Int), vI (p : Int)] S σ Q := by
  refine e_X11_pairs hS ?_
  rw [hq.1, tn_cast]
  refine ⟨⟨by omega, by omega⟩, ⟨by omega, by omega⟩, ⟨by omega, by omega⟩, inR_s (by omega) (by omega), ?_⟩
  refine hQ _ ⟨by rw [up2_s]; simp, fun i hi => ?_⟩ (by rw [up2_a (by decide), up2_s]) (fun i hi => by rw [up2_a (by decide), up2_i hi, up2_a (by decide), up2_a (by decide)]) ((((fr.rf.put (by simp)).put (by simp)).put (by simp)).put (by simp)) (fun j hj => by rw [up2_i hj, up2_a (by decide), up2_a (by decide), up2_a (by decide)])
  rw [List.length_append, List.length_singleton] at hi
  rw [up2_a (by decide), up2_a (by decide), up2_a (by decide), up2_a (show (136 : Nat) ≠ 125 by decide), up2_a (show (136 : Nat) ≠ 137 by decide)]
  by_cases c : i = P.length
  · subst c
    rw [up2_s, up2_s]
    unfold pg
    rw [gd_r (Nat.le_refl _)]; simp
  · have hi' : i < P.length := by omega
    rw [up2_i c, up2_i c, up2_a (by decide)]
    unfold pg
    rw [gd_l hi']
    exact hq.2 i hi'
theorem msb_even0 {L u : Nat} (hu : u < 2 ^ L) (h : (msb L u).length = 0) : u = 0 := by
  refine bits_0 hu (fun x hx => ?_)
  cases e : u.testBit x with
  | false => rfl
  | true =>
    have : x ∈ msb L u := msb_mem.mpr ⟨hx, e⟩
    rw [List.length_eq_zero_iff.mp h] at this
    cases this
/-- the pairs are found again from the least of the sets -/
theorem m_find (hS : SHP S) : ∀ (k u : Nat) (σ : StT) (P : List (Nat × Nat)), wB σ G p → u < 2 ^ ocn G p → (msb (ocn G p) u).length = 2 * k → (∀ x, x < 2 ^ ocn G p → σ 140 x = lea (oD G p) (ocn G p) x) → mQ σ P → P.length + k ≤ 24 →
    (∀ σ' : StT, mQ σ' (P ++ (mat (oD G p) k (msb (ocn G p) u)).map (fun q => (ol G p q.1, ol G p q.2))) → (∀ i, P.length ≤ i → i < P.length + k → σ' 137 i = p) → (∀ i, i < P.length → σ' 137 i = σ 137 i) → fr [125, 135, 136, 137] σ σ' → (∀ j, j ≠ 31 → σ' 125 j = σ 125 j) → Q 0 σ') → AWs mX11_pairsBest 170 [(0, vR 125), (1, vI (p : Int)), (2, vI (u : Int))] [] S σ Q
  | 0, u, σ, P, h, hu, hl, h140, hq, hP, hQ => by
    have : u = 0 := msb_even0 hu (by omega)
    subst this
    refine t_X11_pairsBest_170 hS ⟨fun _ => hQ σ ?_ (fun i h1 h2 => by omega) (fun i _ => rfl) fr.rf (fun j _ => rfl), fun q => absurd rfl q⟩
    have e : (mat (oD G p) 0 (msb (ocn G p) 0)).map (fun q => (ol G p q.1, ol G p q.2)) = [] := rfl
    rw [e, List.append_nil]; exact hq
  | k + 1, u, σ, P, h, hu, hl, h140, hq, hP, hQ => by
    have hL14 := h.2.2.2.2.1
    have hp1 : (2 : Nat) ^ ocn G p ≤ 16384 := by
      have : (2 : Nat) ^ ocn G p ≤ 2 ^ 14 := Nat.pow_le_pow_right (by omega) hL14
      omega
    have hbl := fun k l => bl_in (D := oD G p) (fun a b => oD_in h.2.1 p a b) k l
    have hu0 : 0 < u := by
      by_cases c : 0 < u
      · exact c
      · have : u = 0 := by omega
        subst this
        have : msb (ocn G p) 0 = [] := List.filter_eq_nil_iff.mpr (fun x hx => by simp)
        rw [this] at hl; simp at hl
    refine t_X11_pairsBest_170 hS ⟨fun q => by omega, fun _ => m_lowest hS hu0 (by omega) ?_⟩
    intro a a14 a0 a1
    have haL : a < ocn G p := by
      by_cases c : a < ocn G p
      · exact c
      · have := Nat.testBit_lt_two_pow (x := u) (i := a) (Nat.lt_of_lt_of_le hu (Nat.pow_le_pow_right (by omega) (by omega)))
        rw [a0] at this; cases this
    have hcons := msb_cons haL a0 a1
    have hTl : (mfb a u (ocn G p)).length = 2 * k + 1 := by rw [hcons, List.length_cons] at hl; omega
    have hlu := lea_u (D := oD G p) haL a0 a1
    rw [if_pos (by omega), show (mfb a u (ocn G p)).length / 2 = k by omega] at hlu
    have hne : mfb a u (ocn G p) ≠ [] := fun z => by rw [z] at hTl; simp at hTl
    have hbm : prt1 (oD G p) k a (mfb a u (ocn G p)) ∈ mfb a u (ocn G p) := amin_mem _ _ hne
    have hbb := mfb_mem.mp hbm
    have hr := fun b (hb : b ∈ mfb a u (ocn G p)) => lea_rest (D := oD G p) haL a0 a1 hb
    refine ⟨inR_s (by omega) (by omega), ?_⟩
    have key : ∀ (r o : Nat), r + o = prt1 (oD G p) k a (mfb a u (ocn G p)) → a < o → (∀ y ∈ mfb a u o, lea (oD G p) (ocn G p) u < oD G p a y + bl (oD G p) k (rem (mfb a u (ocn G p)) y)) → AWs mX11_pairsBest 184 [(0, vR 125), (1, vI (p : Int)), (2, vI (u : Int)), (3, vI (a : Int)), (4, vI (o : Int))] [] S σ Q := by
      intro r
      induction r with
      | zero =>
        intro o ho hao hy
        have eo : o = prt1 (oD G p) k a (mfb a u (ocn G p)) := by omega
        have hro := hr o (by rw [eo]; exact hbm)
        rw [if_pos (by omega), show (mfb a u (ocn G p)).length / 2 = k by omega] at hro
        have hD := oD_in h.2.1 p a o
        have hb0 := hbl k (rem (mfb a u (ocn G p)) o)
        have hbit : u.testBit o = true := by rw [eo]; exact hbb.2.2
        have hoL : o < ocn G p := by rw [eo]; exact hbb.1
        have hlt : clr u (2 ^ a ||| 2 ^ o) < u := clr_lt a0 (by rw [Nat.testBit_or, Nat.testBit_two_pow]; simp)
        have hlk : k ≤ 24 := by omega
        refine t_X11_pairsBest_184 hS ?_
        rw [iBit (by omega) (by omega), hbit, mskI a14 (by omega), iClr (by omega), tn_cast]
        refine ⟨fun q => absurd q (by decide), fun _ => ⟨⟨by omega, by omega⟩, ⟨by omega, by omega⟩, ⟨by omega, by omega⟩, m_farO hS h haL hoL ?_⟩⟩
        simp only [tn_cast]
        rw [h140 (clr u (2 ^ a ||| 2 ^ o)) (by omega), hro, h140 u hu, hlu, ← eo]
        refine ⟨inR_s (by omega) (by omega), ⟨by omega, by omega⟩, fun _ => ⟨⟨by omega, by omega⟩, ⟨by omega, by omega⟩, ?_⟩, fun q => absurd (by omega) q⟩
        rw [h.2.2.2.2.2 a haL, h.2.2.2.2.2 o hoL]
        refine m_pairs (p := p) hS hq (by omega) ?_
        intro σ1 q1 n1 n2 f1 g1 x hx
        subst hx
        have hmr := msb_rest (L := ocn G p) (b := o) a1
        have hrl := rem_len (mfb_nodup a u (ocn G p)) (show o ∈ mfb a u (ocn G p) by rw [eo]; exact hbm)
        refine m_find hS k (clr u (2 ^ a ||| 2 ^ o)) σ1 (P ++ [(ol G p a, ol G p o)]) (h.ext (fun j => f1 127 (by decide) j) (fun j => f1 132 (by decide) j) (g1 34 (by decide)) (fun j => f1 139 (by decide) j)) (by omega) (by rw [hmr]; omega) (fun x hx => by rw [f1 140 (by decide)]; exact h140 x hx) q1 (by simp; omega) ?_
        intro σ2 q2 m1 m2 f2 g2
        simp only [List.length_append, List.length_singleton] at m1 m2
        refine hQ σ2 ?_ (fun i i1 i2 => ?_) (fun i hi => ?_) (f1.trans f2) (fun j hj => by rw [g2 j hj, g1 j hj])
        · rw [hcons]
          have e : mat (oD G p) (k + 1) (a :: mfb a u (ocn G p)) = (a, o) :: mat (oD G p) k (rem (mfb a u (ocn G p)) o) := by
            show (a, prt1 (oD G p) k a (mfb a u (ocn G p))) :: mat (oD G p) k (rem (mfb a u (ocn G p)) (prt1 (oD G p) k a (mfb a u (ocn G p)))) = _
            rw [← eo]
          rw [e, List.map_cons, ← hmr]
          rw [List.append_assoc] at q2
          exact q2
        · by_cases c : i = P.length
          · subst c; rw [m2 _ (by omega)]; exact n1
          · exact m1 i (by omega) (by omega)
        · rw [m2 i (by omega), n2 i (by omega)]
      | succ r ih =>
        intro o ho hao hy
        have hoL : o < ocn G p := by omega
        refine t_X11_pairsBest_184 hS ?_
        have nxt : (∀ y ∈ mfb a u (o + 1), lea (oD G p) (ocn G p) u < oD G p a y + bl (oD G p) k (rem (mfb a u (ocn G p)) y)) → inR ((o : Int) + 1) ∧ AWs mX11_pairsBest 184 [(0, vR 125), (1, vI (p : Int)), (2, vI (u : Int)), (3, vI (a : Int)), (4, vI ((o : Int) + 1))] [] S σ Q := fun hy' => ⟨inR_s (by omega) (by omega), ih (o + 1) (by omega) (by omega) hy'⟩
        rw [iBit (by omega) (by omega)]
        cases hbit : u.testBit o with
        | false =>
          refine ⟨fun _ => nxt ?_, fun q => absurd rfl q⟩
          rw [mfb_s, if_neg (by rw [hbit]; simp)]; exact hy
        | true =>
          have hoT : o ∈ mfb a u (ocn G p) := mfb_mem.mpr ⟨hoL, hao, hbit⟩
          have hro := hr o hoT
          rw [if_pos (by omega), show (mfb a u (ocn G p)).length / 2 = k by omega] at hro
          have hD := oD_in h.2.1 p a o
          have hb0 := hbl k (rem (mfb a u (ocn G p)) o)
          have hlt : clr u (2 ^ a ||| 2 ^ o) < u := clr_lt a0 (by rw [Nat.testBit_or, Nat.testBit_two_pow]; simp)
          have hlk : k ≤ 24 := by omega
          have hle := amin_le (fun b => oD G p a b + bl (oD G p) k (rem (mfb a u (ocn G p)) b)) (mfb a u (ocn G p)) o hoT
          have hle' : lea (oD G p) (ocn G p) u ≤ oD G p a o + bl (oD G p) k (rem (mfb a u (ocn G p)) o) := by rw [hlu]; exact hle
          rw [mskI a14 (by omega), iClr (by omega), tn_cast]
          refine ⟨fun q => absurd q (by decide), fun _ => ⟨⟨by omega, by omega⟩, ⟨by omega, by omega⟩, ⟨by omega, by omega⟩, m_farO hS h haL hoL ?_⟩⟩
          simp only [tn_cast]
          rw [h140 (clr u (2 ^ a ||| 2 ^ o)) (by omega), hro, h140 u hu]
          refine ⟨inR_s (by omega) (by omega), ⟨by omega, by omega⟩, fun q => ?_, fun q => nxt ?_⟩
          · exfalso
            obtain ⟨t, ht⟩ := mfb_split (a := a) (u := u) (o := o + 1) (L := ocn G p) (by omega)
            rw [mfb_s, if_pos ⟨hao, hbit⟩, List.append_assoc] at ht
            have hf := amin_first (fun b => oD G p a b + bl (oD G p) k (rem (mfb a u (ocn G p)) b)) (mfb a u o) t o
            have ht' : mfb a u o ++ o :: t = mfb a u (ocn G p) := by rw [ht]; rfl
            rw [ht'] at hf
            have hlu' : lea (oD G p) (ocn G p) u = oD G p a (amin (fun b => oD G p a b + bl (oD G p) k (rem (mfb a u (ocn G p)) b)) (mfb a u (ocn G p))) + bl (oD G p) k (rem (mfb a u (ocn G p)) (amin (fun b => oD G p a b + bl (oD G p) k (rem (mfb a u (ocn G p)) b)) (mfb a u (ocn G p)))) := hlu
            have := hf (fun y hy' => by have := hy y hy'; rw [hlu'] at this; exact this) (by
              show oD G p a o + bl (oD G p) k (rem (mfb a u (ocn G p)) o) = _
              rw [← hlu']; omega)
            have e2 : prt1 (oD G p) k a (mfb a u (ocn G p)) = o := this
            omega
          · rw [mfb_s, if_pos ⟨hao, hbit⟩]
            intro y hy'
            rcases List.mem_append.mp hy' with z | z
            · exact hy y z
            · rw [List.mem_singleton.mp z]; omega
    have := key (prt1 (oD G p) k a (mfb a u (ocn G p)) - (a + 1)) (a + 1) (by omega) (by omega) (fun y hy => by
      have := mfb_mem.mp hy; omega)
    exact this
end MPAIRS
