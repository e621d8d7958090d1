/-! Model: exchanges -/
def rP (σ σ' : StT) : Prop := fr [127] σ σ' ∧ ∀ j, j < 104 → σ' 127 j = σ 127 j
theorem rP.rf {σ : StT} : rP σ σ := ⟨fr.rf, fun _ _ => rfl⟩
theorem rP.trans {σ σ1 σ2 : StT} (h : rP σ σ1) (k : rP σ1 σ2) : rP σ σ2 := ⟨h.1.trans k.1, fun j hj => (k.2 j hj).trans (h.2 j hj)⟩
theorem wQ.rp {σ σ' : StT} {D : Dw} {N : Nat} {f g : Nat → Nat} (h : wQ σ D N f) (hr : rP σ σ') (hp : eP (σ' 127) N g) (ho : okF (TT D) N g) : wQ σ' D N g :=
  ⟨⟨h.1.1, h.1.2.1, ho⟩, h.2.1.ext h.1.1.1 (fun k hk => hr.2 k (by omega)), hp, h.2.2.2.ext (fun b x1 x2 => hr.1 b (by simp; omega)) (fun j _ => hr.1 125 (by decide) j)⟩
section MQE
variable {S : ShT} {σ : StT} {Q : Int → StT → Prop} {M : Ms} {D : Dw} {N : Nat} {f : Nat → Nat}
theorem m_exGo {i k : Nat} (hS : SHP S) (hik : i ≤ k) (hk : k < N) (hN : N ≤ 24) (hf : ∀ j, j < N → f j < 48) (hQ : ∀ σ' : StT, eP (σ' 127) N (rvs i k f) → rP σ σ' → Q 0 σ') : ∀ (d a : Nat) (b : Int) (g : Nat → Nat) (σ1 : StT), (b + 1 - a).toNat ≤ d → i ≤ a → b = (i : Int) + k - a → b ≤ k → -1 ≤ b → a ≤ k + 1 → eP (σ1 127) N g → (∀ j, g j = if (i ≤ j ∧ j < a) ∨ (b < j ∧ j ≤ k) then xr (f (i + k - j)) else f j) → rP σ σ1 → AWs mX11_exchanges 5 [(0, vR 125), (3, vI (a : Int)), (4, vI b)] [] S σ1 Q := by
  intro d
  induction d with
  | zero =>
    intro a b g σ1 hd ha hb hb1 hb2 hak hp hg hr
    refine t_X11_exchanges_5 hS ⟨fun _ => hQ σ1 ?_ hr, fun q => absurd (by omega) q⟩
    have : g = rvs i k f := funext (fun j => by
      rw [hg j]; unfold rvs
      by_cases c : i ≤ j ∧ j ≤ k
      · rw [if_pos c, if_pos (by omega)]
      · rw [if_neg c, if_neg (by omega)])
    rw [← this]; exact hp
  | succ d ih =>
    intro a b g σ1 hd ha hb hb1 hb2 hak hp hg hr
    by_cases q : b < a
    · exact ih a b g σ1 (by omega) ha hb hb1 hb2 hak hp hg hr
    · obtain ⟨b, rfl⟩ := nat_of (show 0 ≤ b by omega)
      have haN : a < N := by omega
      have hbN : b < N := by omega
      have ga : g a = f a := by rw [hg a, if_neg (by omega)]
      have gb : g b = f b := by rw [hg b, if_neg (by omega)]
      obtain ⟨pa1, pa2⟩ := hp.2 a haN
      obtain ⟨pb1, pb2⟩ := hp.2 b hbN
      have fa := hf a haN
      have fb := hf b hbN
      rw [ga] at pa1 pa2
      rw [gb] at pb1 pb2
      refine t_X11_exchanges_5 hS ⟨fun c => absurd c q, fun _ => ?_⟩
      rw [show (104 + (a : Int)).toNat = 104 + a by omega, show (128 + (a : Int)).toNat = 128 + a by omega, show (104 + (b : Int)).toNat = 104 + b by omega, show (128 + (b : Int)).toNat = 128 + b by omega, pa1, pa2, pb1, up2_i (show 128 + b ≠ 104 + a by omega), pb2]
      refine ⟨inR_s (by omega) (by omega), ⟨by omega, by omega⟩, fun x hx => ⟨inR_s (by omega) (by omega), ⟨by omega, by omega⟩, fun y hy => ⟨inR_s (by omega) (by omega), inR_s (by omega) (by omega), ⟨by omega, by omega⟩, ⟨by omega, by omega⟩, inR_s (by omega) (by omega), inR_s (by omega) (by omega), ⟨by omega, by omega⟩, inR_s (by omega) (by omega), ⟨by omega, by omega⟩, inR_s (by omega) (by omega), ⟨by omega, by omega⟩, inR_s (by omega) (by omega), inR_s (by omega) (by omega), ⟨by omega, by omega⟩, inR_s (by omega) (by omega), inR_s (by omega) (by omega), ?_⟩⟩⟩
      subst hx hy
      have K : ∀ j, (up2 (up2 (up2 (up2 σ1 127 (104 + a) ((f b / 2 : Nat) : Int)) 127 (128 + a) (1 - ((f b % 2 : Nat) : Int))) 127 (104 + b) ((f a / 2 : Nat) : Int)) 127 (128 + b) (1 - ((f a % 2 : Nat) : Int))) 127 j = if j = 128 + b then 1 - ((f a % 2 : Nat) : Int) else if j = 104 + b then ((f a / 2 : Nat) : Int) else if j = 128 + a then 1 - ((f b % 2 : Nat) : Int) else if j = 104 + a then ((f b / 2 : Nat) : Int) else σ1 127 j := fun j => by simp only [up2]; simp
      have R : rP σ1 (up2 (up2 (up2 (up2 σ1 127 (104 + a) ((f b / 2 : Nat) : Int)) 127 (128 + a) (1 - ((f b % 2 : Nat) : Int))) 127 (104 + b) ((f a / 2 : Nat) : Int)) 127 (128 + b) (1 - ((f a % 2 : Nat) : Int))) := ⟨(((fr.rf.put (by simp)).put (by simp)).put (by simp)).put (by simp), fun j hj => by rw [up2_i (by omega), up2_i (by omega), up2_i (by omega), up2_i (by omega)]⟩
      generalize (up2 (up2 (up2 (up2 σ1 127 (104 + a) ((f b / 2 : Nat) : Int)) 127 (128 + a) (1 - ((f b % 2 : Nat) : Int))) 127 (104 + b) ((f a / 2 : Nat) : Int)) 127 (128 + b) (1 - ((f a % 2 : Nat) : Int))) = σ2 at K R
      refine ih (a + 1) ((b : Int) + -1) (fun j => if j = a then xr (f b) else if j = b then xr (f a) else g j) σ2 (by omega) (by omega) (by omega) (by omega) (by omega) (by omega) ⟨?_, fun j hj => ?_⟩ (fun j => ?_) (hr.trans R)
      · rw [K, if_neg (by omega), if_neg (by omega), if_neg (by omega), if_neg (by omega)]; exact hp.1
      · have hm1 := xr_h (f a)
        have hm2 := xr_m (f a)
        have hm3 := xr_h (f b)
        have hm4 := xr_m (f b)
        simp only
        by_cases c1 : j = a
        · rw [if_pos c1]
          by_cases c2 : j = b
          · have : a = b := by omega
            subst this
            refine ⟨?_, ?_⟩
            · rw [K, if_neg (by omega), if_pos (by omega)]; omega
            · rw [K, if_pos (by omega)]; omega
          · refine ⟨?_, ?_⟩
            · rw [K, if_neg (by omega), if_neg (by omega), if_neg (by omega), if_pos (by omega)]; omega
            · rw [K, if_neg (by omega), if_neg (by omega), if_pos (by omega)]; omega
        · rw [if_neg c1]
          by_cases c2 : j = b
          · rw [if_pos c2]
            refine ⟨?_, ?_⟩
            · rw [K, if_neg (by omega), if_pos (by omega)]; omega
            · rw [K, if_pos (by omega)]; omega
          · rw [if_neg c2]
            refine ⟨?_, ?_⟩
            · rw [K, if_neg (by omega), if_neg (by omega), if_neg (by omega), if_neg (by omega)]; exact (hp.2 j hj).1
            · rw [K, if_neg (by omega), if_neg (by omega), if_neg (by omega), if_neg (by omega)]; exact (hp.2 j hj).2
      · by_cases c1 : j = a
        · rw [if_pos c1, if_pos (by omega), show i + k - j = b by omega]
        · rw [if_neg c1]
          by_cases c2 : j = b
          · rw [if_pos c2, if_pos (by omega), show i + k - j = a by omega]
          · rw [if_neg c2, hg j]
            by_cases c3 : (i ≤ j ∧ j < a) ∨ ((b : Int) < j ∧ j ≤ k)
            · rw [if_pos c3, if_pos (by omega)]
            · rw [if_neg c3, if_neg (by omega)]
theorem m_exchanges {i k : Nat} (hS : SHP S) (h : wQ σ D N f) (hik : i ≤ k) (hk : k < N) (hQ : ∀ σ' : StT, wQ σ' D N (rvs i k f) → rP σ σ' → Q 0 σ') : WPs mX11_exchanges [vR 125, vI (i : Int), vI (k : Int)] S σ Q := by
  have hle := h.1.le
  refine e_X11_exchanges hS ?_
  refine m_exGo hS hik hk h.1.N (fun j hj => h.1.2.2.c hle hj) (fun σ' a b => hQ σ' (h.rp b a (h.1.2.2.rv hk)) b) _ i (k : Int) f σ (Nat.le_refl _) (Nat.le_refl _) (by omega) (by omega) (by omega) (by omega) h.2.2.1 (fun j => by rw [if_neg (by omega)]) rP.rf
theorem m_isBettered (hS : SHP S) (h : wQ σ D N f) (h0 : win (gG D) (hm D) (TT D) N f = none → ∀ σ' : StT, wQ σ' D N f → rP σ σ' → Q 0 σ') (h1 : ∀ (x : Nat) (σ' : StT), win (gG D) (hm D) (TT D) N f = some x → wQ σ' D N (rvs (x / 24) (x % 24) f) → rP σ σ' → Q 1 σ') : WPs mX11_isBettered [vR 125] S σ Q := by
  have hN := h.1.N
  refine e_X11_isBettered hS (m_leaps hS h ?_)
  refine lup (I := fun i σ1 => 0 ≤ i ∧ i ≤ (N : Int) ∧ wQ σ1 D N f ∧ rP σ σ1 ∧ ∀ i' k' : Nat, (i' : Int) < i → i' ≤ k' → k' < N → 0 ≤ chg (gG D) (hm D) (TT D) N f i' k') (W := fun i σ1 => AWs mX11_isBettered 7 [(0, vR 125), (1, vI (trv (gG D) (hm D) (TT D) N f)), (2, vI i)] [] S σ1 Q) (N : Int) ?_ ?_ 0 σ ⟨by omega, by omega, h, rP.rf, fun i' k' hi => by omega⟩
  · rintro i σ1 ⟨i0, i1, i2, i3, i4⟩ hge
    refine t_X11_isBettered_7 hS ?_
    rw [i2.2.2.1.1]
    exact ⟨fun _ => h0 (win_no (fun i' k' a b => i4 i' k' (by omega) a b)) σ1 i2 i3, fun q => absurd hge q⟩
  · rintro i σ1 ⟨i0, i1, i2, i3, i4⟩ hlt kk
    obtain ⟨i, rfl⟩ := nat_of i0
    refine t_X11_isBettered_7 hS ?_
    rw [i2.2.2.1.1]
    refine ⟨fun q => absurd q (by omega), fun _ => ?_⟩
    refine lup (I := fun k σ2 => (i : Int) ≤ k ∧ k ≤ (N : Int) ∧ wQ σ2 D N f ∧ rP σ σ2 ∧ ∀ k' : Nat, (k' : Int) < k → i ≤ k' → k' < N → 0 ≤ chg (gG D) (hm D) (TT D) N f i k') (W := fun k σ2 => AWs mX11_isBettered 20 [(0, vR 125), (1, vI (trv (gG D) (hm D) (TT D) N f)), (2, vI (i : Int)), (3, vI k)] [] S σ2 Q) (N : Int) ?_ ?_ (i : Int) σ1 ⟨by omega, by omega, i2, i3, fun k' hk' => by omega⟩
    · rintro k σ2 ⟨k0, k1, k2, k3, k4⟩ hge
      refine t_X11_isBettered_20 hS ?_
      rw [k2.2.2.1.1]
      refine ⟨fun _ => ⟨inR_s (by omega) (by omega), kk σ2 ⟨by omega, by omega, k2, k3, fun i' k' a b c => ?_⟩⟩, fun q => absurd hge q⟩
      by_cases e : i' = i
      · subst e; exact k4 k' (by omega) b c
      · exact i4 i' k' (by omega) b c
    · rintro k σ2 ⟨k0, k1, k2, k3, k4⟩ hlt2 kk2
      obtain ⟨k, rfl⟩ := nat_of (show 0 ≤ k by omega)
      have hik : i ≤ k := by omega
      have hk : k < N := by omega
      have hc := chg_ok (G := gG D) (H := hm D) (T := TT D) (f := f) hik hk
      refine t_X11_isBettered_20 hS ?_
      rw [k2.2.2.1.1]
      refine ⟨fun q => absurd q (by omega), fun _ => m_exchanges hS k2 hik hk ?_⟩
      intro σ3 w3 r3
      refine m_leaps hS w3 ⟨fun q => m_exchanges hS w3 hik hk ?_, fun q => ?_⟩
      · intro σ4 w4 r4
        rw [rvs_rvs] at w4
        refine ⟨inR_s (by omega) (by omega), kk2 σ4 ⟨by omega, by omega, w4, k3.trans (r3.trans r4), fun k' a b c => ?_⟩⟩
        by_cases e : k' = k
        · subst e; omega
        · exact k4 k' (by omega) b c
      · have hw := win_is (G := gG D) (H := hm D) (T := TT D) (f := f) hN hik hk (by omega) (fun i' k' a b c => by
          rcases c with c | ⟨c, c2⟩
          · exact i4 i' k' (by omega) a b
          · subst c; exact k4 k' (by omega) a b)
        refine h1 _ σ3 hw ?_ (k3.trans r3)
        rw [show (24 * i + k) / 24 = i by omega, show (24 * i + k) % 24 = k by omega]; exact w3
theorem m_betGo (hS : SHP S) : ∀ (n : Nat) (v : Nat) (f : Nat → Nat) (σ : StT), v + n = 200 → wQ σ D N f → (∀ σ' : StT, wQ σ' D N (bets (gG D) (hm D) (TT D) N n f).2 → rP σ σ' → Q (((v + (bets (gG D) (hm D) (TT D) N n f).1 : Nat)) : Int) σ') → AWs mX11_betters 2 [(0, vR 125), (1, vI (v : Int))] [] S σ Q
  | 0, v, f, σ, hv, h, hQ => by
    refine t_X11_betters_2 hS ⟨fun _ => ?_, fun q => absurd (by omega) q⟩
    exact hQ σ h rP.rf
  | n + 1, v, f, σ, hv, h, hQ => by
    refine t_X11_betters_2 hS ⟨fun q => absurd q (by omega), fun _ => m_isBettered hS h (fun hw σ1 w1 r1 => ⟨fun _ => ?_, fun c => absurd rfl c⟩) (fun x σ1 hw w1 r1 => ⟨fun c => absurd c (by decide), fun _ => ⟨inR_s (by omega) (by omega), ?_⟩⟩)⟩
    · rw [bets_n hw] at hQ
      exact hQ σ1 w1 r1
    · rw [bets_s hw] at hQ
      refine m_betGo hS n (v + 1) _ σ1 (by omega) w1 (fun σ2 w2 r2 => ?_)
      have := hQ σ2 w2 (r1.trans r2)
      rw [show v + 1 + (bets (gG D) (hm D) (TT D) N n (rvs (x / 24) (x % 24) f)).1 = v + ((bets (gG D) (hm D) (TT D) N n (rvs (x / 24) (x % 24) f)).1 + 1) by omega]
      exact this
theorem m_betters (hS : SHP S) (h : wQ σ D N f) (hQ : ∀ σ' : StT, wQ σ' D N (bets (gG D) (hm D) (TT D) N c200 f).2 → rP σ σ' → Q ((bets (gG D) (hm D) (TT D) N c200 f).1 : Int) σ') : WPs mX11_betters [vR 125] S σ Q := by
  refine e_X11_betters hS (m_betGo hS c200 0 f σ (by rw [c200_eq]) h (fun σ' a b => ?_))
  rw [Nat.zero_add]; exact hQ σ' a b
theorem m_laysAside (hS : SHP S) (hQ : ∀ σ' : StT, (∀ k, k < 152 → σ' 129 k = σ 127 k) → fr [129] σ σ' → Q 0 σ') : WPs mX11_laysAside [vR 125] S σ Q := by
  refine e_X11_laysAside hS (m_copies (f := 0) (t := 0) hS (k_127 hS) (k_129 hS) (by decide) (by decide) (by decide) (by decide) (by decide) (fun σ' a _ c => hQ σ' (fun k hk => ?_) c))
  have := a k hk
  rw [Nat.zero_add] at this; exact this
theorem m_takesBack (hS : SHP S) (hQ : ∀ σ' : StT, (∀ k, k < 152 → σ' 127 k = σ 129 k) → fr [127] σ σ' → Q 0 σ') : WPs mX11_takesBack [vR 125] S σ Q := by
  refine e_X11_takesBack hS (m_copies (f := 0) (t := 0) hS (k_129 hS) (k_127 hS) (by decide) (by decide) (by decide) (by decide) (by decide) (fun σ' a _ c => hQ σ' (fun k hk => ?_) c))
  have := a k hk
  rw [Nat.zero_add] at this; exact this
end MQE
