/-! Plan: better; the pen; the longest, the farthest, the lifts -/
/-- numbers that no one unfolds -/
noncomputable def c576 : Nat := Classical.choose (p := fun n => n = 576) ⟨576, rfl⟩
theorem c576_eq : c576 = 576 := Classical.choose_spec (p := fun n => n = 576) ⟨576, rfl⟩
noncomputable def c200 : Nat := Classical.choose (p := fun n => n = 200) ⟨200, rfl⟩
theorem c200_eq : c200 = 200 := Classical.choose_spec (p := fun n => n = 200) ⟨200, rfl⟩
noncomputable def win (G : Geo) (H : Int × Int) (T : Tr) (N : Nat) (f : Nat → Nat) : Option Nat := fst1 (fun x => decide (x / 24 ≤ x % 24) && decide (x % 24 < N) && decide (chg G H T N f (x / 24) (x % 24) < 0)) c576
noncomputable def bets (G : Geo) (H : Int × Int) (T : Tr) (N : Nat) : Nat → (Nat → Nat) → Nat × (Nat → Nat)
  | 0, f => (0, f)
  | n + 1, f => match win G H T N f with
    | none => (0, f)
    | some x => ((bets G H T N n (rvs (x / 24) (x % 24) f)).1 + 1, (bets G H T N n (rvs (x / 24) (x % 24) f)).2)
theorem bets_n {G : Geo} {H : Int × Int} {T : Tr} {N n : Nat} {f : Nat → Nat} (h : win G H T N f = none) : bets G H T N (n + 1) f = (0, f) := by
  rw [bets, h]
theorem bets_s {G : Geo} {H : Int × Int} {T : Tr} {N n x : Nat} {f : Nat → Nat} (h : win G H T N f = some x) : bets G H T N (n + 1) f = ((bets G H T N n (rvs (x / 24) (x % 24) f)).1 + 1, (bets G H T N n (rvs (x / 24) (x % 24) f)).2) := by
  rw [bets, h]
theorem win_is {G : Geo} {H : Int × Int} {T : Tr} {N i k : Nat} {f : Nat → Nat} (hN : N ≤ 24) (hik : i ≤ k) (hk : k < N) (hc : chg G H T N f i k < 0) (hb : ∀ i' k', i' ≤ k' → k' < N → (i' < i ∨ (i' = i ∧ k' < k)) → 0 ≤ chg G H T N f i' k') : win G H T N f = some (24 * i + k) := by
  unfold win
  refine fst1_is (by rw [c576_eq]; omega) ?_ (fun y hy => ?_)
  · rw [show (24 * i + k) / 24 = i by omega, show (24 * i + k) % 24 = k by omega]; simp [hik, hk, hc]
  · by_cases c : y / 24 ≤ y % 24 ∧ y % 24 < N
    · have := hb (y / 24) (y % 24) c.1 c.2 (by omega)
      simp [c.1, c.2]; omega
    · by_cases c1 : y / 24 ≤ y % 24
      · have c2 : ¬ y % 24 < N := fun q => c ⟨c1, q⟩
        simp only [decide_eq_false c2]; simp
      · simp only [decide_eq_false c1]; simp
theorem win_no {G : Geo} {H : Int × Int} {T : Tr} {N : Nat} {f : Nat → Nat} (hb : ∀ i' k', i' ≤ k' → k' < N → 0 ≤ chg G H T N f i' k') : win G H T N f = none := by
  unfold win
  refine fst1_no (fun y hy => ?_)
  by_cases c1 : y / 24 ≤ y % 24
  · by_cases c2 : y % 24 < N
    · have := hb (y / 24) (y % 24) c1 c2
      simp [c1, c2]; omega
    · simp only [decide_eq_false c2]; simp
  · simp only [decide_eq_false c1]; simp
theorem win_ok {G : Geo} {H : Int × Int} {T : Tr} {N x : Nat} {f : Nat → Nat} (h : win G H T N f = some x) : x / 24 ≤ x % 24 ∧ x % 24 < N ∧ chg G H T N f (x / 24) (x % 24) < 0 := by
  obtain ⟨-, h2, -⟩ := fst1_some h
  simp at h2
  exact ⟨h2.1.1, h2.1.2, h2.2⟩
theorem bets_F {G : Geo} {H : Int × Int} {T : Tr} {N : Nat} : ∀ (n : Nat) {f : Nat → Nat}, okF T N f → okF T N (bets G H T N n f).2 ∧ (bets G H T N n f).1 ≤ n
  | 0, f, h => ⟨h, Nat.le_refl _⟩
  | n + 1, f, h => by
    cases e : win G H T N f with
    | none => rw [bets_n e]; exact ⟨h, Nat.zero_le _⟩
    | some x =>
      rw [bets_s e]
      obtain ⟨-, h2, -⟩ := win_ok e
      have := bets_F (G := G) (H := H) n (h.rv (i := x / 24) h2)
      exact ⟨this.1, by show (bets G H T N n _).1 + 1 ≤ n + 1; omega⟩
/-- the pen within a trail: clock, strokes, whether it is stopped there -/
def pS (t d : Int) (g : Nat → Int) : Nat → Nat → Int → Int → Int × Int × Bool
  | 0, _, c, h => (c, h, false)
  | r + 1, k, c, h => if c + d * g k ≤ t then pS t d g r (k + 1) (c + d * g k) (h + 1) else (c + d * g k, h, true)
/-- strokes, down, trails -/
def pA (t d u : Int) (l : Nat → Int) (n : Nat → Nat) (g : Nat → Nat → Int) : Nat → Nat → Int → Int → Int × Int × Int
  | 0, i, _, h => (h, 0, i)
  | r + 1, i, c, h => if c + u * l i ≤ t then (if (pS t d (g i) (n i) 0 (c + u * l i) h).2.2 = true then ((pS t d (g i) (n i) 0 (c + u * l i) h).2.1, 1, i) else pA t d u l n g r (i + 1) (pS t d (g i) (n i) 0 (c + u * l i) h).1 (pS t d (g i) (n i) 0 (c + u * l i) h).2.1) else (h, 0, i)
noncomputable def pen (G : Geo) (H : Int × Int) (T : Tr) (N : Nat) (f : Nat → Nat) (d u t : Int) : Int × Int × Int := pA t d u (lg G H T N f) (fun i => (tg T (f i / 2)).2.length) (fun i k => sl G (rdN G T (f i) k / 2)) N 0 0 0
def ofP (w : Int) (r : Int × Int × Int) : Int := if w = 0 then r.1 else if w = 1 then r.2.1 else r.2.2
/-- the longest so far -/
noncomputable def lgs (G : Geo) (T : Tr) (f : Nat → Nat) : Nat → Int
  | 0 => -2
  | i + 1 => if lgs G T f i = -2 ∨ tL G (tg T (f (lgs G T f i).toNat / 2)).2 < tL G (tg T (f i / 2)).2 then (i : Int) else lgs G T f i
/-- the farthest of the legs from 0 to i -/
def frt (l : Nat → Int) : Nat → Nat
  | 0 => 0
  | i + 1 => if l (frt l i) < l (i + 1) then i + 1 else frt l i
theorem frt_le (l : Nat → Int) : ∀ i, frt l i ≤ i
  | 0 => Nat.le_refl _
  | i + 1 => by unfold frt; have := frt_le l i; split <;> omega
theorem lgs_in (G : Geo) (T : Tr) (f : Nat → Nat) : ∀ i, lgs G T f i = -2 ∧ i = 0 ∨ 0 ≤ lgs G T f i ∧ lgs G T f i < i
  | 0 => Or.inl ⟨rfl, rfl⟩
  | i + 1 => by
    unfold lgs
    have := lgs_in G T f i
    split <;> omega
section PLANE
variable {S : ShT} {σ : StT} {p : Nat} {Q : Int → StT → Prop} {G : Geo} {H : Int × Int} {T : Tr} {N : Nat} {f : Nat → Nat}
theorem sp_turnsFirst (hS : SHP S) (hp : isP p) (h : wP σ G H T) (hf : pl σ p N f) (ho : okF T N f) (h0 : win G H T N f = none → Q 0 σ) (h1 : ∀ (x : Nat) (σ' : StT), win G H T N f = some x → pl σ' p N (rvs (x / 24) (x % 24) f) → fr [p + 1] σ σ' → Q 1 σ') : WPs mX5_turnsFirstThatWins [vR p] S σ Q := by
  have hN := ho.1
  refine e_X5_turnsFirstThatWins hS hp ?_
  refine lup (I := fun i σ' => 0 ≤ i ∧ i ≤ (N : Int) ∧ σ' = σ ∧ ∀ i' k' : Nat, i' ≤ k' → k' < N → (i' : Int) < i → 0 ≤ chg G H T N f i' k') (W := fun i σ' => AWs mX5_turnsFirstThatWins 2 [(0, vR p), (1, vI i)] [] S σ' Q) (N : Int) ?_ ?_ 0 σ ⟨by omega, by omega, rfl, fun i' k' _ _ q => by omega⟩
  · rintro i σ1 ⟨i0, i1, rfl, i2⟩ hge
    refine t_X5_turnsFirstThatWins_2 hS hp ?_
    rw [hf.1]
    exact ⟨fun _ => h0 (win_no (fun i' k' a b => i2 i' k' a b (by omega))), fun q => absurd hge q⟩
  · rintro i σ1 ⟨i0, i1, rfl, i2⟩ hlt kk
    obtain ⟨i, rfl⟩ := nat_of i0
    refine t_X5_turnsFirstThatWins_2 hS hp ?_
    rw [hf.1]
    refine ⟨fun q => absurd q (by omega), fun _ => ?_⟩
    refine lup (I := fun k σ' => (i : Int) ≤ k ∧ k ≤ (N : Int) ∧ σ' = σ1 ∧ ∀ k' : Nat, i ≤ k' → (k' : Int) < k → 0 ≤ chg G H T N f i k') (W := fun k σ' => AWs mX5_turnsFirstThatWins 12 [(0, vR p), (1, vI (i : Int)), (2, vI k)] [] S σ' Q) (N : Int) ?_ ?_ (i : Int) σ1 ⟨by omega, by omega, rfl, fun k' _ q => by omega⟩
    · rintro k σ2 ⟨k0, k1, rfl, k2⟩ hge
      refine t_X5_turnsFirstThatWins_12 hS hp ?_
      rw [hf.1]
      refine ⟨fun _ => ⟨inR_s (by omega) (by omega), kk σ2 ⟨by omega, by omega, rfl, fun i' k' a b c => ?_⟩⟩, fun q => absurd hge q⟩
      by_cases e : i' = i
      · subst e; exact k2 k' a (by omega)
      · exact i2 i' k' a b (by omega)
    · rintro k σ2 ⟨k0, k1, rfl, k2⟩ hlt2 kk2
      obtain ⟨k, rfl⟩ := nat_of (show 0 ≤ k by omega)
      refine t_X5_turnsFirstThatWins_12 hS hp ?_
      rw [hf.1]
      refine ⟨fun q => absurd q (by omega), fun _ => sp_changeBy hS hp h hf ho (by omega) (by omega) ⟨fun q => ⟨inR_s (by omega) (by omega), kk2 σ2 ⟨by omega, by omega, rfl, fun k' a b => ?_⟩⟩, fun q => ?_⟩⟩
      · by_cases e : k' = k
        · subst e; exact q
        · exact k2 k' a (by omega)
      · have hw := win_is (G := G) (H := H) (T := T) (f := f) hN (show i ≤ k by omega) (show k < N by omega) (by omega) (fun i' k' a b c => by
          rcases c with c | ⟨rfl, c⟩
          · exact i2 i' k' a b (by omega)
          · exact k2 k' a (by omega))
        refine sp_turnRun hS hp hf ho h.le (by omega) (by omega) ?_
        intro σ3 c1 c2
        refine h1 _ σ3 hw ?_ c2
        rw [show (24 * i + k) / 24 = i by omega, show (24 * i + k) % 24 = k by omega]; exact c1
theorem sp_makeBetter (hS : SHP S) (hp : isP p) (h : wP σ G H T) (hf : pl σ p N f) (ho : okF T N f) (hQ : ∀ σ' : StT, pl σ' p N (bets G H T N c200 f).2 → fr [p + 1] σ σ' → Q ((bets G H T N c200 f).1 : Int) σ') : WPs mX5_makeBetter [vR p] S σ Q := by
  have hpl := isP_lt hp
  refine e_X5_makeBetter hS hp ?_
  have key : ∀ (n d : Nat) (σ1 : StT) (g : Nat → Nat), n + d = c200 → pl σ1 p N g → okF T N g → fr [p + 1] σ σ1 → (bets G H T N c200 f).2 = (bets G H T N n g).2 → (bets G H T N c200 f).1 = d + (bets G H T N n g).1 → AWs mX5_makeBetter 2 [(0, vR p), (1, vI (d : Int))] [] S σ1 Q := by
    intro n
    induction n with
    | zero =>
      intro d σ1 g hd hg hog F e2 e1
      have hc := c200_eq
      have b1 : (bets G H T N c200 f).1 = 200 := by rw [e1]; show d + 0 = 200; omega
      refine t_X5_makeBetter_2 hS hp ⟨fun _ => ?_, fun q => absurd (by omega) q⟩
      have := hQ σ1 (by rw [e2]; exact hg) F
      rw [b1] at this; exact this
    | succ n ih =>
      intro d σ1 g hd hg hog F e2 e1
      have hc := c200_eq
      have h1 : wP σ1 G H T := h.ext (lo := 51) (hi := 124) (F.R (by simp; omega)) (by omega)
      refine t_X5_makeBetter_2 hS hp ⟨fun q => absurd q (by omega), fun _ => sp_turnsFirst hS hp h1 hg hog (fun hw => ⟨fun q => absurd rfl q, fun _ => ?_⟩) (fun x σ2 hw hg2 F2 => ⟨fun _ => ⟨inR_s (by omega) (by omega), ?_⟩, fun q => absurd q (by decide)⟩)⟩
      · rw [bets_n hw] at e1 e2
        have := hQ σ1 (by rw [e2]; exact hg) F
        rw [e1] at this; exact this
      · refine ih (d + 1) σ2 (rvs (x / 24) (x % 24) g) (by omega) hg2 (hog.rv (win_ok hw).2.1) (F.trans F2) ?_ ?_
        · rw [e2, bets_s hw]
        · rw [e1, bets_s hw]
          show d + ((bets G H T N n _).1 + 1) = _
          omega
  exact key c200 0 σ f rfl hf ho fr.rf rfl (by omega)
end PLANE
