/-! what a drawing is; Drawing, History -/
/-- strokes, size, join, home, down, up, the ends' x and y -/
def Dw : Type := Nat × (Int × Int × Int × Int × Int × Int) × (Nat → Int) × (Nat → Int)
def mkD (n : Nat) (sz jo hx hy dn up : Int) (X Y : Nat → Int) : Dw := (n, (sz, jo, hx, hy, dn, up), X, Y)
def Dw.n (D : Dw) : Nat := D.1
def Dw.sz (D : Dw) : Int := D.2.1.1
def Dw.jo (D : Dw) : Int := D.2.1.2.1
def Dw.hx (D : Dw) : Int := D.2.1.2.2.1
def Dw.hy (D : Dw) : Int := D.2.1.2.2.2.1
def Dw.dn (D : Dw) : Int := D.2.1.2.2.2.2.1
def Dw.up (D : Dw) : Int := D.2.1.2.2.2.2.2
def Dw.X (D : Dw) : Nat → Int := D.2.2.1
def Dw.Y (D : Dw) : Nat → Int := D.2.2.2
def gD (D : Dw) (j : Int) : Geo := (D.n, j, (fun e => if e < 2 * D.n then D.X e else 0), fun e => if e < 2 * D.n then D.Y e else 0)
def okDw (D : Dw) : Prop := D.n ≤ 24 ∧ (1 ≤ D.sz ∧ D.sz ≤ 200) ∧ (0 ≤ D.jo ∧ D.jo ≤ 50) ∧ (0 ≤ D.hx ∧ D.hx ≤ D.sz) ∧ (0 ≤ D.hy ∧ D.hy ≤ D.sz) ∧ (1 ≤ D.dn ∧ D.dn ≤ 9) ∧ (1 ≤ D.up ∧ D.up ≤ 9) ∧ ∀ e, e < 2 * D.n → (0 ≤ D.X e ∧ D.X e ≤ D.sz) ∧ (0 ≤ D.Y e ∧ D.Y e ≤ D.sz)
def cD (σ : StT) (d : Nat) (D : Dw) : Prop := σ d 2 = D.n ∧ σ d 3 = D.sz ∧ σ d 4 = D.jo ∧ σ d 5 = D.hx ∧ σ d 6 = D.hy ∧ σ d 7 = D.dn ∧ σ d 8 = D.up ∧ ∀ e, e < 2 * D.n → σ (d + 1) e = D.X e ∧ σ (d + 2) e = D.Y e
theorem cD.ext {σ σ' : StT} {d : Nat} {D : Dw} (h : cD σ d D) (h0 : ∀ j, σ' d j = σ d j) (h1 : ∀ j, σ' (d + 1) j = σ (d + 1) j) (h2 : ∀ j, σ' (d + 2) j = σ (d + 2) j) : cD σ' d D := by
  obtain ⟨a1, a2, a3, a4, a5, a6, a7, a8⟩ := h
  refine ⟨by rw [h0]; exact a1, by rw [h0]; exact a2, by rw [h0]; exact a3, by rw [h0]; exact a4, by rw [h0]; exact a5, by rw [h0]; exact a6, by rw [h0]; exact a7, fun e he => ?_⟩
  rw [h1, h2]; exact a8 e he
theorem okDw.G {D : Dw} (h : okDw D) {j : Int} (h0 : 0 ≤ j) (h1 : j ≤ 50) : okG (gD D j) := by
  obtain ⟨k1, k2, k3, k4, k5, k6, k7, k8⟩ := h
  refine ⟨k1, h0, h1, fun e => ?_, fun e => ?_⟩
  · show 0 ≤ (if e < 2 * D.n then D.X e else 0) ∧ (if e < 2 * D.n then D.X e else 0) ≤ 200
    split
    · have := (k8 e (by assumption)).1; omega
    · omega
  · show 0 ≤ (if e < 2 * D.n then D.Y e else 0) ∧ (if e < 2 * D.n then D.Y e else 0) ≤ 200
    split
    · have := (k8 e (by assumption)).2; omega
    · omega
theorem cD.ok {σ : StT} {d : Nat} {D : Dw} (h : cD σ d D) (ho : okDw D) : okD σ d := by
  refine ⟨by rw [h.1]; omega, by rw [h.1]; have := ho.1; omega, fun e he => ?_⟩
  rw [h.1] at he
  obtain ⟨e1, e2⟩ := h.2.2.2.2.2.2.2 e (by omega)
  rw [e1, e2]
  have := ho.2.2.2.2.2.2.2 e (by omega)
  have := ho.2.1
  omega
theorem cD.geo {σ : StT} {d : Nat} {D : Dw} (h : cD σ d D) (j : Int) : geoD σ d j = gD D j := by
  unfold geoD gD
  rw [h.1, tn_cast]
  congr 1
  congr 1
  congr 1
  · funext e
    by_cases c : e < 2 * D.n
    · rw [if_pos c, if_pos c, (h.2.2.2.2.2.2.2 e c).1]
    · rw [if_neg c, if_neg c]
  · funext e
    by_cases c : e < 2 * D.n
    · rw [if_pos c, if_pos c, (h.2.2.2.2.2.2.2 e c).2]
    · rw [if_neg c, if_neg c]
/-- a stroke more -/
def addD (D : Dw) (x y u v : Int) : Dw := mkD (D.n + 1) D.sz D.jo D.hx D.hy D.dn D.up (fun e => if e = 2 * D.n then x else if e = 2 * D.n + 1 then u else D.X e) (fun e => if e = 2 * D.n then y else if e = 2 * D.n + 1 then v else D.Y e)
/-- a stroke less -/
def dropD (D : Dw) (s : Nat) : Dw := mkD (D.n - 1) D.sz D.jo D.hx D.hy D.dn D.up (fun e => if e < 2 * s then D.X e else D.X (e + 2)) (fun e => if e < 2 * s then D.Y e else D.Y (e + 2))
theorem okDw.add {D : Dw} {x y u v : Int} (h : okDw D) (hn : D.n < 24) (hx : 0 ≤ x ∧ x ≤ D.sz) (hy : 0 ≤ y ∧ y ≤ D.sz) (hu : 0 ≤ u ∧ u ≤ D.sz) (hv : 0 ≤ v ∧ v ≤ D.sz) : okDw (addD D x y u v) := by
  obtain ⟨k1, k2, k3, k4, k5, k6, k7, k8⟩ := h
  refine ⟨hn, k2, k3, k4, k5, k6, k7, fun e he => ?_⟩
  replace he : e < 2 * (D.n + 1) := he
  show (0 ≤ (if e = 2 * D.n then x else if e = 2 * D.n + 1 then u else D.X e) ∧ (if e = 2 * D.n then x else if e = 2 * D.n + 1 then u else D.X e) ≤ D.sz) ∧ (0 ≤ (if e = 2 * D.n then y else if e = 2 * D.n + 1 then v else D.Y e) ∧ (if e = 2 * D.n then y else if e = 2 * D.n + 1 then v else D.Y e) ≤ D.sz)
  by_cases c : e = 2 * D.n
  · rw [if_pos c, if_pos c]; exact ⟨hx, hy⟩
  · rw [if_neg c, if_neg c]
    by_cases c2 : e = 2 * D.n + 1
    · rw [if_pos c2, if_pos c2]; exact ⟨hu, hv⟩
    · rw [if_neg c2, if_neg c2]; exact k8 e (by omega)
theorem okDw.drop {D : Dw} {s : Nat} (h : okDw D) (hs : s < D.n) : okDw (dropD D s) := by
  obtain ⟨k1, k2, k3, k4, k5, k6, k7, k8⟩ := h
  refine ⟨by show D.n - 1 ≤ 24; omega, k2, k3, k4, k5, k6, k7, fun e he => ?_⟩
  replace he : e < 2 * (D.n - 1) := he
  show (0 ≤ (if e < 2 * s then D.X e else D.X (e + 2)) ∧ (if e < 2 * s then D.X e else D.X (e + 2)) ≤ D.sz) ∧ (0 ≤ (if e < 2 * s then D.Y e else D.Y (e + 2)) ∧ (if e < 2 * s then D.Y e else D.Y (e + 2)) ≤ D.sz)
  by_cases c : e < 2 * s
  · rw [if_pos c, if_pos c]; exact k8 e (by omega)
  · rw [if_neg c, if_neg c]; exact k8 (e + 2) (by omega)
theorem isD_lt {d : Nat} (h : isD d) : 4 ≤ d ∧ d ≤ 106 := by unfold isD at h; omega
section DRAW
variable {S : ShT} {σ : StT} {d e p q : Nat} {Q : Int → StT → Prop} {D : Dw}
theorem sp_dcopy (hS : SHP S) (hd : isD d) (he : isD e) (hne : d + 2 < e ∨ e + 2 < d) (h : cD σ e D) (hn : D.n ≤ 24) (hQ : ∀ σ' : StT, cD σ' d D → fr [d, d + 1, d + 2] σ σ' → Q 0 σ') : WPs mX0_copy [vR d, vR e] S σ Q := by
  obtain ⟨a1, a2, a3, a4, a5, a6, a7, a8⟩ := h
  refine e_X0_copy hS hd he hne ?_
  rw [a1, a2, a3, a4, a5, a6, a7]
  have F0 : fr [d, d + 1, d + 2] σ (up2 (up2 (up2 (up2 (up2 (up2 (up2 σ d 2 (D.n : Int)) d 3 D.sz) d 4 D.jo) d 5 D.hx) d 6 D.hy) d 7 D.dn) d 8 D.up) := ((((((fr.rf.put (by simp)).put (by simp)).put (by simp)).put (by simp)).put (by simp)).put (by simp)).put (by simp)
  have z2 : (up2 (up2 (up2 (up2 (up2 (up2 (up2 σ d 2 (D.n : Int)) d 3 D.sz) d 4 D.jo) d 5 D.hx) d 6 D.hy) d 7 D.dn) d 8 D.up) d 2 = D.n := by simp [up2]
  have z3 : (up2 (up2 (up2 (up2 (up2 (up2 (up2 σ d 2 (D.n : Int)) d 3 D.sz) d 4 D.jo) d 5 D.hx) d 6 D.hy) d 7 D.dn) d 8 D.up) d 3 = D.sz := by simp [up2]
  have z4 : (up2 (up2 (up2 (up2 (up2 (up2 (up2 σ d 2 (D.n : Int)) d 3 D.sz) d 4 D.jo) d 5 D.hx) d 6 D.hy) d 7 D.dn) d 8 D.up) d 4 = D.jo := by simp [up2]
  have z5 : (up2 (up2 (up2 (up2 (up2 (up2 (up2 σ d 2 (D.n : Int)) d 3 D.sz) d 4 D.jo) d 5 D.hx) d 6 D.hy) d 7 D.dn) d 8 D.up) d 5 = D.hx := by simp [up2]
  have z6 : (up2 (up2 (up2 (up2 (up2 (up2 (up2 σ d 2 (D.n : Int)) d 3 D.sz) d 4 D.jo) d 5 D.hx) d 6 D.hy) d 7 D.dn) d 8 D.up) d 6 = D.hy := by simp [up2]
  have z7 : (up2 (up2 (up2 (up2 (up2 (up2 (up2 σ d 2 (D.n : Int)) d 3 D.sz) d 4 D.jo) d 5 D.hx) d 6 D.hy) d 7 D.dn) d 8 D.up) d 7 = D.dn := by simp [up2]
  have z8 : (up2 (up2 (up2 (up2 (up2 (up2 (up2 σ d 2 (D.n : Int)) d 3 D.sz) d 4 D.jo) d 5 D.hx) d 6 D.hy) d 7 D.dn) d 8 D.up) d 8 = D.up := by simp [up2]
  generalize up2 (up2 (up2 (up2 (up2 (up2 (up2 σ d 2 (D.n : Int)) d 3 D.sz) d 4 D.jo) d 5 D.hx) d 6 D.hy) d 7 D.dn) d 8 D.up = σ0 at F0 z2 z3 z4 z5 z6 z7 z8
  refine lup (I := fun i σ' => 0 ≤ i ∧ i ≤ ((2 * D.n : Nat) : Int) ∧ fr [d + 1, d + 2] σ0 σ' ∧ ∀ x : Nat, (x : Int) < i → σ' (d + 1) x = D.X x ∧ σ' (d + 2) x = D.Y x) (W := fun i σ' => AWs mX0_copy 58 [(0, vR d), (1, vR e), (2, vI i)] [] S σ' Q) ((2 * D.n : Nat) : Int) ?_ ?_ 0 σ0 ⟨by omega, by omega, fr.rf, fun x hx => by omega⟩
  · rintro i σ1 ⟨i0, i1, i2, i3⟩ hge
    have zz : ∀ j, σ1 d j = σ0 d j := fun j => i2 d (by simp) j
    refine t_X0_copy_58 hS hd he hne ?_
    rw [zz, z2]
    refine ⟨inR_s (by omega) (by omega), fun _ => hQ σ1 ⟨by rw [zz, z2], by rw [zz, z3], by rw [zz, z4], by rw [zz, z5], by rw [zz, z6], by rw [zz, z7], by rw [zz, z8], fun x hx => i3 x (by omega)⟩ (F0.trans (i2.mono (by simp))), fun q => absurd (by omega) q⟩
  · rintro i σ1 ⟨i0, i1, i2, i3⟩ hlt kk
    obtain ⟨i, rfl⟩ := nat_of i0
    have zz : ∀ j, σ1 d j = σ0 d j := fun j => i2 d (by simp) j
    have b1 : σ1 (e + 1) i = D.X i := by rw [i2 (e + 1) (by simp; omega), F0 (e + 1) (by simp; omega)]; exact (a8 i (by omega)).1
    have b2 : σ1 (e + 2) i = D.Y i := by rw [i2 (e + 2) (by simp; omega), F0 (e + 2) (by simp; omega)]; exact (a8 i (by omega)).2
    refine t_X0_copy_58 hS hd he hne ?_
    rw [zz, z2, tn_cast, b1, b2]
    refine ⟨inR_s (by omega) (by omega), fun q => absurd q (by omega), fun _ => ⟨⟨by omega, by omega⟩, ⟨by omega, by omega⟩, ⟨by omega, by omega⟩, ⟨by omega, by omega⟩, inR_s (by omega) (by omega), kk _ ⟨by omega, by omega, (i2.put (by simp)).put (by simp), fun x hx => ?_⟩⟩⟩
    by_cases c : x = i
    · subst c; exact ⟨by rw [up2_a (by omega), up2_s], up2_s _ _ _ _⟩
    · exact ⟨by rw [up2_i c, up2_i c]; exact (i3 x (by omega)).1, by rw [up2_i c, up2_i c]; exact (i3 x (by omega)).2⟩
theorem sp_dput {x y u v : Int} (hS : SHP S) (hd : isD d) (h : cD σ d D) (hn : D.n < 24) (hQ : ∀ σ' : StT, cD σ' d (addD D x y u v) → fr [d, d + 1, d + 2] σ σ' → Q 0 σ') : WPs mX0_putStroke [vR d, vI x, vI y, vI u, vI v] S σ Q := by
  obtain ⟨a1, a2, a3, a4, a5, a6, a7, a8⟩ := h
  refine e_X0_putStroke hS hd ⟨fun _ => ?_, fun q => absurd (by rw [a1]; omega) q⟩
  rw [a1]
  refine ⟨inR_s (by omega) (by omega), ⟨by omega, by omega⟩, inR_s (by omega) (by omega), ⟨by omega, by omega⟩, inR_s (by omega) (by omega), inR_s (by omega) (by omega), ⟨by omega, by omega⟩, inR_s (by omega) (by omega), inR_s (by omega) (by omega), ⟨by omega, by omega⟩, inR_s (by omega) (by omega), ?_⟩
  rw [show (2 * (D.n : Int)).toNat = 2 * D.n by omega, show (2 * (D.n : Int) + 1).toNat = 2 * D.n + 1 by omega]
  have F : fr [d, d + 1, d + 2] σ (up2 (up2 (up2 (up2 (up2 σ (d + 1) (2 * D.n) x) (d + 2) (2 * D.n) y) (d + 1) (2 * D.n + 1) u) (d + 2) (2 * D.n + 1) v) d 2 ((D.n : Int) + 1)) := ((((fr.rf.put (by simp)).put (by simp)).put (by simp)).put (by simp)).put (by simp)
  refine hQ _ ⟨by rw [up2_s]; rfl, ?_, ?_, ?_, ?_, ?_, ?_, fun z hz => ⟨?_, ?_⟩⟩ F
  · rw [up2_i (by decide), up2_a (by omega), up2_a (by omega), up2_a (by omega), up2_a (by omega)]; exact a2
  · rw [up2_i (by decide), up2_a (by omega), up2_a (by omega), up2_a (by omega), up2_a (by omega)]; exact a3
  · rw [up2_i (by decide), up2_a (by omega), up2_a (by omega), up2_a (by omega), up2_a (by omega)]; exact a4
  · rw [up2_i (by decide), up2_a (by omega), up2_a (by omega), up2_a (by omega), up2_a (by omega)]; exact a5
  · rw [up2_i (by decide), up2_a (by omega), up2_a (by omega), up2_a (by omega), up2_a (by omega)]; exact a6
  · rw [up2_i (by decide), up2_a (by omega), up2_a (by omega), up2_a (by omega), up2_a (by omega)]; exact a7
  · replace hz : z < 2 * (D.n + 1) := hz
    show _ = if z = 2 * D.n then x else if z = 2 * D.n + 1 then u else D.X z
    rw [up2_a (by omega), up2_a (by omega)]
    by_cases c : z = 2 * D.n + 1
    · subst c; rw [up2_s, if_neg (by omega), if_pos rfl]
    · rw [up2_i c, up2_a (by omega)]
      by_cases c2 : z = 2 * D.n
      · subst c2; rw [up2_s, if_pos rfl]
      · rw [up2_i c2, if_neg c2, if_neg c]; exact (a8 z (by omega)).1
  · replace hz : z < 2 * (D.n + 1) := hz
    show _ = if z = 2 * D.n then y else if z = 2 * D.n + 1 then v else D.Y z
    rw [up2_a (by omega)]
    by_cases c : z = 2 * D.n + 1
    · subst c; rw [up2_s, if_neg (by omega), if_pos rfl]
    · rw [up2_i c, up2_a (by omega)]
      by_cases c2 : z = 2 * D.n
      · subst c2; rw [up2_s, if_pos rfl]
      · rw [up2_i c2, up2_a (by omega), if_neg c2, if_neg c]; exact (a8 z (by omega)).2
theorem sp_ddrop {s : Nat} (hS : SHP S) (hd : isD d) (h : cD σ d D) (hn : D.n ≤ 24) (hs : s < D.n) (hQ : ∀ σ' : StT, cD σ' d (dropD D s) → fr [d, d + 1, d + 2] σ σ' → Q 0 σ') : WPs mX0_removeStroke [vR d, vI (s : Int)] S σ Q := by
  obtain ⟨a1, a2, a3, a4, a5, a6, a7, a8⟩ := h
  refine e_X0_removeStroke hS hd ⟨fun q => absurd q (by omega), fun _ => ⟨fun _ => ?_, fun q => absurd (by rw [a1]; omega) q⟩⟩
  rw [a1]
  refine ⟨inR_s (by omega) (by omega), inR_s (by omega) (by omega), ?_⟩
  have F0 : fr [d, d + 1, d + 2] σ (up2 σ d 2 ((D.n : Int) - 1)) := fr.rf.put (by simp)
  have z2 : (up2 σ d 2 ((D.n : Int) - 1)) d 2 = (D.n : Int) - 1 := up2_s _ _ _ _
  have zj : ∀ j, j ≠ 2 → (up2 σ d 2 ((D.n : Int) - 1)) d j = σ d j := fun j hj => up2_i hj
  have z1 : ∀ j, (up2 σ d 2 ((D.n : Int) - 1)) (d + 1) j = σ (d + 1) j := fun j => up2_a (by omega)
  have z3 : ∀ j, (up2 σ d 2 ((D.n : Int) - 1)) (d + 2) j = σ (d + 2) j := fun j => up2_a (by omega)
  generalize up2 σ d 2 ((D.n : Int) - 1) = σ0 at F0 z2 zj z1 z3
  refine lup (I := fun i σ' => 2 * (s : Int) ≤ i ∧ i ≤ 2 * ((D.n : Int) - 1) ∧ fr [d + 1, d + 2] σ0 σ' ∧ (∀ x : Nat, (x : Int) < i → σ' (d + 1) x = (if x < 2 * s then D.X x else D.X (x + 2)) ∧ σ' (d + 2) x = if x < 2 * s then D.Y x else D.Y (x + 2)) ∧ ∀ x : Nat, i ≤ x → x < 2 * D.n → σ' (d + 1) x = D.X x ∧ σ' (d + 2) x = D.Y x) (W := fun i σ' => AWs mX0_removeStroke 27 [(0, vR d), (2, vI i)] [] S σ' Q) (2 * ((D.n : Int) - 1)) ?_ ?_ (2 * (s : Int)) σ0 ⟨by omega, by omega, fr.rf, fun x hx => ?_, fun x hx hx2 => ?_⟩
  · rintro i σ1 ⟨i0, i1, i2, i3, i4⟩ hge
    have zz : ∀ j, σ1 d j = σ0 d j := fun j => i2 d (by simp) j
    refine t_X0_removeStroke_27 hS hd ?_
    rw [zz, z2]
    refine ⟨inR_s (by omega) (by omega), fun _ => hQ σ1 ⟨?_, by rw [zz, zj 3 (by decide)]; exact a2, by rw [zz, zj 4 (by decide)]; exact a3, by rw [zz, zj 5 (by decide)]; exact a4, by rw [zz, zj 6 (by decide)]; exact a5, by rw [zz, zj 7 (by decide)]; exact a6, by rw [zz, zj 8 (by decide)]; exact a7, fun x hx => ?_⟩ (F0.trans (i2.mono (by simp))), fun q => absurd (by omega) q⟩
    · rw [zz, z2]; show _ = ((D.n - 1 : Nat) : Int); omega
    · replace hx : x < 2 * (D.n - 1) := hx
      exact i3 x (by omega)
  · rintro i σ1 ⟨i0, i1, i2, i3, i4⟩ hlt kk
    obtain ⟨i, rfl⟩ := nat_of (show 0 ≤ i by omega)
    have zz : ∀ j, σ1 d j = σ0 d j := fun j => i2 d (by simp) j
    obtain ⟨b1, b2⟩ := i4 (i + 2) (by omega) (by omega)
    refine t_X0_removeStroke_27 hS hd ?_
    rw [zz, z2, tn_cast, show ((i : Int) + 2).toNat = i + 2 by omega, b1, b2]
    refine ⟨inR_s (by omega) (by omega), fun q => absurd q (by omega), fun _ => ⟨inR_s (by omega) (by omega), ⟨by omega, by omega⟩, ⟨by omega, by omega⟩, inR_s (by omega) (by omega), ⟨by omega, by omega⟩, ⟨by omega, by omega⟩, inR_s (by omega) (by omega), kk _ ⟨by omega, by omega, (i2.put (by simp)).put (by simp), fun x hx => ?_, fun x hx hx2 => ?_⟩⟩⟩
    · by_cases c : x = i
      · subst c; rw [if_neg (by omega), if_neg (by omega)]; exact ⟨by rw [up2_a (by omega), up2_s], up2_s _ _ _ _⟩
      · exact ⟨by rw [up2_i c, up2_i c]; exact (i3 x (by omega)).1, by rw [up2_i c, up2_i c]; exact (i3 x (by omega)).2⟩
    · have c : x ≠ i := by omega
      exact ⟨by rw [up2_i c, up2_i c]; exact (i4 x (by omega) hx2).1, by rw [up2_i c, up2_i c]; exact (i4 x (by omega) hx2).2⟩
  · rw [if_pos (by omega), if_pos (by omega), z1, z3]; exact a8 x (by omega)
  · rw [z1, z3]; exact a8 x hx2
end DRAW
