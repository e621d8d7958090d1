/-! stores: what is read behind what is written; frames -/
/-- nothing has changed but in the cells of L -/
def fr (L : List Nat) (σ σ' : StT) : Prop := ∀ b, b ∉ L → ∀ j, σ' b j = σ b j
theorem fr.rf {L : List Nat} {σ : StT} : fr L σ σ := fun _ _ _ => rfl
theorem fr.trans {L : List Nat} {σ σ1 σ2 : StT} (h : fr L σ σ1) (k : fr L σ1 σ2) : fr L σ σ2 := fun b hb j => (k b hb j).trans (h b hb j)
theorem fr.mono {L L' : List Nat} {σ σ' : StT} (h : fr L σ σ') (hl : ∀ b ∈ L, b ∈ L') : fr L' σ σ' := fun b hb j => h b (fun q => hb (hl b q)) j
theorem fr.put {L : List Nat} {σ σ' : StT} {a i : Nat} {v : Int} (h : fr L σ σ') (ha : a ∈ L) : fr L σ (up2 σ' a i v) := fun b hb j => by
  rw [up2_a (fun e => hb (by rw [e]; exact ha))]; exact h b hb j
theorem iab_0 {a : Int} (h : 0 ≤ a) : iab a = a := if_pos h
theorem iab_n (a : Int) : iab (-a) = iab a := by unfold iab; split <;> split <;> omega
theorem iab_pos (a : Int) : 0 ≤ iab a := by unfold iab; split <;> omega
theorem iab_le {a m : Int} (h1 : a ≤ m) (h2 : -m ≤ a) : iab a ≤ m := by unfold iab; split <;> omega
/-- a loop that counts up to n -/
theorem lup {I W : Int → StT → Prop} (n : Int) (hx : ∀ i σ, I i σ → n ≤ i → W i σ) (hs : ∀ i σ, I i σ → i < n → (∀ σ' : StT, I (i + 1) σ' → W (i + 1) σ') → W i σ) : ∀ i σ, I i σ → W i σ := by
  have key : ∀ (k : Nat) (i : Int) (σ : StT), (n - i).toNat = k → I i σ → W i σ := by
    intro k
    induction k with
    | zero => intro i σ hk hI; exact hx i σ hI (by omega)
    | succ k ih => intro i σ hk hI; exact hs i σ hI (by omega) (fun σ' h => ih (i + 1) σ' (by omega) h)
  intro i σ h
  exact key _ i σ rfl h
/-- any loop with a measure -/
theorem lwf {α : Type} {I W : α → Prop} (μ : α → Nat) (hs : ∀ a, I a → (∀ b, I b → μ b < μ a → W b) → W a) : ∀ a, I a → W a := by
  have key : ∀ (k : Nat) (a : α), μ a < k → I a → W a := by
    intro k
    induction k with
    | zero => intro a h; omega
    | succ k ih => intro a h hI; exact hs a hI (fun b hb hm => ih b (by omega) hb)
  intro a h
  exact key (μ a + 1) a (by omega) h
theorem inR_s {z : Int} (h1 : -1000000000 ≤ z) (h2 : z ≤ 1000000000) : inR z := ⟨by omega, by omega⟩
theorem tn_cast (n : Nat) : ((n : Int)).toNat = n := rfl
theorem nat_of {z : Int} (h : 0 ≤ z) : ∃ n : Nat, z = (n : Int) := Int.eq_ofNat_of_zero_le h
