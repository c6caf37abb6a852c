theorem m_if {α : Type} {c : Prop} {inst : Decidable c} {a b z : α} (h : @ite _ c inst a b = z) : (c ∧ a = z) ∨ (¬ c ∧ b = z) := by
  by_cases hc : c
  · exact Or.inl ⟨hc, (if_pos hc).symm.trans h⟩
  · exact Or.inr ⟨hc, (if_neg hc).symm.trans h⟩
theorem k_nm1 {β : Type} {X : XT} {Q : State → Prop} {G : GT} {A : Nat → Prop} {nL : Nat} {lv : List (Nat × Value)} {st : List Value} {ws : va_W} {v : Value} {x : Int32} {b : Int32 → Option β} {y : β} {pc : Nat} (hm : nme x b = some y) (k : ∀ z : Int32, b z = some y → KJ X Q G A nL pc lv (v :: .int z :: st) ws) : KJ X Q G A nL pc lv (v :: .int x :: st) ws := k x hm
theorem k_nml1 {β : Type} {X : XT} {Q : State → Prop} {G : GT} {A : Nat → Prop} {nL : Nat} {lv : List (Nat × Value)} {st : List Value} {ws : va_W} {v : Value} {x : Int64} {b : Int64 → Option β} {y : β} {pc : Nat} (hm : nme x b = some y) (k : ∀ z : Int64, b z = some y → KJ X Q G A nL pc lv (v :: .long z :: st) ws) : KJ X Q G A nL pc lv (v :: .long x :: st) ws := k x hm
