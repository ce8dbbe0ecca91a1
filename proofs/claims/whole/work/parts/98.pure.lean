theorem pure_all : ∃ (Fu : Nat) (P : mIT → mRT → mLT → Prop), (∀ I R L, P I R L → mWd R) ∧ lwSteps Fu P ∧ P iI0 iR0 iL0 := sorry
