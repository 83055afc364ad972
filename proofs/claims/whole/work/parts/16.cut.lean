/-! cuts, one behind the other -/
def JHC (G : JG) (x mc ms : Nat) (Q : Int → JM → Prop) (cut : JCut) : Prop := ∀ pc sl P, jcut cut pc = some (sl, P) → ∀ cells slots vs M, P cells slots vs M → vs.length = sl.length → J G x mc ms Q cells slots pc (sl.zip vs) [] M
theorem jcut_nil {G : JG} {x mc ms : Nat} {Q : Int → JM → Prop} : JHC G x mc ms Q [] := fun _ _ _ h => by cases h
theorem jcut_cons {G : JG} {x mc ms : Nat} {Q : Int → JM → Prop} {cut : JCut} {pc : Nat} {sl : List Nat} {P : Nat → Nat → List JV → JM → Prop} (h1 : ∀ cells slots vs M, P cells slots vs M → vs.length = sl.length → J G x mc ms Q cells slots pc (sl.zip vs) [] M) (h2 : JHC G x mc ms Q cut) : JHC G x mc ms Q ((pc, sl, P) :: cut) := by
  intro pc' sl' P' h
  unfold jcut at h
  split at h
  · rename_i e
    cases h
    dsimp only at e
    subst e
    exact h1
  · exact h2 pc' sl' P' h
