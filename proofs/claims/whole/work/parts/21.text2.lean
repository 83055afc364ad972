/-! UnitAtlas$Text: contracts, the rest -/
/-- a pair of halves begins at i -/
def isP (n : Int) (w : Int → Int) (i : Int) : Prop := 0 ≤ i ∧ i + 1 < n ∧ 55296 ≤ w i ∧ w i ≤ 56319 ∧ 56320 ≤ w (i + 1) ∧ w (i + 1) ≤ 57343
noncomputable def ptAt (n : Int) (w : Int → Int) (i : Int) : Int := match Classical.propDecidable (isP n w i) with
  | .isTrue _ => 65536 + (w i - 55296) * 1024 + (w (i + 1) - 56320)
  | .isFalse _ => w i
theorem ptAt_pair {n : Int} {w : Int → Int} {i : Int} (h : isP n w i) : ptAt n w i = 65536 + (w i - 55296) * 1024 + (w (i + 1) - 56320) := by
  unfold ptAt
  cases Classical.propDecidable (isP n w i) with
  | isTrue _ => rfl
  | isFalse g => exact absurd h g
theorem ptAt_one {n : Int} {w : Int → Int} {i : Int} (h : ¬ isP n w i) : ptAt n w i = w i := by
  unfold ptAt
  cases Classical.propDecidable (isP n w i) with
  | isTrue g => exact absurd g h
  | isFalse _ => rfl
section TEXT2
variable {G : JG} {Q : Int → JM → Prop} {M : JM} {t c : Int}
theorem c_become {s d : Int} (T : Tx M t c) (S : Tx M s d) (hts : t ≠ s) (hfit : M 2901 s 0 ≤ c) (h : Q 0 (jset (jcpy (jset M 2901 t 0 0) (M 1000 s 0) 0 (M 1000 t 0) 0 (M 2901 s 0)) 2901 t 0 (M 2901 s 0))) : Runs G 93 0 0 [(1, t), (1, s)] M Q := by
  obtain ⟨T1, T2, T3, T4, T5, T6⟩ := T
  obtain ⟨S1, S2, S3, S4, S5, S6⟩ := S
  have e1 : jset M 2901 t 0 0 2901 s 0 = M 2901 s 0 := jset_a (by omega) _ _
  have e2 : jset M 2901 t 0 0 2901 t 0 = 0 := jset_s
  refine rn_X9_become t s M (sg_X9_become_0 t s M ⟨T1, S1, T1, ?_⟩)
  rw [e1]
  have Tn : Tx (jset M 2901 t 0 0) t c := ⟨T1, T2, T3, by rw [e2]; omega, by rw [e2]; omega, T6⟩
  have Sn : Tx (jset M 2901 t 0 0) s d := ⟨S1, S2, S3, by rw [e1]; omega, by rw [e1]; omega, S6⟩
  refine c_putPart Tn Sn (by omega) (fun _ _ _ _ _ => ?_) (fun g => absurd (by rw [e1, e2]; omega) g)
  have e3 : mpart (jset M 2901 t 0 0) t s 0 (M 2901 s 0) = jset (jcpy (jset M 2901 t 0 0) (M 1000 s 0) 0 (M 1000 t 0) 0 (M 2901 s 0)) 2901 t 0 (M 2901 s 0) := by
    unfold mpart
    rw [e2, Int.sub_zero, Int.zero_add]
    rfl
  rw [e3]; exact h
theorem c_putAhead {i u : Int} (T : Tx M t c) (h0 : 0 ≤ i) (h1 : i ≤ M 2901 t 0) (h2 : M 2901 t 0 < c) (h : Q 0 (jset (jset (jcpy M (M 1000 t 0) i (M 1000 t 0) (i + 1) (M 2901 t 0 - i)) 2 (M 1000 t 0) i u) 2901 t 0 (M 2901 t 0 + 1))) : Runs G 91 0 0 [(1, t), (0, i), (0, u)] M Q := by
  refine rn_X9_putAhead t i u M (sg_X9_putAhead_0 t i u M ⟨fun g => absurd g (by omega), fun _ => ⟨T.1, fun g => absurd g (by omega), fun _ => ⟨T.1, c_room T (fun _ => ?_)⟩⟩⟩)
  obtain ⟨T1, T2, T3, T4, T5, T6⟩ := T
  exact ⟨fun g => absurd g (by omega), fun _ => ⟨T1, T1, by unfold jR; omega, T1, by unfold jR; omega, ⟨T2, T2, h0, by omega, by omega, by omega, by omega⟩, T1, ⟨T2, h0, by omega⟩, T1, by unfold jR; omega, T1, h⟩⟩
theorem c_drop {i n : Int} (T : Tx M t c) (h0 : 0 ≤ i) (h1 : 0 ≤ n) (h2 : i + n ≤ M 2901 t 0) (h : Q 0 (jset (jcpy M (M 1000 t 0) (i + n) (M 1000 t 0) i (M 2901 t 0 - i - n)) 2901 t 0 (M 2901 t 0 - n))) : Runs G 92 0 0 [(1, t), (0, i), (0, n)] M Q := by
  refine rn_X9_drop t i n M (sg_X9_drop_0 t i n M ⟨T.1, c_hasSome T (fun _ _ _ _ => ⟨fun g => absurd g (by decide), fun _ => ?_⟩) (fun g => absurd ⟨h0, h1, h2⟩ g)⟩)
  obtain ⟨T1, T2, T3, T4, T5, T6⟩ := T
  exact ⟨T1, by unfold jR; omega, T1, T1, by unfold jR; omega, by unfold jR; omega, ⟨T2, T2, by omega, h0, by omega, by omega, by omega⟩, T1, by unfold jR; omega, T1, h⟩
theorem c_isPair {i : Int} (T : Tx M t c) (hi : i ≤ 1000000) (h1 : isP (M 2901 t 0) (M 2 (M 1000 t 0)) i → Q 1 M) (h0 : ¬ isP (M 2901 t 0) (M 2 (M 1000 t 0)) i → Q 0 M) : Runs G 94 0 0 [(1, t), (0, i)] M Q := by
  obtain ⟨T1, T2, T3, T4, T5, T6⟩ := T
  unfold isP at h1 h0
  refine rn_X9_isPair t i M (sg_X9_isPair_0 t i M ?_)
  repeat' first | apply And.intro | intro _
  all_goals first | assumption | exact Or.inl rfl | exact Or.inr rfl | omega | (unfold jR; omega) | (apply h0; omega) | (apply h1; omega)
theorem c_pointFrom {i : Int} (T : Tx M t c) (h0 : 0 ≤ i) (h1 : i < M 2901 t 0) (h : Q (ptAt (M 2901 t 0) (M 2 (M 1000 t 0)) i) M) : Runs G 95 0 0 [(1, t), (0, i)] M Q := by
  have T0 := T
  obtain ⟨T1, T2, T3, T4, T5, T6⟩ := T
  refine rn_X9_pointFrom t i M (sg_X9_pointFrom_0 t i M ⟨T1, c_isPair T0 (by omega) (fun g _ => ⟨fun g => absurd g (by decide), fun _ => ?_⟩) (fun g _ => ⟨fun _ => ⟨T1, c_hasPlace T0 (fun _ _ _ => ⟨fun g => absurd g (by decide), fun _ => ⟨T1, ⟨T2, h0, by omega⟩, ?_⟩⟩) (fun g => absurd ⟨h0, h1⟩ g)⟩, fun g => absurd rfl g⟩)⟩)
  · rw [ptAt_pair g] at h
    obtain ⟨g1, g2, g3, g4, g5, g6⟩ := g
    rw [jshl_10 (by omega) (by omega)]
    refine ⟨T1, ⟨T2, h0, by omega⟩, by unfold jR; omega, by unfold jR; omega, T1, by unfold jR; omega, ⟨T2, by omega, by omega⟩, by unfold jR; omega, by unfold jR; omega, h⟩
  · rw [ptAt_one g] at h
    exact h
theorem c_isHalf {i : Int} (T : Tx M t c) (h0 : 0 ≤ i) (h1 : i < M 2901 t 0) (g1 : 55296 ≤ M 2 (M 1000 t 0) i → M 2 (M 1000 t 0) i ≤ 57343 → Q 1 M) (g0 : ¬ (55296 ≤ M 2 (M 1000 t 0) i ∧ M 2 (M 1000 t 0) i ≤ 57343) → Q 0 M) : Runs G 96 0 0 [(1, t), (0, i)] M Q := by
  have T0 := T
  obtain ⟨T1, T2, T3, T4, T5, T6⟩ := T
  refine rn_X9_isHalf t i M (sg_X9_isHalf_0 t i M ⟨T1, c_hasPlace T0 (fun _ _ _ => ?_) (fun g => absurd ⟨h0, h1⟩ g)⟩)
  repeat' first | apply And.intro | intro _
  all_goals first | assumption | exact Or.inl rfl | exact Or.inr rfl | omega | (apply g0; omega) | (apply g1 <;> omega)
end TEXT2
