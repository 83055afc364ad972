/-! UnitAtlas$Text: contracts -/
def Tx (M : JM) (t c : Int) : Prop := M 0 t 0 = 19 ∧ M 0 (M 1000 t 0) 0 = 1 ∧ M 1 (M 1000 t 0) 0 = c ∧ 0 ≤ M 2901 t 0 ∧ M 2901 t 0 ≤ c ∧ c ≤ 1000
section TEXT
variable {G : JG} {Q : Int → JM → Prop} {M : JM} {t c : Int}
theorem c_hasPlace {i : Int} (T : Tx M t c) (h1 : 0 ≤ i → i < M 2901 t 0 → Q 1 M) (h0 : ¬ (0 ≤ i ∧ i < M 2901 t 0) → Q 0 M) : Runs G 84 0 0 [(1, t), (0, i)] M Q := by
  obtain ⟨T1, T2, T3, T4, T5, T6⟩ := T
  refine rn_X9_hasPlace t i M (sg_X9_hasPlace_0 t i M ?_)
  repeat' first | apply And.intro | intro _
  all_goals first | assumption | exact Or.inl rfl | exact Or.inr rfl | (apply h0; omega) | (apply h1 <;> omega)
theorem c_hasPart {f e : Int} (T : Tx M t c) (h1 : 0 ≤ f → f ≤ e → e ≤ M 2901 t 0 → Q 1 M) (h0 : ¬ (0 ≤ f ∧ f ≤ e ∧ e ≤ M 2901 t 0) → Q 0 M) : Runs G 85 0 0 [(1, t), (0, f), (0, e)] M Q := by
  obtain ⟨T1, T2, T3, T4, T5, T6⟩ := T
  refine rn_X9_hasPart t f e M (sg_X9_hasPart_0 t f e M ?_)
  repeat' first | apply And.intro | intro _
  all_goals first | assumption | exact Or.inl rfl | exact Or.inr rfl | (apply h0; omega) | (apply h1 <;> omega)
theorem c_hasSome {f n : Int} (T : Tx M t c) (h1 : 0 ≤ f → 0 ≤ n → f + n ≤ M 2901 t 0 → Q 1 M) (h0 : ¬ (0 ≤ f ∧ 0 ≤ n ∧ f + n ≤ M 2901 t 0) → Q 0 M) : Runs G 86 0 0 [(1, t), (0, f), (0, n)] M Q := by
  obtain ⟨T1, T2, T3, T4, T5, T6⟩ := T
  refine rn_X9_hasSome t f n M (sg_X9_hasSome_0 t f n M ?_)
  repeat' first | apply And.intro | intro _
  all_goals first | assumption | exact Or.inl rfl | exact Or.inr rfl | omega | (apply h0; omega) | (apply h1 <;> omega)
theorem c_room (T : Tx M t c) (h : Q (c - M 2901 t 0) M) : Runs G 87 0 0 [(1, t)] M Q := by
  obtain ⟨T1, T2, T3, T4, T5, T6⟩ := T
  refine rn_X9_room t M (sg_X9_room_0 t M ⟨T1, Or.inl T2, T1, ?_, ?_⟩)
  · unfold jR; omega
  · rw [T3]; exact h
/-- the memory behind put -/
def mput (M : JM) (t u : Int) : JM := jset (jset M 2 (M 1000 t 0) (M 2901 t 0) u) 2901 t 0 (M 2901 t 0 + 1)
theorem c_put {u : Int} (T : Tx M t c) (h1 : M 2901 t 0 < c → Q 0 (mput M t u)) (h0 : c ≤ M 2901 t 0 → Q 0 M) : Runs G 88 0 0 [(1, t), (0, u)] M Q := by
  obtain ⟨T1, T2, T3, T4, T5, T6⟩ := T
  refine rn_X9_put t u M (sg_X9_put_0 t u M ⟨T1, T1, Or.inl T2, fun g => h0 (by omega), fun g => ⟨T1, T1, ⟨T2, by omega, by omega⟩, T1, ?_, T1, h1 (by omega)⟩⟩)
  unfold jR; omega
theorem c_bySize {s d : Int} (T : Tx M t c) (S : Tx M s d) (h : Q (if M 2901 t 0 = M 2901 s 0 then 0 else if M 2901 t 0 < M 2901 s 0 then -1 else 1) M) : Runs G 99 0 0 [(1, t), (1, s)] M Q := by
  obtain ⟨T1, T2, T3, T4, T5, T6⟩ := T
  refine rn_X9_bySize t s M (sg_X9_bySize_0 t s M ⟨T1, S.1, fun g => ⟨T1, S.1, fun g2 => ?_, fun g2 => ?_⟩, fun g => ?_⟩)
  · rw [if_neg g, if_neg (by omega)] at h; exact h
  · rw [if_neg g, if_pos (by omega)] at h; exact h
  · rw [if_pos (by omega)] at h; exact h
/-- the memory behind putPart -/
def mpart (M : JM) (t s f e : Int) : JM := jset (jcpy M (M 1000 s 0) f (M 1000 t 0) (M 2901 t 0) (e - f)) 2901 t 0 (M 2901 t 0 + (e - f))
theorem c_putPart {s d f e : Int} (T : Tx M t c) (S : Tx M s d) (he : f ≤ 1000000 ∧ -1000000 ≤ e) (h1 : 0 ≤ f → f ≤ e → e ≤ M 2901 s 0 → M 2901 t 0 + (e - f) ≤ c → Q 0 (mpart M t s f e)) (h0 : ¬ (0 ≤ f ∧ f ≤ e ∧ e ≤ M 2901 s 0 ∧ M 2901 t 0 + (e - f) ≤ c) → Q 0 M) : Runs G 90 0 0 [(1, t), (1, s), (0, f), (0, e)] M Q := by
  obtain ⟨S1, S2, S3, S4, S5, S6⟩ := id S
  refine rn_X9_putPart t s f e M (sg_X9_putPart_0 t s f e M ⟨S1, c_hasPart S (fun g1 g2 g3 _ => ⟨fun g => absurd g (by decide), fun _ => ⟨T.1, c_room T (fun _ => ?_)⟩⟩) (fun g _ => ⟨fun _ => h0 (by omega), fun g => absurd rfl g⟩)⟩)
  obtain ⟨T1, T2, T3, T4, T5, T6⟩ := T
  refine ⟨by unfold jR; omega, fun g => h0 (by omega), fun g => ⟨S1, T1, T1, by unfold jR; omega, ⟨S2, T2, by omega, by omega, by omega, by omega, by omega⟩, T1, by unfold jR; omega, by unfold jR; omega, T1, h1 g1 g2 g3 (by omega)⟩⟩
/-- the memory behind become -/
def mbec (M : JM) (t s : Int) : JM := jset (jcpy M (M 1000 s 0) 0 (M 1000 t 0) 0 (M 2901 s 0)) 2901 t 0 (M 2901 s 0)
end TEXT
