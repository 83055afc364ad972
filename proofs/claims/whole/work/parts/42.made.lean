/-! steps: text, units, point -/
section MADE
variable {G : JG} {X : Int}
/-- a call that is refused, or changes nothing -/
theorem mk_no {n r : Int} {M : JM} {T : ATx} {K : AKp} {P : ATx} {D : ADt} {y y' : Nat} {as : List JV} (C : CB X n M T K P D) (H : CH X M T) (A : AI T K P D) (hn : 0 ≤ n ∧ n + 6 ≤ 3072) (hc : ∀ Q : Int → JM → Prop, Q r M → Runs G y 0 0 ((1, X) :: as) M Q) (hr : ∀ (M1 : JM) (Q : Int → JM → Prop), RI X M1 T K P D → Q r M1 → Runs G y' 0 0 ((1, X + 218) :: as) M1 Q) : ∃ Rel : Int → ATx → AKp → ATx → ADt → Prop, (∀ Q : Int → JM → Prop, (∀ r M1 T' K' P' D', Rel r T' K' P' D' → AI T' K' P' D' → FrC X M M1 → CB X (n + 6) M1 T' K' P' D' → CH X M1 T' → M1 1212 X 0 = M 1212 X 0 → M1 1213 X 0 = M 1213 X 0 → Q r M1) → Runs G y 0 0 ((1, X) :: as) M Q) ∧ ∀ (M1 : JM) (Q : Int → JM → Prop) (r : Int) T' K' P' D', Rel r T' K' P' D' → RI X M1 T K P D → (∀ M2, FrR X M1 M2 → RI X M2 T' K' P' D' → Q r M2) → Runs G y' 0 0 ((1, X + 218) :: as) M1 Q := by
  refine ⟨fun r' T' K' P' D' => r' = r ∧ T' = T ∧ K' = K ∧ P' = P ∧ D' = D, fun Q hQ => hc Q (hQ r M T K P D ⟨rfl, rfl, rfl, rfl, rfl⟩ A (FrC.refl X M) (C.mono (by omega) (by omega)) H rfl rfl), ?_⟩
  rintro M1 Q r' T' K' P' D' ⟨rfl, rfl, rfl, rfl, rfl⟩ R hQ
  exact hr M1 Q R (hQ M1 (FrR.refl X M1) R)
/-- a call that changes texts: the answer r, texts T', kept changes K' -/
theorem mk_yes {n r : Int} {M : JM} {T T' : ATx} {K K' : AKp} {P : ATx} {D : ADt} {y y' : Nat} {as : List JV} (hn : 0 ≤ n ∧ n + 6 ≤ 3072) (hc : ∀ Q : Int → JM → Prop, (∀ M1, AI T' K' P D → FrC X M M1 → CB X (n + 1) M1 T' K' P D → Stale X M1 → M1 1212 X 0 = M 1212 X 0 → M1 1213 X 0 = M 1213 X 0 → Q r M1) → Runs G y 0 0 ((1, X) :: as) M Q) (hr : ∀ (M1 : JM) (Q : Int → JM → Prop), RI X M1 T K P D → (∀ M2, FrR X M1 M2 → RI X M2 T' K' P D → Q r M2) → Runs G y' 0 0 ((1, X + 218) :: as) M1 Q) : ∃ Rel : Int → ATx → AKp → ATx → ADt → Prop, (∀ Q : Int → JM → Prop, (∀ r M1 T' K' P' D', Rel r T' K' P' D' → AI T' K' P' D' → FrC X M M1 → CB X (n + 6) M1 T' K' P' D' → CH X M1 T' → M1 1212 X 0 = M 1212 X 0 → M1 1213 X 0 = M 1213 X 0 → Q r M1) → Runs G y 0 0 ((1, X) :: as) M Q) ∧ ∀ (M1 : JM) (Q : Int → JM → Prop) (r : Int) T' K' P' D', Rel r T' K' P' D' → RI X M1 T K P D → (∀ M2, FrR X M1 M2 → RI X M2 T' K' P' D' → Q r M2) → Runs G y' 0 0 ((1, X + 218) :: as) M1 Q := by
  refine ⟨fun r' T'' K'' P' D' => r' = r ∧ T'' = T' ∧ K'' = K' ∧ P' = P ∧ D' = D, fun Q hQ => hc Q (fun M1 A' f c s e1 e2 => hQ r M1 T' K' P D ⟨rfl, rfl, rfl, rfl, rfl⟩ A' f (c.mono (by omega) (by omega)) (s.CH T') e1 e2), ?_⟩
  rintro M1 Q r' T'' K'' P' D' ⟨rfl, rfl, rfl, rfl, rfl⟩ R hQ
  exact hr M1 Q R hQ
theorem st_text : JSt (IV X) 3072 G X 108 178 [] := mk_stp fun n M T K P D C H A hX hn0 hn => by
  by_cases hm : T.1 < 40
  · refine mk_yes (r := T.1) (T' := aopen T) (K' := kpush K T.1 1 0 (T.2.2 T.1)) ⟨hn0, hn⟩ (fun Q hQ => ?_) (fun M1 Q R hQ => ?_)
    · have W := C.1
      refine rn_X11_text _ M (sg_X11_text_0 _ M ?_)
      rw [wa_1200 W]
      refine ⟨wa_t W, w_shelf_t W, c_openA C H A hX (by omega) hm (fun M1 _ f c a s e1 e2 _ => ⟨fun g => absurd g (by have := A.1.1; omega), fun _ => ?_⟩)⟩
      have W1 := c.1
      rw [wa_1200 W1]
      have e := c.2.1.1
      have a1 := a.1.1
      have a2 := a.1.2.1
      refine ⟨wa_t W1, w_shelf_t W1, c_newest W1 (by rw [e]; exact ⟨a1, a2⟩) (fun _ => ?_)⟩
      rw [e, show (aopen T).1 - 1 = T.1 by show T.1 + 1 - 1 = T.1; omega]
      exact hQ M1 a f c s e1 e2
    · have wt := w_model_t R.1
      refine rn_X12_text _ M1 (sg_X12_text_0 _ M1 ?_)
      rw [R.2.1.1]
      exact ⟨wt, fun _ => ⟨wt, r_newText R A hm (fun M2 f r a _ => hQ M2 f r)⟩, fun g => absurd (by omega) g⟩
  · have a2 := A.1.2.1
    refine mk_no (r := -3) C H A ⟨hn0, hn⟩ (fun Q hQ => ?_) (fun M1 Q R hQ => ?_)
    · have W := C.1
      refine rn_X11_text _ M (sg_X11_text_0 _ M ?_)
      rw [wa_1200 W]
      exact ⟨wa_t W, w_shelf_t W, c_open W (C.sh A) (fun g => absurd g (by rw [C.2.1.1]; omega)) (fun _ _ => ⟨fun _ => hQ, fun g => absurd (by omega) g⟩)⟩
    · have wt := w_model_t R.1
      refine rn_X12_text _ M1 (sg_X12_text_0 _ M1 ?_)
      rw [R.2.1.1]
      exact ⟨wt, fun g => absurd (by omega) g, fun _ => hQ⟩
end MADE
