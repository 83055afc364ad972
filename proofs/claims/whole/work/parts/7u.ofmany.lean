/-! step: ofMany -/
section OFMANY
variable {G : JG} {X : Int}
set_option maxHeartbeats 1000000 in
theorem st_ofMany (many what : Int) : JStA (IV X) 3072 G X 136 223 [(0, many), (0, what)] := by
  intro n a b M I hn0 hn
  obtain ⟨T, K, P, D, C, H, R, A, hX, ea, eb⟩ := I
  have W := C.1
  have e02 : M 2402 (X + 1) 0 = T.1 := C.2.1.1
  have no : ∀ M1 (Q : Int → JM → Prop), (many < 1 → Q (-2) M1) ∧ (¬ many < 1 → Runs G 170 0 0 [(2, what), (2, 0), (2, 2)] M1 (fun r1 M2 => jokM M2 → ((¬ r1 = 0 → M2 0 (X + 218) 0 = 22 ∧ ((many ≤ (M2 3200 (X + 218) 0) → M2 0 (X + 218) 0 = 22 ∧ Runs G 221 0 0 [(1, X + 218)] M2 (fun _ M3 => jokM M3 → False)) ∧ (¬ many ≤ (M2 3200 (X + 218) 0) → Q (-4) M2))) ∧ (¬ (¬ r1 = 0) → Q (-2) M2)))) → Runs G 223 0 0 [(1, X + 218), (0, many), (0, what)] M1 Q := fun M1 Q z => lp_X12_ofMany (fun _ _ _ _ _ _ _ => False) (fun _ _ _ _ _ _ => 0) (fun _ _ _ _ _ _ _ z => z.elim) _ _ _ M1 z
  by_cases g1 : 1 ≤ many ∧ 0 ≤ what ∧ what ≤ 2
  · obtain ⟨m1, w0, w2⟩ := g1
    have hw : what = 0 ∨ what = 1 ∨ what = 2 := by omega
    by_cases g2 : many ≤ T.1
    · have fin : ∀ (a' : Int) (Q : Int → JM → Prop), (∀ r M1, M1 0 (X + 218) 0 = 22 → (∀ Q2 : Int → JM → Prop, (∀ M2, IV X (n + 6) a' b M2 → Q2 r M2) → Runs G 223 0 0 [(1, X + 218), (0, many), (0, what)] M1 Q2) → Q r M1) → ∀ V, CB X n V T K P D → CH X V T → RI X V T K P D → V 1212 X 0 = a' → V 1213 X 0 = b → a' ≠ 0 → ∀ r M', Sof (fun c => c = a' + 3) V M' → AnsM T many what r → Q r M' := fun a' Q hQ V CV HV RV v12 v13 na r M' o an => by
        have ha : X + 258 ≤ a' := by
          have := CV.2.2.2.2.2.2.2.1
          rw [v12] at this
          rcases this with q | q
          · exact absurd q na
          · exact q.1
        have oh : Hof a' V M' := fun k c j z1 z2 => o k c j (by omega)
        have C1 := oh.cb CV A ha
        have H1 := mk_ch HV v12 ha o
        have R1 : RI X M' T K P D := (oh.frc ha).RI C1.1 RV
        refine hQ r M' (w_model_t C1.1) (fun Q2 hQ2 => r_ofMany R1 A m1 g2 hw (fun r2 M2 f2 R2 an2 => ?_))
        rw [an2.uniq an]
        refine hQ2 M2 ⟨T, K, P, D, f2.CB A (C1.mono (by omega) (by omega)), f2.CH C1.2.2.2.2.2.2 H1, R2, A, hX, ?_, ?_⟩
        · rw [f2 1212 X 0 (by omega), o _ _ _ (by omega)]; exact v12
        · rw [f2 1213 X 0 (by omega), o _ _ _ (by omega)]; exact v13
      by_cases g3 : M 1212 X 0 = 0
      · have B1 := C.2.2.2.2.2.2.1
        have m4 : M 4 0 0 ≠ 0 := by omega
        refine ⟨11, 67615, M 4 0 0, b, ?_, ?_, fun Q hQ => ?_⟩
        · rw [← ea, g3]
          unfold potc
          rw [if_neg m4, if_pos (rfl : (0 : Int) = 0)]; omega
        · rw [← ea, g3]
          unfold pots
          rw [if_neg m4, if_pos (rfl : (0 : Int) = 0)]; omega
        · refine rn_X11_ofMany _ _ _ M (sg_X11_ofMany_0 _ _ _ M ⟨fun z => absurd z (by omega), fun _ => ⟨fun z => absurd z (by omega), fun _ => ⟨fun _ => ?_, fun z => absurd w2 z⟩⟩⟩)
          rw [wa_1200 W, e02]
          refine ⟨wa_t W, w_shelf_t W, fun _ => ⟨wa_t W, fun _ => ⟨⟨by omega, by omega⟩, by omega, 10, 67600, by omega, by omega, mk_suf C H A R hX g3 (fun M1 t1 hv e1200 _ => ?_)⟩, fun z => absurd g3 z⟩, fun z => absurd g2 z⟩
          rw [jset_s, e1200]
          obtain ⟨V, hV⟩ : ∃ V, V = jset M1 1212 X 0 (M 4 0 0) := ⟨_, rfl⟩
          obtain ⟨CV, HV, RV, v12, v13, vt⟩ := hv V hV
          have vt1 : M1 0 (M 4 0 0) 0 = 18 := by rw [hV, jset_k (by decide)] at vt; exact vt
          rw [← hV]
          refine ⟨t1, t1, t1, vt1, c_holdAll CV HV A hX v12 m4 (fun N F fr CN HN n12 n13 U _ => ?_)⟩
          exact c_ask (Q := fun r M => jends (0 + 1 + 10) (0 + 15 + 67600) 11 67615 (Q r M)) U A.1 m1 (by omega) (wa_t CN.1) n12 hw (fun r M' o an => jends_in (by omega) (by omega) (fin (M 4 0 0) Q hQ N CN HN (fr.RI CN.1 RV) n12 (by rw [n13, v13]; exact eb) m4 r M' o an))
      · refine ⟨0, 0, a, b, by omega, by omega, fun Q hQ => ?_⟩
        refine rn_X11_ofMany _ _ _ M (sg_X11_ofMany_0 _ _ _ M ⟨fun z => absurd z (by omega), fun _ => ⟨fun z => absurd z (by omega), fun _ => ⟨fun _ => ?_, fun z => absurd w2 z⟩⟩⟩)
        have na : a ≠ 0 := fun z => g3 (by rw [ea]; exact z)
        have at18 : M 0 a 0 = 18 := by
          have := C.2.2.2.2.2.2.2.1
          rw [ea] at this
          rcases this with q | q
          · exact absurd q na
          · exact q.2.2.1.1
        rw [wa_1200 W, e02, ea]
        refine ⟨wa_t W, w_shelf_t W, fun _ => ⟨wa_t W, fun z => absurd z na, fun _ => ⟨wa_t W, wa_t W, at18, c_holdAll C H A hX ea na (fun N F fr CN HN n12 n13 U _ => ?_)⟩⟩, fun z => absurd g2 z⟩
        exact c_ask U A.1 m1 (by omega) (wa_t CN.1) n12 hw (fun r M' o an => fin a Q hQ N CN HN (fr.RI CN.1 R) n12 (by rw [n13]; exact eb) na r M' o an)
    · refine ⟨0, 0, a, b, by omega, by omega, fun Q hQ => ?_⟩
      refine rn_X11_ofMany _ _ _ M (sg_X11_ofMany_0 _ _ _ M ⟨fun z => absurd z (by omega), fun _ => ⟨fun z => absurd z (by omega), fun _ => ⟨fun _ => ?_, fun z => absurd w2 z⟩⟩⟩)
      rw [wa_1200 W, e02]
      refine ⟨wa_t W, w_shelf_t W, fun z => absurd z g2, fun _ => hQ (-4) M (w_model_t W) (fun Q2 hQ2 => no M Q2 ⟨fun z => absurd z (by omega), fun _ => r_in (fun _ _ _ => ⟨fun _ => ⟨w_model_t W, fun z => absurd (by rw [R.2.1.1] at z; exact z) g2, fun _ => hQ2 M ⟨T, K, P, D, C.mono (by omega) (by omega), H, R, A, hX, ea, eb⟩⟩, fun z => absurd (by decide) z⟩) (fun z => absurd ⟨w0, w2⟩ z)⟩)⟩
  · refine ⟨0, 0, a, b, by omega, by omega, fun Q hQ => ?_⟩
    have q2 : Q (-2) M := hQ (-2) M (w_model_t W) (fun Q2 hQ2 => by
      have q3 := hQ2 M ⟨T, K, P, D, C.mono (by omega) (by omega), H, R, A, hX, ea, eb⟩
      exact no M Q2 ⟨fun _ => q3, fun z => r_in (fun z1 z2 => absurd ⟨by omega, z1, z2⟩ g1) (fun _ _ => ⟨fun y => absurd rfl y, fun _ => q3⟩)⟩)
    refine rn_X11_ofMany _ _ _ M (sg_X11_ofMany_0 _ _ _ M ⟨fun _ => q2, fun z1 => ⟨fun _ => q2, fun z2 => ⟨fun z3 => absurd ⟨by omega, by omega, z3⟩ g1, fun _ => q2⟩⟩⟩)
end OFMANY
