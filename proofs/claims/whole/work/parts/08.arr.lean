/-! rules of J: arrays -/
theorem jin {i n : Int} (hi : jR i) (h0 : 0 ≤ i) (h1 : i < n) : vp_in (Int32.ofInt i) n.toNat := by
  unfold vp_in
  rw [show (0 : Int32) = Int32.ofInt 0 from rfl, j32_lt hi jR_0, j32_nat hi h0]
  omega
theorem jix {i : Int} (hi : jR i) (h0 : 0 ≤ i) : (((Int32.ofInt i).toNatClampNeg : Nat) : Int) = i := by
  rw [j32_nat hi h0]; omega
section JARR
variable {G : JG} {x mc ms : Nat} {Q : Int → JM → Prop} {cells slots pc : Nat} {lv : JL} {st : List JV} {M : JM}
theorem jr_iaload {a i : Int} (hd : decode (jcode x) pc = .ok (.iaload, 1)) (ha : M 0 a 0 = 1) (h0 : 0 ≤ i) (h1 : i < M 1 a 0) (k : J G x mc ms Q cells slots (pc + 1) lv ((0, M 2 a i) :: st) M) : J G x mc ms Q cells slots pc lv ((0, i) :: (1, a) :: st) M := by
  intro hcm hsm p e R s m args below meth c H locs ls X
  obtain ⟨C, hl, hr, hS, ol, os, oM⟩ := X
  have ri := jok_R (jok_h os)
  have k := k hcm hsm p e R s m args below meth c H locs ls ⟨C, hl, hr, hS, ol, jok_c (jok_i (oM 2 a i (Or.inr (Or.inl rfl)))) (jok_t (jok_t os)), oM⟩
  obtain ⟨q, rfl, -, -, hq0, hat⟩ := hr.at (a := a) (by omega)
  rw [jcell_1 ha] at hat
  rw [List.map_cons, List.map_cons, jv_ref hq0]
  refine va_iald (D := G.1) C.1 C.2.1 C.2.2.2.2.2.2.2.2.1 (va_P1 hat) 0 0 rfl rfl (jin ri h0 h1) hd ?_
  rw [jix ri h0]
  exact k
theorem jr_baload {a i : Int} (hd : decode (jcode x) pc = .ok (.baload, 1)) (ha : M 0 a 0 = 2) (h0 : 0 ≤ i) (h1 : i < M 1 a 0) (k : J G x mc ms Q cells slots (pc + 1) lv ((0, M 2 a i) :: st) M) : J G x mc ms Q cells slots pc lv ((0, i) :: (1, a) :: st) M := by
  intro hcm hsm p e R s m args below meth c H locs ls X
  obtain ⟨C, hl, hr, hS, ol, os, oM⟩ := X
  have ri := jok_R (jok_h os)
  have k := k hcm hsm p e R s m args below meth c H locs ls ⟨C, hl, hr, hS, ol, jok_c (jok_i (oM 2 a i (Or.inr (Or.inl rfl)))) (jok_t (jok_t os)), oM⟩
  obtain ⟨q, rfl, -, -, hq0, hat⟩ := hr.at (a := a) (by omega)
  rw [jcell_2 ha] at hat
  rw [List.map_cons, List.map_cons, jv_ref hq0]
  refine va_zald (D := G.1) C.1 C.2.1 C.2.2.2.2.2.2.2.2.1 (va_P1 hat) 0 1 rfl rfl (jin ri h0 h1) hd ?_
  rw [jix ri h0]
  exact k
theorem jr_aaload {a i : Int} (hd : decode (jcode x) pc = .ok (.aaload, 1)) (ha : M 0 a 0 = 3 ∨ M 0 a 0 = 4) (h0 : 0 ≤ i) (h1 : i < M 1 a 0) (k : J G x mc ms Q cells slots (pc + 1) lv ((1, M 3 a i) :: st) M) : J G x mc ms Q cells slots pc lv ((0, i) :: (1, a) :: st) M := by
  intro hcm hsm p e R s m args below meth c H locs ls X
  obtain ⟨C, hl, hr, hS, ol, os, oM⟩ := X
  have ri := jok_R (jok_h os)
  have k := k hcm hsm p e R s m args below meth c H locs ls ⟨C, hl, hr, hS, ol, jok_c (jok_r _) (jok_t (jok_t os)), oM⟩
  obtain ⟨q, rfl, -, -, hq0, hat⟩ := hr.at (a := a) (by omega)
  rw [List.map_cons, List.map_cons, jv_ref hq0]
  rcases ha with ha | ha
  · rw [jcell_3 ha] at hat
    refine va_aldq (D := G.1) C.1 C.2.1 C.2.2.2.2.2.2.2.2.1 (va_P1 hat) 0 2 rfl rfl (jin ri h0 h1) hd ?_
    rw [jix ri h0]
    exact k
  · rw [jcell_4 ha] at hat
    refine va_aldq (D := G.1) C.1 C.2.1 C.2.2.2.2.2.2.2.2.1 (va_P1 hat) 0 3 rfl rfl (jin ri h0 h1) hd ?_
    rw [jix ri h0]
    exact k
theorem jr_alen {a : Int} (hd : decode (jcode x) pc = .ok (.arraylength, 1)) (ha : M 0 a 0 = 1 ∨ M 0 a 0 = 2 ∨ M 0 a 0 = 3 ∨ M 0 a 0 = 4) (k : J G x mc ms Q cells slots (pc + 1) lv ((0, M 1 a 0) :: st) M) : J G x mc ms Q cells slots pc lv ((1, a) :: st) M := by
  intro hcm hsm p e R s m args below meth c H locs ls X
  obtain ⟨C, hl, hr, hS, ol, os, oM⟩ := X
  have k := k hcm hsm p e R s m args below meth c H locs ls ⟨C, hl, hr, hS, ol, jok_c (jok_i (oM 1 a 0 (Or.inl rfl))) (jok_t os), oM⟩
  have hn := hr.2.2.2.2.2 a ha
  obtain ⟨q, rfl, -, -, hq0, hat⟩ := hr.at (a := a) (by omega)
  rw [List.map_cons, jv_ref hq0]
  have e1 : Int32.ofNat (M 1 q 0).toNat = Int32.ofInt (M 1 q 0) := by
    have : Int32.ofInt ((M 1 q 0).toNat : Int) = nI (M 1 q 0).toNat := jnI _
    rw [show ((M 1 q 0).toNat : Int) = M 1 q 0 by omega] at this
    exact this.symm
  rcases ha with ha | ha | ha | ha
  · rw [jcell_1 ha] at hat
    exact va_alen (D := G.1) C.1 C.2.1 C.2.2.2.2.2.2.2.2.1 (va_P1 hat) 0 0 rfl rfl e1 hd k
  · rw [jcell_2 ha] at hat
    exact va_alen (D := G.1) C.1 C.2.1 C.2.2.2.2.2.2.2.2.1 (va_P1 hat) 0 1 rfl rfl e1 hd k
  · rw [jcell_3 ha] at hat
    exact va_alen (D := G.1) C.1 C.2.1 C.2.2.2.2.2.2.2.2.1 (va_P1 hat) 0 2 rfl rfl e1 hd k
  · rw [jcell_4 ha] at hat
    exact va_alen (D := G.1) C.1 C.2.1 C.2.2.2.2.2.2.2.2.1 (va_P1 hat) 0 3 rfl rfl e1 hd k
theorem jr_iastore {a i v : Int} (hd : decode (jcode x) pc = .ok (.iastore, 1)) (ha : M 0 a 0 = 1) (h0 : 0 ≤ i) (h1 : i < M 1 a 0) (kk : J G x mc ms Q cells slots (pc + 1) lv st (jset M 2 a i v)) : J G x mc ms Q cells slots pc lv ((0, v) :: (0, i) :: (1, a) :: st) M := by
  intro hcm hsm p e R s m args below meth c H locs ls X
  obtain ⟨C, hl, hr, hS, ol, os, oM⟩ := X
  have ri := jok_R (jok_h (jok_t os))
  have hoM : jokM (jset M 2 a i v) := jokM_set oM (fun _ => jok_R (jok_h os))
  obtain ⟨q, rfl, hqb, hqs, hq0, hat⟩ := hr.at (a := a) (by omega)
  rw [jcell_1 ha] at hat
  rw [List.map_cons, List.map_cons, List.map_cons, jv_ref hq0]
  have hin := jin ri h0 h1
  refine W.iast C.1 C.2.1 hat ((C.2.2.2.2.2.2.2.2.1.2 0 _ rfl).1 (M 1 q 0).toNat (fun j => .int (Int32.ofInt (M 2 q j)))) (fun q => by cases q) (by show ¬ (_ < 0 ∨ (arrV _ _ _).slots.size ≤ _); rw [arrV_size]; exact hin) rfl rfl hd fun H1 e1 z oq => ?_
  refine kk hcm hsm p e R s m args below meth c H1 _ ls ⟨C, hl, hr.upd z oq (fun z hz => jcell_same (jset_k (by omega) _ _) (jset_k (by omega) _ _) (fun j => jset_a (by omega) _ _) (fun j => jset_k (by omega) _ _) (fun k hk => jset_k (by omega) _ _)) ?_ (fun z => jset_k (by omega) _ _) (fun z => jset_k (by omega) _ _) (jset_k (by omega) _ _), hS.put z oq hqb, ol, jok_t (jok_t (jok_t os)), hoM⟩
  rw [jcell_1 (by rw [jset_k (by omega)]; exact ha)]
  show H1[q]? = some (vp_cell _ _)
  rw [e1, vp_cell_i, vp_cell_i, arrV_store, jset_k (show (1 : Nat) ≠ 2 by omega)]
  congr 2
  funext j
  by_cases hq : j = (Int32.ofInt i).toNatClampNeg
  · subst hq
    rw [jix ri h0, jset_s]
    simp [updV]
  · rw [jset_j (by have := jix ri h0; omega)]
    simp [updV, hq]
theorem jr_bastore {a i v : Int} (hd : decode (jcode x) pc = .ok (.bastore, 1)) (ha : M 0 a 0 = 2) (h0 : 0 ≤ i) (h1 : i < M 1 a 0) (hb : v = 0 ∨ v = 1) (kk : J G x mc ms Q cells slots (pc + 1) lv st (jset M 2 a i v)) : J G x mc ms Q cells slots pc lv ((0, v) :: (0, i) :: (1, a) :: st) M := by
  intro hcm hsm p e R s m args below meth c H locs ls X
  obtain ⟨C, hl, hr, hS, ol, os, oM⟩ := X
  have ri := jok_R (jok_h (jok_t os))
  have hoM : jokM (jset M 2 a i v) := jokM_set oM (fun _ => jok_R (jok_h os))
  obtain ⟨q, rfl, hqb, hqs, hq0, hat⟩ := hr.at (a := a) (by omega)
  rw [jcell_2 ha] at hat
  rw [List.map_cons, List.map_cons, List.map_cons, jv_ref hq0]
  have hin := jin ri h0 h1
  refine W.zast C.1 C.2.1 hat ((C.2.2.2.2.2.2.2.2.1.2 1 _ rfl).1 (M 1 q 0).toNat (fun j => .int (Int32.ofInt (M 2 q j)))) (fun q => by cases q) (by show ¬ (_ < 0 ∨ (arrV _ _ _).slots.size ≤ _); rw [arrV_size]; exact hin) rfl rfl hd fun H1 e1 z oq => ?_
  refine kk hcm hsm p e R s m args below meth c H1 _ ls ⟨C, hl, hr.upd z oq (fun z hz => jcell_same (jset_k (by omega) _ _) (jset_k (by omega) _ _) (fun j => jset_a (by omega) _ _) (fun j => jset_k (by omega) _ _) (fun k hk => jset_k (by omega) _ _)) ?_ (fun z => jset_k (by omega) _ _) (fun z => jset_k (by omega) _ _) (jset_k (by omega) _ _), hS.put z oq hqb, ol, jok_t (jok_t (jok_t os)), hoM⟩
  rw [jcell_2 (by rw [jset_k (by omega)]; exact ha)]
  show H1[q]? = some (vp_cell _ _)
  rw [e1, (j01 hb).1, vp_cell_i, vp_cell_i, arrV_store, jset_k (show (1 : Nat) ≠ 2 by omega)]
  congr 2
  funext j
  by_cases hq : j = (Int32.ofInt i).toNatClampNeg
  · subst hq
    rw [jix ri h0, jset_s]
    simp [updV]
  · rw [jset_j (by have := jix ri h0; omega)]
    simp [updV, hq]
theorem jr_aastore {a i v : Int} (hd : decode (jcode x) pc = .ok (.aastore, 1)) (ha : (M 0 a 0 = 3 ∧ M 0 v 0 = 19) ∨ (M 0 a 0 = 4 ∧ M 0 v 0 = 11)) (h0 : 0 ≤ i) (h1 : i < M 1 a 0) (kk : J G x mc ms Q cells slots (pc + 1) lv st (jset M 3 a i v)) : J G x mc ms Q cells slots pc lv ((1, v) :: (0, i) :: (1, a) :: st) M := by
  intro hcm hsm p e R s m args below meth c H locs ls X
  obtain ⟨C, hl, hr, hS, ol, os, oM⟩ := X
  have ri := jok_R (jok_h (jok_t os))
  have hoM : jokM (jset M 3 a i v) := jokM_set oM (fun h => by omega)
  obtain ⟨q, rfl, hqb, hqs, hq0, hat⟩ := hr.at (a := a) (by omega)
  obtain ⟨w, rfl, hwb, hws, hw0, hvt⟩ := hr.at (a := v) (by omega)
  rw [List.map_cons, List.map_cons, List.map_cons, jv_ref hq0, jv_ref hw0]
  have hin := jin ri h0 h1
  have hlt : (Int32.ofInt i).toNatClampNeg < (M 1 q 0).toNat := Nat.not_le.mp fun q => hin (Or.inr q)
  have hng : ¬ Int32.ofInt i < 0 := fun q => hin (Or.inl q)
  have key : ∀ (t ci : Nat) (cA : ClassId) (nm : String) (r : vw_C), vwCl[ci]? = some r → (jtys G)[t]? = some (cA, .object r.1) → M 0 w 0 = 10 + (ci : Int) → (∀ M' : JM, M' 0 q 0 = M 0 q 0 → jcell G M' q = .inl (cA, (M' 1 q 0).toNat, .inr (.inr (.inr (.inr (fun j => jrf (M' 3 q j))))))) → W p G.2.2.2.1 e R s m args below meth c H locs cells slots (MQ below (JQ G (jtag x) Q) args s mc ms (jA G)) (F0 m pc ls (.ref w :: jv (0, i) :: .ref q :: st.map jv)) := by
    intro t ci cA nm r hc ht hw hcell
    rw [hcell M rfl] at hat
    rw [jcell_obj hw] at hvt
    obtain ⟨r', hr', cellV, g1, g2, g3, -⟩ := hvt
    have hK := C.2.2.2.2.2.2.2.2.1
    have hcls := (hK.1 ci r hc).2
    obtain ⟨kA, comp, k1, k2, k3, -⟩ := (hK.2 t _ ht).2
    have hcomp : comp = G.1.1 ci := Option.some.inj (k3.symm.trans hcls.1)
    subst hcomp
    obtain ⟨kC, hkC, -⟩ := hcls.2
    refine W.aast C.1 C.2.1 hat (fun q h => by cases h) (fun h => by cases h) k1 k2 rfl hkC ⟨hng, by show _ < (arrV _ _ _).slots.size; rw [arrV_size]; exact hlt⟩ g1 (fun q h => by rw [g3] at h; cases h) (by rw [g2]; exact hkC) (by rw [g2]; exact va_assign hcls) rfl rfl hd fun H1 e1 z oq => ?_
    refine kk hcm hsm p e R s m args below meth c H1 _ ls ⟨C, hl, hr.upd z oq (fun z hz => jcell_same (jset_k (by omega) _ _) (jset_k (by omega) _ _) (fun j => jset_k (by omega) _ _) (fun j => jset_a (by omega) _ _) (fun k hk => jset_k (by omega) _ _)) ?_ (fun z => jset_k (by omega) _ _) (fun z => jset_k (by omega) _ _) (jset_k (by omega) _ _), hS.put z oq hqb, ol, jok_t (jok_t (jok_t os)), hoM⟩
    rw [hcell _ (by rw [jset_k (by omega)])]
    show H1[q]? = some (vp_cell _ _)
    rw [e1, vp_cell_q, vp_cell_q, arrV_store, jset_k (show (1 : Nat) ≠ 3 by omega)]
    congr 2
    funext j
    by_cases hq : j = (Int32.ofInt i).toNatClampNeg
    · subst hq
      rw [jix ri h0, jset_s]
      have e2 : va_rf (jrf (w : Int)) = .ref w := jv_ref hw0
      rw [e2]
      simp [updV]
    · rw [jset_j (by have := jix ri h0; omega)]
      simp [updV, hq]
  rcases ha with ⟨ha, hv⟩ | ⟨ha, hv⟩
  · exact key 2 9 _ "" _ rfl rfl hv (fun M' h => jcell_3 (by rw [h]; exact ha))
  · exact key 3 1 _ "" _ rfl rfl hv (fun M' h => jcell_4 (by rw [h]; exact ha))
theorem jr_slen (hx : x = jlaw) (hd : decode (jcode x) pc = .ok (.arraylength, 1)) (k : J G x mc ms Q cells slots (pc + 1) lv ((0, (G.2.2.2.2.2.1 : Int)) :: st) M) : J G x mc ms Q cells slots pc lv ((1, (G.2.2.2.2.1 : Int)) :: st) M := by
  intro hcm hsm p e R s m args below meth c H locs ls X
  obtain ⟨C, hl, hr, hS, ol, os, oM⟩ := X
  obtain ⟨hX, hb0, hb1, hL⟩ := C.2.2.2.2.2.2.2.2.2.1.2 hx
  have hbl := Nat.lt_of_lt_of_le hb0 C.2.2.2.2.2.2.2.2.2.1.1
  have k := k hcm hsm p e R s m args below meth c H locs ls ⟨C, hl, hr, hS, ol, jok_c (jok_i (by unfold jR; omega)) (jok_t os), oM⟩
  rw [List.map_cons, show jv (1, G.2.2.2.2.1) = .ref G.2.2.2.2.1.toNat from by show va_rf (jrf G.2.2.2.2.1) = _; rw [show jrf G.2.2.2.2.1 = some G.2.2.2.2.1.toNat from if_neg hb1]; rfl]
  refine va_slen (A := jA G) C.1 C.2.1 hX hbl (fun h => by unfold jA at h; omega) hS hd ?_
  have e1 : Int32.ofNat G.2.2.2.2.2.1 = Int32.ofInt (G.2.2.2.2.2.1 : Int) := (jnI _).symm
  first | exact k | (rw [e1]; exact k) | (rw [← e1] at k; exact k)
theorem jr_sld {i : Int} (hx : x = jlaw) (hd : decode (jcode x) pc = .ok (.iaload, 1)) (h0 : 0 ≤ i) (h1 : i < (G.2.2.2.2.2.1 : Int)) (k : J G x mc ms Q cells slots (pc + 1) lv ((0, (G.2.2.2.2.2.2 i.toNat).toInt) :: st) M) : J G x mc ms Q cells slots pc lv ((0, i) :: (1, (G.2.2.2.2.1 : Int)) :: st) M := by
  intro hcm hsm p e R s m args below meth c H locs ls X
  obtain ⟨C, hl, hr, hS, ol, os, oM⟩ := X
  have ri := jok_R (jok_h os)
  obtain ⟨hX, hb0, hb1, hL⟩ := C.2.2.2.2.2.2.2.2.2.1.2 hx
  have hbl := Nat.lt_of_lt_of_le hb0 C.2.2.2.2.2.2.2.2.2.1.1
  have k := k hcm hsm p e R s m args below meth c H locs ls ⟨C, hl, hr, hS, ol, jok_c (jok_i (jR_32 _)) (jok_t (jok_t os)), oM⟩
  rw [List.map_cons, List.map_cons, show jv (1, G.2.2.2.2.1) = .ref G.2.2.2.2.1.toNat from by show va_rf (jrf G.2.2.2.2.1) = _; rw [show jrf G.2.2.2.2.1 = some G.2.2.2.2.1.toNat from if_neg hb1]; rfl]
  have hin : vp_in (Int32.ofInt i) G.2.2.2.2.2.1 := by
    have := jin ri h0 h1
    simpa using this
  refine va_sld (A := jA G) C.1 C.2.1 hX hbl (fun h => by unfold jA at h; omega) hS hin hd ?_
  rw [j32_nat ri h0]
  have e1 : jv (0, (G.2.2.2.2.2.2 i.toNat).toInt) = .int (G.2.2.2.2.2.2 i.toNat) := congrArg Value.int (Int32.ofInt_toInt _)
  rw [List.map_cons, e1] at k
  exact k
end JARR
