/-! rules of J: copying within int arrays; switches -/
def jcpy (M : JM) (a : Int) (sp : Int) (b : Int) (dp n : Int) : JM := fun k a' j => if k = 2 ∧ a' = b ∧ dp ≤ j ∧ j < dp + n then M 2 a (sp + (j - dp)) else M k a' j
section JCPY
variable {G : JG} {x mc ms : Nat} {Q : Int → JM → Prop} {cells slots pc : Nat} {lv : JL} {st : List JV} {M : JM}
theorem jcpy_k {a sp b dp n : Int} {k : Nat} (h : k ≠ 2) (a' j : Int) : jcpy M a sp b dp n k a' j = M k a' j := if_neg fun e => h e.1
theorem jcpy_a {a sp b dp n a' : Int} (h : a' ≠ b) (k : Nat) (j : Int) : jcpy M a sp b dp n k a' j = M k a' j := if_neg fun e => h e.2.1
theorem jr_copy {i : Nat} {a b sp dp n : Int} (hd : decode (jcode x) pc = .ok (.invokestatic i, 3)) (hlk : Cond.methodLink (jname x).cls i arraycopyName ∈ jtbl) (hw : jwd st ≤ 8) (hf : 1 ≤ jfr x) (hlo : 26 ≤ jlo x) (ha : M 0 a 0 = 1) (hb : M 0 b 0 = 1) (h1 : 0 ≤ sp) (h2 : 0 ≤ dp) (h3 : 0 ≤ n) (h4 : sp + n ≤ M 1 a 0) (h5 : dp + n ≤ M 1 b 0) (kk : J G x mc ms Q cells slots (pc + 3) lv st (jcpy M a sp b dp n)) : J G x mc ms Q cells slots pc lv ((0, n) :: (0, dp) :: (1, b) :: (0, sp) :: (1, a) :: st) M := by
  intro hcm hsm p e R s m args below meth c H locs ls X
  obtain ⟨C, hl, hr, hS, ol, os, oM⟩ := X
  have hts := C.2.2.2.2.2.1
  have hK := C.2.2.2.2.2.2.2.2.1
  have hR := C.2.2.2.2.2.2.2.2.2.2
  have rn := jok_R (jok_h os)
  have rd := jok_R (jok_h (jok_t os))
  have rs := jok_R (jok_h (jok_t (jok_t (jok_t os))))
  have ost := jok_t (jok_t (jok_t (jok_t (jok_t os))))
  obtain ⟨qa, rfl, hab, has, ha0, haat⟩ := hr.at (a := a) (by omega)
  obtain ⟨qb, rfl, hbb, hbs, hb0, hbat⟩ := hr.at (a := b) (by omega)
  rw [jcell_1 ha] at haat
  rw [jcell_1 hb] at hbat
  rw [List.map_cons, List.map_cons, List.map_cons, List.map_cons, List.map_cons, jv_ref ha0, jv_ref hb0]
  have hc0 : H[qa]? = some (vp_cell (G.2.1 0) ((M 1 qa 0).toNat, .inl fun j => Int32.ofInt (M 2 qa j))) := haat
  have hc1 : H[qb]? = some (vp_cell (G.2.1 0) ((M 1 qb 0).toNat, .inl fun j => Int32.ofInt (M 2 qb j))) := hbat
  intro T hT X
  obtain ⟨-, k0, hk0, cm0, hkk0⟩ := (hK.2 0 _ rfl).1 (M 1 qa 0).toNat (fun j => .int (Int32.ofInt (M 2 qa j)))
  obtain ⟨-, k1, hk1, cm1, hkk1⟩ := (hK.2 0 _ rfl).1 (M 1 qb 0).toNat (fun j => .int (Int32.ofInt (M 2 qb j)))
  have ns := j32_nat rs h1
  have nd := j32_nat rd h2
  have nn := j32_nat rn h3
  obtain ⟨vm', X', step⟩ := X.arraycopy C.1 C.2.2.2.2.1 (hts _ hlk) (hts _ jw_an) (hts _ jw_as) (hts _ jw_ai) (src := qa) (dst := qb) (cs := vp_cell (G.2.1 0) ((M 1 qa 0).toNat, .inl fun j => Int32.ofInt (M 2 qa j))) (cd := vp_cell (G.2.1 0) ((M 1 qb 0).toNat, .inl fun j => Int32.ofInt (M 2 qb j))) (srcPos := Int32.ofInt sp) (destPos := Int32.ofInt dp) (n := Int32.ofInt n) (by rw [hT]; exact hc0) (by rw [hT]; exact hc1)
    (fun _ h => by cases h) (fun _ h => by cases h) (fun h => by cases h) (fun h => by cases h) hk0 hk1 hkk0 hkk1 (by simp [refKind]) (jlen rs h1) (jlen rd h2) (jlen rn h3)
    (by rw [j32 rs, j32 rn]; show ¬ _ > ((arrV (G.2.1 0) (M 1 qa 0).toNat (fun j => .int (Int32.ofInt (M 2 qa j)))).slots.size : Int); rw [arrV_size]; omega)
    (by rw [j32 rd, j32 rn]; show ¬ _ > ((arrV (G.2.1 0) (M 1 qb 0).toNat (fun j => .int (Int32.ofInt (M 2 qb j)))).slots.size : Int); rw [arrV_size]; omega)
    (fun vm₁ _ i hi => by
      have e : (vp_cell (G.2.1 0) ((M 1 qa 0).toNat, .inl fun j => Int32.ofInt (M 2 qa j))).slots.getD ((Int32.ofInt sp).toNatClampNeg + i) .null = .int (Int32.ofInt (M 2 qa (((Int32.ofInt sp).toNatClampNeg + i : Nat) : Int))) := by
        show (arrV (G.2.1 0) (M 1 qa 0).toNat (fun j => .int (Int32.ofInt (M 2 qa j)))).slots.getD _ _ = _
        rw [Array.getD_eq_getD_getElem?, arrV_read _ _ (by rw [ns]; rw [nn] at hi; omega)]
        rfl
      refine ⟨?_, ?_⟩
      · rw [e]; rfl
      · rw [e]
        exact trivial)
    (g := F0 m pc ls (.int (Int32.ofInt n) :: .int (Int32.ofInt dp) :: .ref qb :: .int (Int32.ofInt sp) :: .ref qa :: st.map jv)) rfl (hl.1.trans C.2.2.2.1.symm) (rest := st.map jv) rfl (by rw [C.2.1]; exact hd) (by rw [hR]; exact hf) (by show 2 * 0 + _ + _ ≤ _; rw [jwd_eq, hR]; show _ + (5 + 2 + 11) ≤ jlo x; omega)
  have e1 := va_copied (fun z => .int z) (G.2.1 0) (G.2.1 0) (n0 := (M 1 qa 0).toNat) (n1 := (M 1 qb 0).toNat) (sp := (Int32.ofInt sp).toNatClampNeg) (dp := (Int32.ofInt dp).toNatClampNeg) (n := (Int32.ofInt n).toNatClampNeg) (fun j => Int32.ofInt (M 2 qa j)) (fun j => Int32.ofInt (M 2 qb j)) (by rw [ns, nn]; omega)
  have e2 : copied (vp_cell (G.2.1 0) ((M 1 qa 0).toNat, .inl fun j => Int32.ofInt (M 2 qa j))) (vp_cell (G.2.1 0) ((M 1 qb 0).toNat, .inl fun j => Int32.ofInt (M 2 qb j))) (Int32.ofInt sp) (Int32.ofInt dp) (Int32.ofInt n) = vp_cell (G.2.1 0) ((M 1 qb 0).toNat, .inl (va_cpy (fun j => Int32.ofInt (M 2 qa j)) (fun j => Int32.ofInt (M 2 qb j)) sp.toNat dp.toNat n.toNat)) := by
    rw [← ns, ← nd, ← nn]; exact e1
  rw [e2] at X' step
  generalize hcd : vp_cell (G.2.1 0) ((M 1 qb 0).toNat, .inl (va_cpy (fun j => Int32.ofInt (M 2 qa j)) (fun j => Int32.ofInt (M 2 qb j)) sp.toNat dp.toNat n.toNat)) = cd at X' step
  have hheap : ((T.setVm vm').setCell qb cd).heap = H.setIfInBounds qb cd := by rw [← hT]; rfl
  have oq : ∀ q : Nat, q ≠ qb → (H.setIfInBounds qb cd)[q]? = H[q]? := fun q hq => by simp [Array.getElem?_setIfInBounds, Ne.symm hq]
  have zz : (H.setIfInBounds qb cd).size = H.size := by simp
  have hoM : jokM (jcpy M qa sp qb dp n) := by
    intro k a' j hk
    unfold jcpy
    split
    · exact oM 2 _ _ (Or.inr (Or.inl rfl))
    · exact oM k a' j hk
  have hJ : JR G (jcpy M qa sp qb dp n) (H.setIfInBounds qb cd) := by
    refine hr.upd (a := qb) zz oq (fun z hz => jcell_same (jcpy_k (by omega) _ _) (jcpy_k (by omega) _ _) (fun j => jcpy_a (by omega) _ _) (fun j => jcpy_k (by omega) _ _) (fun k hk => jcpy_k (by omega) _ _)) ?_ (fun z => jcpy_k (by omega) _ _) (fun z => jcpy_k (by omega) _ _) (jcpy_k (by omega) _ _)
    rw [jcell_1 (by rw [jcpy_k (by omega)]; exact hb)]
    show (H.setIfInBounds qb cd)[qb]? = some (vp_cell _ _)
    rw [jcpy_k (show (1 : Nat) ≠ 2 by omega), Array.getElem?_setIfInBounds, if_pos rfl, if_pos hbs, ← hcd]
    congr 4
    funext j
    unfold va_cpy jcpy
    by_cases h : dp.toNat ≤ j ∧ j < dp.toNat + n.toNat
    · rw [if_pos h, if_pos ⟨rfl, rfl, by omega, by omega⟩]
      have e9 : ((sp.toNat + (j - dp.toNat) : Nat) : Int) = sp + ((j : Int) - dp) := by omega
      show Int32.ofInt (M 2 qa ((sp.toNat + (j - dp.toNat) : Nat) : Int)) = _
      rw [e9]
    · rw [if_neg h, if_neg (fun q => h (by omega))]
  obtain ⟨t, a1, b1⟩ := kk hcm hsm p e R s m args below meth c (H.setIfInBounds qb cd) _ ls ⟨C, hl, hJ, ⟨by rw [zz]; exact hS.1, fun q g1 g2 => by
      rw [oq q (fun e => g2 (by rw [e]; exact hbb))]
      exact hS.2.1 q g1 g2, fun q hq => by
      rcases List.mem_append.mp hq with h | h
      · exact hS.2.2 q h
      · obtain ⟨z, -, hz⟩ := List.mem_map.mp h
        rw [← hz]
        exact hbb⟩, ol, ost, hoM⟩ _ hheap X'
  exact ⟨t, step t a1, b1⟩
theorem jr_table {dflt lo hi : Int} {offs : Array Int} {len : Nat} {v : Int} {t0 : Nat} (hd : decode (jcode x) pc = .ok (.tableswitch dflt lo hi offs, len)) (ht : (pc : Int) + dflt = t0) (k0 : (v < lo ∨ hi < v) → J G x mc ms Q cells slots t0 lv st M) (k1 : ¬ v < lo → ¬ hi < v → ∃ (off : Int) (t : Nat), offs[(v - lo).toNat]? = some off ∧ (pc : Int) + off = t ∧ J G x mc ms Q cells slots t lv st M) : J G x mc ms Q cells slots pc lv ((0, v) :: st) M := by
  intro hcm hsm p e R s m args below meth c H locs ls X
  obtain ⟨C, hl, hr, hS, ol, os, oM⟩ := X
  have rv := jok_R (jok_h os)
  by_cases h : v < lo ∨ hi < v
  · exact lv_tableOut C.1 C.2.1 hd (by rw [j32 rv]; exact h) ht (k0 h hcm hsm p e R s m args below meth c H locs ls ⟨C, hl, hr, hS, ol, jok_t os, oM⟩)
  · obtain ⟨off, t, g1, g2, g3⟩ := k1 (fun q => h (Or.inl q)) (fun q => h (Or.inr q))
    exact lv_tableIn C.1 C.2.1 hd (by rw [j32 rv]; exact fun q => h (Or.inl q)) (by rw [j32 rv]; exact fun q => h (Or.inr q)) (by rw [j32 rv]; exact g1) g2 (g3 hcm hsm p e R s m args below meth c H locs ls ⟨C, hl, hr, hS, ol, jok_t os, oM⟩)
end JCPY
