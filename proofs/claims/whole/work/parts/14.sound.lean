/-! the computed condition is enough -/
theorem jat_mem : ∀ {l : List JI} {pc : Nat} {q : JI}, jat l pc = some q → q ∈ l ∧ q.1 = pc
  | [], _, _, h => by cases h
  | i :: l, pc, q, h => by
    unfold jat at h
    split at h
    · rename_i e
      cases h
      exact ⟨List.mem_cons_self, e⟩
    · exact ⟨List.mem_cons_of_mem _ (jat_mem h).1, (jat_mem h).2⟩
theorem jpick_in : ∀ {lv : JL} {sl : List Nat} {vs : List JV}, jpick lv sl = some vs → vs.length = sl.length ∧ ∀ q ∈ sl.zip vs, q ∈ lv
  | _, [], vs, h => by cases h; exact ⟨rfl, fun q hq => by cases hq⟩
  | lv, i :: l, vs, h => by
    unfold jpick at h
    split at h
    · rename_i v vs' h1 h2
      cases h
      obtain ⟨g1, g2⟩ := jpick_in h2
      refine ⟨by simp [g1], fun q hq => ?_⟩
      rw [List.zip_cons_cons] at hq
      rcases List.mem_cons.mp hq with rfl | hq
      · exact jlg_mem h1
      · exact g2 q hq
    · cases h
theorem jargs_eq : ∀ {n : Nat} {st acc as rest : List JV}, jargs n st acc = some (as, rest) → acc.reverse.reverse ++ [] = acc ∧ as.length = n + acc.length ∧ as.reverse ++ rest = acc.reverse ++ st
  | 0, st, acc, as, rest, h => by
    cases h
    exact ⟨by simp, by simp, rfl⟩
  | n + 1, [], acc, as, rest, h => by cases h
  | n + 1, v :: st, acc, as, rest, h => by
    obtain ⟨-, h2, h3⟩ := jargs_eq (n := n) h
    refine ⟨by simp, by rw [h2]; simp; omega, ?_⟩
    rw [h3]
    simp
theorem jends_of {cells slots mc ms : Nat} {P : Prop} (h : jends cells slots mc ms P) : P := by
  unfold jends at h
  split at h
  · exact h
  · exact h.2.2
theorem jsw_of {pc : Nat} {v : Int} {K : Nat → Prop} : ∀ {l : List Int} {k : Int} (j : Nat) {off : Int}, jsw pc v K l k → l[j]? = some off → v = k + j → K ((pc : Int) + off).toNat
  | [], _, _, _, _, h, _ => by cases h
  | o :: l, k, 0, off, h, hj, hv => by
    cases hj
    exact h.1 (by rw [hv]; simp)
  | o :: l, k, j + 1, off, h, hj, hv => jsw_of (l := l) (k := k + 1) j h.2 hj (by rw [hv]; omega)
theorem jfc {x i fid tag ci d : Nat} {v : Int} (h : jfchk x i fid tag ci d v = true) : ∃ (C : String) (T : u_T) (N : Nat), jclass ci C T N ∧ (jkinds ci)[fid % 100]? = some (tag, fid) ∧ v = 10 + (ci : Int) ∧ jlinked x i T (fid % 100) := by
  unfold jfchk at h
  split at h
  · rename_i C T N hv
    simp only [Bool.and_eq_true, Bool.or_eq_true, decide_eq_true_eq] at h
    refine ⟨C, T, N, jclass_all ci _ hv, h.1.1, h.1.2, ?_⟩
    rcases h.2 with g | g
    · exact Or.inl (jlk_mem g)
    · exact Or.inr (jlk_mem g)
  · cases h
theorem jpc {x i fid tag ci d : Nat} {v : Int} (h : jpchk x i fid tag ci d v = true) : ∃ (C : String) (T : u_T) (N : Nat), jclass ci C T N ∧ (jkinds ci)[fid % 100]? = some (tag, fid) ∧ v = 10 + (ci : Int) ∧ jputl x i T (fid % 100) := by
  unfold jpchk at h
  split at h
  · rename_i C T N hv
    split at h
    · rename_i hf
      simp only [Bool.and_eq_true, decide_eq_true_eq] at h
      exact ⟨C, T, N, jclass_all ci _ hv, h.1.1.1.1, h.1.1.1.2, Or.inr ⟨hf, jlk_mem h.1.1.2, h.1.2, h.2⟩⟩
    · rename_i hf
      obtain ⟨C', T', N', g1, g2, g3, g4⟩ := jfc h
      have e : (C', T', N') = (C, T, N) := Option.some.inj (g1.1.symm.trans hv)
      cases e
      exact ⟨C, T, N, g1, g2, g3, Or.inl ⟨by simpa using hf, g4⟩⟩
  · cases h
theorem jcc {x i y n c d : Nat} (h : jcchk x i y n c d = true) : y ∈ jlist ∧ (parseMethodDescriptor (jname y).desc).map (fun d => d.parameters.length) = some n ∧ jfr y + 1 ≤ jfr x ∧ 8 + (jmaxl y + 11) + jlo y ≤ jlo x ∧ jtag y = c ∧ jsite x i y := by
  unfold jcchk at h
  simp only [Bool.and_eq_true, Bool.or_eq_true, decide_eq_true_eq, Nat.ble_eq] at h
  obtain ⟨⟨⟨⟨⟨h1, h2⟩, h3⟩, h4⟩, h5⟩, h6⟩ := h
  refine ⟨List.elem_iff.mp h1, h2, h3, h4, h5, ?_⟩
  rcases h6 with g | g
  · exact Or.inl (jlk_mem g)
  · exact Or.inr (jlk_mem g)
set_option maxHeartbeats 4000000 in
theorem jwp_sound {G : JG} {x mc ms : Nat} {Q : Int → JM → Prop} {code : List JI} {cut : JCut} (hcode : code.all (jck x) = true)
    (hcut : ∀ pc sl P, jcut cut pc = some (sl, P) → ∀ cells slots vs M, P cells slots vs M → vs.length = sl.length → J G x mc ms Q cells slots pc (sl.zip vs) [] M) :
    ∀ f fr cells slots pc lv st M, jwp G code cut mc ms Q f fr cells slots pc lv st M → J G x mc ms Q cells slots pc lv st M := by
  intro f
  induction f with
  | zero => exact fun fr cells slots pc lv st M h => False.elim h
  | succ f ih =>
    intro fr cells slots pc lv st M h
    unfold jwp at h
    split at h
    · rename_i sl P hc
      split at h
      · rename_i vs hp
        cases fr with
        | true => cases hc
        | false =>
          obtain ⟨g1, g2⟩ := jpick_in hp
          exact J.less g2 (hcut pc sl P hc cells slots vs M h g1)
      · exact h.elim
    · split at h
      · exact h.elim
      · rename_i q0 i len a b c d e v hq
        obtain ⟨hm, he⟩ := jat_mem hq
        dsimp only at he
        subst he
        have hck := List.all_eq_true.mp hcode _ hm
        simp only [jck, Bool.and_eq_true, decide_eq_true_eq] at hck
        obtain ⟨hd, hck⟩ := hck
        cases i

        case iconst n =>
          dsimp only at h hck
          simp only [Bool.and_eq_true, decide_eq_true_eq, beq_iff_eq] at hck
          obtain ⟨hn, rfl⟩ := hck
          exact jr_iconst hd (by unfold jR; omega) (ih _ _ _ _ _ _ _ h)
        case bipush n =>
          dsimp only at h hck
          simp only [Bool.and_eq_true, decide_eq_true_eq, beq_iff_eq] at hck
          obtain ⟨hn, rfl⟩ := hck
          exact jr_bipush hd hn (ih _ _ _ _ _ _ _ h)
        case sipush n =>
          dsimp only at h hck
          simp only [Bool.and_eq_true, decide_eq_true_eq, beq_iff_eq] at hck
          obtain ⟨hn, rfl⟩ := hck
          exact jr_sipush hd hn (ih _ _ _ _ _ _ _ h)
        case ldc n =>
          dsimp only at h hck
          simp only [Bool.and_eq_true, decide_eq_true_eq, beq_iff_eq] at hck
          obtain ⟨⟨hn, hl⟩, rfl⟩ := hck
          exact jr_ldc hd hn (jlk_mem hl) (ih _ _ _ _ _ _ _ h)
        case ldc2_w n =>
          dsimp only at h hck
          simp only [Bool.and_eq_true, decide_eq_true_eq, beq_iff_eq] at hck
          obtain ⟨⟨hn, hl⟩, rfl⟩ := hck
          exact jr_ldc2 hd ⟨fun h => (by cases h), fun _ => (by simp; omega)⟩ (jlk_mem hl) (ih _ _ _ _ _ _ _ h)
        case lconst n =>
          dsimp only at h hck
          have hck := beq_iff_eq.mp hck
          subst hck
          exact jr_lconst hd (ih _ _ _ _ _ _ _ h)
        case aconst_null =>
          dsimp only at h hck
          have hck := beq_iff_eq.mp hck
          subst hck
          exact jr_null hd (ih _ _ _ _ _ _ _ h)
        case iload k =>
          dsimp only at h hck
          have hck := beq_iff_eq.mp hck
          subst hck
          split at h
          · rename_i hg
            exact jr_iload hd hg (ih _ _ _ _ _ _ _ h)
          · exact h.elim
        case iload_n k =>
          dsimp only at h hck
          have hck := beq_iff_eq.mp hck
          subst hck
          split at h
          · rename_i hg
            exact jr_iload_n hd hg (ih _ _ _ _ _ _ _ h)
          · exact h.elim
        case lload k =>
          dsimp only at h hck
          have hck := beq_iff_eq.mp hck
          subst hck
          split at h
          · rename_i hg
            exact jr_lload hd hg (ih _ _ _ _ _ _ _ h)
          · exact h.elim
        case lload_n k =>
          dsimp only at h hck
          have hck := beq_iff_eq.mp hck
          subst hck
          split at h
          · rename_i hg
            exact jr_lload_n hd hg (ih _ _ _ _ _ _ _ h)
          · exact h.elim
        case aload k =>
          dsimp only at h hck
          have hck := beq_iff_eq.mp hck
          subst hck
          split at h
          · rename_i hg
            exact jr_aload hd hg (ih _ _ _ _ _ _ _ h)
          · exact h.elim
        case aload_n k =>
          dsimp only at h hck
          have hck := beq_iff_eq.mp hck
          subst hck
          split at h
          · rename_i hg
            exact jr_aload_n hd hg (ih _ _ _ _ _ _ _ h)
          · exact h.elim
        case istore k =>
          dsimp only at h hck
          simp only [Bool.and_eq_true, beq_iff_eq, Nat.blt_eq] at hck
          obtain ⟨hk, rfl⟩ := hck
          split at h
          · exact jr_istore hd hk (ih _ _ _ _ _ _ _ h)
          · exact h.elim
        case istore_n k =>
          dsimp only at h hck
          simp only [Bool.and_eq_true, beq_iff_eq, Nat.blt_eq] at hck
          obtain ⟨hk, rfl⟩ := hck
          split at h
          · exact jr_istore_n hd hk (ih _ _ _ _ _ _ _ h)
          · exact h.elim
        case astore k =>
          dsimp only at h hck
          simp only [Bool.and_eq_true, beq_iff_eq, Nat.blt_eq] at hck
          obtain ⟨hk, rfl⟩ := hck
          split at h
          · exact jr_astore hd hk (ih _ _ _ _ _ _ _ h)
          · exact h.elim
        case astore_n k =>
          dsimp only at h hck
          simp only [Bool.and_eq_true, beq_iff_eq, Nat.blt_eq] at hck
          obtain ⟨hk, rfl⟩ := hck
          split at h
          · exact jr_astore_n hd hk (ih _ _ _ _ _ _ _ h)
          · exact h.elim
        case iinc k n =>
          dsimp only at h hck
          simp only [Bool.and_eq_true, beq_iff_eq, Nat.blt_eq] at hck
          obtain ⟨hk, rfl⟩ := hck
          split at h
          · rename_i hg
            exact jr_iinc hd hg hk h.1 (ih _ _ _ _ _ _ _ h.2)
          · exact h.elim
        case iadd =>
          dsimp only at h hck
          have hck := beq_iff_eq.mp hck
          subst hck
          split at h
          · exact jr_iadd hd h.1 (ih _ _ _ _ _ _ _ h.2)
          · exact h.elim
        case isub =>
          dsimp only at h hck
          have hck := beq_iff_eq.mp hck
          subst hck
          split at h
          · exact jr_isub hd h.1 (ih _ _ _ _ _ _ _ h.2)
          · exact h.elim
        case imul =>
          dsimp only at h hck
          have hck := beq_iff_eq.mp hck
          subst hck
          split at h
          · exact jr_imul hd h.1 (ih _ _ _ _ _ _ _ h.2)
          · exact h.elim
        case idiv =>
          dsimp only at h hck
          have hck := beq_iff_eq.mp hck
          subst hck
          split at h
          · exact jr_idiv hd h.1.1 h.1.2 (ih _ _ _ _ _ _ _ h.2)
          · exact h.elim
        case irem =>
          dsimp only at h hck
          have hck := beq_iff_eq.mp hck
          subst hck
          split at h
          · exact jr_irem hd h.1.1 h.1.2 (ih _ _ _ _ _ _ _ h.2)
          · exact h.elim
        case iand =>
          dsimp only at h hck
          have hck := beq_iff_eq.mp hck
          subst hck
          split at h
          · exact jr_iand hd (ih _ _ _ _ _ _ _ h)
          · exact h.elim
        case ishl =>
          dsimp only at h hck
          have hck := beq_iff_eq.mp hck
          subst hck
          split at h
          · exact jr_ishl hd (ih _ _ _ _ _ _ _ h)
          · exact h.elim
        case ishr =>
          dsimp only at h hck
          have hck := beq_iff_eq.mp hck
          subst hck
          split at h
          · exact jr_ishr hd (ih _ _ _ _ _ _ _ h)
          · exact h.elim
        case land =>
          dsimp only at h hck
          have hck := beq_iff_eq.mp hck
          subst hck
          split at h
          · exact jr_land hd (ih _ _ _ _ _ _ _ h)
          · exact h.elim
        case lor =>
          dsimp only at h hck
          have hck := beq_iff_eq.mp hck
          subst hck
          split at h
          · exact jr_lor hd (ih _ _ _ _ _ _ _ h)
          · exact h.elim
        case lshl =>
          dsimp only at h hck
          have hck := beq_iff_eq.mp hck
          subst hck
          split at h
          · exact jr_lshl hd (ih _ _ _ _ _ _ _ h)
          · exact h.elim
        case lshr =>
          dsimp only at h hck
          have hck := beq_iff_eq.mp hck
          subst hck
          split at h
          · exact jr_lshr hd (ih _ _ _ _ _ _ _ h)
          · exact h.elim
        case lushr =>
          dsimp only at h hck
          have hck := beq_iff_eq.mp hck
          subst hck
          split at h
          · exact jr_lushr hd (ih _ _ _ _ _ _ _ h)
          · exact h.elim
        case i2l =>
          dsimp only at h hck
          have hck := beq_iff_eq.mp hck
          subst hck
          split at h
          · exact jr_i2l hd (ih _ _ _ _ _ _ _ h)
          · exact h.elim
        case l2i =>
          dsimp only at h hck
          have hck := beq_iff_eq.mp hck
          subst hck
          split at h
          · exact jr_l2i hd (ih _ _ _ _ _ _ _ h)
          · exact h.elim
        case lcmp =>
          dsimp only at h hck
          have hck := beq_iff_eq.mp hck
          subst hck
          split at h
          · exact jr_lcmp hd (ih _ _ _ _ _ _ _ h)
          · exact h.elim
        case dup =>
          dsimp only at h hck
          have hck := beq_iff_eq.mp hck
          subst hck
          split at h
          · exact jr_dup hd (Or.inl rfl) (ih _ _ _ _ _ _ _ h)
          · exact jr_dup hd (Or.inr (Or.inl rfl)) (ih _ _ _ _ _ _ _ h)
          · exact h.elim
        case dup2 =>
          dsimp only at h hck
          have hck := beq_iff_eq.mp hck
          subst hck
          split at h
          · exact jr_dup2 hd (Or.inl rfl) (Or.inr (Or.inl rfl)) (ih _ _ _ _ _ _ _ h)
          · exact h.elim
        case goto off =>
          dsimp only at h hck
          simp only [Bool.and_eq_true, beq_iff_eq] at hck
          obtain ⟨ht, rfl⟩ := hck
          have ht := of_decide_eq_true ht
          exact jr_goto hd ht (ih _ _ _ _ _ _ _ h)
        case if_icmp cd off =>
          dsimp only at h hck
          simp only [Bool.and_eq_true, beq_iff_eq] at hck
          obtain ⟨ht, rfl⟩ := hck
          have ht := of_decide_eq_true ht
          split at h
          · exact jr_icmp hd ht (fun g => ih _ _ _ _ _ _ _ (h.1 g)) (fun g => ih _ _ _ _ _ _ _ (h.2 g))
          · exact h.elim
        case ifCond cd off =>
          dsimp only at h hck
          simp only [Bool.and_eq_true, beq_iff_eq] at hck
          obtain ⟨ht, rfl⟩ := hck
          have ht := of_decide_eq_true ht
          split at h
          · exact jr_ifc hd ht (fun g => ih _ _ _ _ _ _ _ (h.1 g)) (fun g => ih _ _ _ _ _ _ _ (h.2 g))
          · exact h.elim
        case ifnull off =>
          dsimp only at h hck
          simp only [Bool.and_eq_true, beq_iff_eq] at hck
          obtain ⟨ht, rfl⟩ := hck
          have ht := of_decide_eq_true ht
          split at h
          · exact jr_ifnull hd ht (fun g => ih _ _ _ _ _ _ _ (h.1 g)) (fun g => ih _ _ _ _ _ _ _ (h.2 g))
          · exact h.elim
        case ifnonnull off =>
          dsimp only at h hck
          simp only [Bool.and_eq_true, beq_iff_eq] at hck
          obtain ⟨ht, rfl⟩ := hck
          have ht := of_decide_eq_true ht
          split at h
          · exact jr_ifnonnull hd ht (fun g => ih _ _ _ _ _ _ _ (h.1 g)) (fun g => ih _ _ _ _ _ _ _ (h.2 g))
          · exact h.elim
        case getfield i =>
          dsimp only at h hck
          simp only [Bool.and_eq_true, beq_iff_eq] at hck
          obtain ⟨hf, rfl⟩ := hck
          obtain ⟨C, T, N, g1, g2, g3, g4⟩ := jfc hf
          split at h
          · exact jr_get hd g1 g2 g4 (h.1.trans g3) (ih _ _ _ _ _ _ _ h.2)
          · exact h.elim
        case putfield i =>
          dsimp only at h hck
          simp only [Bool.and_eq_true, beq_iff_eq] at hck
          obtain ⟨hf, rfl⟩ := hck
          obtain ⟨C, T, N, g1, g2, g3, g4⟩ := jpc hf
          split at h
          · exact jr_put (tag := 0) hd g1 g2 g4 (h.1.trans g3) (fun g => by cases g) (ih _ _ _ _ _ _ _ h.2)
          · exact jr_put (tag := 5) hd g1 g2 g4 (h.1.trans g3) (fun _ => h.2.1) (ih _ _ _ _ _ _ _ h.2.2)
          · exact jr_put (tag := 1) hd g1 g2 g4 (h.1.trans g3) (fun g => by cases g) (ih _ _ _ _ _ _ _ h.2)
          · exact h.elim
        case iaload =>
          dsimp only at h hck
          simp only [Bool.and_eq_true, Bool.or_eq_true, beq_iff_eq] at hck
          obtain ⟨hl, rfl⟩ := hck
          split at h
          · exact jr_iaload hd h.1.1 h.1.2.1 h.1.2.2 (ih _ _ _ _ _ _ _ h.2)
          · obtain ⟨⟨rfl, g1, g2⟩, g3⟩ := h
            exact jr_sld (hl.resolve_left (by decide)) hd g1 g2 (ih _ _ _ _ _ _ _ g3)
          · exact h.elim
        case baload =>
          dsimp only at h hck
          have hck := beq_iff_eq.mp hck
          subst hck
          split at h
          · exact jr_baload hd h.1.1 h.1.2.1 h.1.2.2 (ih _ _ _ _ _ _ _ h.2)
          · exact h.elim
        case aaload =>
          dsimp only at h hck
          have hck := beq_iff_eq.mp hck
          subst hck
          split at h
          · exact jr_aaload hd h.1.1 h.1.2.1 h.1.2.2 (ih _ _ _ _ _ _ _ h.2)
          · exact h.elim
        case iastore =>
          dsimp only at h hck
          have hck := beq_iff_eq.mp hck
          subst hck
          split at h
          · exact jr_iastore hd h.1.1 h.1.2.1 h.1.2.2 (ih _ _ _ _ _ _ _ h.2)
          · exact h.elim
        case aastore =>
          dsimp only at h hck
          have hck := beq_iff_eq.mp hck
          subst hck
          split at h
          · exact jr_aastore hd h.1.1 h.1.2.1 h.1.2.2 (ih _ _ _ _ _ _ _ h.2)
          · exact h.elim
        case bastore =>
          dsimp only at h hck
          have hck := beq_iff_eq.mp hck
          subst hck
          split at h
          · exact jr_bastore hd h.1.1 h.1.2.1 h.1.2.2.1 h.1.2.2.2 (ih _ _ _ _ _ _ _ h.2)
          · exact h.elim
        case arraylength =>
          dsimp only at h hck
          simp only [Bool.and_eq_true, Bool.or_eq_true, beq_iff_eq] at hck
          obtain ⟨hl, rfl⟩ := hck
          split at h
          · exact jr_alen hd h.1 (ih _ _ _ _ _ _ _ h.2)
          · obtain ⟨rfl, g3⟩ := h
            exact jr_slen (hl.resolve_left (by decide)) hd (ih _ _ _ _ _ _ _ g3)
          · exact h.elim
        case new i =>
          dsimp only at h hck
          simp only [Bool.and_eq_true, beq_iff_eq] at hck
          obtain ⟨hf, rfl⟩ := hck
          split at hf
          · rename_i C T N hv
            simp only [Bool.and_eq_true, decide_eq_true_eq] at hf
            obtain ⟨⟨⟨⟨g1, g2⟩, g3⟩, rfl⟩, rfl⟩ := hf
            exact jr_new hd (jclass_all c _ hv) (jlk_mem g1) (jlk_mem g2) (jlk_mem g3) h.1.1 h.1.2 (ih _ _ _ _ _ _ _ h.2)
          · cases hf
        case newarray at_ =>
          dsimp only at h hck
          simp only [Bool.and_eq_true, Bool.or_eq_true, beq_iff_eq, decide_eq_true_eq] at hck
          obtain ⟨hf, rfl⟩ := hck
          split at h
          · rcases hf with ⟨⟨rfl, g1⟩, g2⟩ | ⟨⟨rfl, g1⟩, g2⟩
            · exact jr_newarray hd g1 (Or.inl ⟨rfl, rfl, rfl⟩) (jlk_mem g2) h.1.1 h.1.2.1 h.1.2.2.1 h.1.2.2.2 (ih _ _ _ _ _ _ _ h.2)
            · exact jr_newarray hd g1 (Or.inr ⟨rfl, rfl, rfl⟩) (jlk_mem g2) h.1.1 h.1.2.1 h.1.2.2.1 h.1.2.2.2 (ih _ _ _ _ _ _ _ h.2)
          · exact h.elim
        case anewarray i =>
          dsimp only at h hck
          simp only [Bool.and_eq_true, Bool.or_eq_true, beq_iff_eq, decide_eq_true_eq] at hck
          obtain ⟨hf, rfl⟩ := hck
          split at h
          · rcases hf with ⟨⟨rfl, g1⟩, g2⟩ | ⟨⟨rfl, g1⟩, g2⟩
            · exact jr_anewarray hd (Or.inl ⟨rfl, rfl, rfl⟩) (jlk_mem g1) (jlk_mem g2) h.1.1 h.1.2.1 h.1.2.2.1 h.1.2.2.2 (ih _ _ _ _ _ _ _ h.2)
            · exact jr_anewarray hd (Or.inr ⟨rfl, rfl, rfl⟩) (jlk_mem g1) (jlk_mem g2) h.1.1 h.1.2.1 h.1.2.2.1 h.1.2.2.2 (ih _ _ _ _ _ _ _ h.2)
          · exact h.elim
        case tableswitch dflt lo hi offs =>
          dsimp only at h hck
          simp only [Bool.and_eq_true, decide_eq_true_eq] at hck
          obtain ⟨⟨ht, hn⟩, ho⟩ := hck
          have ht := of_decide_eq_true ht
          split at h
          · rename_i v0 st0
            refine jr_table hd ht (fun g => ih _ _ _ _ _ _ _ (h.1 g)) (fun g1 g2 => ?_)
            have hlt : (v0 - lo).toNat < offs.toList.length := by omega
            have hg : offs.toList[(v0 - lo).toNat]? = some (offs.toList[(v0 - lo).toNat]'hlt) := List.getElem?_eq_getElem hlt
            have h0 := of_decide_eq_true (List.all_eq_true.mp ho _ (List.getElem_mem hlt))
            refine ⟨_, ((q0 : Int) + offs.toList[(v0 - lo).toNat]'hlt).toNat, by rw [← Array.getElem?_toList]; exact hg, by omega, ih _ _ _ _ _ _ _ (jsw_of (v0 - lo).toNat h.2 hg (by omega))⟩
          · exact h.elim
        case ireturn =>
          dsimp only at h hck
          simp only [Bool.and_eq_true, Bool.or_eq_true, beq_iff_eq, decide_eq_true_eq] at hck
          obtain ⟨⟨hr, ht⟩, rfl⟩ := hck
          split at h
          · rcases hr with ⟨-, hr⟩ | ⟨hb, -⟩
            · exact jr_ret hd hr ht (jends_of h)
            · cases hb
          · rcases hr with ⟨hb, -⟩ | ⟨-, hr⟩
            · cases hb
            · exact jr_retz hd hr ht (jends_of h).1 (jends_of h).2
          · exact h.elim
        case areturn =>
          dsimp only at h hck
          simp only [Bool.and_eq_true, beq_iff_eq] at hck
          obtain ⟨⟨hr, ht⟩, rfl⟩ := hck
          split at hr
          · rename_i nm hr0
            split at h
            · exact jr_reta hd hr0 ht (jends_of h)
            · exact h.elim
          · cases hr
        case return_ =>
          dsimp only at h hck
          simp only [Bool.and_eq_true, beq_iff_eq, decide_eq_true_eq] at hck
          obtain ⟨⟨hr, ht⟩, rfl⟩ := hck
          split at h
          · exact jr_retv hd hr ht (jends_of h)
          · exact h.elim
        case invokespecial i =>
          dsimp only at h hck
          split at h
          · rw [if_pos rfl] at hck
            simp only [Bool.and_eq_true, beq_iff_eq, Nat.ble_eq] at hck
            obtain ⟨⟨⟨g1, g2⟩, g3⟩, rfl⟩ := hck
            split at h
            · split at h
              · rename_i hw
                exact jr_objInit hd (jlk_mem g1) (Nat.ble_eq.mp hw) g2 g3 h.1 (ih _ _ _ _ _ _ _ h.2)
              · exact h.elim
            · exact h.elim
          · rename_i hne
            rw [if_neg hne] at hck
            simp only [Bool.and_eq_true, beq_iff_eq, decide_eq_true_eq] at hck
            obtain ⟨⟨⟨⟨g1, g2⟩, g3⟩, g4⟩, rfl⟩ := hck
            obtain ⟨k1, k2, k3, k4, k5, k6⟩ := jcc g1
            split at h
            · rename_i x0 as st0 ha
              obtain ⟨-, l1, l2⟩ := jargs_eq ha
              split at h
              · rename_i hw
                obtain ⟨h1, mc', ms', h2, h3, h4⟩ := h
                have l2 : st = as.reverse ++ (1, x0) :: st0 := by
                  have := l2
                  simp at this
                  exact this.symm
                rw [l2]
                subst k5
                exact jr_callI hd k1 g2 g3 k6 k2 (by simp at l1; omega) k3 k4 (Nat.ble_eq.mp hw) h1 h2 h3 h4 (fun r M' hr _ hM => ih _ _ _ _ _ _ _ (hr hM))
              · exact h.elim
            · exact h.elim
        case invokevirtual i =>
          dsimp only at h hck
          simp only [Bool.and_eq_true, beq_iff_eq, decide_eq_true_eq] at hck
          obtain ⟨⟨⟨⟨⟨g1, g2⟩, g3⟩, g4⟩, rfl⟩, g5⟩ := hck
          obtain ⟨k1, k2, k3, k4, k5, k6⟩ := jcc g1
          split at g5
          · rename_i C T N hv
            simp only [Bool.and_eq_true, decide_eq_true_eq] at g5
            have hvc : v = 10 + (((v - 10).toNat : Nat) : Int) := by omega
            split at h
            · rename_i x0 as st0 ha
              obtain ⟨-, l1, l2⟩ := jargs_eq ha
              have l2 : st = as.reverse ++ (1, x0) :: st0 := by
                have := l2
                simp at this
                exact this.symm
              rw [l2]
              subst k5
              split at h
              · rename_i hw
                exact fun hcm hsm => jr_callv (mc' := 0) (ms' := 0) hd k1 ⟨g2, g3⟩ (jclass_all _ _ hv) g5.1 k6 k2 (by simp at l1; omega) k3 k4 (Nat.ble_eq.mp hw) (h.1.trans hvc) hcm hsm h.2 (fun r M' hr _ hM => ih _ _ _ _ _ _ _ (hr hM)) hcm hsm
              · rename_i hw _
                obtain ⟨h1, mc', ms', h2, h3, h4⟩ := h
                exact jr_callv hd k1 ⟨g2, g3⟩ (jclass_all _ _ hv) g5.1 k6 k2 (by simp at l1; omega) k3 k4 (Nat.ble_eq.mp hw) (h1.trans hvc) h2 h3 h4 (fun r M' hr _ hM => ih _ _ _ _ _ _ _ (hr hM))
              · exact h.elim
            · exact h.elim
          · cases g5
        case invokestatic i =>
          dsimp only at h hck
          split at h
          · rw [if_pos rfl] at hck
            simp only [Bool.and_eq_true, beq_iff_eq, Nat.ble_eq] at hck
            obtain ⟨⟨⟨g1, g2⟩, g3⟩, rfl⟩ := hck
            split at h
            · split at h
              · rename_i hw
                exact jr_max hd (jlk_mem g1) (Nat.ble_eq.mp hw) g2 g3 (ih _ _ _ _ _ _ _ h)
              · exact h.elim
            · exact h.elim
          · rw [if_neg (by omega), if_pos rfl] at hck
            simp only [Bool.and_eq_true, beq_iff_eq, Nat.ble_eq] at hck
            obtain ⟨⟨⟨g1, g2⟩, g3⟩, rfl⟩ := hck
            split at h
            · split at h
              · rename_i hw
                exact jr_min hd (jlk_mem g1) (Nat.ble_eq.mp hw) g2 g3 (ih _ _ _ _ _ _ _ h)
              · exact h.elim
            · exact h.elim
          · rw [if_neg (by omega), if_neg (by omega), if_pos rfl] at hck
            simp only [Bool.and_eq_true, beq_iff_eq, Nat.ble_eq] at hck
            obtain ⟨⟨⟨g1, g2⟩, g3⟩, rfl⟩ := hck
            split at h
            · split at h
              · rename_i hw
                obtain ⟨⟨m1, m2, m3, m4, m5, m6, m7⟩, h⟩ := h
                exact jr_copy hd (jlk_mem g1) (Nat.ble_eq.mp hw) g2 g3 m1 m2 m3 m4 m5 m6 m7 (ih _ _ _ _ _ _ _ h)
              · exact h.elim
            · exact h.elim
          · rename_i n1 n2 n3
            rw [if_neg n1, if_neg n2, if_neg n3] at hck
            simp only [Bool.and_eq_true, beq_iff_eq, decide_eq_true_eq] at hck
            obtain ⟨⟨g1, g2⟩, rfl⟩ := hck
            obtain ⟨k1, k2, k3, k4, k5, k6⟩ := jcc g1
            split at h
            · rename_i as st0 ha
              obtain ⟨-, l1, l2⟩ := jargs_eq ha
              split at h
              · rename_i hw
                have l2 : st = as.reverse ++ st0 := by
                  have := l2
                  simp at this
                  exact this.symm
                rw [l2]
                subst k5
                exact fun hcm hsm => jr_callS (mc' := 0) (ms' := 0) hd k1 g2 k6 k2 (by simp at l1; omega) k3 k4 (Nat.ble_eq.mp hw) hcm hsm h (fun r M' hr _ hM => ih _ _ _ _ _ _ _ (hr hM)) hcm hsm
              · exact h.elim
            · exact h.elim
        all_goals exact False.elim h
