section Snd2
variable {p : Program} {l : Launch} {e : Env} {R : Room} {s : State} {mid : MethodId} {args : Array Value} {below : List Frame} {meth : Method} {c : Code} {D : va_G} {cA : Nat → ClassId} {n0 b k0 d0 : Nat} {xs : Scr} {m : Nat} {Q : State → Prop}
theorem stp_go (C : Cx p l s mid args meth c D cA n0 b xs m) {pc len n' : Nat} {ins : Instr} {aux : List Nat} {L st L' st' : List Value} {μ μ' : Mem} (hI : I m pc = some (ins, len, aux))
    (hs : stp xs ins (pc + len) aux L st μ = some (true, .inl (n', L', st', μ'))) (hR : Rm R k0 d0 μ') (hk0 : k0 ≤ mN μ + mX μ) (hd0 : d0 ≤ ssum (mN μ) + 6 * mX μ) (hF : fM m ≤ R.frames ∧ 40 * fM m ≤ R.locals) (k : Gd p l e R s mid args below meth c D cA n0 b k0 d0 m Q n' L' st' μ') : Gd p l e R s mid args below meth c D cA n0 b k0 d0 m Q pc L st μ := by
  have hd : decode (cM m) pc = .ok (ins, len) := (I_ok hI).1
  have hc : chk m pc len ins aux = true := (I_ok hI).2.1
  have hx := C.1
  have hb := C.2.1
  have hown := C.2.2.2.1
  have hts := C.2.2.2.2.1
  cases ins
  case iload_n kk =>
    obtain ⟨v, h1, h2, h3, h4, h5, h6⟩ := inv_ld hs
    obtain ⟨x, rfl⟩ := tag0 h2
    subst h3; subst h4; subst h5; subst h6
    have hlen : len = 1 := Nat.eq_of_beq_eq_true hc
    subst hlen
    intro H locs ls hi hl
    exact lv_iload_n hx hb hd rfl (lvx_at hl h1 (by simp)) (k H locs ls hi hl)
  case iload kk =>
    obtain ⟨v, h1, h2, h3, h4, h5, h6⟩ := inv_ld hs
    obtain ⟨x, rfl⟩ := tag0 h2
    subst h3; subst h4; subst h5; subst h6
    have hlen : len = 2 := Nat.eq_of_beq_eq_true hc
    subst hlen
    intro H locs ls hi hl
    exact lv_iload hx hb hd (lvx_at hl h1 (by simp)) (k H locs ls hi hl)
  case lload_n kk =>
    obtain ⟨v, h1, h2, h3, h4, h5, h6⟩ := inv_ld hs
    obtain ⟨x, rfl⟩ := tag1 h2
    subst h3; subst h4; subst h5; subst h6
    have hlen : len = 1 := Nat.eq_of_beq_eq_true hc
    subst hlen
    intro H locs ls hi hl
    exact lv_lload_n hx hb hd rfl (lvx_at hl h1 (by simp)) (k H locs ls hi hl)
  case fload_n kk =>
    obtain ⟨v, h1, h2, h3, h4, h5, h6⟩ := inv_ld hs
    obtain ⟨x, rfl⟩ := tag2 h2
    subst h3; subst h4; subst h5; subst h6
    have hlen : len = 1 := Nat.eq_of_beq_eq_true hc
    subst hlen
    intro H locs ls hi hl
    exact lv_fload_n hx hb hd rfl (lvx_at hl h1 (by simp)) (k H locs ls hi hl)
  case fload kk =>
    obtain ⟨v, h1, h2, h3, h4, h5, h6⟩ := inv_ld hs
    obtain ⟨x, rfl⟩ := tag2 h2
    subst h3; subst h4; subst h5; subst h6
    have hlen : len = 2 := Nat.eq_of_beq_eq_true hc
    subst hlen
    intro H locs ls hi hl
    exact lv_fload hx hb hd (lvx_at hl h1 (by simp)) (k H locs ls hi hl)
  case dload_n kk =>
    obtain ⟨v, h1, h2, h3, h4, h5, h6⟩ := inv_ld hs
    obtain ⟨x, rfl⟩ := tag3 h2
    subst h3; subst h4; subst h5; subst h6
    have hlen : len = 1 := Nat.eq_of_beq_eq_true hc
    subst hlen
    intro H locs ls hi hl
    exact lv_dload_n hx hb hd rfl (lvx_at hl h1 (by simp)) (k H locs ls hi hl)
  case dload kk =>
    obtain ⟨v, h1, h2, h3, h4, h5, h6⟩ := inv_ld hs
    obtain ⟨x, rfl⟩ := tag3 h2
    subst h3; subst h4; subst h5; subst h6
    have hlen : len = 2 := Nat.eq_of_beq_eq_true hc
    subst hlen
    intro H locs ls hi hl
    exact lv_dload hx hb hd (lvx_at hl h1 (by simp)) (k H locs ls hi hl)
  case aload_n kk =>
    obtain ⟨v, h1, h2, h3, h4, h5, h6⟩ := inv_ld hs
    obtain ⟨x, rfl⟩ := tag4 h2
    subst h3; subst h4; subst h5; subst h6
    have hlen : len = 1 := Nat.eq_of_beq_eq_true hc
    subst hlen
    intro H locs ls hi hl
    exact lv_aload_n hx hb hd rfl (lvx_at hl h1 (by simp)) (k H locs ls hi hl)
  case aload kk =>
    obtain ⟨v, h1, h2, h3, h4, h5, h6⟩ := inv_ld hs
    obtain ⟨x, rfl⟩ := tag4 h2
    subst h3; subst h4; subst h5; subst h6
    have hlen : len = 2 := Nat.eq_of_beq_eq_true hc
    subst hlen
    intro H locs ls hi hl
    exact lv_aload hx hb hd (lvx_at hl h1 (by simp)) (k H locs ls hi hl)
  case istore_n kk =>
    obtain ⟨v, r, h1, h2, h3, h4, h5, h6⟩ := inv_s1 hs
    obtain ⟨x, rfl⟩ := tag0 h2
    subst h1; subst h3; subst h4; subst h5; subst h6
    unfold chk at hc; dsimp only at hc; rw [Bool.and_eq_true] at hc
    have hlen : len = 1 := Nat.eq_of_beq_eq_true hc.1
    subst hlen
    have hn := Nat.le_of_ble_eq_true hc.2
    intro H locs ls hi hl
    exact lv_istore_n hx hb hd rfl (lvx_has hl) hn rfl (fun ls' h' => k H locs ls' hi (lvx_st1 (v := .int x) hl h'))
  case istore kk =>
    obtain ⟨v, r, h1, h2, h3, h4, h5, h6⟩ := inv_s1 hs
    obtain ⟨x, rfl⟩ := tag0 h2
    subst h1; subst h3; subst h4; subst h5; subst h6
    unfold chk at hc; dsimp only at hc; rw [Bool.and_eq_true] at hc
    have hlen : len = 2 := Nat.eq_of_beq_eq_true hc.1
    subst hlen
    have hn := Nat.le_of_ble_eq_true hc.2
    intro H locs ls hi hl
    exact lv_istore hx hb hd (lvx_has hl) hn rfl (fun ls' h' => k H locs ls' hi (lvx_st1 (v := .int x) hl h'))
  case fstore_n kk =>
    obtain ⟨v, r, h1, h2, h3, h4, h5, h6⟩ := inv_s1 hs
    obtain ⟨x, rfl⟩ := tag2 h2
    subst h1; subst h3; subst h4; subst h5; subst h6
    unfold chk at hc; dsimp only at hc; rw [Bool.and_eq_true] at hc
    have hlen : len = 1 := Nat.eq_of_beq_eq_true hc.1
    subst hlen
    have hn := Nat.le_of_ble_eq_true hc.2
    intro H locs ls hi hl
    exact lv_fstore_n hx hb hd rfl (lvx_has hl) hn rfl (fun ls' h' => k H locs ls' hi (lvx_st1 (v := .float x) hl h'))
  case fstore kk =>
    obtain ⟨v, r, h1, h2, h3, h4, h5, h6⟩ := inv_s1 hs
    obtain ⟨x, rfl⟩ := tag2 h2
    subst h1; subst h3; subst h4; subst h5; subst h6
    unfold chk at hc; dsimp only at hc; rw [Bool.and_eq_true] at hc
    have hlen : len = 2 := Nat.eq_of_beq_eq_true hc.1
    subst hlen
    have hn := Nat.le_of_ble_eq_true hc.2
    intro H locs ls hi hl
    exact lv_fstore hx hb hd (lvx_has hl) hn rfl (fun ls' h' => k H locs ls' hi (lvx_st1 (v := .float x) hl h'))
  case astore_n kk =>
    obtain ⟨v, r, h1, h2, h3, h4, h5, h6⟩ := inv_s1 hs
    obtain ⟨x, rfl⟩ := tag4 h2
    subst h1; subst h3; subst h4; subst h5; subst h6
    unfold chk at hc; dsimp only at hc; rw [Bool.and_eq_true] at hc
    have hlen : len = 1 := Nat.eq_of_beq_eq_true hc.1
    subst hlen
    have hn := Nat.le_of_ble_eq_true hc.2
    intro H locs ls hi hl
    exact lv_astore_n hx hb hd rfl (lvx_has hl) hn rfl (fun ls' h' => k H locs ls' hi (lvx_st1 (v := .ref x) hl h'))
  case astore kk =>
    obtain ⟨v, r, h1, h2, h3, h4, h5, h6⟩ := inv_s1 hs
    obtain ⟨x, rfl⟩ := tag4 h2
    subst h1; subst h3; subst h4; subst h5; subst h6
    unfold chk at hc; dsimp only at hc; rw [Bool.and_eq_true] at hc
    have hlen : len = 2 := Nat.eq_of_beq_eq_true hc.1
    subst hlen
    have hn := Nat.le_of_ble_eq_true hc.2
    intro H locs ls hi hl
    exact lv_astore hx hb hd (lvx_has hl) hn rfl (fun ls' h' => k H locs ls' hi (lvx_st1 (v := .ref x) hl h'))
  case lstore_n kk =>
    obtain ⟨v, r, h1, h2, h3, h4, h5, h6⟩ := inv_s2 hs
    obtain ⟨x, rfl⟩ := tag1 h2
    subst h1; subst h3; subst h4; subst h5; subst h6
    unfold chk at hc; dsimp only at hc; rw [Bool.and_eq_true] at hc
    have hlen : len = 1 := Nat.eq_of_beq_eq_true hc.1
    subst hlen
    have hn := Nat.le_of_ble_eq_true hc.2
    intro H locs ls hi hl
    exact lv_lstore_n hx hb hd rfl (lvx_has hl) hn rfl (fun ls' h' => k H locs ls' hi (lvx_st2 (v := .long x) hl h'))
  case dstore_n kk =>
    obtain ⟨v, r, h1, h2, h3, h4, h5, h6⟩ := inv_s2 hs
    obtain ⟨x, rfl⟩ := tag3 h2
    subst h1; subst h3; subst h4; subst h5; subst h6
    unfold chk at hc; dsimp only at hc; rw [Bool.and_eq_true] at hc
    have hlen : len = 1 := Nat.eq_of_beq_eq_true hc.1
    subst hlen
    have hn := Nat.le_of_ble_eq_true hc.2
    intro H locs ls hi hl
    exact lv_dstore_n hx hb hd rfl (lvx_has hl) hn rfl (fun ls' h' => k H locs ls' hi (lvx_st2 (v := .double x) hl h'))
  case dstore kk =>
    obtain ⟨v, r, h1, h2, h3, h4, h5, h6⟩ := inv_s2 hs
    obtain ⟨x, rfl⟩ := tag3 h2
    subst h1; subst h3; subst h4; subst h5; subst h6
    unfold chk at hc; dsimp only at hc; rw [Bool.and_eq_true] at hc
    have hlen : len = 2 := Nat.eq_of_beq_eq_true hc.1
    subst hlen
    have hn := Nat.le_of_ble_eq_true hc.2
    intro H locs ls hi hl
    exact lv_dstore hx hb hd (lvx_has hl) hn rfl (fun ls' h' => k H locs ls' hi (lvx_st2 (v := .double x) hl h'))
  case iinc kk d =>
    unfold stp at hs
    dsimp only at hs
    split at hs
    · rename_i x h1
      obtain ⟨h3, h4, h5, h6⟩ := inv_go hs
      subst h3; subst h5; subst h6
      unfold chk at hc; dsimp only at hc; rw [Bool.and_eq_true] at hc
      have hlen : len = 3 := Nat.eq_of_beq_eq_true hc.1
      subst hlen
      have hn := Nat.le_of_ble_eq_true hc.2
      intro H locs ls hi hl
      obtain ⟨kp, hk⟩ := asl_at (n0 := n0) (b := b) h1 (by simp)
      subst h4
      exact lv_iinc hx hb hd (lvx_has hl) hk rfl hn rfl (fun ls' h' => k H locs ls' hi (lvx_st1 (v := .int _) hl h'))
    · cases hs
  case iconst z =>
    obtain ⟨h3, h4, h5, h6⟩ := inv_go hs
    subst h3; subst h4; subst h5; subst h6
    have hlen : len = 1 := Nat.eq_of_beq_eq_true hc
    subst hlen
    exact fun H locs ls hi hl => lv_iconst hx hb hd rfl (k H locs ls hi hl)
  case bipush z =>
    obtain ⟨h3, h4, h5, h6⟩ := inv_go hs
    subst h3; subst h4; subst h5; subst h6
    have hlen : len = 2 := Nat.eq_of_beq_eq_true hc
    subst hlen
    exact fun H locs ls hi hl => lv_bipush hx hb hd rfl (k H locs ls hi hl)
  case sipush z =>
    obtain ⟨h3, h4, h5, h6⟩ := inv_go hs
    subst h3; subst h4; subst h5; subst h6
    have hlen : len = 3 := Nat.eq_of_beq_eq_true hc
    subst hlen
    exact fun H locs ls hi hl => lv_sipush hx hb hd rfl (k H locs ls hi hl)
  case lconst z =>
    obtain ⟨h3, h4, h5, h6⟩ := inv_go hs
    subst h3; subst h4; subst h5; subst h6
    have hlen : len = 1 := Nat.eq_of_beq_eq_true hc
    subst hlen
    exact fun H locs ls hi hl => lv_lconst hx hb hd rfl (k H locs ls hi hl)
  case fconst z =>
    obtain ⟨h3, h4, h5, h6⟩ := inv_go hs
    subst h3; subst h4; subst h5; subst h6
    have hlen : len = 1 := Nat.eq_of_beq_eq_true hc
    subst hlen
    match z, hd, k with
    | 0, hd, k => exact fun H locs ls hi hl => lv_fconst0 hx hb hd (k H locs ls hi hl)
    | 1, hd, k => exact fun H locs ls hi hl => lv_fconst1 hx hb hd (k H locs ls hi hl)
    | 2, hd, k => exact fun H locs ls hi hl => lv_fconst2 hx hb hd (k H locs ls hi hl)
  case dconst z =>
    obtain ⟨h3, h4, h5, h6⟩ := inv_go hs
    subst h3; subst h4; subst h5; subst h6
    have hlen : len = 1 := Nat.eq_of_beq_eq_true hc
    subst hlen
    match z, hd, k with
    | 0, hd, k => exact fun H locs ls hi hl => lv_dconst0 hx hb hd (k H locs ls hi hl)
    | 1, hd, k => exact fun H locs ls hi hl => lv_dconst1 hx hb hd (k H locs ls hi hl)
  case ldc z =>
    unfold stp at hs
    dsimp only at hs
    unfold chk at hc; dsimp only at hc; rw [Bool.and_eq_true] at hc
    have hlen : len = 2 := Nat.eq_of_beq_eq_true hc.1
    subst hlen
    split at hs
    · obtain ⟨h3, h4, h5, h6⟩ := inv_go hs
      subst h3; subst h4; subst h5; subst h6
      exact fun H locs ls hi hl => lv_ldc hx hb hown (in_code hts hc.2) hd (k H locs ls hi hl)
    · obtain ⟨h3, h4, h5, h6⟩ := inv_go hs
      subst h3; subst h4; subst h5; subst h6
      exact fun H locs ls hi hl => lv_ldcf hx hb hown (in_code hts hc.2) hd (k H locs ls hi hl)
    · cases hs
  case ldc2_w z =>
    unfold stp at hs
    dsimp only at hs
    unfold chk at hc; dsimp only at hc; rw [Bool.and_eq_true] at hc
    have hlen : len = 3 := Nat.eq_of_beq_eq_true hc.1
    subst hlen
    split at hs
    · obtain ⟨h3, h4, h5, h6⟩ := inv_go hs
      subst h3; subst h4; subst h5; subst h6
      rename_i v r
      cases r with
      | nil => exact absurd hc.2 (by simp)
      | cons wl r => exact fun H locs ls hi hl => lv_ldc2 hx hb hown (in_code hts hc.2) hd (k H locs ls hi hl)
    · obtain ⟨h3, h4, h5, h6⟩ := inv_go hs
      subst h3; subst h4; subst h5; subst h6
      rename_i v r
      cases r with
      | nil => exact absurd hc.2 (by simp)
      | cons wl r => exact fun H locs ls hi hl => lv_ldc2d hx hb hown (in_code hts hc.2) hd (k H locs ls hi hl)
    · cases hs
  case iadd =>
    obtain ⟨y, x, r, h1, h3, h4, h5, h6⟩ := inv_ii2 hs
    subst h1; subst h3; subst h4; subst h5; subst h6
    have hlen : len = 1 := Nat.eq_of_beq_eq_true hc
    subst hlen
    exact fun H locs ls hi hl => lv_iadd hx hb hd (k H locs ls hi hl)
  case isub =>
    obtain ⟨y, x, r, h1, h3, h4, h5, h6⟩ := inv_ii2 hs
    subst h1; subst h3; subst h4; subst h5; subst h6
    have hlen : len = 1 := Nat.eq_of_beq_eq_true hc
    subst hlen
    exact fun H locs ls hi hl => lv_isub hx hb hd (k H locs ls hi hl)
  case imul =>
    obtain ⟨y, x, r, h1, h3, h4, h5, h6⟩ := inv_ii2 hs
    subst h1; subst h3; subst h4; subst h5; subst h6
    have hlen : len = 1 := Nat.eq_of_beq_eq_true hc
    subst hlen
    exact fun H locs ls hi hl => lv_imul hx hb hd (k H locs ls hi hl)
  case iand =>
    obtain ⟨y, x, r, h1, h3, h4, h5, h6⟩ := inv_ii2 hs
    subst h1; subst h3; subst h4; subst h5; subst h6
    have hlen : len = 1 := Nat.eq_of_beq_eq_true hc
    subst hlen
    exact fun H locs ls hi hl => lv_iand hx hb hd (k H locs ls hi hl)
  case ior =>
    obtain ⟨y, x, r, h1, h3, h4, h5, h6⟩ := inv_ii2 hs
    subst h1; subst h3; subst h4; subst h5; subst h6
    have hlen : len = 1 := Nat.eq_of_beq_eq_true hc
    subst hlen
    exact fun H locs ls hi hl => lv_ior hx hb hd (k H locs ls hi hl)
  case ixor =>
    obtain ⟨y, x, r, h1, h3, h4, h5, h6⟩ := inv_ii2 hs
    subst h1; subst h3; subst h4; subst h5; subst h6
    have hlen : len = 1 := Nat.eq_of_beq_eq_true hc
    subst hlen
    exact fun H locs ls hi hl => lv_ixor hx hb hd (k H locs ls hi hl)
  case ishl =>
    obtain ⟨y, x, r, h1, h3, h4, h5, h6⟩ := inv_ii2 hs
    subst h1; subst h3; subst h4; subst h5; subst h6
    have hlen : len = 1 := Nat.eq_of_beq_eq_true hc
    subst hlen
    exact fun H locs ls hi hl => lv_ishl hx hb hd (k H locs ls hi hl)
  case ishr =>
    obtain ⟨y, x, r, h1, h3, h4, h5, h6⟩ := inv_ii2 hs
    subst h1; subst h3; subst h4; subst h5; subst h6
    have hlen : len = 1 := Nat.eq_of_beq_eq_true hc
    subst hlen
    exact fun H locs ls hi hl => lv_ishr hx hb hd (k H locs ls hi hl)
  case iushr =>
    obtain ⟨y, x, r, h1, h3, h4, h5, h6⟩ := inv_ii2 hs
    subst h1; subst h3; subst h4; subst h5; subst h6
    have hlen : len = 1 := Nat.eq_of_beq_eq_true hc
    subst hlen
    exact fun H locs ls hi hl => lv_iushr hx hb hd rfl (k H locs ls hi hl)
  case ineg =>
    obtain ⟨x, r, h1, h3, h4, h5, h6⟩ := inv_ii1 hs
    subst h1; subst h3; subst h4; subst h5; subst h6
    have hlen : len = 1 := Nat.eq_of_beq_eq_true hc
    subst hlen
    exact fun H locs ls hi hl => lv_ineg hx hb hd (k H locs ls hi hl)
  case i2c =>
    obtain ⟨x, r, h1, h3, h4, h5, h6⟩ := inv_ii1 hs
    subst h1; subst h3; subst h4; subst h5; subst h6
    have hlen : len = 1 := Nat.eq_of_beq_eq_true hc
    subst hlen
    exact fun H locs ls hi hl => lv_i2c hx hb hd rfl (k H locs ls hi hl)
  case ladd =>
    obtain ⟨y, x, r, h1, h3, h4, h5, h6⟩ := inv_ll2 hs
    subst h1; subst h3; subst h4; subst h5; subst h6
    have hlen : len = 1 := Nat.eq_of_beq_eq_true hc
    subst hlen
    exact fun H locs ls hi hl => lv_ladd hx hb hd (k H locs ls hi hl)
  case lmul =>
    obtain ⟨y, x, r, h1, h3, h4, h5, h6⟩ := inv_ll2 hs
    subst h1; subst h3; subst h4; subst h5; subst h6
    have hlen : len = 1 := Nat.eq_of_beq_eq_true hc
    subst hlen
    exact fun H locs ls hi hl => lv_lmul hx hb hd (k H locs ls hi hl)
  case land =>
    obtain ⟨y, x, r, h1, h3, h4, h5, h6⟩ := inv_ll2 hs
    subst h1; subst h3; subst h4; subst h5; subst h6
    have hlen : len = 1 := Nat.eq_of_beq_eq_true hc
    subst hlen
    exact fun H locs ls hi hl => lv_land hx hb hd (k H locs ls hi hl)
  case lor =>
    obtain ⟨y, x, r, h1, h3, h4, h5, h6⟩ := inv_ll2 hs
    subst h1; subst h3; subst h4; subst h5; subst h6
    have hlen : len = 1 := Nat.eq_of_beq_eq_true hc
    subst hlen
    exact fun H locs ls hi hl => lv_lor hx hb hd (k H locs ls hi hl)
  case fadd =>
    obtain ⟨y, x, r, h1, hne, h3, h4, h5, h6⟩ := inv_ff2 hs
    subst h1; subst h3; subst h4; subst h5; subst h6
    have hlen : len = 1 := Nat.eq_of_beq_eq_true hc
    subst hlen
    exact fun H locs ls hi hl => lv_fadd hx hb hd hne (k H locs ls hi hl)
  case fmul =>
    obtain ⟨y, x, r, h1, hne, h3, h4, h5, h6⟩ := inv_ff2 hs
    subst h1; subst h3; subst h4; subst h5; subst h6
    have hlen : len = 1 := Nat.eq_of_beq_eq_true hc
    subst hlen
    exact fun H locs ls hi hl => lv_fmul hx hb hd hne (k H locs ls hi hl)
  case fdiv =>
    obtain ⟨y, x, r, h1, hne, h3, h4, h5, h6⟩ := inv_ff2 hs
    subst h1; subst h3; subst h4; subst h5; subst h6
    have hlen : len = 1 := Nat.eq_of_beq_eq_true hc
    subst hlen
    exact fun H locs ls hi hl => lv_fdiv hx hb hd hne (k H locs ls hi hl)
  case dmul =>
    obtain ⟨y, x, r, h1, hne, h3, h4, h5, h6⟩ := inv_dd2 hs
    subst h1; subst h3; subst h4; subst h5; subst h6
    have hlen : len = 1 := Nat.eq_of_beq_eq_true hc
    subst hlen
    exact fun H locs ls hi hl => lv_dmul hx hb hd hne (k H locs ls hi hl)
  case ddiv =>
    obtain ⟨y, x, r, h1, hne, h3, h4, h5, h6⟩ := inv_dd2 hs
    subst h1; subst h3; subst h4; subst h5; subst h6
    have hlen : len = 1 := Nat.eq_of_beq_eq_true hc
    subst hlen
    exact fun H locs ls hi hl => lv_ddiv hx hb hd hne (k H locs ls hi hl)
  case idiv =>
    unfold stp at hs
    dsimp only at hs
    split at hs
    · obtain ⟨hg, h3, h4, h5, h6⟩ := inv_gg hs
      subst h3; subst h4; subst h5; subst h6
      have hlen : len = 1 := Nat.eq_of_beq_eq_true hc
      subst hlen
      exact fun H locs ls hi hl => lv_idiv hx hb hd (of_decide_eq_true hg) (k H locs ls hi hl)
    · cases hs
  case irem =>
    unfold stp at hs
    dsimp only at hs
    split at hs
    · obtain ⟨hg, h3, h4, h5, h6⟩ := inv_gg hs
      subst h3; subst h4; subst h5; subst h6
      have hlen : len = 1 := Nat.eq_of_beq_eq_true hc
      subst hlen
      exact fun H locs ls hi hl => lv_irem hx hb hd (of_decide_eq_true hg) (k H locs ls hi hl)
    · cases hs
  case lshl =>
    unfold stp at hs
    dsimp only at hs
    split at hs
    · obtain ⟨h3, h4, h5, h6⟩ := inv_go hs
      subst h3; subst h4; subst h5; subst h6
      have hlen : len = 1 := Nat.eq_of_beq_eq_true hc
      subst hlen
      exact fun H locs ls hi hl => lv_lshl hx hb hd rfl (k H locs ls hi hl)
    · cases hs
  case lcmp =>
    unfold stp at hs
    dsimp only at hs
    split at hs
    · obtain ⟨h3, h4, h5, h6⟩ := inv_go hs
      subst h3; subst h4; subst h5; subst h6
      have hlen : len = 1 := Nat.eq_of_beq_eq_true hc
      subst hlen
      exact fun H locs ls hi hl => W.lcmp hx hb hd (k H locs ls hi hl)
    · cases hs
  case i2l =>
    unfold stp at hs
    dsimp only at hs
    split at hs
    · obtain ⟨h3, h4, h5, h6⟩ := inv_go hs
      subst h3; subst h4; subst h5; subst h6
      have hlen : len = 1 := Nat.eq_of_beq_eq_true hc
      subst hlen
      exact fun H locs ls hi hl => lv_i2l hx hb hd rfl (k H locs ls hi hl)
    · cases hs
  case l2i =>
    unfold stp at hs
    dsimp only at hs
    split at hs
    · obtain ⟨h3, h4, h5, h6⟩ := inv_go hs
      subst h3; subst h4; subst h5; subst h6
      have hlen : len = 1 := Nat.eq_of_beq_eq_true hc
      subst hlen
      exact fun H locs ls hi hl => lv_l2i hx hb hd rfl (k H locs ls hi hl)
    · cases hs
  case i2d =>
    unfold stp at hs
    dsimp only at hs
    split at hs
    · obtain ⟨h3, h4, h5, h6⟩ := inv_go hs
      subst h3; subst h4; subst h5; subst h6
      have hlen : len = 1 := Nat.eq_of_beq_eq_true hc
      subst hlen
      exact fun H locs ls hi hl => lv_i2d hx hb hd (k H locs ls hi hl)
    · cases hs
  case i2f =>
    unfold stp at hs
    dsimp only at hs
    split at hs
    · obtain ⟨h3, h4, h5, h6⟩ := inv_go hs
      subst h3; subst h4; subst h5; subst h6
      have hlen : len = 1 := Nat.eq_of_beq_eq_true hc
      subst hlen
      exact fun H locs ls hi hl => lv_i2f hx hb hd (k H locs ls hi hl)
    · cases hs
  case f2i =>
    unfold stp at hs
    dsimp only at hs
    split at hs
    · obtain ⟨h3, h4, h5, h6⟩ := inv_go hs
      subst h3; subst h4; subst h5; subst h6
      have hlen : len = 1 := Nat.eq_of_beq_eq_true hc
      subst hlen
      exact fun H locs ls hi hl => lv_f2i hx hb hd (k H locs ls hi hl)
    · cases hs
  case d2i =>
    unfold stp at hs
    dsimp only at hs
    split at hs
    · obtain ⟨h3, h4, h5, h6⟩ := inv_go hs
      subst h3; subst h4; subst h5; subst h6
      have hlen : len = 1 := Nat.eq_of_beq_eq_true hc
      subst hlen
      exact fun H locs ls hi hl => lv_d2i hx hb hd (k H locs ls hi hl)
    · cases hs
  case d2l =>
    unfold stp at hs
    dsimp only at hs
    split at hs
    · obtain ⟨h3, h4, h5, h6⟩ := inv_go hs
      subst h3; subst h4; subst h5; subst h6
      have hlen : len = 1 := Nat.eq_of_beq_eq_true hc
      subst hlen
      exact fun H locs ls hi hl => lv_d2l hx hb hd (k H locs ls hi hl)
    · cases hs
  case fneg =>
    unfold stp at hs
    dsimp only at hs
    split at hs
    · obtain ⟨h3, h4, h5, h6⟩ := inv_go hs
      subst h3; subst h4; subst h5; subst h6
      have hlen : len = 1 := Nat.eq_of_beq_eq_true hc
      subst hlen
      exact fun H locs ls hi hl => lv_fneg hx hb hd (k H locs ls hi hl)
    · cases hs
  case f2d =>
    unfold stp at hs
    dsimp only at hs
    split at hs
    · obtain ⟨hg, h3, h4, h5, h6⟩ := inv_gg hs
      subst h3; subst h4; subst h5; subst h6
      have hlen : len = 1 := Nat.eq_of_beq_eq_true hc
      subst hlen
      exact fun H locs ls hi hl => lv_f2d hx hb hd (gN64_s hg) (k H locs ls hi hl)
    · cases hs
  case d2f =>
    unfold stp at hs
    dsimp only at hs
    split at hs
    · obtain ⟨hg, h3, h4, h5, h6⟩ := inv_gg hs
      subst h3; subst h4; subst h5; subst h6
      have hlen : len = 1 := Nat.eq_of_beq_eq_true hc
      subst hlen
      exact fun H locs ls hi hl => lv_d2f hx hb hd (gN32_s hg) (k H locs ls hi hl)
    · cases hs
  case fcmp op =>
    unfold stp at hs
    dsimp only at hs
    split at hs
    · obtain ⟨h3, h4, h5, h6⟩ := inv_go hs
      subst h3; subst h4; subst h5; subst h6
      have hlen : len = 1 := Nat.eq_of_beq_eq_true hc
      subst hlen
      exact fun H locs ls hi hl => lv_fcmp hx hb hd (k H locs ls hi hl)
    · cases hs
  case dcmp op =>
    unfold stp at hs
    dsimp only at hs
    split at hs
    · obtain ⟨h3, h4, h5, h6⟩ := inv_go hs
      subst h3; subst h4; subst h5; subst h6
      have hlen : len = 1 := Nat.eq_of_beq_eq_true hc
      subst hlen
      exact fun H locs ls hi hl => lv_dcmp hx hb hd (k H locs ls hi hl)
    · cases hs
  case dup =>
    unfold stp at hs
    dsimp only at hs
    split at hs
    · obtain ⟨h3, h4, h5, h6⟩ := inv_go hs
      subst h3; subst h4; subst h5; subst h6
      have hlen : len = 1 := Nat.eq_of_beq_eq_true hc
      subst hlen
      exact fun H locs ls hi hl => lv_dup hx hb hd rfl (k H locs ls hi hl)
    · obtain ⟨h3, h4, h5, h6⟩ := inv_go hs
      subst h3; subst h4; subst h5; subst h6
      have hlen : len = 1 := Nat.eq_of_beq_eq_true hc
      subst hlen
      exact fun H locs ls hi hl => lv_dup hx hb hd rfl (k H locs ls hi hl)
    · cases hs
  case dup2 =>
    unfold stp at hs
    dsimp only at hs
    split at hs
    · obtain ⟨h3, h4, h5, h6⟩ := inv_go hs
      subst h3; subst h4; subst h5; subst h6
      have hlen : len = 1 := Nat.eq_of_beq_eq_true hc
      subst hlen
      exact fun H locs ls hi hl => lv_dup2_11 hx hb hd rfl rfl (k H locs ls hi hl)
    · obtain ⟨h3, h4, h5, h6⟩ := inv_go hs
      subst h3; subst h4; subst h5; subst h6
      have hlen : len = 1 := Nat.eq_of_beq_eq_true hc
      subst hlen
      exact fun H locs ls hi hl => lv_dup2_2 hx hb hd rfl (k H locs ls hi hl)
    · cases hs
  case pop =>
    unfold stp at hs
    dsimp only at hs
    split at hs
    · obtain ⟨h3, h4, h5, h6⟩ := inv_go hs
      subst h3; subst h4; subst h5; subst h6
      have hlen : len = 1 := Nat.eq_of_beq_eq_true hc
      subst hlen
      exact fun H locs ls hi hl => lv_pop hx hb hd rfl (k H locs ls hi hl)
    · obtain ⟨h3, h4, h5, h6⟩ := inv_go hs
      subst h3; subst h4; subst h5; subst h6
      have hlen : len = 1 := Nat.eq_of_beq_eq_true hc
      subst hlen
      exact fun H locs ls hi hl => lv_pop hx hb hd rfl (k H locs ls hi hl)
    · cases hs
  case goto off =>
    obtain ⟨h3, h4, h5, h6⟩ := inv_go hs
    subst h3; subst h4; subst h5; subst h6
    unfold chk at hc; dsimp only at hc; rw [Bool.and_eq_true] at hc
    have hlen : len = 3 := Nat.eq_of_beq_eq_true hc.1
    subst hlen
    exact fun H locs ls hi hl => lv_goto hx hb hd (of_decide_eq_true hc.2) (k H locs ls hi hl)
  case getfield z =>
    exact g_get C hI hs k
  case putfield z =>
    exact g_put C hI hs k
  case arraylength =>
    exact g_alen C hI hs k
  case iaload =>
    exact g_iaload C hI hs k
  case caload =>
    exact g_caload C hI hs k
  case laload =>
    exact g_laload C hI hs k
  case aaload =>
    exact g_aaload C hI hs k
  case iastore =>
    exact g_iastore C hI hs k
  case castore =>
    exact g_castore C hI hs k
  case lastore =>
    exact g_lastore C hI hs k
  case aastore =>
    exact g_aastore C hI hs k
  case newarray ty =>
    exact g_newa C hI hs hR hk0 hd0 k
  case anewarray z =>
    exact g_anew C hI hs hR hk0 hd0 k
  case new z =>
    exact g_new C hI hs hR hk0 hd0 k
  case invokevirtual z =>
    exact g_invokevirtual C hI hs hF k
  case invokestatic z =>
    exact g_invokestatic C hI hs hF k
  case invokespecial z =>
    exact g_invokespecial C hI hs hF k
  all_goals first
    | (unfold stp at hs; cases hs; done)
    | (unfold stp at hs; dsimp only at hs; (repeat' split at hs) <;> first | (cases hs; done) | (simp [br] at hs; done))
end Snd2
