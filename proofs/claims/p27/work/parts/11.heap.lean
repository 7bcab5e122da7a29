theorem gw_hyp {i : Nat} {w : Jvm.Cond} (h : gw i w = true) : w ∈ lw_all := gw_in h
section Mems
variable {n0 b : Nat} {cA : Nat → ClassId} {μ : Mem} {a k c : Nat}
theorem mI_setI {x : Int32} {j : Nat} : mI (setI μ a k x) c j = if c = a ∧ j = k then x else mI μ c j := rfl
theorem mR_setI {x : Int32} {j : Nat} : mR (setI μ a k x) c j = mR μ c j := rfl
theorem mL_setI {x : Int32} {j : Nat} : mL (setI μ a k x) c j = mL μ c j := rfl
theorem mI_setR {x j : Nat} : mI (setR μ a k x) c j = mI μ c j := rfl
theorem mR_setR {x j : Nat} : mR (setR μ a k x) c j = if c = a ∧ j = k then some x else mR μ c j := rfl
theorem mL_setR {x j : Nat} : mL (setR μ a k x) c j = mL μ c j := rfl
theorem mI_setL {x : Int64} {j : Nat} : mI (setL μ a k x) c j = mI μ c j := rfl
theorem mR_setL {x : Int64} {j : Nat} : mR (setL μ a k x) c j = mR μ c j := rfl
theorem mL_setL {x : Int64} {j : Nat} : mL (setL μ a k x) c j = if c = a ∧ j = k then x else mL μ c j := rfl
theorem cel_setI_ne {x : Int32} (h : c ≠ a) : cel n0 b cA (setI μ a k x) c = cel n0 b cA μ c := cel_cong (by funext j; rw [mI_setI, if_neg (fun q => h q.1)]) rfl rfl
theorem cel_setR_ne {x : Nat} (h : c ≠ a) : cel n0 b cA (setR μ a k x) c = cel n0 b cA μ c := cel_cong rfl (by funext j; rw [mR_setR, if_neg (fun q => h q.1)]) rfl
theorem cel_setL_ne {x : Int64} (h : c ≠ a) : cel n0 b cA (setL μ a k x) c = cel n0 b cA μ c := cel_cong rfl rfl (by funext j; rw [mL_setL, if_neg (fun q => h q.1)])
theorem row_setI {x : Int32} : mI (setI μ a k x) a = upd (mI μ a) k x := by funext j; rw [mI_setI]; unfold upd; by_cases h : j = k <;> simp [h]
theorem row_setL {x : Int64} : mL (setL μ a k x) a = vp_updL (mL μ a) k x := by funext j; rw [mL_setL]; unfold vp_updL; by_cases h : j = k <;> simp [h]
theorem row_setR {x : Nat} : (fun i => (mR (setR μ a k x) a i).map (adr n0 b)) = va_up (fun i => (mR μ a i).map (adr n0 b)) k (some (adr n0 b x)) := by funext j; rw [mR_setR]; unfold va_up; by_cases h : j = k <;> simp [h]
theorem cel_new (h : c ≠ mN μ) : cel n0 b cA (newM μ) c = cel n0 b cA μ c := by
  refine cel_cong ?_ ?_ ?_
  · funext j; show (if c = mN μ then (0 : Int32) else μ.1 c j) = μ.1 c j; rw [if_neg h]
  · funext j; show (if c = mN μ then none else μ.2.1 c j) = μ.2.1 c j; rw [if_neg h]
  · funext j; show (if c = mN μ then (0 : Int64) else μ.2.2.1 c j) = μ.2.2.1 c j; rw [if_neg h]
theorem new_I {j : Nat} : mI (newM μ) (mN μ) j = 0 := by show (if mN μ = mN μ then (0 : Int32) else _) = 0; rw [if_pos rfl]
theorem new_R {j : Nat} : mR (newM μ) (mN μ) j = none := by show (if mN μ = mN μ then none else _) = none; rw [if_pos rfl]
theorem new_L {j : Nat} : mL (newM μ) (mN μ) j = 0 := by show (if mN μ = mN μ then (0 : Int64) else _) = 0; rw [if_pos rfl]
end Mems
section Snd1
variable {p : Program} {l : Launch} {e : Env} {R : Room} {s : State} {mid : MethodId} {args : Array Value} {below : List Frame} {meth : Method} {c : Code} {D : va_G} {cA : Nat → ClassId} {n0 b k0 d0 : Nat} {xs : Scr} {m : Nat} {Q : State → Prop}
theorem g_put (C : Cx p l s mid args meth c D cA n0 b xs m) {pc len n' : Nat} {aux : List Nat} {L st L' st' : List Value} {μ μ' : Mem} {z : Nat} (hI : I m pc = some (.putfield z, len, aux)) (hs : stp xs (.putfield z) (pc + len) aux L st μ = some (true, .inl (n', L', st', μ'))) (k : Gd p l e R s mid args below meth c D cA n0 b k0 d0 m Q n' L' st' μ') : Gd p l e R s mid args below meth c D cA n0 b k0 d0 m Q pc L st μ := by
  have hd : decode (cM m) pc = .ok (.putfield z, len) := (I_ok hI).1
  have hc : chk m pc len (.putfield z) aux = true := (I_ok hI).2.1
  obtain ⟨hx, hb, -, hown, hts, hK, -, hnm, -⟩ := C
  have hs : sPut aux (pc + len) L st μ = some (true, .inl (n', L', st', μ')) := hs
  unfold chk at hc
  dsimp only at hc
  rw [Bool.and_eq_true] at hc
  obtain ⟨hlen, hc⟩ := hc
  have hlen := Nat.eq_of_beq_eq_true hlen
  subst hlen
  have main : ∀ {ci kk tag wl a : Nat} {r : List Nat} {rs : List Value} {v : Value} {μ1 : Mem}, aux = ci :: kk :: tag :: wl :: r → gO μ a ci = true → st = v :: .ref a :: rs →
      (ci < 4 → kk < (clsOf ci).2.2 → tag = fty ci kk → narrow (clsTy ci kk) (rv n0 b v) = rv n0 b v ∧ fits (clsTy ci kk) (rv n0 b v) = true ∧ ∀ j, fvl n0 b μ1 ci a j = if j = kk then rv n0 b v else fvl n0 b μ ci a j) →
      mN μ1 = mN μ → mX μ1 = mX μ → (∀ c, c ≠ a → cel n0 b cA μ1 c = cel n0 b cA μ c) → Gd p l e R s mid args below meth c D cA n0 b k0 d0 m Q (pc + 3) L rs μ1 → Gd p l e R s mid args below meth c D cA n0 b k0 d0 m Q pc L st μ := by
    intro ci kk tag wl a r rs v μ1 haux hg hst hv hn1 hn2 hcel k1 H locs ls hi hl
    subst haux; subst hst
    dsimp only at hc
    simp only [Bool.and_eq_true] at hc
    obtain ⟨h1, h2, h3, h4, h5⟩ := hc
    have h1 := Nat.le_of_ble_eq_true h1
    have h2 := Nat.le_of_ble_eq_true h2
    have h3 := Nat.eq_of_beq_eq_true h3
    obtain ⟨e1, e2, e3⟩ := hv h1 h2 h3
    obtain ⟨ha, hsh⟩ := gO_spec hg
    have haN : a < NN := Nat.lt_of_lt_of_le ha hi.1
    have hob := shp_obj a haN (by rw [hsh]; exact h1)
    rw [hsh] at hob
    have hw := wld_get' (n0 := n0) (b := b) (cA := cA) ha (cel_O hsh h1)
    have hset : ((List.range (shp a).2).map (fvl n0 b μ ci a)).set kk (rv n0 b v) = (List.range (shp a).2).map (fvl n0 b μ1 ci a) := by
      apply List.ext_getElem?
      intro j
      by_cases hj : j = kk
      · subst hj
        rw [List.getElem?_set_self (by rw [List.length_map, List.length_range, hob]; exact h2), List.getElem?_map, List.getElem?_range (by rw [hob]; exact h2)]
        simp [e3]
      · rw [List.getElem?_set_ne (fun q => hj q.symm), List.getElem?_map, List.getElem?_map]
        by_cases hjl : j < (shp a).2
        · rw [List.getElem?_range hjl, Option.map_some, Option.map_some, e3, if_neg hj]
        · rw [List.getElem?_eq_none (by rw [List.length_range]; omega)]; rfl
    show W p l e R s mid args below meth c H locs _ _ Q (F0 mid pc ls (rv n0 b v :: .ref (adr n0 b a) :: rs.map (rv n0 b)))
    rw [adr_lt haN]
    have fin : ∀ (H1 : Heap) (locs1 : List Loc), va_P D vwCl ((wld n0 b cA μ).set a (n0 + a, .inr (ci, ((List.range (shp a).2).map (fvl n0 b μ ci a)).set kk (rv n0 b v)))) H1 → va_D (AA n0) ((wld n0 b cA μ).set a (n0 + a, .inr (ci, ((List.range (shp a).2).map (fvl n0 b μ ci a)).set kk (rv n0 b v)))) → va_S (AA n0) s.heap H1 locs1 → W p l e R s mid args below meth c H1 locs1 (mN μ + mX μ - k0) (ssum (mN μ) + 6 * mX μ - d0) Q (F0 mid (pc + 3) ls (rs.map (rv n0 b))) := by
      intro H1 locs1 hP _ hS
      rw [hset, wld_set ha hn1 hcel (cel_O hsh h1)] at hP
      have hk := k1 H1 locs1 ls ⟨by rw [hn1]; exact hi.1, hP, hS, by rw [hn1, hn2]; exact hi.2.2.2⟩ hl
      rw [hn1, hn2] at hk
      exact hk
    cases hf : ((clsOf ci).2.1 kk).2.2.2 with
    | false => exact va_put (D := D) (A := AA n0) (ci := ci) (ty := clsTy ci kk) (C := (clsOf ci).1) (T := (clsOf ci).2.1) (N := (clsOf ci).2.2) hx hb hts (cls_ws h1) (clsTy ci) (cls_ty h1) (cls_nm h1) hown hK hi.2.1 wld_D hi.2.2.1 a hw (cls_at h1) kk h2 (in_code hts h4) (fun _ h9 => h9) hf (cls_ty h1 kk h2) e1 e2 (by rw [List.length_map, List.length_range, hob]; exact h2) hd fin
    | true =>
      rw [hf] at h5
      dsimp only at h5
      rw [Bool.and_eq_true, decide_eq_true_eq, decide_eq_true_eq] at h5
      exact va_putF (D := D) (A := AA n0) (ci := ci) (ty := clsTy ci kk) (C := (clsOf ci).1) (T := (clsOf ci).2.1) (N := (clsOf ci).2.2) hx hb hts (cls_ws h1) (clsTy ci) (cls_ty h1) (cls_nm h1) hown hK hi.2.1 wld_D hi.2.2.1 a hw (cls_at h1) kk h2 (in_code hts h4) (fun _ h9 => h9) hf (by rw [hnm]; exact h5.1) h5.2 (cls_ty h1 kk h2) e1 e2 (by rw [List.length_map, List.length_range, hob]; exact h2) hd fin
  unfold sPut at hs
  split at hs
  · obtain ⟨hg, h1, h2, h3, h4⟩ := inv_gg hs
    subst h1; subst h2; subst h3; subst h4
    rename_i ci kk r x a rs
    cases r with
    | nil => dsimp only at hc; exact absurd hc (by simp)
    | cons wl r =>
      refine main (μ1 := setI μ a kk x) rfl hg rfl (fun q1 q2 q3 => ?_) rfl rfl (fun c hc => cel_setI_ne hc) k
      have ht := cls_f0 ci q1 kk q2 q3.symm
      rw [ht]
      refine ⟨rfl, rfl, fun j => ?_⟩
      unfold fvl
      by_cases hj : j = kk
      · subst hj; rw [if_pos rfl, ← q3]; show Value.int (mI (setI μ a j x) a j) = _; rw [mI_setI, if_pos ⟨rfl, rfl⟩]; rfl
      · rw [if_neg hj, mI_setI, if_neg (fun q => hj q.2)]; rfl
  · obtain ⟨hg, h1, h2, h3, h4⟩ := inv_gg hs
    subst h1; subst h2; subst h3; subst h4
    rename_i ci kk r x a rs
    cases r with
    | nil => dsimp only at hc; exact absurd hc (by simp)
    | cons wl r =>
      refine main (μ1 := setR μ a kk x) rfl hg rfl (fun q1 q2 q3 => ?_) rfl rfl (fun c hc => cel_setR_ne hc) k
      have ht := ref_fit (cls_f1 ci q1 kk q2 q3.symm) (adr n0 b x)
      refine ⟨ht.1, ht.2, fun j => ?_⟩
      unfold fvl
      by_cases hj : j = kk
      · subst hj; rw [if_pos rfl, ← q3]; show va_rf ((mR (setR μ a j x) a j).map (adr n0 b)) = _; rw [mR_setR, if_pos ⟨rfl, rfl⟩]; rfl
      · rw [if_neg hj, mR_setR, if_neg (fun q => hj q.2)]; rfl
  · obtain ⟨hg, h1, h2, h3, h4⟩ := inv_gg hs
    subst h1; subst h2; subst h3; subst h4
    rename_i ci kk r x a rs
    cases r with
    | nil => dsimp only at hc; exact absurd hc (by simp)
    | cons wl r =>
      refine main (μ1 := setL μ a kk x) rfl hg rfl (fun q1 q2 q3 => ?_) rfl rfl (fun c hc => cel_setL_ne hc) k
      have ht := cls_f2 ci q1 kk q2 q3.symm
      rw [ht]
      refine ⟨rfl, rfl, fun j => ?_⟩
      unfold fvl
      by_cases hj : j = kk
      · subst hj; rw [if_pos rfl, ← q3]; show Value.long (mL (setL μ a j x) a j) = _; rw [mL_setL, if_pos ⟨rfl, rfl⟩]; rfl
      · rw [if_neg hj, mL_setL, if_neg (fun q => hj q.2)]; rfl
  · cases hs
/-- an array's class among the tables' -/
theorem ty_at {kd : Nat} (h1 : 5 ≤ kd) (h2 : kd ≤ 8) : (tysOf cA)[kd - 5]? = some (cA kd, kty kd) := by
  match kd, h1, h2 with
  | 5, _, _ => rfl
  | 6, _, _ => rfl
  | 7, _, _ => rfl
  | 8, _, _ => rfl
theorem g_alen (C : Cx p l s mid args meth c D cA n0 b xs m) {pc len n' : Nat} {aux : List Nat} {L st L' st' : List Value} {μ μ' : Mem} (hI : I m pc = some (.arraylength, len, aux)) (hs : stp xs (.arraylength) (pc + len) aux L st μ = some (true, .inl (n', L', st', μ'))) (k : Gd p l e R s mid args below meth c D cA n0 b k0 d0 m Q n' L' st' μ') : Gd p l e R s mid args below meth c D cA n0 b k0 d0 m Q pc L st μ := by
  have hd : decode (cM m) pc = .ok (.arraylength, len) := (I_ok hI).1
  have hc : chk m pc len .arraylength aux = true := (I_ok hI).2.1
  obtain ⟨hx, hb, -, hown, hts, hK, hn0, -, -, -, -, hscr, -⟩ := C
  unfold chk at hc
  dsimp only at hc
  rw [Bool.and_eq_true] at hc
  obtain ⟨hlen, hc⟩ := hc
  have hlen := Nat.eq_of_beq_eq_true hlen
  subst hlen
  unfold stp at hs
  dsimp only at hs
  split at hs
  · obtain ⟨hg, h1, h2, h3, h4⟩ := inv_gg hs
    subst h1; subst h2; subst h3; subst h4
    rename_i r a rs
    have ha := Nat.eq_of_beq_eq_true hg
    obtain ⟨hX, hbn, -⟩ := hscr (Nat.eq_of_beq_eq_true hc)
    intro H locs ls hi hl
    show W p l e R s mid args below meth c H locs _ _ Q (F0 mid pc ls (.ref (adr n0 b a) :: rs.map (rv n0 b)))
    rw [adr_scr ha]
    exact va_slen hx hb hX (Nat.lt_of_lt_of_le hbn hn0) (show ¬ n0 ≤ b by omega) hi.2.2.1 hd (k H locs ls hi hl)
  · obtain ⟨hg, h1, h2, h3, h4⟩ := inv_gg hs
    subst h1; subst h2; subst h3; subst h4
    rename_i a rs
    simp only [Bool.and_eq_true] at hg
    have ha := Nat.le_of_ble_eq_true hg.1
    have g1 := Nat.le_of_ble_eq_true hg.2.1
    have g2 := Nat.le_of_ble_eq_true hg.2.2
    intro H locs ls hi hl
    show W p l e R s mid args below meth c H locs _ _ Q (F0 mid pc ls (.ref (adr n0 b a) :: rs.map (rv n0 b)))
    rw [adr_lt (Nat.lt_of_lt_of_le ha hi.1)]
    obtain ⟨x, hxv, hx1⟩ : ∃ x : vp_A, cel n0 b cA μ' a = .inl (cA (shp a).1, x) ∧ x.1 = (shp a).2 := by
      obtain ⟨kd, hk⟩ : ∃ kd, kd = (shp a).1 := ⟨_, rfl⟩
      rw [← hk] at g1 g2
      match kd, g1, g2, hk with
      | 5, _, _, hk => exact ⟨_, by rw [cel_5 hk.symm, ← hk], rfl⟩
      | 6, _, _, hk => exact ⟨_, by rw [cel_6 hk.symm, ← hk], rfl⟩
      | 7, _, _, hk => exact ⟨_, by rw [cel_7 hk.symm, ← hk], rfl⟩
      | 8, _, _, hk => exact ⟨_, by rw [cel_8 hk.symm, ← hk], rfl⟩
      | 9, _, _, hk => exact ⟨_, by rw [cel_9 hk.symm, ← hk], rfl⟩
    exact va_alen (D := D) hx hb hK hi.2.1 a ((shp a).1 - 5) (wld_get' ha hxv) (ty_at g1 (shp_lt (Nat.lt_of_lt_of_le ha hi.1))) (by rw [hx1]) hd (k H locs ls hi hl)
  · cases hs
theorem g_iaload (C : Cx p l s mid args meth c D cA n0 b xs m) {pc len n' : Nat} {aux : List Nat} {L st L' st' : List Value} {μ μ' : Mem} (hI : I m pc = some (.iaload, len, aux)) (hs : stp xs (.iaload) (pc + len) aux L st μ = some (true, .inl (n', L', st', μ'))) (k : Gd p l e R s mid args below meth c D cA n0 b k0 d0 m Q n' L' st' μ') : Gd p l e R s mid args below meth c D cA n0 b k0 d0 m Q pc L st μ := by
  have hd : decode (cM m) pc = .ok (.iaload, len) := (I_ok hI).1
  have hc : chk m pc len .iaload aux = true := (I_ok hI).2.1
  obtain ⟨hx, hb, -, hown, hts, hK, hn0, -, -, -, -, hscr, -⟩ := C
  unfold chk at hc
  dsimp only at hc
  rw [Bool.and_eq_true] at hc
  obtain ⟨hlen, hc⟩ := hc
  have hlen := Nat.eq_of_beq_eq_true hlen
  subst hlen
  unfold stp at hs
  dsimp only at hs
  split at hs
  · obtain ⟨hg, h1, h2, h3, h4⟩ := inv_gg hs
    subst h1; subst h2; subst h3; subst h4
    rename_i r i a rs
    rw [Bool.and_eq_true, decide_eq_true_eq] at hg
    have ha := Nat.eq_of_beq_eq_true hg.1
    obtain ⟨hX, hbn, -⟩ := hscr (Nat.eq_of_beq_eq_true hc)
    intro H locs ls hi hl
    show W p l e R s mid args below meth c H locs _ _ Q (F0 mid pc ls (.int i :: .ref (adr n0 b a) :: rs.map (rv n0 b)))
    rw [adr_scr ha]
    exact va_sld hx hb hX (Nat.lt_of_lt_of_le hbn hn0) (show ¬ n0 ≤ b by omega) hi.2.2.1 (vpin_of hg.2.1 hg.2.2) hd (k H locs ls hi hl)
  · obtain ⟨hg, h1, h2, h3, h4⟩ := inv_gg hs
    subst h1; subst h2; subst h3; subst h4
    rename_i i a rs
    obtain ⟨ha, hsh, hin⟩ := gA_spec hg
    intro H locs ls hi hl
    show W p l e R s mid args below meth c H locs _ _ Q (F0 mid pc ls (.int i :: .ref (adr n0 b a) :: rs.map (rv n0 b)))
    rw [adr_lt (Nat.lt_of_lt_of_le ha hi.1)]
    exact va_iald (D := D) hx hb hK hi.2.1 a 1 (wld_get' ha (cel_6 hsh)) rfl hin hd (k H locs ls hi hl)
  · cases hs
theorem g_caload (C : Cx p l s mid args meth c D cA n0 b xs m) {pc len n' : Nat} {aux : List Nat} {L st L' st' : List Value} {μ μ' : Mem} (hI : I m pc = some (.caload, len, aux)) (hs : stp xs (.caload) (pc + len) aux L st μ = some (true, .inl (n', L', st', μ'))) (k : Gd p l e R s mid args below meth c D cA n0 b k0 d0 m Q n' L' st' μ') : Gd p l e R s mid args below meth c D cA n0 b k0 d0 m Q pc L st μ := by
  have hd : decode (cM m) pc = .ok (.caload, len) := (I_ok hI).1
  have hc : chk m pc len .caload aux = true := (I_ok hI).2.1
  obtain ⟨hx, hb, -, hown, hts, hK, hn0, -⟩ := C
  have hlen : len = 1 := Nat.eq_of_beq_eq_true hc
  subst hlen
  unfold stp at hs
  dsimp only at hs
  split at hs
  · obtain ⟨hg, h1, h2, h3, h4⟩ := inv_gg hs
    subst h1; subst h2; subst h3; subst h4
    rename_i i a rs
    obtain ⟨ha, hsh, hin⟩ := gA_spec hg
    intro H locs ls hi hl
    show W p l e R s mid args below meth c H locs _ _ Q (F0 mid pc ls (.int i :: .ref (adr n0 b a) :: rs.map (rv n0 b)))
    rw [adr_lt (Nat.lt_of_lt_of_le ha hi.1)]
    exact va_cald (D := D) hx hb hK hi.2.1 a 0 (wld_get' ha (cel_5 hsh)) rfl hin hd (k H locs ls hi hl)
  · cases hs
theorem g_laload (C : Cx p l s mid args meth c D cA n0 b xs m) {pc len n' : Nat} {aux : List Nat} {L st L' st' : List Value} {μ μ' : Mem} (hI : I m pc = some (.laload, len, aux)) (hs : stp xs (.laload) (pc + len) aux L st μ = some (true, .inl (n', L', st', μ'))) (k : Gd p l e R s mid args below meth c D cA n0 b k0 d0 m Q n' L' st' μ') : Gd p l e R s mid args below meth c D cA n0 b k0 d0 m Q pc L st μ := by
  have hd : decode (cM m) pc = .ok (.laload, len) := (I_ok hI).1
  have hc : chk m pc len .laload aux = true := (I_ok hI).2.1
  obtain ⟨hx, hb, -, hown, hts, hK, hn0, -⟩ := C
  have hlen : len = 1 := Nat.eq_of_beq_eq_true hc
  subst hlen
  unfold stp at hs
  dsimp only at hs
  split at hs
  · obtain ⟨hg, h1, h2, h3, h4⟩ := inv_gg hs
    subst h1; subst h2; subst h3; subst h4
    rename_i i a rs
    obtain ⟨ha, hsh, hin⟩ := gA_spec hg
    intro H locs ls hi hl
    show W p l e R s mid args below meth c H locs _ _ Q (F0 mid pc ls (.int i :: .ref (adr n0 b a) :: rs.map (rv n0 b)))
    rw [adr_lt (Nat.lt_of_lt_of_le ha hi.1)]
    exact absurd (shp_lt (Nat.lt_of_lt_of_le ha hi.1)) (by rw [hsh]; decide)
  · cases hs
theorem g_iastore (C : Cx p l s mid args meth c D cA n0 b xs m) {pc len n' : Nat} {aux : List Nat} {L st L' st' : List Value} {μ μ' : Mem} (hI : I m pc = some (.iastore, len, aux)) (hs : stp xs (.iastore) (pc + len) aux L st μ = some (true, .inl (n', L', st', μ'))) (k : Gd p l e R s mid args below meth c D cA n0 b k0 d0 m Q n' L' st' μ') : Gd p l e R s mid args below meth c D cA n0 b k0 d0 m Q pc L st μ := by
  have hd : decode (cM m) pc = .ok (.iastore, len) := (I_ok hI).1
  have hc : chk m pc len .iastore aux = true := (I_ok hI).2.1
  obtain ⟨hx, hb, -, hown, hts, hK, hn0, -⟩ := C
  have hlen : len = 1 := Nat.eq_of_beq_eq_true hc
  subst hlen
  unfold stp at hs
  dsimp only at hs
  split at hs
  · obtain ⟨hg, h1, h2, h3, h4⟩ := inv_gg hs
    subst h1; subst h2; subst h3; subst h4
    rename_i x i a
    obtain ⟨ha, hsh, hin⟩ := gA_spec hg
    intro H locs ls hi hl
    show W p l e R s mid args below meth c H locs _ _ Q (F0 mid pc ls (.int x :: .int i :: .ref (adr n0 b a) :: st'.map (rv n0 b)))
    rw [adr_lt (Nat.lt_of_lt_of_le ha hi.1)]
    refine va_iast (D := D) (A := AA n0) hx hb hK hi.2.1 wld_D hi.2.2.1 a 1 (wld_get' ha (cel_6 hsh)) rfl hin hd (fun H1 locs1 hP _ hS => ?_)
    rw [wld_set (μ' := setI μ a (idx i) x) ha rfl (fun c hc => cel_setI_ne hc) (by rw [cel_6 hsh, row_setI]; rfl)] at hP
    exact k H1 locs1 ls ⟨hi.1, hP, hS, hi.2.2.2⟩ hl
  · cases hs
theorem g_castore (C : Cx p l s mid args meth c D cA n0 b xs m) {pc len n' : Nat} {aux : List Nat} {L st L' st' : List Value} {μ μ' : Mem} (hI : I m pc = some (.castore, len, aux)) (hs : stp xs (.castore) (pc + len) aux L st μ = some (true, .inl (n', L', st', μ'))) (k : Gd p l e R s mid args below meth c D cA n0 b k0 d0 m Q n' L' st' μ') : Gd p l e R s mid args below meth c D cA n0 b k0 d0 m Q pc L st μ := by
  have hd : decode (cM m) pc = .ok (.castore, len) := (I_ok hI).1
  have hc : chk m pc len .castore aux = true := (I_ok hI).2.1
  obtain ⟨hx, hb, -, hown, hts, hK, hn0, -⟩ := C
  have hlen : len = 1 := Nat.eq_of_beq_eq_true hc
  subst hlen
  unfold stp at hs
  dsimp only at hs
  split at hs
  · obtain ⟨hg, h1, h2, h3, h4⟩ := inv_gg hs
    subst h1; subst h2; subst h3; subst h4
    rename_i x i a
    obtain ⟨ha, hsh, hin⟩ := gA_spec hg
    intro H locs ls hi hl
    show W p l e R s mid args below meth c H locs _ _ Q (F0 mid pc ls (.int x :: .int i :: .ref (adr n0 b a) :: st'.map (rv n0 b)))
    rw [adr_lt (Nat.lt_of_lt_of_le ha hi.1)]
    refine va_cast (D := D) (A := AA n0) hx hb hK hi.2.1 wld_D hi.2.2.1 a 0 (wld_get' ha (cel_5 hsh)) rfl hin hd (fun H1 locs1 hP _ hS => ?_)
    rw [wld_set (μ' := setI μ a (idx i) (vp_nar .char x)) ha rfl (fun c hc => cel_setI_ne hc) (by rw [cel_5 hsh, row_setI]; rfl)] at hP
    exact k H1 locs1 ls ⟨hi.1, hP, hS, hi.2.2.2⟩ hl
  · cases hs
theorem g_lastore (C : Cx p l s mid args meth c D cA n0 b xs m) {pc len n' : Nat} {aux : List Nat} {L st L' st' : List Value} {μ μ' : Mem} (hI : I m pc = some (.lastore, len, aux)) (hs : stp xs (.lastore) (pc + len) aux L st μ = some (true, .inl (n', L', st', μ'))) (k : Gd p l e R s mid args below meth c D cA n0 b k0 d0 m Q n' L' st' μ') : Gd p l e R s mid args below meth c D cA n0 b k0 d0 m Q pc L st μ := by
  have hd : decode (cM m) pc = .ok (.lastore, len) := (I_ok hI).1
  have hc : chk m pc len .lastore aux = true := (I_ok hI).2.1
  obtain ⟨hx, hb, -, hown, hts, hK, hn0, -⟩ := C
  have hlen : len = 1 := Nat.eq_of_beq_eq_true hc
  subst hlen
  unfold stp at hs
  dsimp only at hs
  split at hs
  · obtain ⟨hg, h1, h2, h3, h4⟩ := inv_gg hs
    subst h1; subst h2; subst h3; subst h4
    rename_i x i a
    obtain ⟨ha, hsh, hin⟩ := gA_spec hg
    intro H locs ls hi hl
    show W p l e R s mid args below meth c H locs _ _ Q (F0 mid pc ls (.long x :: .int i :: .ref (adr n0 b a) :: st'.map (rv n0 b)))
    rw [adr_lt (Nat.lt_of_lt_of_le ha hi.1)]
    exact absurd (shp_lt (Nat.lt_of_lt_of_le ha hi.1)) (by rw [hsh]; decide)
  · cases hs
theorem g_aaload (C : Cx p l s mid args meth c D cA n0 b xs m) {pc len n' : Nat} {aux : List Nat} {L st L' st' : List Value} {μ μ' : Mem} (hI : I m pc = some (.aaload, len, aux)) (hs : stp xs (.aaload) (pc + len) aux L st μ = some (true, .inl (n', L', st', μ'))) (k : Gd p l e R s mid args below meth c D cA n0 b k0 d0 m Q n' L' st' μ') : Gd p l e R s mid args below meth c D cA n0 b k0 d0 m Q pc L st μ := by
  have hd : decode (cM m) pc = .ok (.aaload, len) := (I_ok hI).1
  have hc : chk m pc len .aaload aux = true := (I_ok hI).2.1
  obtain ⟨hx, hb, -, hown, hts, hK, hn0, -⟩ := C
  have hlen : len = 1 := Nat.eq_of_beq_eq_true hc
  subst hlen
  unfold stp at hs
  dsimp only at hs
  split at hs
  · obtain ⟨hg, h1, h2, h3, h4⟩ := inv_gg hs
    subst h1; subst h2; subst h3; subst h4
    rename_i i a rs
    rw [Bool.and_eq_true, Bool.or_eq_true] at hg
    have hr := hg.2
    unfold gR at hr
    obtain ⟨z, hz⟩ := Option.isSome_iff_exists.mp hr
    have hv : ∀ {f : Nat → Option Nat}, f = (fun i => (mR μ' a i).map (adr n0 b)) → va_rf (f i.toNatClampNeg) = rv n0 b (vR (mR μ' a (idx i))) := by
      intro f hf
      rw [hf]
      show va_rf ((mR μ' a (idx i)).map (adr n0 b)) = _
      rw [hz]
      rfl
    intro H locs ls hi hl
    have hk := k H locs ls hi hl
    have hk : W p l e R s mid args below meth c H locs (mN μ' + mX μ' - k0) (ssum (mN μ') + 6 * mX μ' - d0) Q (F0 mid (pc + 1) ls (rv n0 b (vR (mR μ' a (idx i))) :: rs.map (rv n0 b))) := hk
    rw [← hv rfl] at hk
    show W p l e R s mid args below meth c H locs _ _ Q (F0 mid pc ls (.int i :: .ref (adr n0 b a) :: rs.map (rv n0 b)))
    rcases hg.1 with hg | hg
    · obtain ⟨ha, hsh, hin⟩ := gA_spec hg
      rw [adr_lt (Nat.lt_of_lt_of_le ha hi.1)]
      exact va_aldq (D := D) hx hb hK hi.2.1 a 2 (wld_get' ha (cel_7 hsh)) rfl hin hd hk
    · obtain ⟨ha, hsh, hin⟩ := gA_spec hg
      rw [adr_lt (Nat.lt_of_lt_of_le ha hi.1)]
      exact va_aldq (D := D) hx hb hK hi.2.1 a 3 (wld_get' ha (cel_8 hsh)) rfl hin hd hk
  · cases hs
theorem g_aastore (C : Cx p l s mid args meth c D cA n0 b xs m) {pc len n' : Nat} {aux : List Nat} {L st L' st' : List Value} {μ μ' : Mem} (hI : I m pc = some (.aastore, len, aux)) (hs : stp xs (.aastore) (pc + len) aux L st μ = some (true, .inl (n', L', st', μ'))) (k : Gd p l e R s mid args below meth c D cA n0 b k0 d0 m Q n' L' st' μ') : Gd p l e R s mid args below meth c D cA n0 b k0 d0 m Q pc L st μ := by
  have hd : decode (cM m) pc = .ok (.aastore, len) := (I_ok hI).1
  have hc : chk m pc len .aastore aux = true := (I_ok hI).2.1
  obtain ⟨hx, hb, -, hown, hts, hK, hn0, -⟩ := C
  have hlen : len = 1 := Nat.eq_of_beq_eq_true hc
  subst hlen
  unfold stp at hs
  dsimp only at hs
  split at hs
  · obtain ⟨hg, h1, h2, h3, h4⟩ := inv_gg hs
    subst h1; subst h2; subst h3; subst h4
    rename_i x i a
    rw [Bool.or_eq_true, Bool.and_eq_true, Bool.and_eq_true] at hg
    intro H locs ls hi hl
    show W p l e R s mid args below meth c H locs _ _ Q (F0 mid pc ls (.ref (adr n0 b x) :: .int i :: .ref (adr n0 b a) :: st'.map (rv n0 b)))
    rcases hg with ⟨hg, hv⟩ | ⟨hg, hv⟩
    · obtain ⟨ha, hsh, hin⟩ := gA_spec hg
      obtain ⟨hxa, hxs⟩ := gO_spec hv
      rw [adr_lt (Nat.lt_of_lt_of_le ha hi.1), adr_lt (Nat.lt_of_lt_of_le hxa hi.1)]
      refine va_astq (D := D) (A := AA n0) (r := (RX1, TX1, 14)) hx hb hK hi.2.1 wld_D hi.2.2.1 a 2 x 0 (wld_get' ha (cel_7 hsh)) rfl (wld_get' hxa (cel_O hxs (by omega))) rfl hin hd (fun H1 locs1 hP _ hS => ?_)
      rw [wld_set (μ' := setR μ a (idx i) x) ha rfl (fun c hc => cel_setR_ne hc) (by rw [cel_7 hsh, row_setR, adr_lt (Nat.lt_of_lt_of_le hxa hi.1)]; rfl)] at hP
      exact k H1 locs1 ls ⟨hi.1, hP, hS, hi.2.2.2⟩ hl
    · obtain ⟨ha, hsh, hin⟩ := gA_spec hg
      obtain ⟨hxa, hxs⟩ := gO_spec hv
      rw [adr_lt (Nat.lt_of_lt_of_le ha hi.1), adr_lt (Nat.lt_of_lt_of_le hxa hi.1)]
      refine va_astq (D := D) (A := AA n0) (r := (RX2, TX2, 14)) hx hb hK hi.2.1 wld_D hi.2.2.1 a 3 x 1 (wld_get' ha (cel_8 hsh)) rfl (wld_get' hxa (cel_O hxs (by omega))) rfl hin hd (fun H1 locs1 hP _ hS => ?_)
      rw [wld_set (μ' := setR μ a (idx i) x) ha rfl (fun c hc => cel_setR_ne hc) (by rw [cel_8 hsh, row_setR, adr_lt (Nat.lt_of_lt_of_le hxa hi.1)]; rfl)] at hP
      exact k H1 locs1 ls ⟨hi.1, hP, hS, hi.2.2.2⟩ hl
  · cases hs
end Snd1
/-- where a new thing lies -/
theorem new_at {D : va_G} {cA : Nat → ClassId} {n0 b k0 q cells slots : Nat} {s T : State} {μ : Mem} {H H1 : Heap} {locs locs1 : List Loc} {x : va_E} {p : Program} {l : Launch} {e : Env} {R : Room} {mid : MethodId} {args : Array Value} {below : List Frame} {meth : Method} {c : Code}
    (hi : Iv s D cA n0 b k0 μ H locs) (hN : mX μ = 0) (hP : va_P D vwCl (wld n0 b cA μ ++ [(q, x)]) H1) (hD : va_D (AA n0) (wld n0 b cA μ ++ [(q, x)])) (hT : T.heap = H1) (X : Stand p l e R s mid args below meth c T locs1 cells slots) (hc : cells = mN μ + mX μ - k0 + 1) : q = n0 + mN μ := by
  obtain ⟨h2, h3⟩ := hi.2.2.2 hN
  have h1 := hN
  have hlast : (wld n0 b cA μ ++ [(q, x)])[mN μ]? = some (q, x) := by
    rw [List.getElem?_append_right (by rw [wld_len]; exact Nat.le_refl _), wld_len, Nat.sub_self]
    rfl
  have hlt : q < H1.size := (hP _ _ hlast).lt
  have hge : n0 ≤ q := hD.2 _ _ hlast
  have hsz : T.heap.size ≤ s.heap.size + cells := X.same.2.2.1
  rw [hT] at hsz
  by_cases hq : q - n0 < mN μ
  · have h4 : (wld n0 b cA μ ++ [(q, x)])[q - n0]? = some (n0 + (q - n0), cel n0 b cA μ (q - n0)) := by
      rw [List.getElem?_append_left (by rw [wld_len]; exact hq)]
      exact wld_get hq
    have := hD.1 _ _ _ _ h4 hlast (show n0 + (q - n0) = q by omega)
    omega
  · omega
theorem cls_init {ci : Nat} (h : ci < 4) : (Cond.initialized (clsOf ci).1) ∈ lw_all := by
  have key : ∀ ci, ci < 4 → hasW (.initialized (clsOf ci).1) = true := by decide +kernel
  have := key ci h
  unfold hasW at this
  rw [Bool.and_eq_true, decide_eq_true_eq] at this
  exact List.mem_filter.mpr this
def dfl (t : Nat) : Value := match t with | 0 => .int 0 | 1 => .null | _ => .long 0
theorem cls_df : ∀ ci, ci < 4 → ∀ k, k < (clsOf ci).2.2 → defaultValue (clsTy ci k) = dfl (fty ci k) := by decide +kernel
theorem fvl_new {n0 b ci j : Nat} {μ : Mem} : fvl n0 b (newM μ) ci (mN μ) j = dfl (fty ci j) := by
  unfold fvl dfl
  rw [new_I, new_R, new_L]
  rfl
section Snd3
variable {p : Program} {l : Launch} {e : Env} {R : Room} {s : State} {mid : MethodId} {args : Array Value} {below : List Frame} {meth : Method} {c : Code} {D : va_G} {cA : Nat → ClassId} {n0 b k0 d0 : Nat} {xs : Scr} {m : Nat} {Q : State → Prop}
/-- behind the making of a thing -/
theorem new_go {n : Nat} {L st : List Value} {μ : Mem} {x : va_E} {H H1 : Heap} {locs : List Loc} {ls : Array Slot} {q slots : Nat} (hi : Iv s D cA n0 b k0 μ H locs) (hl : lvx n0 b ls (xM m) L) (hN : mN μ < NN) (hX : mX μ = 0) (hP : va_P D vwCl (wld n0 b cA μ ++ [(q, x)]) H1) (hD : va_D (AA n0) (wld n0 b cA μ ++ [(q, x)])) (hS : va_S (AA n0) s.heap H1 locs) (hx : cel n0 b cA (newM μ) (mN μ) = x) (hs : slots = ssum (mN μ) + 6 * mX μ - d0 + (shp (mN μ)).2) (hR : Rm R k0 d0 (newM μ)) (hk0 : k0 ≤ mN μ + mX μ) (hd0 : d0 ≤ ssum (mN μ) + 6 * mX μ) (k : Gd p l e R s mid args below meth c D cA n0 b k0 d0 m Q n L (.ref (mN μ) :: st) (newM μ)) :
    W p l e R s mid args below meth c H1 locs (mN μ + mX μ - k0 + 1) slots Q (F0 mid n ls (.ref q :: st.map (rv n0 b))) := by
  intro T hT X
  have hq := new_at hi hX hP hD hT X rfl
  subst hq
  rw [wld_push (μ' := newM μ) rfl (fun c hc => cel_new (by omega)) hx] at hP
  have h1 := k H1 locs ls ⟨hN, hP, hS, fun _ => ?_⟩ hl
  · have e1 : mN (newM μ) + mX (newM μ) - k0 = mN μ + mX μ - k0 + 1 := by rw [mN_newM, mX_newM]; omega
    have e2 : ssum (mN (newM μ)) + 6 * mX (newM μ) - d0 = slots := by rw [mN_newM, mX_newM, hs]; show ssum (mN μ) + (shp (mN μ)).2 + _ - _ = _; omega
    rw [e1, e2] at h1
    have h1 : W p l e R s mid args below meth c H1 locs (mN μ + mX μ - k0 + 1) slots Q (F0 mid n ls (.ref (adr n0 b (mN μ)) :: st.map (rv n0 b))) := h1
    rw [adr_lt hN] at h1
    exact h1 T hT X
  · obtain ⟨h2, h3⟩ := hi.2.2.2 hX
    exact ⟨h2, by rw [mN_newM]; omega⟩
theorem rm_new {μ : Mem} (hR : Rm R k0 d0 (newM μ)) (hk0 : k0 ≤ mN μ + mX μ) (hd0 : d0 ≤ ssum (mN μ) + 6 * mX μ) : mN μ + mX μ - k0 + 1 ≤ R.cells ∧ ssum (mN μ) + 6 * mX μ - d0 + (shp (mN μ)).2 ≤ R.slots := by
  obtain ⟨h1, h2, -, -⟩ := hR
  rw [mN_newM, mX_newM] at h1 h2
  have h2 : ssum (mN μ) + (shp (mN μ)).2 + 6 * mX μ - d0 ≤ R.slots := h2
  exact ⟨by omega, by omega⟩
theorem g_new (C : Cx p l s mid args meth c D cA n0 b xs m) {pc len n' : Nat} {aux : List Nat} {L st L' st' : List Value} {μ μ' : Mem} {z : Nat} (hI : I m pc = some (.new z, len, aux)) (hs : stp xs (.new z) (pc + len) aux L st μ = some (true, .inl (n', L', st', μ'))) (hR : Rm R k0 d0 μ') (hk0 : k0 ≤ mN μ + mX μ) (hd0 : d0 ≤ ssum (mN μ) + 6 * mX μ) (k : Gd p l e R s mid args below meth c D cA n0 b k0 d0 m Q n' L' st' μ') : Gd p l e R s mid args below meth c D cA n0 b k0 d0 m Q pc L st μ := by
  have hd : decode (cM m) pc = .ok (.new z, len) := (I_ok hI).1
  have hc : chk m pc len (.new z) aux = true := (I_ok hI).2.1
  obtain ⟨hx, hb, -, hown, hts, hK, hn0, -⟩ := C
  unfold chk at hc
  dsimp only at hc
  rw [Bool.and_eq_true] at hc
  obtain ⟨hlen, hc⟩ := hc
  have hlen := Nat.eq_of_beq_eq_true hlen
  subst hlen
  unfold stp at hs
  dsimp only at hs
  split at hs
  · have hs := (inv_bif hs).2
    simp only [Option.some.injEq, Prod.mk.injEq, reduceCtorEq, and_false] at hs
  · rename_i ci r hne
    obtain ⟨hg, h1, h2, h3, h4⟩ := inv_gg hs
    subst h1; subst h2; subst h3; subst h4
    simp only [Bool.and_eq_true] at hg
    have hN := Nat.le_of_ble_eq_true hg.1
    have hX := Nat.eq_of_beq_eq_true hg.2.1
    have hsh := Nat.eq_of_beq_eq_true hg.2.2
    have hci : ∃ wl wi r', r = wl :: wi :: r' ∧ ci < 4 ∧ gw wl (.classLink (ownM m) z (clsOf ci).1) = true ∧ gw wi (.instantiable (clsOf ci).1 (clsOf ci).2.2) = true := by
      split at hc
      · rename_i heq
        cases heq
        exact (hne _ _ rfl rfl).elim
      · rename_i ci' wl wi r' _ heq
        cases heq
        simp only [Bool.and_eq_true] at hc
        exact ⟨wl, wi, r', rfl, Nat.le_of_ble_eq_true hc.1, hc.2.1, hc.2.2⟩
      · cases hc
    obtain ⟨wl, wi, r', -, h1, h2, h3⟩ := hci
    have hob := shp_obj (mN μ) hN (by rw [hsh]; exact h1)
    rw [hsh] at hob
    have hrm := rm_new hR hk0 hd0
    intro H locs ls hi hl
    refine va_new (D := D) (A := AA n0) (ci := ci) (fs := (List.range (shp (mN μ)).2).map (fvl n0 b (newM μ) ci (mN μ))) (C := (clsOf ci).1) (T := (clsOf ci).2.1) (N := (clsOf ci).2.2) hx hb hts (cls_ws h1) (clsTy ci) (cls_ty h1) hown (in_code hts h2) (in_code hts h3) (hts _ (cls_init h1)) hK hi.2.1 wld_D hi.2.2.1 (fun q hq => Nat.le_trans hn0 hq) (cls_at h1) (fun j hj => ?_) hrm.1 (by rw [← hob]; exact hrm.2) hd (fun q H1 hP hD hS => ?_)
    · unfold vp_V
      rw [List.getD_eq_getElem?_getD, List.getElem?_map, List.getElem?_range (by rw [hob]; exact hj), cls_df ci h1 j hj]
      exact fvl_new.symm
    · exact new_go hi hl hN hX hP hD hS (cel_O hsh h1) (by rw [hob]) hR hk0 hd0 k
  · cases hs
theorem ofNat_neg {n : Nat} (h : n ≤ 1944) : ¬ Int32.ofNat n < 0 ∧ (Int32.ofNat n).toNatClampNeg = n := by
  have h1 : (Int32.ofNat n).toInt = (n : Int) := Int32.toInt_ofNat_of_lt (by omega)
  refine ⟨?_, ?_⟩
  · rw [Int32.lt_iff_toInt_lt, h1, Int32.toInt_zero]; omega
  · show (Int32.ofNat n).toInt.toNat = n
    rw [h1]; rfl
theorem g_newa (C : Cx p l s mid args meth c D cA n0 b xs m) {pc len n' : Nat} {aux : List Nat} {L st L' st' : List Value} {μ μ' : Mem} {ty : ArrayType} (hI : I m pc = some (.newarray ty, len, aux)) (hs : stp xs (.newarray ty) (pc + len) aux L st μ = some (true, .inl (n', L', st', μ'))) (hR : Rm R k0 d0 μ') (hk0 : k0 ≤ mN μ + mX μ) (hd0 : d0 ≤ ssum (mN μ) + 6 * mX μ) (k : Gd p l e R s mid args below meth c D cA n0 b k0 d0 m Q n' L' st' μ') : Gd p l e R s mid args below meth c D cA n0 b k0 d0 m Q pc L st μ := by
  have hd : decode (cM m) pc = .ok (.newarray ty, len) := (I_ok hI).1
  have hc : chk m pc len (.newarray ty) aux = true := (I_ok hI).2.1
  obtain ⟨hx, hb, -, hown, hts, hK, hn0, -⟩ := C
  unfold chk at hc
  dsimp only at hc
  rw [Bool.and_eq_true] at hc
  obtain ⟨hlen, hc⟩ := hc
  have hlen := Nat.eq_of_beq_eq_true hlen
  subst hlen
  unfold stp at hs
  dsimp only at hs
  split at hs
  · rename_i kk rs
    obtain ⟨hg, h1, h2, h3, h4⟩ := inv_gg hs
    subst h1; subst h2; subst h3; subst h4
    simp only [Bool.and_eq_true, decide_eq_true_eq] at hg
    obtain ⟨hN, hX, hsh, hkk⟩ := hg
    have hX := Nat.eq_of_beq_eq_true hX
    have hN : mN μ < NN := Nat.le_of_ble_eq_true hN
    have hsh := Nat.eq_of_beq_eq_true hsh
    split at hc
    · rename_i kd wl r _
      have hsh : (shp (mN μ)).1 = kd := hsh
      simp only [Bool.and_eq_true, Bool.or_eq_true, decide_eq_true_eq] at hc
      obtain ⟨⟨h1, h2⟩, h3⟩ := hc
      obtain ⟨z1, z2⟩ := ofNat_neg (shp_len (mN μ) hN)
      have hrm := rm_new hR hk0 hd0
      have hby : ∀ t : FieldType, (shp (mN μ)).2 * componentBytes t ≤ 536870912 := by
        intro t
        have hl := shp_len (mN μ) hN
        have hb8 : componentBytes t ≤ 8 := by cases t <;> simp [componentBytes]
        calc (shp (mN μ)).2 * componentBytes t ≤ 1944 * 8 := Nat.mul_le_mul hl hb8
          _ ≤ 536870912 := by decide
      have fin : ∀ {a0 : vp_A} {i : Nat}, (tysOf cA)[i]? = some (cA kd, kty kd) → kty kd ≠ .object RX1 → (∀ C, kty kd ≠ .object C) → (∀ cA', vp_cell cA' a0 = arrV cA' (shp (mN μ)).2 (fun _ => defaultValue (kty kd))) → cel n0 b cA (newM μ) (mN μ) = .inl (cA kd, a0) → Gd p l e R s mid args below meth c D cA n0 b k0 d0 m Q pc L' (.int kk :: rs) μ := by
        intro a0 i hty _ hprim ha hcl H locs ls hi hl
        subst hkk
        refine va_newa (D := D) (A := AA n0) (a0 := a0) hx hb (in_code hts h1) h2 hK hi.2.1 wld_D hi.2.2.1 (fun q hq => Nat.le_trans hn0 hq) ha z1 z2 (hby _) hrm.1 hrm.2 hd (fun q cA' H1 hK' hP hD hS => ?_)
        have hcA : cA' = cA kd := by
          have r1 := (hK'.2 _ _ (List.getElem?_append_right (Nat.le_refl _) |>.trans (by rw [Nat.sub_self]; rfl) : (tysOf cA ++ [(cA', kty kd)])[(tysOf cA).length]? = some (cA', kty kd))).2
          have r2 := (hK.2 _ _ hty).2
          cases hkt : kty kd with
          | object C => exact absurd hkt (hprim C)
          | _ =>
            rw [hkt] at r1 r2
            exact Option.some.inj (r1.symm.trans r2)
        subst hcA
        exact new_go hi hl hN hX hP hD hS hcl rfl hR hk0 hd0 k
      rcases h3 with (h3 | h3) | h3
      · have h3 := Nat.eq_of_beq_eq_true h3
        subst h3
        exact fin (a0 := ((shp (mN μ)).2, .inl (mI (newM μ) (mN μ)))) (i := 0) rfl (by decide) (fun C => by intro h; cases h) (fun cA' => by rw [vp_cell_i]; congr 1; funext j; rw [new_I]; rfl) (cel_5 hsh)
      · have h3 := Nat.eq_of_beq_eq_true h3
        subst h3
        exact fin (a0 := ((shp (mN μ)).2, .inl (mI (newM μ) (mN μ)))) (i := 1) rfl (by decide) (fun C => by intro h; cases h) (fun cA' => by rw [vp_cell_i]; congr 1; funext j; rw [new_I]; rfl) (cel_6 hsh)
      · have h3 := Nat.eq_of_beq_eq_true h3
        subst h3
        exact absurd (shp_lt hN) (by rw [hsh]; decide)
    · cases hc
  · cases hs
theorem g_anew (C : Cx p l s mid args meth c D cA n0 b xs m) {pc len n' : Nat} {aux : List Nat} {L st L' st' : List Value} {μ μ' : Mem} {z : Nat} (hI : I m pc = some (.anewarray z, len, aux)) (hs : stp xs (.anewarray z) (pc + len) aux L st μ = some (true, .inl (n', L', st', μ'))) (hR : Rm R k0 d0 μ') (hk0 : k0 ≤ mN μ + mX μ) (hd0 : d0 ≤ ssum (mN μ) + 6 * mX μ) (k : Gd p l e R s mid args below meth c D cA n0 b k0 d0 m Q n' L' st' μ') : Gd p l e R s mid args below meth c D cA n0 b k0 d0 m Q pc L st μ := by
  have hd : decode (cM m) pc = .ok (.anewarray z, len) := (I_ok hI).1
  have hc : chk m pc len (.anewarray z) aux = true := (I_ok hI).2.1
  obtain ⟨hx, hb, -, hown, hts, hK, hn0, -, -, -, hV, -⟩ := C
  unfold chk at hc
  dsimp only at hc
  rw [Bool.and_eq_true] at hc
  obtain ⟨hlen, hc⟩ := hc
  have hlen := Nat.eq_of_beq_eq_true hlen
  subst hlen
  unfold stp at hs
  dsimp only at hs
  split at hs
  · rename_i kk rs
    obtain ⟨hg, h1, h2, h3, h4⟩ := inv_gg hs
    subst h1; subst h2; subst h3; subst h4
    simp only [Bool.and_eq_true, decide_eq_true_eq] at hg
    obtain ⟨hN, hX, hsh, hkk⟩ := hg
    have hX := Nat.eq_of_beq_eq_true hX
    have hN : mN μ < NN := Nat.le_of_ble_eq_true hN
    have hsh := Nat.eq_of_beq_eq_true hsh
    split at hc
    · rename_i kd wl wo r _
      have hsh : (shp (mN μ)).1 = kd := hsh
      rw [Bool.and_eq_true, Bool.and_eq_true, Bool.or_eq_true] at hc
      obtain ⟨h3, h1, h2⟩ := hc
      obtain ⟨z1, z2⟩ := ofNat_neg (shp_len (mN μ) hN)
      have hrm := rm_new hR hk0 hd0
      have hby : (shp (mN μ)).2 * 4 ≤ 536870912 := by have hl := shp_len (mN μ) hN; omega
      have fin : ∀ {ZZ : String} {i : Nat}, (tysOf cA)[i]? = some (cA kd, .object ZZ) → gw wl (.classLink (ownM m) z ZZ) = true → nw (.arrayOver (.object ZZ)) = true → cel n0 b cA (newM μ) (mN μ) = .inl (cA kd, (shp (mN μ)).2, .inr (.inr (.inr (.inr (fun _ => none))))) → Gd p l e R s mid args below meth c D cA n0 b k0 d0 m Q pc L' (.int kk :: rs) μ := by
        intro ZZ i hty hl1 hl2 hcl H locs ls hi hl
        subst hkk
        unfold nw at hl2
        rw [decide_eq_true_eq] at hl2
        refine va_newq (D := D) (A := AA n0) hx hb hown (in_code hts hl1) (hV.2.1 _ hl2) hK hi.2.1 wld_D hi.2.2.1 (fun q hq => Nat.le_trans hn0 hq) z1 z2 hby hrm.1 hrm.2 hd (fun q cA' H1 hK' hP hD hS => ?_)
        have hcA : cA' = cA kd := by
          obtain ⟨_, _, _, _, _, r1⟩ := (hK'.2 _ _ (List.getElem?_append_right (Nat.le_refl _) |>.trans (by rw [Nat.sub_self]; rfl) : (tysOf cA ++ [(cA', .object ZZ)])[(tysOf cA).length]? = some (cA', .object ZZ))).2
          obtain ⟨_, _, _, _, _, r2⟩ := (hK.2 _ _ hty).2
          exact Option.some.inj (r1.symm.trans r2)
        subst hcA
        exact new_go hi hl hN hX hP hD hS hcl rfl hR hk0 hd0 k
      have hnone : (fun i => (mR (newM μ) (mN μ) i).map (adr n0 b)) = fun _ => none := by funext j; rw [new_R]; rfl
      rcases h3 with h3 | h3
      · have h3 := Nat.eq_of_beq_eq_true h3
        subst h3
        exact fin (i := 2) rfl h1 h2 (by rw [cel_7 hsh, hnone])
      · have h3 := Nat.eq_of_beq_eq_true h3
        subst h3
        exact fin (i := 3) rfl h1 h2 (by rw [cel_8 hsh, hnone])
    · cases hc
  · cases hs
end Snd3
theorem cat_sum {n0 b : Nat} {st : List Value} : ((st.map (rv n0 b)).map fun v => v.category).sum = catL st := by
  induction st with
  | nil => rfl
  | cons v r ih => rw [List.map_cons, List.map_cons, List.sum_cons, ih, rv_cat]; rfl
theorem nat_ws {k : Nat} (h5 : 5 ≤ k) (h8 : k ≤ 5) : Cond.native (natN k) ∈ lw_all ∧ Cond.static (natN k) ∈ lw_all ∧ Cond.initialized (natN k).cls ∈ lw_all := by
  have key : ∀ k, k < 6 → 5 ≤ k → (hasW (.native (natN k)) && (hasW (.static (natN k)) && hasW (.initialized (natN k).cls))) = true := by decide +kernel
  have := key k (by omega) h5
  simp only [Bool.and_eq_true, hasW, decide_eq_true_eq] at this
  exact ⟨List.mem_filter.mpr this.1, List.mem_filter.mpr this.2.1, List.mem_filter.mpr this.2.2⟩
theorem obj_ws : Cond.instanceMethod Lib.objectInit ∈ lw_all ∧ Cond.code Lib.objectInit ⟨#[0xb1]⟩ 1 none ∈ lw_all := by
  have key : (hasW (.instanceMethod Lib.objectInit) && hasW (.code Lib.objectInit ⟨#[0xb1]⟩ 1 none)) = true := by decide +kernel
  simp only [Bool.and_eq_true, hasW, decide_eq_true_eq] at key
  exact ⟨List.mem_filter.mpr key.1, List.mem_filter.mpr key.2⟩
theorem cel_cpy_ne {n0 b : Nat} {cA : Nat → ClassId} {μ : Mem} {a0 sp a dp n c : Nat} (h : c ≠ a) : cel n0 b cA (cpyM μ a0 sp a dp n) c = cel n0 b cA μ c := cel_cong (by funext j; show (if c = a then _ else _) = _; rw [if_neg h]; rfl) rfl rfl
theorem row_cpy {μ : Mem} {a0 sp a dp n : Nat} : mI (cpyM μ a0 sp a dp n) a = va_cpy (mI μ a0) (mI μ a) sp dp n := by funext j; show (if a = a then _ else _) = _; rw [if_pos rfl]; rfl
section Snd4
variable {p : Program} {l : Launch} {e : Env} {R : Room} {s : State} {mid : MethodId} {args : Array Value} {below : List Frame} {meth : Method} {c : Code} {D : va_G} {cA : Nat → ClassId} {n0 b k0 d0 : Nat} {xs : Scr} {m : Nat} {Q : State → Prop}
theorem g_invokevirtual (C : Cx p l s mid args meth c D cA n0 b xs m) {pc len n' : Nat} {aux : List Nat} {L st L' st' : List Value} {μ μ' : Mem} {z : Nat} (hI : I m pc = some (.invokevirtual z, len, aux)) (hs : stp xs (.invokevirtual z) (pc + len) aux L st μ = some (true, .inl (n', L', st', μ'))) (hF : fM m ≤ R.frames ∧ 40 * fM m ≤ R.locals) (k : Gd p l e R s mid args below meth c D cA n0 b k0 d0 m Q n' L' st' μ') : Gd p l e R s mid args below meth c D cA n0 b k0 d0 m Q pc L st μ := by
  have hc : chk m pc len (.invokevirtual z) aux = true := (I_ok hI).2.1
  unfold chk at hc
  dsimp only at hc
  simp only [Bool.and_eq_true] at hc
  have h0 := Nat.eq_of_beq_eq_true hc.2.1
  have hs : sCall aux (pc + len) L st μ = _ := hs
  cases aux with
  | nil => cases hs
  | cons kd r =>
    have h0 : kd = 0 := h0
    subst h0
    unfold sCall at hs
    split at hs
    · split at hs <;> first | (have hs := (inv_bif hs).2; simp only [Option.some.injEq, Prod.mk.injEq, reduceCtorEq, and_false] at hs; done) | cases hs
    all_goals first
      | (rename_i heq; cases heq; done)
      | cases hs
theorem g_invokespecial (C : Cx p l s mid args meth c D cA n0 b xs m) {pc len n' : Nat} {aux : List Nat} {L st L' st' : List Value} {μ μ' : Mem} {z : Nat} (hI : I m pc = some (.invokespecial z, len, aux)) (hs : stp xs (.invokespecial z) (pc + len) aux L st μ = some (true, .inl (n', L', st', μ'))) (hF : fM m ≤ R.frames ∧ 40 * fM m ≤ R.locals) (k : Gd p l e R s mid args below meth c D cA n0 b k0 d0 m Q n' L' st' μ') : Gd p l e R s mid args below meth c D cA n0 b k0 d0 m Q pc L st μ := by
  have hd : decode (cM m) pc = .ok (.invokespecial z, len) := (I_ok hI).1
  have hc : chk m pc len (.invokespecial z) aux = true := (I_ok hI).2.1
  obtain ⟨hx, hb, hml, hown, hts, hK, hn0, -⟩ := C
  unfold chk at hc
  dsimp only at hc
  rw [Bool.and_eq_true] at hc
  obtain ⟨hlen, hc⟩ := hc
  have hlen := Nat.eq_of_beq_eq_true hlen
  subst hlen
  rw [Bool.and_eq_true] at hc
  have hs : sCall aux (pc + 3) L st μ = _ := hs
  have hk3 : ∃ r, aux = 3 :: r := by
    cases aux with
    | nil => cases hs
    | cons kd r =>
      have h1 := hc.1
      simp only [Bool.false_or, Bool.and_eq_true, List.getD_cons_zero] at h1
      have h2 := Nat.le_of_ble_eq_true h1.1
      have h3 := Nat.le_of_ble_eq_true h1.2
      have : kd = 2 ∨ kd = 3 ∨ kd = 4 := by omega
      rcases this with rfl | rfl | rfl
      · exfalso
        unfold sCall at hs
        split at hs
        all_goals first
          | (rename_i heq; cases heq; done)
          | (split at hs <;> first | (have hs := (inv_bif hs).2; simp only [Option.some.injEq, Prod.mk.injEq, reduceCtorEq, and_false] at hs; done) | cases hs; done)
          | cases hs
      · exact ⟨r, rfl⟩
      · exfalso
        unfold sCall at hs
        split at hs
        all_goals first
          | (rename_i heq; cases heq; done)
          | (split at hs <;> first | (have hs := (inv_bif hs).2; simp only [Option.some.injEq, Prod.mk.injEq, reduceCtorEq, and_false] at hs; done) | cases hs; done)
          | cases hs
  obtain ⟨r, rfl⟩ := hk3
  have hs : (match st with | .ref a :: r => g8 r (Nat.blt a (mN μ)) (pc + 3) L r μ | _ => none) = some (true, .inl (n', L', st', μ')) := hs
  split at hs
  · obtain ⟨g8', hs⟩ := inv_bif hs
    obtain ⟨hg, h1, h2, h3, h4⟩ := inv_gg hs
    subst h1; subst h2; subst h3; subst h4
    rename_i a _ _ _
    have hcat := Nat.le_of_ble_eq_true g8'
    have hc2 := hc.2
    dsimp only at hc2
    cases r with
    | nil => cases hc2
    | cons y r => cases r with
      | nil => cases hc2
      | cons na r => cases r with
        | nil => cases hc2
        | cons wl r =>
          have hc2 : (gw wl (.methodLink (ownM m) z objI) && Nat.ble 1 (fM m)) = true := hc2
          rw [Bool.and_eq_true] at hc2
          have hf1 := Nat.le_of_ble_eq_true hc2.2
          intro H locs ls hi hl
          have hroom := lv_room (pc := pc) (ls := ls) (m := mid) (rest := Value.ref (adr n0 b a) :: st'.map (rv n0 b)) (st := st'.map (rv n0 b)) (by rw [cat_sum]; exact hcat)
          exact W.objInit hx hb hown (in_code hts hc2.1) (hts _ obj_ws.1) (hts _ obj_ws.2) (g := F0 mid pc ls (.ref (adr n0 b a) :: st'.map (rv n0 b))) rfl (by rw [hml]; exact hl.1) rfl hd (Nat.le_trans hf1 hF.1) (by omega) (k H locs ls hi hl)
  · cases hs
theorem g_invokestatic (C : Cx p l s mid args meth c D cA n0 b xs m) {pc len n' : Nat} {aux : List Nat} {L st L' st' : List Value} {μ μ' : Mem} {z : Nat} (hI : I m pc = some (.invokestatic z, len, aux)) (hs : stp xs (.invokestatic z) (pc + len) aux L st μ = some (true, .inl (n', L', st', μ'))) (hF : fM m ≤ R.frames ∧ 40 * fM m ≤ R.locals) (k : Gd p l e R s mid args below meth c D cA n0 b k0 d0 m Q n' L' st' μ') : Gd p l e R s mid args below meth c D cA n0 b k0 d0 m Q pc L st μ := by
  have hd : decode (cM m) pc = .ok (.invokestatic z, len) := (I_ok hI).1
  have hc : chk m pc len (.invokestatic z) aux = true := (I_ok hI).2.1
  obtain ⟨hx, hb, hml, hown, hts, hK, hn0, -⟩ := C
  unfold chk at hc
  dsimp only at hc
  rw [Bool.and_eq_true] at hc
  obtain ⟨hlen, hc⟩ := hc
  have hlen := Nat.eq_of_beq_eq_true hlen
  subst hlen
  rw [Bool.and_eq_true] at hc
  have hs : sCall aux (pc + 3) L st μ = _ := hs
  have hk5 : ∃ kd y na wl r, aux = kd :: y :: na :: wl :: r ∧ 5 ≤ kd ∧ kd ≤ 5 := by
    cases aux with
    | nil => cases hs
    | cons kd r =>
      have h1 := hc.1
      simp only [Bool.or_eq_true, Bool.and_eq_true, List.getD_cons_zero] at h1
      rcases h1 with h1 | ⟨h1, h2⟩
      · have h1 : kd = 1 := Nat.eq_of_beq_eq_true h1
        subst h1
        exfalso
        unfold sCall at hs
        split at hs
        all_goals first
          | (rename_i heq; cases heq; done)
          | (have hs := (inv_bif hs).2; simp only [Option.some.injEq, Prod.mk.injEq, reduceCtorEq, and_false] at hs; done)
          | cases hs
      · have hc2 := hc.2
        unfold chkCall at hc2
        cases r with
        | nil => cases hc2
        | cons y r => cases r with
          | nil => cases hc2
          | cons na r => cases r with
            | nil => cases hc2
            | cons wl r => exact ⟨kd, y, na, wl, r, rfl, Nat.le_of_ble_eq_true h1, Nat.le_of_ble_eq_true h2⟩
  obtain ⟨kd, y, na, wl, r, rfl, h5, h8⟩ := hk5
  have hc2 := hc.2
  have hlw : gw wl (.methodLink (ownM m) z (natN kd)) = true ∧ 1 ≤ fM m := by
    have : kd = 5 ∨ kd = 6 ∨ kd = 7 ∨ kd = 8 := by omega
    rcases this with rfl | rfl | rfl | rfl <;>
    · have hc2 : (gw wl (.methodLink (ownM m) z (natN _)) && Nat.ble 1 (fM m)) = true := hc2
      rw [Bool.and_eq_true] at hc2
      exact ⟨hc2.1, Nat.le_of_ble_eq_true hc2.2⟩
  obtain ⟨w1, w2, w3⟩ := nat_ws h5 h8
  have hfr : 1 ≤ R.frames := Nat.le_trans hlw.2 hF.1
  have hlo : 38 ≤ R.locals := by have := hF.2; have := hlw.2; omega
  have : kd = 5 ∨ kd = 6 ∨ kd = 7 ∨ kd = 8 := by omega
  rcases this with rfl | rfl | rfl | rfl
  · have hs : (match st with | .int k :: .int dp :: .ref a :: .int sp :: .ref a0 :: r => g8 r (Nat.ble 245 (mN μ) && (gO μ a 6 && (gO μ a0 6 && decide (0 ≤ sp.toInt ∧ 0 ≤ dp.toInt ∧ 0 ≤ k.toInt ∧ sp.toInt + k.toInt ≤ ((shp a0).2 : Int) ∧ dp.toInt + k.toInt ≤ ((shp a).2 : Int))))) (pc + 3) L r (cpyM μ a0 (idx sp) a (idx dp) (idx k)) | _ => none) = some (true, .inl (n', L', st', μ')) := hs
    split at hs
    · obtain ⟨g8', hs⟩ := inv_bif hs
      obtain ⟨hg, h1, h2, h3, h4⟩ := inv_gg hs
      subst h1; subst h2; subst h3; subst h4
      rename_i kk dp a sp a0 _ _ _
      simp only [Bool.and_eq_true, decide_eq_true_eq] at hg
      obtain ⟨gN, g1, g2, q1, q2, q3, q4, q5⟩ := hg
      obtain ⟨ha, hsh⟩ := gO_spec g1
      obtain ⟨ha0, hsh0⟩ := gO_spec g2
      have hcat := Nat.le_of_ble_eq_true g8'
      have nneg : ∀ {z : Int32}, 0 ≤ z.toInt → ¬ z < 0 := fun {z} h q => by rw [Int32.lt_iff_toInt_lt, Int32.toInt_zero] at q; omega
      have e1 := clampInt q1
      have e2 := clampInt q2
      have e3 := clampInt q3
      intro H locs ls hi hl
      show W p l e R s mid args below meth c H locs _ _ Q (F0 mid pc ls (.int kk :: .int dp :: .ref (adr n0 b a) :: .int sp :: .ref (adr n0 b a0) :: st'.map (rv n0 b)))
      rw [adr_lt (Nat.lt_of_lt_of_le ha hi.1), adr_lt (Nat.lt_of_lt_of_le ha0 hi.1)]
      refine va_copyi (D := D) (A := AA n0) hx hb (by rw [hml]; exact hl.1.symm) hown (in_code hts hlw.1) (hts _ w1) (hts _ w2) (hts _ w3) hK hi.2.1 wld_D hi.2.2.1 a0 a 1 1 (wld_get' ha0 (cel_6 hsh0)) (wld_get' ha (cel_6 hsh)) rfl rfl rfl (nneg q1) (nneg q2) (nneg q3) (by omega) (by omega) (fun _ _ => rfl) hfr (by rw [cat_sum]; show catL st' + (5 + 2 + 11) ≤ R.locals; omega) hd (fun H1 locs1 hP _ hS => ?_)
      rw [wld_set (μ' := cpyM μ a0 (idx sp) a (idx dp) (idx kk)) ha rfl (fun c hc => cel_cpy_ne hc) (by rw [cel_6 hsh, row_cpy]; rfl)] at hP
      exact k H1 locs1 ls ⟨hi.1, hP, hS, hi.2.2.2⟩ hl
    · cases hs
  · have hs : (match st with | .int x :: r => g8 r (decide (vn_sni2f x = false)) (pc + 3) L (.float x.toUInt32 :: r) μ | _ => none) = some (true, .inl (n', L', st', μ')) := hs
    split at hs
    · obtain ⟨g8', hs⟩ := inv_bif hs
      obtain ⟨hg, h1, h2, h3, h4⟩ := inv_gg hs
      subst h1; subst h2; subst h3; subst h4
      rename_i x rs
      rw [decide_eq_true_eq] at hg
      have hcat := Nat.le_of_ble_eq_true g8'
      intro H locs ls hi hl
      exact vn_i2f hx hb (by rw [hml]; exact hl.1.symm) hown (in_code hts hlw.1) (hts _ w1) (hts _ w2) (hts _ w3) hg hfr (by rw [cat_sum]; omega) hd (k H locs ls hi hl)
    · cases hs
  · have hs : (match st with | .float x :: r => g8 r true (pc + 3) L (.int x.toInt32 :: r) μ | _ => none) = some (true, .inl (n', L', st', μ')) := hs
    split at hs
    · obtain ⟨g8', hs⟩ := inv_bif hs
      obtain ⟨hg, h1, h2, h3, h4⟩ := inv_gg hs
      subst h1; subst h2; subst h3; subst h4
      rename_i x rs
      have hcat := Nat.le_of_ble_eq_true g8'
      intro H locs ls hi hl
      exact vn_f2i hx hb (by rw [hml]; exact hl.1.symm) hown (in_code hts hlw.1) (hts _ w1) (hts _ w2) (hts _ w3) hfr (by rw [cat_sum]; omega) hd (k H locs ls hi hl)
    · cases hs
  · have hs : (match st with | .double x :: r => g8 r true (pc + 3) L (.long x.toInt64 :: r) μ | _ => none) = some (true, .inl (n', L', st', μ')) := hs
    split at hs
    · obtain ⟨g8', hs⟩ := inv_bif hs
      obtain ⟨hg, h1, h2, h3, h4⟩ := inv_gg hs
      subst h1; subst h2; subst h3; subst h4
      rename_i x rs
      have hcat := Nat.le_of_ble_eq_true g8'
      intro H locs ls hi hl
      exact vn_d2l hx hb (by rw [hml]; exact hl.1.symm) hown (in_code hts hlw.1) (hts _ w1) (hts _ w2) (hts _ w3) hfr (by rw [cat_sum]; omega) hd (k H locs ls hi hl)
    · cases hs
end Snd4

section Stub
variable {p : Program} {l : Launch} {e : Env} {R : Room} {s : State} {mid : MethodId} {args : Array Value} {below : List Frame} {meth : Method} {c : Code} {D : va_G} {cA : Nat → ClassId} {n0 b k0 d0 : Nat} {xs : Scr} {m : Nat} {Q : State → Prop}end Stub
