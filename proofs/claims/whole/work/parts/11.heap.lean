theorem gw_hyp {i : Nat} {w : Jvm.Cond} (h : gw i w = true) : w ∈ lw_all := gw_in h
section Mems
variable {n0 b : Nat} {cA : Nat → ClassId} {μ : Mem} {a k c : Nat}
theorem mI_setI {x : Int32} {j : Nat} : mI (setI μ a k x) c j = if c = a ∧ j = k then x else mI μ c j := rfl
theorem mR_setI {x : Int32} {j : Nat} : mR (setI μ a k x) c j = mR μ c j := rfl
theorem mL_setI {x : Int32} {j : Nat} : mL (setI μ a k x) c j = mL μ c j := rfl
theorem mI_setR {x j : Nat} : mI (setR μ a k x) c j = mI μ c j := rfl
theorem mR_setR {x j : Nat} : mR (setR μ a k x) c j = if c = a ∧ j = k then some x else mR μ c j := rfl
theorem mL_setR {x j : Nat} : mL (setR μ a k x) c j = mL μ c j := rfl
theorem mI_setL {x : Int64} {j : Nat} : mI (setL μ a k x) c j = mI μ c j := rfl
theorem mR_setL {x : Int64} {j : Nat} : mR (setL μ a k x) c j = mR μ c j := rfl
theorem mL_setL {x : Int64} {j : Nat} : mL (setL μ a k x) c j = if c = a ∧ j = k then x else mL μ c j := rfl
theorem cel_setI_ne {x : Int32} (h : c ≠ a) : cel n0 b cA (setI μ a k x) c = cel n0 b cA μ c := cel_cong (by funext j; rw [mI_setI, if_neg (fun q => h q.1)]) rfl rfl
theorem cel_setR_ne {x : Nat} (h : c ≠ a) : cel n0 b cA (setR μ a k x) c = cel n0 b cA μ c := cel_cong rfl (by funext j; rw [mR_setR, if_neg (fun q => h q.1)]) rfl
theorem cel_setL_ne {x : Int64} (h : c ≠ a) : cel n0 b cA (setL μ a k x) c = cel n0 b cA μ c := cel_cong rfl rfl (by funext j; rw [mL_setL, if_neg (fun q => h q.1)])
theorem row_setI {x : Int32} : mI (setI μ a k x) a = upd (mI μ a) k x := by funext j; rw [mI_setI]; unfold upd; by_cases h : j = k <;> simp [h]
theorem row_setL {x : Int64} : mL (setL μ a k x) a = vp_updL (mL μ a) k x := by funext j; rw [mL_setL]; unfold vp_updL; by_cases h : j = k <;> simp [h]
theorem row_setR {x : Nat} : (fun i => (mR (setR μ a k x) a i).map (adr n0 b)) = va_up (fun i => (mR μ a i).map (adr n0 b)) k (some (adr n0 b x)) := by funext j; rw [mR_setR]; unfold va_up; by_cases h : j = k <;> simp [h]
theorem cel_new (h : c ≠ mN μ) : cel n0 b cA (newM μ) c = cel n0 b cA μ c := by
  refine cel_cong ?_ ?_ ?_
  · funext j; show (if c = mN μ then (0 : Int32) else μ.1 c j) = μ.1 c j; rw [if_neg h]
  · funext j; show (if c = mN μ then none else μ.2.1 c j) = μ.2.1 c j; rw [if_neg h]
  · funext j; show (if c = mN μ then (0 : Int64) else μ.2.2.1 c j) = μ.2.2.1 c j; rw [if_neg h]
theorem new_I {j : Nat} : mI (newM μ) (mN μ) j = 0 := by show (if mN μ = mN μ then (0 : Int32) else _) = 0; rw [if_pos rfl]
theorem new_R {j : Nat} : mR (newM μ) (mN μ) j = none := by show (if mN μ = mN μ then none else _) = none; rw [if_pos rfl]
theorem new_L {j : Nat} : mL (newM μ) (mN μ) j = 0 := by show (if mN μ = mN μ then (0 : Int64) else _) = 0; rw [if_pos rfl]
end Mems
section Snd1
variable {p : Program} {l : Launch} {e : Env} {R : Room} {s : State} {mid : MethodId} {args : Array Value} {below : List Frame} {meth : Method} {c : Code} {D : va_G} {cA : Nat → ClassId} {n0 b k0 d0 : Nat} {xs : Scr} {m : Nat} {Q : State → Prop}
theorem g_put (C : Cx p l s mid args meth c D cA n0 b xs m) {pc len n' : Nat} {aux : List Nat} {L st L' st' : List Value} {μ μ' : Mem} {z : Nat} (hI : I m pc = some (.putfield z, len, aux)) (hs : stp xs (.putfield z) (pc + len) aux L st μ = some (true, .inl (n', L', st', μ'))) (k : Gd p l e R s mid args below meth c D cA n0 b k0 d0 m Q n' L' st' μ') : Gd p l e R s mid args below meth c D cA n0 b k0 d0 m Q pc L st μ := by
  have hd : decode (cM m) pc = .ok (.putfield z, len) := (I_ok hI).1
  have hc : chk m pc len (.putfield z) aux = true := (I_ok hI).2.1
  obtain ⟨hx, hb, -, hown, hts, hK, -, hnm, -⟩ := C
  have hs : sPut aux (pc + len) L st μ = some (true, .inl (n', L', st', μ')) := hs
  unfold chk at hc
  dsimp only at hc
  rw [Bool.and_eq_true] at hc
  obtain ⟨hlen, hc⟩ := hc
  have hlen := Nat.eq_of_beq_eq_true hlen
  subst hlen
  have main : ∀ {ci kk tag wl a : Nat} {r : List Nat} {rs : List Value} {v : Value} {μ1 : Mem}, aux = ci :: kk :: tag :: wl :: r → gO μ a ci = true → st = v :: .ref a :: rs →
      (ci < 5 → kk < (clsOf ci).2.2 → tag = fty ci kk → narrow (clsTy ci kk) (rv n0 b v) = rv n0 b v ∧ fits (clsTy ci kk) (rv n0 b v) = true ∧ ∀ j, fvl n0 b μ1 ci a j = if j = kk then rv n0 b v else fvl n0 b μ ci a j) →
      mN μ1 = mN μ → mX μ1 = mX μ → (∀ c, c ≠ a → cel n0 b cA μ1 c = cel n0 b cA μ c) → Gd p l e R s mid args below meth c D cA n0 b k0 d0 m Q (pc + 3) L rs μ1 → Gd p l e R s mid args below meth c D cA n0 b k0 d0 m Q pc L st μ := by
    intro ci kk tag wl a r rs v μ1 haux hg hst hv hn1 hn2 hcel k1 H locs ls hi hl
    subst haux; subst hst
    dsimp only at hc
    simp only [Bool.and_eq_true] at hc
    obtain ⟨h1, h2, h3, h4, h5⟩ := hc
    have h1 := Nat.le_of_ble_eq_true h1
    have h2 := Nat.le_of_ble_eq_true h2
    have h3 := Nat.eq_of_beq_eq_true h3
    obtain ⟨e1, e2, e3⟩ := hv h1 h2 h3
    obtain ⟨ha, hsh⟩ := gO_spec hg
    have haN : a < NN := Nat.lt_of_lt_of_le ha hi.1
    have hob := shp_obj a haN (by rw [hsh]; exact h1)
    rw [hsh] at hob
    have hw := wld_get' (n0 := n0) (b := b) (cA := cA) ha (cel_O hsh h1)
    have hset : ((List.range (shp a).2).map (fvl n0 b μ ci a)).set kk (rv n0 b v) = (List.range (shp a).2).map (fvl n0 b μ1 ci a) := by
      apply List.ext_getElem?
      intro j
      by_cases hj : j = kk
      · subst hj
        rw [List.getElem?_set_self (by rw [List.length_map, List.length_range, hob]; exact h2), List.getElem?_map, List.getElem?_range (by rw [hob]; exact h2)]
        simp [e3]
      · rw [List.getElem?_set_ne (fun q => hj q.symm), List.getElem?_map, List.getElem?_map]
        by_cases hjl : j < (shp a).2
        · rw [List.getElem?_range hjl, Option.map_some, Option.map_some, e3, if_neg hj]
        · rw [List.getElem?_eq_none (by rw [List.length_range]; omega)]; rfl
    show W p l e R s mid args below meth c H locs _ _ Q (F0 mid pc ls (rv n0 b v :: .ref (adr n0 b a) :: rs.map (rv n0 b)))
    rw [adr_lt haN]
    have fin : ∀ (H1 : Heap) (locs1 : List Loc), va_P D vwCl ((wld n0 b cA μ).set a (n0 + a, .inr (ci, ((List.range (shp a).2).map (fvl n0 b μ ci a)).set kk (rv n0 b v)))) H1 → va_D (AA n0) ((wld n0 b cA μ).set a (n0 + a, .inr (ci, ((List.range (shp a).2).map (fvl n0 b μ ci a)).set kk (rv n0 b v)))) → va_S (AA n0) s.heap H1 locs1 → W p l e R s mid args below meth c H1 locs1 (mN μ + mX μ - k0) (ssum (mN μ) + 6 * mX μ - d0) Q (F0 mid (pc + 3) ls (rs.map (rv n0 b))) := by
      intro H1 locs1 hP _ hS
      rw [hset, wld_set ha hn1 hcel (cel_O hsh h1)] at hP
      have hk := k1 H1 locs1 ls ⟨by rw [hn1]; exact hi.1, hP, hS, by rw [hn1, hn2]; exact hi.2.2.2⟩ hl
      rw [hn1, hn2] at hk
      exact hk
    cases hf : ((clsOf ci).2.1 kk).2.2.2 with
    | false => exact va_put (D := D) (A := AA n0) (ci := ci) (ty := clsTy ci kk) (C := (clsOf ci).1) (T := (clsOf ci).2.1) (N := (clsOf ci).2.2) hx hb hts (cls_ws h1) (clsTy ci) (cls_ty h1) (cls_nm h1) hown hK hi.2.1 wld_D hi.2.2.1 a hw (cls_at h1) kk h2 (in_code hts h4) (fun _ h9 => h9) hf (cls_ty h1 kk h2) e1 e2 (by rw [List.length_map, List.length_range, hob]; exact h2) hd fin
    | true =>
      rw [hf] at h5
      dsimp only at h5
      rw [Bool.and_eq_true, decide_eq_true_eq, decide_eq_true_eq] at h5
      exact va_putF (D := D) (A := AA n0) (ci := ci) (ty := clsTy ci kk) (C := (clsOf ci).1) (T := (clsOf ci).2.1) (N := (clsOf ci).2.2) hx hb hts (cls_ws h1) (clsTy ci) (cls_ty h1) (cls_nm h1) hown hK hi.2.1 wld_D hi.2.2.1 a hw (cls_at h1) kk h2 (in_code hts h4) (fun _ h9 => h9) hf (by rw [hnm]; exact h5.1) h5.2 (cls_ty h1 kk h2) e1 e2 (by rw [List.length_map, List.length_range, hob]; exact h2) hd fin
  unfold sPut at hs
  split at hs
  · obtain ⟨hg, h1, h2, h3, h4⟩ := inv_gg hs
    subst h1; subst h2; subst h3; subst h4
    rename_i ci kk r x a rs
    cases r with
    | nil => dsimp only at hc; exact absurd hc (by simp)
    | cons wl r =>
      refine main (μ1 := setI μ a kk x) rfl hg rfl (fun q1 q2 q3 => ?_) rfl rfl (fun c hc => cel_setI_ne hc) k
      have ht := cls_f0 ci q1 kk q2 q3.symm
      rw [ht]
      refine ⟨rfl, rfl, fun j => ?_⟩
      unfold fvl
      by_cases hj : j = kk
      · subst hj; rw [if_pos rfl, ← q3]; show Value.int (mI (setI μ a j x) a j) = _; rw [mI_setI, if_pos ⟨rfl, rfl⟩]; rfl
      · rw [if_neg hj, mI_setI, if_neg (fun q => hj q.2)]; rfl
  · obtain ⟨hg, h1, h2, h3, h4⟩ := inv_gg hs
    subst h1; subst h2; subst h3; subst h4
    rename_i ci kk r x a rs
    cases r with
    | nil => dsimp only at hc; exact absurd hc (by simp)
    | cons wl r =>
      refine main (μ1 := setR μ a kk x) rfl hg rfl (fun q1 q2 q3 => ?_) rfl rfl (fun c hc => cel_setR_ne hc) k
      have ht := ref_fit (cls_f1 ci q1 kk q2 q3.symm) (adr n0 b x)
      refine ⟨ht.1, ht.2, fun j => ?_⟩
      unfold fvl
      by_cases hj : j = kk
      · subst hj; rw [if_pos rfl, ← q3]; show va_rf ((mR (setR μ a j x) a j).map (adr n0 b)) = _; rw [mR_setR, if_pos ⟨rfl, rfl⟩]; rfl
      · rw [if_neg hj, mR_setR, if_neg (fun q => hj q.2)]; rfl
  · obtain ⟨hg, h1, h2, h3, h4⟩ := inv_gg hs
    subst h1; subst h2; subst h3; subst h4
    rename_i ci kk r x a rs
    cases r with
    | nil => dsimp only at hc; exact absurd hc (by simp)
    | cons wl r =>
      refine main (μ1 := setL μ a kk x) rfl hg rfl (fun q1 q2 q3 => ?_) rfl rfl (fun c hc => cel_setL_ne hc) k
      have ht := cls_f2 ci q1 kk q2 q3.symm
      rw [ht]
      refine ⟨rfl, rfl, fun j => ?_⟩
      unfold fvl
      by_cases hj : j = kk
      · subst hj; rw [if_pos rfl, ← q3]; show Value.long (mL (setL μ a j x) a j) = _; rw [mL_setL, if_pos ⟨rfl, rfl⟩]; rfl
      · rw [if_neg hj, mL_setL, if_neg (fun q => hj q.2)]; rfl
  · cases hs
/-- an array's class among the tables' -/
theorem ty_at {kd : Nat} (h1 : 5 ≤ kd) (h2 : kd ≤ 9) : (tysOf cA)[kd - 5]? = some (cA kd, kty kd) := by
  match kd, h1, h2 with
  | 5, _, _ => rfl
  | 6, _, _ => rfl
  | 7, _, _ => rfl
  | 8, _, _ => rfl
  | 9, _, _ => rfl
theorem g_alen (C : Cx p l s mid args meth c D cA n0 b xs m) {pc len n' : Nat} {aux : List Nat} {L st L' st' : List Value} {μ μ' : Mem} (hI : I m pc = some (.arraylength, len, aux)) (hs : stp xs (.arraylength) (pc + len) aux L st μ = some (true, .inl (n', L', st', μ'))) (k : Gd p l e R s mid args below meth c D cA n0 b k0 d0 m Q n' L' st' μ') : Gd p l e R s mid args below meth c D cA n0 b k0 d0 m Q pc L st μ := by
  have hd : decode (cM m) pc = .ok (.arraylength, len) := (I_ok hI).1
  have hc : chk m pc len .arraylength aux = true := (I_ok hI).2.1
  obtain ⟨hx, hb, -, hown, hts, hK, hn0, -, -, -, -, hscr, -⟩ := C
  unfold chk at hc
  dsimp only at hc
  rw [Bool.and_eq_true] at hc
  obtain ⟨hlen, hc⟩ := hc
  have hlen := Nat.eq_of_beq_eq_true hlen
  subst hlen
  unfold stp at hs
  dsimp only at hs
  split at hs
  · obtain ⟨hg, h1, h2, h3, h4⟩ := inv_gg hs
    subst h1; subst h2; subst h3; subst h4
    rename_i r a rs
    have ha := Nat.eq_of_beq_eq_true hg
    obtain ⟨hX, hbn, -⟩ := hscr (Nat.eq_of_beq_eq_true hc)
    intro H locs ls hi hl
    show W p l e R s mid args below meth c H locs _ _ Q (F0 mid pc ls (.ref (adr n0 b a) :: rs.map (rv n0 b)))
    rw [adr_scr ha]
    exact va_slen hx hb hX (Nat.lt_of_lt_of_le hbn hn0) (show ¬ n0 ≤ b by omega) hi.2.2.1 hd (k H locs ls hi hl)
  · obtain ⟨hg, h1, h2, h3, h4⟩ := inv_gg hs
    subst h1; subst h2; subst h3; subst h4
    rename_i a rs
    simp only [Bool.and_eq_true] at hg
    have ha := Nat.le_of_ble_eq_true hg.1
    have g1 := Nat.le_of_ble_eq_true hg.2.1
    have g2 := Nat.le_of_ble_eq_true hg.2.2
    intro H locs ls hi hl
    show W p l e R s mid args below meth c H locs _ _ Q (F0 mid pc ls (.ref (adr n0 b a) :: rs.map (rv n0 b)))
    rw [adr_lt (Nat.lt_of_lt_of_le ha hi.1)]
    obtain ⟨x, hxv, hx1⟩ : ∃ x : vp_A, cel n0 b cA μ' a = .inl (cA (shp a).1, x) ∧ x.1 = (shp a).2 := by
      obtain ⟨kd, hk⟩ : ∃ kd, kd = (shp a).1 := ⟨_, rfl⟩
      rw [← hk] at g1 g2
      match kd, g1, g2, hk with
      | 5, _, _, hk => exact ⟨_, by rw [cel_5 hk.symm, ← hk], rfl⟩
      | 6, _, _, hk => exact ⟨_, by rw [cel_6 hk.symm, ← hk], rfl⟩
      | 7, _, _, hk => exact ⟨_, by rw [cel_7 hk.symm, ← hk], rfl⟩
      | 8, _, _, hk => exact ⟨_, by rw [cel_8 hk.symm, ← hk], rfl⟩
      | 9, _, _, hk => exact ⟨_, by rw [cel_9 hk.symm, ← hk], rfl⟩
    exact va_alen (D := D) hx hb hK hi.2.1 a ((shp a).1 - 5) (wld_get' ha hxv) (ty_at g1 g2) (by rw [hx1]) hd (k H locs ls hi hl)
  · cases hs
theorem g_iaload (C : Cx p l s mid args meth c D cA n0 b xs m) {pc len n' : Nat} {aux : List Nat} {L st L' st' : List Value} {μ μ' : Mem} (hI : I m pc = some (.iaload, len, aux)) (hs : stp xs (.iaload) (pc + len) aux L st μ = some (true, .inl (n', L', st', μ'))) (k : Gd p l e R s mid args below meth c D cA n0 b k0 d0 m Q n' L' st' μ') : Gd p l e R s mid args below meth c D cA n0 b k0 d0 m Q pc L st μ := by
  have hd : decode (cM m) pc = .ok (.iaload, len) := (I_ok hI).1
  have hc : chk m pc len .iaload aux = true := (I_ok hI).2.1
  obtain ⟨hx, hb, -, hown, hts, hK, hn0, -, -, -, -, hscr, -⟩ := C
  unfold chk at hc
  dsimp only at hc
  rw [Bool.and_eq_true] at hc
  obtain ⟨hlen, hc⟩ := hc
  have hlen := Nat.eq_of_beq_eq_true hlen
  subst hlen
  unfold stp at hs
  dsimp only at hs
  split at hs
  · obtain ⟨hg, h1, h2, h3, h4⟩ := inv_gg hs
    subst h1; subst h2; subst h3; subst h4
    rename_i r i a rs
    rw [Bool.and_eq_true, decide_eq_true_eq] at hg
    have ha := Nat.eq_of_beq_eq_true hg.1
    obtain ⟨hX, hbn, -⟩ := hscr (Nat.eq_of_beq_eq_true hc)
    intro H locs ls hi hl
    show W p l e R s mid args below meth c H locs _ _ Q (F0 mid pc ls (.int i :: .ref (adr n0 b a) :: rs.map (rv n0 b)))
    rw [adr_scr ha]
    exact va_sld hx hb hX (Nat.lt_of_lt_of_le hbn hn0) (show ¬ n0 ≤ b by omega) hi.2.2.1 (vpin_of hg.2.1 hg.2.2) hd (k H locs ls hi hl)
  · obtain ⟨hg, h1, h2, h3, h4⟩ := inv_gg hs
    subst h1; subst h2; subst h3; subst h4
    rename_i i a rs
    obtain ⟨ha, hsh, hin⟩ := gA_spec hg
    intro H locs ls hi hl
    show W p l e R s mid args below meth c H locs _ _ Q (F0 mid pc ls (.int i :: .ref (adr n0 b a) :: rs.map (rv n0 b)))
    rw [adr_lt (Nat.lt_of_lt_of_le ha hi.1)]
    exact va_iald (D := D) hx hb hK hi.2.1 a 1 (wld_get' ha (cel_6 hsh)) rfl hin hd (k H locs ls hi hl)
  · cases hs
theorem g_caload (C : Cx p l s mid args meth c D cA n0 b xs m) {pc len n' : Nat} {aux : List Nat} {L st L' st' : List Value} {μ μ' : Mem} (hI : I m pc = some (.caload, len, aux)) (hs : stp xs (.caload) (pc + len) aux L st μ = some (true, .inl (n', L', st', μ'))) (k : Gd p l e R s mid args below meth c D cA n0 b k0 d0 m Q n' L' st' μ') : Gd p l e R s mid args below meth c D cA n0 b k0 d0 m Q pc L st μ := by
  have hd : decode (cM m) pc = .ok (.caload, len) := (I_ok hI).1
  have hc : chk m pc len .caload aux = true := (I_ok hI).2.1
  obtain ⟨hx, hb, -, hown, hts, hK, hn0, -⟩ := C
  have hlen : len = 1 := Nat.eq_of_beq_eq_true hc
  subst hlen
  unfold stp at hs
  dsimp only at hs
  split at hs
  · obtain ⟨hg, h1, h2, h3, h4⟩ := inv_gg hs
    subst h1; subst h2; subst h3; subst h4
    rename_i i a rs
    obtain ⟨ha, hsh, hin⟩ := gA_spec hg
    intro H locs ls hi hl
    show W p l e R s mid args below meth c H locs _ _ Q (F0 mid pc ls (.int i :: .ref (adr n0 b a) :: rs.map (rv n0 b)))
    rw [adr_lt (Nat.lt_of_lt_of_le ha hi.1)]
    exact va_cald (D := D) hx hb hK hi.2.1 a 0 (wld_get' ha (cel_5 hsh)) rfl hin hd (k H locs ls hi hl)
  · cases hs
theorem g_laload (C : Cx p l s mid args meth c D cA n0 b xs m) {pc len n' : Nat} {aux : List Nat} {L st L' st' : List Value} {μ μ' : Mem} (hI : I m pc = some (.laload, len, aux)) (hs : stp xs (.laload) (pc + len) aux L st μ = some (true, .inl (n', L', st', μ'))) (k : Gd p l e R s mid args below meth c D cA n0 b k0 d0 m Q n' L' st' μ') : Gd p l e R s mid args below meth c D cA n0 b k0 d0 m Q pc L st μ := by
  have hd : decode (cM m) pc = .ok (.laload, len) := (I_ok hI).1
  have hc : chk m pc len .laload aux = true := (I_ok hI).2.1
  obtain ⟨hx, hb, -, hown, hts, hK, hn0, -⟩ := C
  have hlen : len = 1 := Nat.eq_of_beq_eq_true hc
  subst hlen
  unfold stp at hs
  dsimp only at hs
  split at hs
  · obtain ⟨hg, h1, h2, h3, h4⟩ := inv_gg hs
    subst h1; subst h2; subst h3; subst h4
    rename_i i a rs
    obtain ⟨ha, hsh, hin⟩ := gA_spec hg
    intro H locs ls hi hl
    show W p l e R s mid args below meth c H locs _ _ Q (F0 mid pc ls (.int i :: .ref (adr n0 b a) :: rs.map (rv n0 b)))
    rw [adr_lt (Nat.lt_of_lt_of_le ha hi.1)]
    exact va_lald (D := D) hx hb hK hi.2.1 a 4 (wld_get' ha (cel_9 hsh)) rfl hin hd (k H locs ls hi hl)
  · cases hs
theorem g_iastore (C : Cx p l s mid args meth c D cA n0 b xs m) {pc len n' : Nat} {aux : List Nat} {L st L' st' : List Value} {μ μ' : Mem} (hI : I m pc = some (.iastore, len, aux)) (hs : stp xs (.iastore) (pc + len) aux L st μ = some (true, .inl (n', L', st', μ'))) (k : Gd p l e R s mid args below meth c D cA n0 b k0 d0 m Q n' L' st' μ') : Gd p l e R s mid args below meth c D cA n0 b k0 d0 m Q pc L st μ := by
  have hd : decode (cM m) pc = .ok (.iastore, len) := (I_ok hI).1
  have hc : chk m pc len .iastore aux = true := (I_ok hI).2.1
  obtain ⟨hx, hb, -, hown, hts, hK, hn0, -⟩ := C
  have hlen : len = 1 := Nat.eq_of_beq_eq_true hc
  subst hlen
  unfold stp at hs
  dsimp only at hs
  split at hs
  · obtain ⟨hg, h1, h2, h3, h4⟩ := inv_gg hs
    subst h1; subst h2; subst h3; subst h4
    rename_i x i a
    obtain ⟨ha, hsh, hin⟩ := gA_spec hg
    intro H locs ls hi hl
    show W p l e R s mid args below meth c H locs _ _ Q (F0 mid pc ls (.int x :: .int i :: .ref (adr n0 b a) :: st'.map (rv n0 b)))
    rw [adr_lt (Nat.lt_of_lt_of_le ha hi.1)]
    refine va_iast (D := D) (A := AA n0) hx hb hK hi.2.1 wld_D hi.2.2.1 a 1 (wld_get' ha (cel_6 hsh)) rfl hin hd (fun H1 locs1 hP _ hS => ?_)
    rw [wld_set (μ' := setI μ a (idx i) x) ha rfl (fun c hc => cel_setI_ne hc) (by rw [cel_6 hsh, row_setI]; rfl)] at hP
    exact k H1 locs1 ls ⟨hi.1, hP, hS, hi.2.2.2⟩ hl
  · cases hs
theorem g_castore (C : Cx p l s mid args meth c D cA n0 b xs m) {pc len n' : Nat} {aux : List Nat} {L st L' st' : List Value} {μ μ' : Mem} (hI : I m pc = some (.castore, len, aux)) (hs : stp xs (.castore) (pc + len) aux L st μ = some (true, .inl (n', L', st', μ'))) (k : Gd p l e R s mid args below meth c D cA n0 b k0 d0 m Q n' L' st' μ') : Gd p l e R s mid args below meth c D cA n0 b k0 d0 m Q pc L st μ := by
  have hd : decode (cM m) pc = .ok (.castore, len) := (I_ok hI).1
  have hc : chk m pc len .castore aux = true := (I_ok hI).2.1
  obtain ⟨hx, hb, -, hown, hts, hK, hn0, -⟩ := C
  have hlen : len = 1 := Nat.eq_of_beq_eq_true hc
  subst hlen
  unfold stp at hs
  dsimp only at hs
  split at hs
  · obtain ⟨hg, h1, h2, h3, h4⟩ := inv_gg hs
    subst h1; subst h2; subst h3; subst h4
    rename_i x i a
    obtain ⟨ha, hsh, hin⟩ := gA_spec hg
    intro H locs ls hi hl
    show W p l e R s mid args below meth c H locs _ _ Q (F0 mid pc ls (.int x :: .int i :: .ref (adr n0 b a) :: st'.map (rv n0 b)))
    rw [adr_lt (Nat.lt_of_lt_of_le ha hi.1)]
    refine va_cast (D := D) (A := AA n0) hx hb hK hi.2.1 wld_D hi.2.2.1 a 0 (wld_get' ha (cel_5 hsh)) rfl hin hd (fun H1 locs1 hP _ hS => ?_)
    rw [wld_set (μ' := setI μ a (idx i) (vp_nar .char x)) ha rfl (fun c hc => cel_setI_ne hc) (by rw [cel_5 hsh, row_setI]; rfl)] at hP
    exact k H1 locs1 ls ⟨hi.1, hP, hS, hi.2.2.2⟩ hl
  · cases hs
theorem g_lastore (C : Cx p l s mid args meth c D cA n0 b xs m) {pc len n' : Nat} {aux : List Nat} {L st L' st' : List Value} {μ μ' : Mem} (hI : I m pc = some (.lastore, len, aux)) (hs : stp xs (.lastore) (pc + len) aux L st μ = some (true, .inl (n', L', st', μ'))) (k : Gd p l e R s mid args below meth c D cA n0 b k0 d0 m Q n' L' st' μ') : Gd p l e R s mid args below meth c D cA n0 b k0 d0 m Q pc L st μ := by
  have hd : decode (cM m) pc = .ok (.lastore, len) := (I_ok hI).1
  have hc : chk m pc len .lastore aux = true := (I_ok hI).2.1
  obtain ⟨hx, hb, -, hown, hts, hK, hn0, -⟩ := C
  have hlen : len = 1 := Nat.eq_of_beq_eq_true hc
  subst hlen
  unfold stp at hs
  dsimp only at hs
  split at hs
  · obtain ⟨hg, h1, h2, h3, h4⟩ := inv_gg hs
    subst h1; subst h2; subst h3; subst h4
    rename_i x i a
    obtain ⟨ha, hsh, hin⟩ := gA_spec hg
    intro H locs ls hi hl
    show W p l e R s mid args below meth c H locs _ _ Q (F0 mid pc ls (.long x :: .int i :: .ref (adr n0 b a) :: st'.map (rv n0 b)))
    rw [adr_lt (Nat.lt_of_lt_of_le ha hi.1)]
    refine va_last (D := D) (A := AA n0) hx hb hK hi.2.1 wld_D hi.2.2.1 a 4 (wld_get' ha (cel_9 hsh)) rfl hin hd (fun H1 locs1 hP _ hS => ?_)
    rw [wld_set (μ' := setL μ a (idx i) x) ha rfl (fun c hc => cel_setL_ne hc) (by rw [cel_9 hsh, row_setL]; rfl)] at hP
    exact k H1 locs1 ls ⟨hi.1, hP, hS, hi.2.2.2⟩ hl
  · cases hs
theorem g_aaload (C : Cx p l s mid args meth c D cA n0 b xs m) {pc len n' : Nat} {aux : List Nat} {L st L' st' : List Value} {μ μ' : Mem} (hI : I m pc = some (.aaload, len, aux)) (hs : stp xs (.aaload) (pc + len) aux L st μ = some (true, .inl (n', L', st', μ'))) (k : Gd p l e R s mid args below meth c D cA n0 b k0 d0 m Q n' L' st' μ') : Gd p l e R s mid args below meth c D cA n0 b k0 d0 m Q pc L st μ := by
  have hd : decode (cM m) pc = .ok (.aaload, len) := (I_ok hI).1
  have hc : chk m pc len .aaload aux = true := (I_ok hI).2.1
  obtain ⟨hx, hb, -, hown, hts, hK, hn0, -⟩ := C
  have hlen : len = 1 := Nat.eq_of_beq_eq_true hc
  subst hlen
  unfold stp at hs
  dsimp only at hs
  split at hs
  · obtain ⟨hg, h1, h2, h3, h4⟩ := inv_gg hs
    subst h1; subst h2; subst h3; subst h4
    rename_i i a rs
    rw [Bool.and_eq_true, Bool.or_eq_true] at hg
    have hr := hg.2
    unfold gR at hr
    obtain ⟨z, hz⟩ := Option.isSome_iff_exists.mp hr
    have hv : ∀ {f : Nat → Option Nat}, f = (fun i => (mR μ' a i).map (adr n0 b)) → va_rf (f i.toNatClampNeg) = rv n0 b (vR (mR μ' a (idx i))) := by
      intro f hf
      rw [hf]
      show va_rf ((mR μ' a (idx i)).map (adr n0 b)) = _
      rw [hz]
      rfl
    intro H locs ls hi hl
    have hk := k H locs ls hi hl
    have hk : W p l e R s mid args below meth c H locs (mN μ' + mX μ' - k0) (ssum (mN μ') + 6 * mX μ' - d0) Q (F0 mid (pc + 1) ls (rv n0 b (vR (mR μ' a (idx i))) :: rs.map (rv n0 b))) := hk
    rw [← hv rfl] at hk
    show W p l e R s mid args below meth c H locs _ _ Q (F0 mid pc ls (.int i :: .ref (adr n0 b a) :: rs.map (rv n0 b)))
    rcases hg.1 with hg | hg
    · obtain ⟨ha, hsh, hin⟩ := gA_spec hg
      rw [adr_lt (Nat.lt_of_lt_of_le ha hi.1)]
      exact va_aldq (D := D) hx hb hK hi.2.1 a 2 (wld_get' ha (cel_7 hsh)) rfl hin hd hk
    · obtain ⟨ha, hsh, hin⟩ := gA_spec hg
      rw [adr_lt (Nat.lt_of_lt_of_le ha hi.1)]
      exact va_aldq (D := D) hx hb hK hi.2.1 a 3 (wld_get' ha (cel_8 hsh)) rfl hin hd hk
  · cases hs
theorem g_aastore (C : Cx p l s mid args meth c D cA n0 b xs m) {pc len n' : Nat} {aux : List Nat} {L st L' st' : List Value} {μ μ' : Mem} (hI : I m pc = some (.aastore, len, aux)) (hs : stp xs (.aastore) (pc + len) aux L st μ = some (true, .inl (n', L', st', μ'))) (k : Gd p l e R s mid args below meth c D cA n0 b k0 d0 m Q n' L' st' μ') : Gd p l e R s mid args below meth c D cA n0 b k0 d0 m Q pc L st μ := by
  have hd : decode (cM m) pc = .ok (.aastore, len) := (I_ok hI).1
  have hc : chk m pc len .aastore aux = true := (I_ok hI).2.1
  obtain ⟨hx, hb, -, hown, hts, hK, hn0, -⟩ := C
  have hlen : len = 1 := Nat.eq_of_beq_eq_true hc
  subst hlen
  unfold stp at hs
  dsimp only at hs
  split at hs
  · obtain ⟨hg, h1, h2, h3, h4⟩ := inv_gg hs
    subst h1; subst h2; subst h3; subst h4
    rename_i x i a
    rw [Bool.or_eq_true, Bool.and_eq_true, Bool.and_eq_true] at hg
    intro H locs ls hi hl
    show W p l e R s mid args below meth c H locs _ _ Q (F0 mid pc ls (.ref (adr n0 b x) :: .int i :: .ref (adr n0 b a) :: st'.map (rv n0 b)))
    rcases hg with ⟨hg, hv⟩ | ⟨hg, hv⟩
    · obtain ⟨ha, hsh, hin⟩ := gA_spec hg
      obtain ⟨hxa, hxs⟩ := gO_spec hv
      rw [adr_lt (Nat.lt_of_lt_of_le ha hi.1), adr_lt (Nat.lt_of_lt_of_le hxa hi.1)]
      refine va_astq (D := D) (A := AA n0) (r := (RX1, TX1, 14)) hx hb hK hi.2.1 wld_D hi.2.2.1 a 2 x 0 (wld_get' ha (cel_7 hsh)) rfl (wld_get' hxa (cel_O hxs (by omega))) rfl hin hd (fun H1 locs1 hP _ hS => ?_)
      rw [wld_set (μ' := setR μ a (idx i) x) ha rfl (fun c hc => cel_setR_ne hc) (by rw [cel_7 hsh, row_setR, adr_lt (Nat.lt_of_lt_of_le hxa hi.1)]; rfl)] at hP
      exact k H1 locs1 ls ⟨hi.1, hP, hS, hi.2.2.2⟩ hl
    · obtain ⟨ha, hsh, hin⟩ := gA_spec hg
      obtain ⟨hxa, hxs⟩ := gO_spec hv
      rw [adr_lt (Nat.lt_of_lt_of_le ha hi.1), adr_lt (Nat.lt_of_lt_of_le hxa hi.1)]
      refine va_astq (D := D) (A := AA n0) (r := (RX2, TX2, 14)) hx hb hK hi.2.1 wld_D hi.2.2.1 a 3 x 1 (wld_get' ha (cel_8 hsh)) rfl (wld_get' hxa (cel_O hxs (by omega))) rfl hin hd (fun H1 locs1 hP _ hS => ?_)
      rw [wld_set (μ' := setR μ a (idx i) x) ha rfl (fun c hc => cel_setR_ne hc) (by rw [cel_8 hsh, row_setR, adr_lt (Nat.lt_of_lt_of_le hxa hi.1)]; rfl)] at hP
      exact k H1 locs1 ls ⟨hi.1, hP, hS, hi.2.2.2⟩ hl
  · cases hs
end Snd1

section Stub
variable {p : Program} {l : Launch} {e : Env} {R : Room} {s : State} {mid : MethodId} {args : Array Value} {below : List Frame} {meth : Method} {c : Code} {D : va_G} {cA : Nat → ClassId} {n0 b k0 d0 : Nat} {xs : Scr} {m : Nat} {Q : State → Prop}
theorem g_newa (C : Cx p l s mid args meth c D cA n0 b xs m) {pc len n' : Nat} {aux : List Nat} {L st L' st' : List Value} {μ μ' : Mem} {ty : ArrayType} (hI : I m pc = some (.newarray ty, len, aux)) (hs : stp xs (.newarray ty) (pc + len) aux L st μ = some (true, .inl (n', L', st', μ'))) (hR : Rm R k0 d0 μ') (k : Gd p l e R s mid args below meth c D cA n0 b k0 d0 m Q n' L' st' μ') : Gd p l e R s mid args below meth c D cA n0 b k0 d0 m Q pc L st μ := by
  sorry
theorem g_anew (C : Cx p l s mid args meth c D cA n0 b xs m) {pc len n' : Nat} {aux : List Nat} {L st L' st' : List Value} {μ μ' : Mem} {z : Nat} (hI : I m pc = some (.anewarray z, len, aux)) (hs : stp xs (.anewarray z) (pc + len) aux L st μ = some (true, .inl (n', L', st', μ'))) (hR : Rm R k0 d0 μ') (k : Gd p l e R s mid args below meth c D cA n0 b k0 d0 m Q n' L' st' μ') : Gd p l e R s mid args below meth c D cA n0 b k0 d0 m Q pc L st μ := by
  sorry
theorem g_new (C : Cx p l s mid args meth c D cA n0 b xs m) {pc len n' : Nat} {aux : List Nat} {L st L' st' : List Value} {μ μ' : Mem} {z : Nat} (hI : I m pc = some (.new z, len, aux)) (hs : stp xs (.new z) (pc + len) aux L st μ = some (true, .inl (n', L', st', μ'))) (hR : Rm R k0 d0 μ') (k : Gd p l e R s mid args below meth c D cA n0 b k0 d0 m Q n' L' st' μ') : Gd p l e R s mid args below meth c D cA n0 b k0 d0 m Q pc L st μ := by
  sorry
theorem g_invokevirtual (C : Cx p l s mid args meth c D cA n0 b xs m) {pc len n' : Nat} {aux : List Nat} {L st L' st' : List Value} {μ μ' : Mem} {z : Nat} (hI : I m pc = some (.invokevirtual z, len, aux)) (hs : stp xs (.invokevirtual z) (pc + len) aux L st μ = some (true, .inl (n', L', st', μ'))) (hF : fM m ≤ R.frames ∧ 38 * fM m ≤ R.locals) (k : Gd p l e R s mid args below meth c D cA n0 b k0 d0 m Q n' L' st' μ') : Gd p l e R s mid args below meth c D cA n0 b k0 d0 m Q pc L st μ := by
  sorry
theorem g_invokestatic (C : Cx p l s mid args meth c D cA n0 b xs m) {pc len n' : Nat} {aux : List Nat} {L st L' st' : List Value} {μ μ' : Mem} {z : Nat} (hI : I m pc = some (.invokestatic z, len, aux)) (hs : stp xs (.invokestatic z) (pc + len) aux L st μ = some (true, .inl (n', L', st', μ'))) (hF : fM m ≤ R.frames ∧ 38 * fM m ≤ R.locals) (k : Gd p l e R s mid args below meth c D cA n0 b k0 d0 m Q n' L' st' μ') : Gd p l e R s mid args below meth c D cA n0 b k0 d0 m Q pc L st μ := by
  sorry
theorem g_invokespecial (C : Cx p l s mid args meth c D cA n0 b xs m) {pc len n' : Nat} {aux : List Nat} {L st L' st' : List Value} {μ μ' : Mem} {z : Nat} (hI : I m pc = some (.invokespecial z, len, aux)) (hs : stp xs (.invokespecial z) (pc + len) aux L st μ = some (true, .inl (n', L', st', μ'))) (hF : fM m ≤ R.frames ∧ 38 * fM m ≤ R.locals) (k : Gd p l e R s mid args below meth c D cA n0 b k0 d0 m Q n' L' st' μ') : Gd p l e R s mid args below meth c D cA n0 b k0 d0 m Q pc L st μ := by
  sorry
end Stub
