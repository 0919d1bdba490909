section GR2
variable {l : Launch} {D : va_G} {cI cZ : ClassId} {E : En} {cc : ByteArray} {nL : Nat} {y : MethodName} {Ts : List Cond} {rm : Room} {k n : Nat} {Wd Wd' : va_W} {pc np : Nat} {lv lv' : List (Nat × Value)} {st : List Value}
/-- Object.<init> -/
theorem g_objI (h : Ok l D cI cZ E cc nL y Ts rm) {ix a : Nat} (w1 : Cond.methodLink y.cls ix Lib.objectInit ∈ Ts) (w2 : Cond.instanceMethod Lib.objectInit ∈ Ts) (w3 : Cond.code Lib.objectInit ⟨#[0xb1]⟩ 1 none ∈ Ts) (hfr : Nat.ble 1 rm.frames = true) (hlo : Nat.ble ((st.map fun v => v.category).sum + 12) rm.locals = true) (hd : decode cc pc = .ok (.invokespecial ix, 3)) (hnp : pc + 3 = np) (kk : G l D E nL k n Wd np lv st) : G l D E nL k n Wd pc lv (.ref a :: st) := by
  obtain ⟨p, e, R, s, m, args, below, meth, c, Q, A⟩ := E
  obtain ⟨hx, hb, hml, hown, hts, hK, hN, hA, hRm, hnm⟩ := h
  subst hnp
  intro H locs ls hP hD hS hl
  subst hRm
  have h12 := Nat.le_of_ble_eq_true hlo
  exact W.objInit hx hb hown (hts _ w1) (hts _ w2) (hts _ w3) rfl (by rw [hml]; exact hl.1) rfl hd (Nat.le_of_ble_eq_true hfr) (by show 2 * 0 + _ + 12 ≤ _; omega) (kk H locs ls hP hD hS hl)
theorem g_newa (h : Ok l D cI cZ E cc nL y Ts rm) {v : Int32} {N k' n' : Nat} (w1 : Cond.arrayClass .int ∈ Ts) (hNv : v.toNatClampNeg = N) (hv : ¬ v < 0) (hby : Nat.ble (N * 4) 536870912 = true) (hk : k + 1 = k') (hn : n + N = n') (hr : (Nat.ble k' rm.cells && Nat.ble n' rm.slots) = true) (hd : decode cc pc = .ok (.newarray .int, 2)) (hnp : pc + 2 = np)
    (kk : ∀ q : Nat, G l D E nL k' n' (Wd ++ [(q, .inl (cI, N, .inl (fun _ => 0)))]) np lv (.ref q :: st)) : G l D E nL k n Wd pc lv (.int v :: st) := by
  obtain ⟨p, e, R, s, m, args, below, meth, c, Q, A⟩ := E
  obtain ⟨hx, hb, hml, hown, hts, hK, hN, hA, hRm, hnm⟩ := h
  subst hnp
  intro H locs ls hP hD hS hl
  subst hRm; subst hk; subst hn
  rw [Bool.and_eq_true] at hr
  refine va_newa (atype := .int) (ty := .int) (a0 := (N, .inl (fun _ => 0))) hx hb (hts _ w1) rfl hK hP hD hS hA (fun _ => rfl) hv hNv (Nat.le_of_ble_eq_true hby) (Nat.le_of_ble_eq_true hr.1) (Nat.le_of_ble_eq_true hr.2) hd (fun q cA H1 hK1 hP1 hD1 hS1 => ?_)
  have e1 := (hK1.2 2 (cA, .int) rfl).2
  have e0 := (hK.2 0 (cI, .int) rfl).2
  have e : cA = cI := Option.some.inj (Eq.trans (Eq.symm e1) e0)
  subst e
  exact kk q H1 locs ls hP1 hD1 hS1 hl
theorem g_newz (h : Ok l D cI cZ E cc nL y Ts rm) {v : Int32} {N k' n' : Nat} (w1 : Cond.arrayClass .boolean ∈ Ts) (hNv : v.toNatClampNeg = N) (hv : ¬ v < 0) (hby : Nat.ble (N * 1) 536870912 = true) (hk : k + 1 = k') (hn : n + N = n') (hr : (Nat.ble k' rm.cells && Nat.ble n' rm.slots) = true) (hd : decode cc pc = .ok (.newarray .boolean, 2)) (hnp : pc + 2 = np)
    (kk : ∀ q : Nat, G l D E nL k' n' (Wd ++ [(q, .inl (cZ, N, .inl (fun _ => 0)))]) np lv (.ref q :: st)) : G l D E nL k n Wd pc lv (.int v :: st) := by
  obtain ⟨p, e, R, s, m, args, below, meth, c, Q, A⟩ := E
  obtain ⟨hx, hb, hml, hown, hts, hK, hN, hA, hRm, hnm⟩ := h
  subst hnp
  intro H locs ls hP hD hS hl
  subst hRm; subst hk; subst hn
  rw [Bool.and_eq_true] at hr
  refine va_newa (atype := .boolean) (ty := .boolean) (a0 := (N, .inl (fun _ => 0))) hx hb (hts _ w1) rfl hK hP hD hS hA (fun _ => rfl) hv hNv (Nat.le_of_ble_eq_true hby) (Nat.le_of_ble_eq_true hr.1) (Nat.le_of_ble_eq_true hr.2) hd (fun q cA H1 hK1 hP1 hD1 hS1 => ?_)
  have e1 := (hK1.2 2 (cA, .boolean) rfl).2
  have e0 := (hK.2 1 (cZ, .boolean) rfl).2
  have e : cA = cZ := Option.some.inj (Eq.trans (Eq.symm e1) e0)
  subst e
  exact kk q H1 locs ls hP1 hD1 hS1 hl
theorem g_new (h : Ok l D cI cZ E cc nL y Ts rm) {C : String} {T : u_T} {N ix k' n' : Nat} (hin : ∀ w ∈ u_ws C T N, w ∈ Ts) {ty : Nat → FieldType} (hty : ∀ k, k < N → parseFieldDescriptor (T k).2.2.1 = some (ty k)) (w1 : Cond.classLink y.cls ix C ∈ Ts) (w2 : Cond.instantiable C N ∈ Ts) (w3 : Cond.initialized C ∈ Ts) (ci : Nat) (hc : cls[ci]? = some (C, T, N)) {fs : List Value} (hfs : ∀ j, j < N → defaultValue (ty j) = vp_V fs j) (hk : k + 1 = k') (hn : n + N = n') (hr : (Nat.ble k' rm.cells && Nat.ble n' rm.slots) = true) (hd : decode cc pc = .ok (.new ix, 3)) (hnp : pc + 3 = np)
    (kk : ∀ q : Nat, G l D E nL k' n' (Wd ++ [(q, .inr (ci, fs))]) np lv (.ref q :: st)) : G l D E nL k n Wd pc lv st := by
  obtain ⟨p, e, R, s, m, args, below, meth, c, Q, A⟩ := E
  obtain ⟨hx, hb, hml, hown, hts, hK, hN, hA, hRm, hnm⟩ := h
  subst hnp
  intro H locs ls hP hD hS hl
  subst hRm; subst hk; subst hn
  rw [Bool.and_eq_true] at hr
  exact va_new hx hb hts hin ty hty hown (hts _ w1) (hts _ w2) (hts _ w3) hK hP hD hS hA hc hfs (Nat.le_of_ble_eq_true hr.1) (Nat.le_of_ble_eq_true hr.2) hd (fun q H1 hP1 hD1 hS1 => kk q H1 locs ls hP1 hD1 hS1 hl)
theorem g_callI (h : Ok l D cI cZ E cc nL y Ts rm) {ix : Nat} {yc : MethodName} {bytes : ByteArray} {maxL : Nat} {wsc wsc' : List Cond} {rmc : Room} {b k' n' mc ms : Nat} {Wr Wc : va_W} {Wc' : (Nat → Nat) → va_W} (hM : mpC l yc wsc rmc D cI cZ [.ref b] Wc none Wc' mc ms) (hG : GoodIn Ts wsc) (hw : wsc = Cond.code yc bytes maxL none :: wsc') (hrc : rmc.cells = mc ∧ rmc.slots = ms) (hlk : Cond.methodLink y.cls ix yc ∈ Ts) (hini : Cond.initialized yc.cls ∈ Ts) (hinst : Cond.instanceMethod yc ∈ Ts) (hy1 : yc.name = "<init>") (hy : yc.cls ≠ "java/lang/invoke/MethodHandle" ∧ yc.cls ≠ "java/lang/invoke/VarHandle" ∧ (parseMethodDescriptor yc.desc).map (fun d => d.parameters.length) = some 0) (hR : (Nat.ble (rmc.frames + 1) rm.frames && Nat.ble (8 + (maxL + 11) + rmc.locals) rm.locals) = true)
    (hcat : Nat.ble (st.map fun v => v.category).sum 8 = true) (hk : k + mc = k') (hn : n + ms = n') (hkn : (Nat.ble k' rm.cells && Nat.ble n' rm.slots) = true) (hWd : Wd = Wr ++ Wc) (hd : decode cc pc = .ok (.invokespecial ix, 3)) (hnp : pc + 3 = np)
    (kk : ∀ u : Nat → Nat, G l D E nL k' n' (Wr ++ Wc' u) np lv st) : G l D E nL k n Wd pc lv (.ref b :: st) := by
  obtain ⟨p, e, R, s, m, args, below, meth, c, Q, A⟩ := E
  obtain ⟨hx, hb, hml, hown, hts, hK, hN, hA, hRm, hnm⟩ := h
  subst hnp
  intro H locs ls hP hD hS hl
  subst hRm; subst hk; subst hn; subst hWd
  rw [Bool.and_eq_true] at hR hkn
  have hPc : va_P D cls Wc H := fun j q hq => hP (Wr.length + j) q (by rw [List.getElem?_append_right (by omega), Nat.add_sub_cancel_left]; exact hq)
  have hDc : va_D A Wc := ⟨fun i j p q h1 h2 h3 => by
    have := hD.1 (Wr.length + i) (Wr.length + j) p q (by rw [List.getElem?_append_right (by omega), Nat.add_sub_cancel_left]; exact h1) (by rw [List.getElem?_append_right (by omega), Nat.add_sub_cancel_left]; exact h2) h3
    omega, fun j q hq => hD.2 (Wr.length + j) q (by rw [List.getElem?_append_right (by omega), Nat.add_sub_cancel_left]; exact hq)⟩
  have hpre : ∀ U : State, U.heap = H → s.WarmedH U.vm → Pr D cI cZ Wc [.ref b] H.size ([.ref b] : List Value).toArray U := fun U hU hW => ⟨rfl, by rw [hU], by rw [hU]; exact hPc, va_K.moved hW.alike hK, hDc.weaken (fun _ _ _ _ => trivial), hN.warm hW⟩
  exact g_coreC (va_runI (As := []) (rest := st) ⟨hx, hb, hml, hown, hts⟩ (hM H.size) (cwI 0 hts hG hw hrc.1 hrc.2 (hts _ hini) (hts _ hlk) (hts _ hinst) hy1 hy ⟨Nat.le_of_ble_eq_true hR.1, Nat.le_of_ble_eq_true hR.2⟩) ⟨Pr_blind, hpre⟩ rfl rfl hl.1 rfl (lv_room (Nat.le_of_ble_eq_true hcat)) hd ⟨Nat.le_of_ble_eq_true hkn.1, Nat.le_of_ble_eq_true hkn.2⟩) hP hD hS hA (fun u H1 locs1 hP1 hD1 hS1 => kk u H1 locs1 ls hP1 hD1 hS1 hl)
theorem g_callIN (h : Ok l D cI cZ E cc nL y Ts rm) {ix : Nat} {yc : MethodName} {bytes : ByteArray} {maxL : Nat} {wsc wsc' : List Cond} {rmc : Room} {b k' n' mc ms : Nat} {Wr Wc : va_W} {Wc' : (Nat → Nat) → va_W} (hM : mpC l yc wsc rmc D cI cZ [.ref b] Wc none Wc' mc ms) (hG : GoodIn Ts wsc) (hw : wsc = Cond.code yc bytes maxL none :: wsc') (hrc : rmc.cells = mc ∧ rmc.slots = ms) (hnest : (y.cls, ix, yc, "DriftKin") ∈ nsl) (hini : Cond.initialized yc.cls ∈ Ts) (hinst : Cond.instanceMethod yc ∈ Ts) (hy1 : yc.name = "<init>") (hy : yc.cls ≠ "java/lang/invoke/MethodHandle" ∧ yc.cls ≠ "java/lang/invoke/VarHandle" ∧ (parseMethodDescriptor yc.desc).map (fun d => d.parameters.length) = some 0) (hR : (Nat.ble (rmc.frames + 1) rm.frames && Nat.ble (8 + (maxL + 11) + rmc.locals) rm.locals) = true)
    (hcat : Nat.ble (st.map fun v => v.category).sum 8 = true) (hk : k + mc = k') (hn : n + ms = n') (hkn : (Nat.ble k' rm.cells && Nat.ble n' rm.slots) = true) (hWd : Wd = Wr ++ Wc) (hd : decode cc pc = .ok (.invokespecial ix, 3)) (hnp : pc + 3 = np)
    (kk : ∀ u : Nat → Nat, G l D E nL k' n' (Wr ++ Wc' u) np lv st) : G l D E nL k n Wd pc lv (.ref b :: st) := by
  obtain ⟨p, e, R, s, m, args, below, meth, c, Q, A⟩ := E
  obtain ⟨hx, hb, hml, hown, hts, hK, hN, hA, hRm, hnm⟩ := h
  subst hnp
  intro H locs ls hP hD hS hl
  subst hRm; subst hk; subst hn; subst hWd
  rw [Bool.and_eq_true] at hR hkn
  have hPc : va_P D cls Wc H := fun j q hq => hP (Wr.length + j) q (by rw [List.getElem?_append_right (by omega), Nat.add_sub_cancel_left]; exact hq)
  have hDc : va_D A Wc := ⟨fun i j p q h1 h2 h3 => by
    have := hD.1 (Wr.length + i) (Wr.length + j) p q (by rw [List.getElem?_append_right (by omega), Nat.add_sub_cancel_left]; exact h1) (by rw [List.getElem?_append_right (by omega), Nat.add_sub_cancel_left]; exact h2) h3
    omega, fun j q hq => hD.2 (Wr.length + j) q (by rw [List.getElem?_append_right (by omega), Nat.add_sub_cancel_left]; exact hq)⟩
  have hpre : ∀ U : State, U.heap = H → s.WarmedH U.vm → Pr D cI cZ Wc [.ref b] H.size ([.ref b] : List Value).toArray U := fun U hU hW => ⟨rfl, by rw [hU], by rw [hU]; exact hPc, va_K.moved hW.alike hK, hDc.weaken (fun _ _ _ _ => trivial), hN.warm hW⟩
  exact g_coreC (va_runIN (As := []) (rest := st) ⟨hx, hb, hml, hown, hts⟩ (hM H.size) ⟨va_cnB 0 hts hG hw hrc.1 hrc.2 (hN _ hnest) (hts _ hini) hy ⟨Nat.le_of_ble_eq_true hR.1, Nat.le_of_ble_eq_true hR.2⟩, hy1, hts _ hinst⟩ ⟨Pr_blind, hpre⟩ rfl rfl hl.1 rfl (lv_room (Nat.le_of_ble_eq_true hcat)) hd ⟨Nat.le_of_ble_eq_true hkn.1, Nat.le_of_ble_eq_true hkn.2⟩) hP hD hS hA (fun u H1 locs1 hP1 hD1 hS1 => kk u H1 locs1 ls hP1 hD1 hS1 hl)
end GR2
theorem mp_c {l : Launch} {y : MethodName} {ws ws' : List Cond} {rm : Room} {D : va_G} {cI cZ : ClassId} {av : List Value} {Wd : va_W} {Wd' : (Nat → Nat) → va_W} {mc ms : Nat} {lv0 : List (Nat × Value)} (cc : ByteArray) (maxL : Nat) (hy : plainName y.cls = true) (hw : ws = Cond.code y cc maxL none :: ws') (hlen : (lg_sl av).length ≤ maxL) (hlv : lv_args 0 av = lv0)
    (body : ∀ E : En, Ok l D cI cZ E cc maxL y ws rm → (∀ (u : Nat → Nat) (pc : Nat) (lv : List (Nat × Value)), decode cc pc = .ok (.return_, 1) → G l D E maxL mc ms (Wd' u) pc lv []) → G l D E maxL 0 0 Wd 0 lv0 []) : mpC l y ws rm D cI cZ av Wd none Wd' mc ms := by
  subst hlv
  exact mpC_of cc maxL none hy hw hlen (fun E h _ _ _ k1 => body E h (fun u pc lv hd => k1 u pc lv rfl rfl hd))
theorem dfX0 : ∀ j, j < 3 → defaultValue (tyX0 j) = vp_V [.null, .null, .null] j := by
  intro j hj
  match j, hj with
  | 0, _ => rfl
  | 1, _ => rfl
  | 2, _ => rfl
  | j + 3, h => omega
theorem dfX1 : ∀ j, j < 4 → defaultValue (tyX1 j) = vp_V [.null, .null, .null, .int 0] j := by
  intro j hj
  match j, hj with
  | 0, _ => rfl
  | 1, _ => rfl
  | 2, _ => rfl
  | 3, _ => rfl
  | j + 4, h => omega
theorem dfX2 : ∀ j, j < 2 → defaultValue (tyX2 j) = vp_V [.null, .int 0] j := by
  intro j hj
  match j, hj with
  | 0, _ => rfl
  | 1, _ => rfl
  | j + 2, h => omega
theorem dfX3 : ∀ j, j < 7 → defaultValue (tyX3 j) = vp_V [.null, .null, .null, .null, .null, .null, .null] j := by
  intro j hj
  match j, hj with
  | 0, _ => rfl
  | 1, _ => rfl
  | 2, _ => rfl
  | 3, _ => rfl
  | 4, _ => rfl
  | 5, _ => rfl
  | 6, _ => rfl
  | j + 7, h => omega
theorem dfX4 : ∀ j, j < 4 → defaultValue (tyX4 j) = vp_V [.null, .null, .null, .int 0] j := by
  intro j hj
  match j, hj with
  | 0, _ => rfl
  | 1, _ => rfl
  | 2, _ => rfl
  | 3, _ => rfl
  | j + 4, h => omega
theorem dfX5 : ∀ j, j < 4 → defaultValue (tyX5 j) = vp_V [.null, .null, .null, .int 0] j := by
  intro j hj
  match j, hj with
  | 0, _ => rfl
  | 1, _ => rfl
  | 2, _ => rfl
  | 3, _ => rfl
  | j + 4, h => omega
theorem dfX6 : ∀ j, j < 4 → defaultValue (tyX6 j) = vp_V [.null, .null, .null, .int 0] j := by
  intro j hj
  match j, hj with
  | 0, _ => rfl
  | 1, _ => rfl
  | 2, _ => rfl
  | 3, _ => rfl
  | j + 4, h => omega
theorem dfX7 : ∀ j, j < 4 → defaultValue (tyX7 j) = vp_V [.null, .int 0, .int 0, .int 0] j := by
  intro j hj
  match j, hj with
  | 0, _ => rfl
  | 1, _ => rfl
  | 2, _ => rfl
  | 3, _ => rfl
  | j + 4, h => omega
theorem dfX8 : ∀ j, j < 9 → defaultValue (tyX8 j) = vp_V [.null, .null, .null, .int 0, .int 0, .null, .null, .null, .null] j := by
  intro j hj
  match j, hj with
  | 0, _ => rfl
  | 1, _ => rfl
  | 2, _ => rfl
  | 3, _ => rfl
  | 4, _ => rfl
  | 5, _ => rfl
  | 6, _ => rfl
  | 7, _ => rfl
  | 8, _ => rfl
  | j + 9, h => omega
theorem dfX9 : ∀ j, j < 15 → defaultValue (tyX9 j) = vp_V [.null, .null, .null, .int 0, .null, .int 0, .null, .int 0, .int 0, .int 0, .null, .null, .null, .null, .null] j := by
  intro j hj
  match j, hj with
  | 0, _ => rfl
  | 1, _ => rfl
  | 2, _ => rfl
  | 3, _ => rfl
  | 4, _ => rfl
  | 5, _ => rfl
  | 6, _ => rfl
  | 7, _ => rfl
  | 8, _ => rfl
  | 9, _ => rfl
  | 10, _ => rfl
  | 11, _ => rfl
  | 12, _ => rfl
  | 13, _ => rfl
  | 14, _ => rfl
  | j + 15, h => omega
