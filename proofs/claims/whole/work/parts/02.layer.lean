/-! THE LAYER: G = a symbolic machine state (world of cells, pc, locals, stack); one rule an instruction -/
abbrev cls : List vw_C := [(RX0, TX0, 3), (RX1, TX1, 4), (RX2, TX2, 2), (RX3, TX3, 7), (RX4, TX4, 4), (RX5, TX5, 4), (RX6, TX6, 4), (RX7, TX7, 4), (RX8, TX8, 9), (RX9, TX9, 15)]
/-- the links to private members of nest mates -/
def nsl : List (String × Nat × MethodName × String) := [
  ("DriftKin", 9, ⟨"DriftKin$Shore", "<init>", "()V"⟩, "DriftKin"),
  ("DriftKin$Pieces", 33, ⟨"DriftKin", "fill", "([II)V"⟩, "DriftKin"),
  ("DriftKin$Houses", 21, ⟨"DriftKin", "fill", "([II)V"⟩, "DriftKin"),
  ("DriftKin$Shore", 27, ⟨"DriftKin$Sights", "<init>", "()V"⟩, "DriftKin"),
  ("DriftKin", 31, ⟨"DriftKin$Pad", "<init>", "()V"⟩, "DriftKin"),
  ("DriftKin", 38, ⟨"DriftKin$Years", "<init>", "()V"⟩, "DriftKin"),
  ("DriftKin$Years", 11, ⟨"DriftKin$Shore", "<init>", "()V"⟩, "DriftKin"),
  ("DriftKin", 45, ⟨"DriftKin$Planks", "<init>", "()V"⟩, "DriftKin"),
  ("DriftKin", 52, ⟨"DriftKin$Matches", "<init>", "()V"⟩, "DriftKin"),
  ("DriftKin$Pad", 19, ⟨"DriftKin", "at", "([II)I"⟩, "DriftKin"),
  ("DriftKin$Pad", 37, ⟨"DriftKin", "isHouse", "(I)Z"⟩, "DriftKin"),
  ("DriftKin$Pad", 34, ⟨"DriftKin", "isPiece", "(I)Z"⟩, "DriftKin"),
  ("DriftKin$Pieces", 37, ⟨"DriftKin", "copy", "([I[I)V"⟩, "DriftKin"),
  ("DriftKin$Houses", 25, ⟨"DriftKin", "copy", "([I[I)V"⟩, "DriftKin"),
  ("DriftKin$Sights", 25, ⟨"DriftKin", "copy", "([I[I)V"⟩, "DriftKin"),
  ("DriftKin$Years", 44, ⟨"DriftKin", "at", "([II)I"⟩, "DriftKin"),
  ("DriftKin$Shore", 50, ⟨"DriftKin", "at", "([II)I"⟩, "DriftKin"),
  ("DriftKin$Houses", 29, ⟨"DriftKin", "at", "([II)I"⟩, "DriftKin"),
  ("DriftKin$Shore", 54, ⟨"DriftKin", "put", "([III)V"⟩, "DriftKin"),
  ("DriftKin$Pieces", 41, ⟨"DriftKin", "at", "([II)I"⟩, "DriftKin"),
  ("DriftKin$Planks", 43, ⟨"DriftKin", "has", "(II)Z"⟩, "DriftKin"),
  ("DriftKin$Planks", 46, ⟨"DriftKin", "at", "([II)I"⟩, "DriftKin"),
  ("DriftKin$Planks", 50, ⟨"DriftKin", "put", "([III)V"⟩, "DriftKin"),
  ("DriftKin$Pieces", 49, ⟨"DriftKin", "has", "(II)Z"⟩, "DriftKin"),
  ("DriftKin$Matches", 43, ⟨"DriftKin", "has", "(II)Z"⟩, "DriftKin"),
  ("DriftKin$Matches", 35, ⟨"DriftKin", "at", "([II)I"⟩, "DriftKin"),
  ("DriftKin$Matches", 39, ⟨"DriftKin", "fill", "([II)V"⟩, "DriftKin"),
  ("DriftKin$Matches", 58, ⟨"DriftKin", "put", "([III)V"⟩, "DriftKin"),
  ("DriftKin$Sights", 29, ⟨"DriftKin", "put", "([III)V"⟩, "DriftKin"),
  ("DriftKin$Sights", 33, ⟨"DriftKin", "at", "([II)I"⟩, "DriftKin"),
  ("DriftKin$Sights", 37, ⟨"DriftKin", "bitsNear", "(II)I"⟩, "DriftKin")]
def nsOk (U : State) : Prop := ∀ q ∈ nsl, va_Nw (.methodLinkNest q.1 q.2.1 q.2.2.1 q.2.2.2) U
theorem nsOk.same {u U : State} (h : u.vm = U.vm) (hn : nsOk u) : nsOk U := fun q hq => va_Nw.same rfl h (hn q hq)
theorem nsOk.warm {s U : State} (hW : s.WarmedH U.vm) (hn : nsOk s) : nsOk U := fun q hq => va_Nw.warmM hW (hn q hq)
abbrev ty2 (cI cZ : ClassId) : List (ClassId × FieldType) := [(cI, .int), (cZ, .boolean)]
abbrev En : Type := Program × Env × Room × State × MethodId × Array Value × List Frame × Method × Code × (State → Prop) × (Nat → Prop)
/-- the judgement -/
def G (l : Launch) (D : va_G) (E : En) (nL k n : Nat) (Wd : va_W) (pc : Nat) (lv : List (Nat × Value)) (st : List Value) : Prop :=
  match E with
  | (p, e, R, s, m, args, below, meth, c, Q, A) => ∀ (H : Heap) (locs : List Loc) (ls : Array Slot), va_P D cls Wd H → va_D A Wd → va_S A s.heap H locs → lv_has ls nL lv → W p l e R s m args below meth c H locs k n Q (F0 m pc ls st)
/-- what stays through a walk -/
def Ok (l : Launch) (D : va_G) (cI cZ : ClassId) (E : En) (cc : ByteArray) (nL : Nat) (y : MethodName) (Ts : List Cond) (rm : Room) : Prop :=
  match E with
  | (p, e, R, s, m, args, below, meth, c, Q, A) => p.tables.exec = Jvm.exec ∧ c.code = cc ∧ c.maxLocals = nL ∧ s.vm.findClass y.cls = some m.cls ∧ (∀ w ∈ Ts, w.before args s = true) ∧ va_K D cls (ty2 cI cZ) s ∧ nsOk s ∧ (∀ q, s.heap.size ≤ q → A q) ∧ R = rm ∧ meth.name = y.name
/-- a method's start -/
def Pr (D : va_G) (cI cZ : ClassId) (Wd : va_W) (av : List Value) (sz : Nat) : Array Value → State → Prop :=
  va_Pc av (fun U => U.heap.size = sz ∧ va_P D cls Wd U.heap ∧ va_K D cls (ty2 cI cZ) U ∧ va_D (fun _ => True) Wd ∧ nsOk U)
/-- a method's end: its answer, its world -/
def Po (D : va_G) (Wd : va_W) (sz : Nat) (vr : Option Value) (Wd' : (Nat → Nat) → va_W) : Array Value → State → Outcome → State → Prop :=
  fun _ st oc t => (oc = .returned vr ∧ ∃ u : Nat → Nat, va_P D cls (Wd' u) t.heap ∧ va_D (va_A Wd sz) (Wd' u)) ∧ va_F (va_A Wd sz) st t
/-- a contract: from the world Wd, with the arguments av, the method answers vr and leaves the world Wd' -/
def mpC (l : Launch) (y : MethodName) (ws : List Cond) (rm : Room) (D : va_G) (cI cZ : ClassId) (av : List Value) (Wd : va_W) (vr : Option Value) (Wd' : (Nat → Nat) → va_W) (mc ms : Nat) : Prop :=
  ∀ sz : Nat, Met l y ws rm (Pr D cI cZ Wd av sz) (Po D Wd sz vr Wd') mc ms (va_A Wd sz)
def mp (l : Launch) (y : MethodName) (ws : List Cond) (rm : Room) (D : va_G) (cI cZ : ClassId) (av : List Value) (Wd : va_W) (vr : Option Value) (Wd' : va_W) : Prop :=
  mpC l y ws rm D cI cZ av Wd vr (fun _ => Wd') 0 0
theorem Pr_blind {D : va_G} {cI cZ : ClassId} {Wd : va_W} {av : List Value} {sz : Nat} : FrameBlind (Pr D cI cZ Wd av sz) := fun a U g mk q => by
  obtain ⟨q0, q1, q2, q3, q4, q5⟩ := q
  exact ⟨q0, q1, q2, va_K.moved (u := U) (U := U.calling g mk a) (Vm.Alike.refl U.vm) q3, q4, nsOk.same (u := U) (U := U.calling g mk a) rfl q5⟩
/-- the machine's answers to the walk of a method -/
theorem mpC_of {l : Launch} {y : MethodName} {ws ws' : List Cond} {rm : Room} {D : va_G} {cI cZ : ClassId} {av : List Value} {Wd : va_W} {vr : Option Value} {Wd' : (Nat → Nat) → va_W} {mc ms : Nat} (cc : ByteArray) (maxL : Nat) (ret : Option FieldType)
    (hy : plainName y.cls = true) (hw : ws = Cond.code y cc maxL ret :: ws') (hlen : (lg_sl av).length ≤ maxL)
    (body : ∀ E : En, Ok l D cI cZ E cc maxL y ws rm →
      (∀ (u : Nat → Nat) (pc : Nat) (lv : List (Nat × Value)) (v : Int32), vr = some (.int v) → ret = some .int → decode cc pc = .ok (.ireturn, 1) → G l D E maxL mc ms (Wd' u) pc lv [.int v]) →
      (∀ (u : Nat → Nat) (pc : Nat) (lv : List (Nat × Value)) (v : Int32), vr = some (.int v) → ret = some .boolean → v = v &&& 1 → decode cc pc = .ok (.ireturn, 1) → G l D E maxL mc ms (Wd' u) pc lv [.int v]) →
      (∀ (u : Nat → Nat) (pc : Nat) (lv : List (Nat × Value)) (v : Int64), vr = some (.long v) → ret = some .long → decode cc pc = .ok (.lreturn, 1) → G l D E maxL mc ms (Wd' u) pc lv [.long v]) →
      (∀ (u : Nat → Nat) (pc : Nat) (lv : List (Nat × Value)), vr = none → ret = none → decode cc pc = .ok (.return_, 1) → G l D E maxL mc ms (Wd' u) pc lv []) →
      G l D E maxL 0 0 Wd 0 (lv_args 0 av) []) : mpC l y ws rm D cI cZ av Wd vr Wd' mc ms := by
  intro sz
  refine Met.ofW (cc := cc) (maxL := maxL) (ret := ret) hy hw ?_
  intro p e s m args below meth c s₁ B hml hv
  obtain ⟨rfl, hsz, hP, hK, hD0, hN⟩ := hv
  have hx := B.exec
  have hb := B.bytes
  have hr := B.returns
  have hts := atoms_spec (ws := ws) B.pre
  have hown : s.vm.findClass y.cls = some m.cls := findClass_of_methodNamed B.named
  have hlocks := B.notSynchronized
  have hnm : meth.name = y.name := (name_of_methodNamed B.named B.method).1
  subst hsz
  have hl := lv_entry av (n := maxL) hlen
  rw [lg_entry_eq]
  have hD : va_D (va_A Wd s.heap.size) Wd := hD0.self
  refine body (p, e, (headSpec ws rm).room, s, m, av.toArray, below, meth, c, MQ below (Po D Wd s.heap.size vr Wd') av.toArray s mc ms (va_A Wd s.heap.size), va_A Wd s.heap.size) ⟨hx, hb, hml, hown, hts, hK, hN, fun q h => Or.inr h, rfl, hnm⟩ ?_ ?_ ?_ ?_ s.heap [] _ hP hD va_S.rf hl
  · intro u pc lv v e1 e2 hd H locs ls hP hD hS hl
    exact W.iret (v := v) hx hb (hr.trans e2) (fun t ht hW => ⟨⟨by rw [e1], u, by rw [ht]; exact hP, hD⟩, hS.F ht⟩) hS.2.2 hd
  · intro u pc lv v e1 e2 e3 hd H locs ls hP hD hS hl
    exact W.zret (v := v) (ty := .boolean) hx hb (hr.trans e2) (by show Value.int (v &&& 1) = _; rw [← e3]) (fun t ht hW => ⟨⟨by rw [e1], u, by rw [ht]; exact hP, hD⟩, hS.F ht⟩) hS.2.2 hd
  · intro u pc lv v e1 e2 hd H locs ls hP hD hS hl
    exact W.lret (v := v) hx hb (hr.trans e2) (fun t ht hW => ⟨⟨by rw [e1], u, by rw [ht]; exact hP, hD⟩, hS.F ht⟩) hS.2.2 hd
  · intro u pc lv e1 e2 hd H locs ls hP hD hS hl
    exact W.vret hx hb (hr.trans e2) (fun t ht hW => ⟨⟨by rw [e1], u, by rw [ht]; exact hP, hD⟩, hS.F ht⟩) hS.2.2 hd
section MPOF
variable {l : Launch} {y : MethodName} {ws ws' : List Cond} {rm : Room} {D : va_G} {cI cZ : ClassId} {av : List Value} {Wd Wd' : va_W} {lv0 : List (Nat × Value)}
theorem mp_i (cc : ByteArray) (maxL : Nat) (r : Int32) (hy : plainName y.cls = true) (hw : ws = Cond.code y cc maxL (some .int) :: ws') (hlen : (lg_sl av).length ≤ maxL) (hlv : lv_args 0 av = lv0)
    (body : ∀ E : En, Ok l D cI cZ E cc maxL y ws rm → (∀ (pc : Nat) (lv : List (Nat × Value)), decode cc pc = .ok (.ireturn, 1) → G l D E maxL 0 0 Wd' pc lv [.int r]) → G l D E maxL 0 0 Wd 0 lv0 []) : mp l y ws rm D cI cZ av Wd (some (.int r)) Wd' := by
  subst hlv
  exact mpC_of cc maxL (some .int) hy hw hlen (fun E h k1 _ _ _ => body E h (fun pc lv hd => k1 (fun _ => 0) pc lv r rfl rfl hd))
theorem mp_z (cc : ByteArray) (maxL : Nat) (r : Int32) (hy : plainName y.cls = true) (hw : ws = Cond.code y cc maxL (some .boolean) :: ws') (hlen : (lg_sl av).length ≤ maxL) (hlv : lv_args 0 av = lv0)
    (body : ∀ E : En, Ok l D cI cZ E cc maxL y ws rm → (∀ (pc : Nat) (lv : List (Nat × Value)), r = r &&& 1 → decode cc pc = .ok (.ireturn, 1) → G l D E maxL 0 0 Wd' pc lv [.int r]) → G l D E maxL 0 0 Wd 0 lv0 []) : mp l y ws rm D cI cZ av Wd (some (.int r)) Wd' := by
  subst hlv
  exact mpC_of cc maxL (some .boolean) hy hw hlen (fun E h _ k1 _ _ => body E h (fun pc lv he hd => k1 (fun _ => 0) pc lv r rfl rfl he hd))
theorem mp_l (cc : ByteArray) (maxL : Nat) (r : Int64) (hy : plainName y.cls = true) (hw : ws = Cond.code y cc maxL (some .long) :: ws') (hlen : (lg_sl av).length ≤ maxL) (hlv : lv_args 0 av = lv0)
    (body : ∀ E : En, Ok l D cI cZ E cc maxL y ws rm → (∀ (pc : Nat) (lv : List (Nat × Value)), decode cc pc = .ok (.lreturn, 1) → G l D E maxL 0 0 Wd' pc lv [.long r]) → G l D E maxL 0 0 Wd 0 lv0 []) : mp l y ws rm D cI cZ av Wd (some (.long r)) Wd' := by
  subst hlv
  exact mpC_of cc maxL (some .long) hy hw hlen (fun E h _ _ k1 _ => body E h (fun pc lv hd => k1 (fun _ => 0) pc lv r rfl rfl hd))
theorem mp_v (cc : ByteArray) (maxL : Nat) (hy : plainName y.cls = true) (hw : ws = Cond.code y cc maxL none :: ws') (hlen : (lg_sl av).length ≤ maxL) (hlv : lv_args 0 av = lv0)
    (body : ∀ E : En, Ok l D cI cZ E cc maxL y ws rm → (∀ (pc : Nat) (lv : List (Nat × Value)), decode cc pc = .ok (.return_, 1) → G l D E maxL 0 0 Wd' pc lv []) → G l D E maxL 0 0 Wd 0 lv0 []) : mp l y ws rm D cI cZ av Wd none Wd' := by
  subst hlv
  exact mpC_of cc maxL none hy hw hlen (fun E h _ _ _ k1 => body E h (fun pc lv hd => k1 (fun _ => 0) pc lv rfl rfl hd))
end MPOF
theorem zb0 : (0 : Int32) = 0 &&& 1 := by decide
theorem zb1 : (1 : Int32) = 1 &&& 1 := by decide
-- pure words
abbrev jrem (x y : Int32) : Int32 := x - x / y * y
abbrev jshl (x y : Int32) : Int32 := x <<< (y &&& 31)
abbrev jshr (x y : Int32) : Int32 := x >>> (y &&& 31)
abbrev jushr (x y : Int32) : Int32 := (x.toUInt32 >>> (y.toUInt32 &&& Int32.toUInt32 31)).toInt32
abbrev jlrem (x y : Int64) : Int64 := x - x / y * y
abbrev rd (f : Nat → Int32) (i : Int32) : Int32 := f i.toNatClampNeg
abbrev wr (f : Nat → Int32) (i x : Int32) : Nat → Int32 := upd f i.toNatClampNeg x
def chk {α : Type} (i : Int32) (n : Nat) (K : Option α) : Option α := if (i < 0 ∨ n ≤ i.toNatClampNeg) then none else K
def nzi {α : Type} (y : Int32) (K : Option α) : Option α := if y = 0 then none else K
def nzl {α : Type} (y : Int64) (K : Option α) : Option α := if y = 0 then none else K
def bnd {α β : Type} (x : α) (K : α → Option β) : Option β := K x
def bz (x : Int32) : Option Int32 := if x = x &&& 1 then some x else none
theorem chk_e {α : Type} {i : Int32} {n : Nat} {K : Option α} {z : α} (h : chk i n K = some z) : vp_in i n ∧ K = some z := by
  unfold chk at h
  by_cases c : (i < 0 ∨ n ≤ i.toNatClampNeg)
  · rw [if_pos c] at h; cases h
  · rw [if_neg c] at h; exact ⟨c, h⟩
theorem nzi_e {α : Type} {y : Int32} {K : Option α} {z : α} (h : nzi y K = some z) : ¬ y = 0 ∧ K = some z := by
  unfold nzi at h
  by_cases c : y = 0
  · rw [if_pos c] at h; cases h
  · rw [if_neg c] at h; exact ⟨c, h⟩
theorem nzl_e {α : Type} {y : Int64} {K : Option α} {z : α} (h : nzl y K = some z) : ¬ y = 0 ∧ K = some z := by
  unfold nzl at h
  by_cases c : y = 0
  · rw [if_pos c] at h; cases h
  · rw [if_neg c] at h; exact ⟨c, h⟩
theorem bz_e {x z : Int32} (h : bz x = some z) : x = x &&& 1 ∧ x = z := by
  unfold bz at h
  by_cases c : x = x &&& 1
  · rw [if_pos c] at h; exact ⟨c, Option.some.inj h⟩
  · rw [if_neg c] at h; cases h
/-- the cells at places (not by a map under a binder: the kernel compares such ones in exponential time) -/
def pkc (W : va_W) : List Nat → List (Option (Nat × va_E))
  | [] => []
  | i :: is => W[i]? :: pkc W is
theorem pkc_eq (W : va_W) : ∀ is : List Nat, pkc W is = is.map (fun i => W[i]?)
  | [] => rfl
  | i :: is => by rw [List.map_cons, ← pkc_eq W is]; rfl
def ckp (is isR : List Nat) (N : Nat) : Bool := va_nd is && ((List.range N).all (fun k => is.contains k || isR.contains k) && isR.all (fun k => !is.contains k))
theorem va_D.fst {A : Nat → Prop} {W1 W2 : va_W} (h : va_D A W1) (e : W2.map Prod.fst = W1.map Prod.fst) : va_D A W2 := by
  have key : ∀ (k : Nat) (q : Nat × va_E), W2[k]? = some q → ∃ q0, W1[k]? = some q0 ∧ q0.1 = q.1 := by
    intro k q hk
    have h1 : (W2.map Prod.fst)[k]? = some q.1 := by rw [List.getElem?_map, hk]; rfl
    rw [e, List.getElem?_map] at h1
    cases hq : W1[k]? with
    | none => rw [hq] at h1; cases h1
    | some q0 => rw [hq] at h1; exact ⟨q0, rfl, Option.some.inj h1⟩
  refine ⟨fun i j x y hi hj hxy => ?_, fun k q hk => ?_⟩
  · obtain ⟨x0, a1, a2⟩ := key i x hi
    obtain ⟨y0, b1, b2⟩ := key j y hj
    exact h.1 i j x0 y0 a1 b1 (a2.trans (hxy.trans b2.symm))
  · obtain ⟨q0, a1, a2⟩ := key k q hk
    rw [← a2]
    exact h.2 k q0 a1
/-- the frame rule: behind a call the callee's cells stand changed, the others as before -/
theorem stl_P {A : Nat → Prop} {D : va_G} {W W' Wc W1 : va_W} {H H1 : Heap} (hP : va_P D cls W H) (hD : va_D A W) (is isR : List Nat) {N : Nat} (hn : ckp is isR N = true) (hC : is.map (fun i => W[i]?) = Wc.map some) (h1 : is.map (fun i => W'[i]?) = W1.map some) (h2 : isR.map (fun i => W'[i]?) = isR.map (fun i => W[i]?)) (hN : W'.length = N) (hf : W'.map Prod.fst = W.map Prod.fst)
    (hk : ∀ q : Nat, q < H.size → ¬ va_A Wc H.size q → H1[q]? = H[q]?) (hP1 : va_P D cls W1 H1) : va_P D cls W' H1 ∧ va_D A W' := by
  simp only [ckp, Bool.and_eq_true, List.all_eq_true, List.mem_range, Bool.or_eq_true, Bool.not_eq_true', List.contains_iff_mem] at hn
  obtain ⟨-, hcov, hdis⟩ := hn
  refine ⟨fun k q hq => ?_, hD.fst hf⟩
  have hkN : k < N := by rw [← hN]; exact (List.getElem?_eq_some_iff.mp hq).1
  rcases hcov k hkN with hi | hi
  · obtain ⟨j, hj⟩ := List.getElem?_of_mem hi
    have h3 : (is.map (fun i => W'[i]?))[j]? = some (some q) := by rw [List.getElem?_map, hj]; exact congrArg some hq
    rw [h1, List.getElem?_map] at h3
    cases h4 : W1[j]? with
    | none => rw [h4] at h3; cases h3
    | some c =>
      rw [h4] at h3
      have h5 := Option.some.inj (Option.some.inj h3)
      subst h5
      exact hP1 j c h4
  · have hW : W[k]? = some q := by
      obtain ⟨j, hj⟩ := List.getElem?_of_mem hi
      have h3 : (isR.map (fun i => W'[i]?))[j]? = some (some q) := by rw [List.getElem?_map, hj]; exact congrArg some hq
      rw [h2, List.getElem?_map, hj] at h3
      exact Option.some.inj h3
    have hkis : k ∉ is := by
      have h6 := hdis k hi
      intro h7
      have h8 : is.contains k = true := List.contains_iff_mem.mpr h7
      rw [h8] at h6
      cases h6
    refine (hP k q hW).kept (hk q.1 (hP k q hW).lt (fun h2 => ?_))
    rcases h2 with ⟨j, e, h2⟩ | h2
    · have h3 : (is.map (fun i => W[i]?))[j]? = some (some (q.1, e)) := by rw [hC, List.getElem?_map, h2]; rfl
      rw [List.getElem?_map] at h3
      cases hi2 : is[j]? with
      | none => rw [hi2] at h3; cases h3
      | some i =>
        rw [hi2] at h3
        have h4 := hD.1 k i q (q.1, e) hW (Option.some.inj h3) rfl
        exact hkis (by rw [h4]; exact List.mem_of_getElem? hi2)
    · exact absurd (hP k q hW).lt (by omega)
/-- a word that a callee may take along -/
def Gd (w : Cond) : Prop := (w.onTables && w.keeps) = true ∨ ∃ ty, w = .arrayClass ty
theorem gdl {ws : List Cond} (h : ws.all goodWord = true) : ∀ w ∈ ws, Gd w := fun w hw => good_of_word (List.all_eq_true.mp h w hw)
theorem gda {a b : List Cond} (ha : ∀ w ∈ a, Gd w) (hb : ∀ w ∈ b, Gd w) : ∀ w ∈ a ++ b, Gd w := fun w hw => (List.mem_append.mp hw).elim (ha w) (hb w)
theorem gdn : ∀ w ∈ ([] : List Cond), Gd w := fun _ h => absurd h List.not_mem_nil
theorem gdc {c : Cond} {a : List Cond} (hc : goodWord c = true) (ha : ∀ w ∈ a, Gd w) : ∀ w ∈ c :: a, Gd w := fun w hw => (List.mem_cons.mp hw).elim (fun e => by rw [e]; exact good_of_word hc) (ha w)
theorem u_lay_gd (C : String) (T : u_T) (k : Nat) : Gd (u_lay C T k) := by
  unfold u_lay
  split
  · exact good_of_word rfl
  · exact good_of_word rfl
theorem gdu (C : String) (T : u_T) (N : Nat) : ∀ w ∈ u_ws C T N, Gd w := fun w hw => by
  obtain ⟨k, -, rfl⟩ := List.mem_map.mp hw
  exact u_lay_gd C T k
theorem inl {a b : List Cond} {w : Cond} (h : w ∈ a) : w ∈ a ++ b := List.mem_append_left _ h
theorem inr {a b : List Cond} {w : Cond} (h : w ∈ b) : w ∈ a ++ b := List.mem_append_right _ h
theorem tba {a b t : List Cond} (ha : ∀ w ∈ a, w ∈ t) (hb : ∀ w ∈ b, w ∈ t) : ∀ w ∈ a ++ b, w ∈ t := fun w hw => (List.mem_append.mp hw).elim (ha w) (hb w)
theorem tbc {c : Cond} {a t : List Cond} (hc : c ∈ t) (ha : ∀ w ∈ a, w ∈ t) : ∀ w ∈ c :: a, w ∈ t := fun w hw => (List.mem_cons.mp hw).elim (fun e => by rw [e]; exact hc) (ha w)
theorem tbn {t : List Cond} : ∀ w ∈ ([] : List Cond), w ∈ t := fun _ h => absurd h List.not_mem_nil
abbrev jabs (x : Int32) : Int32 := if 0 ≤ x then x else 0 - x
abbrev jmax (x y : Int32) : Int32 := if x < y then y else x
def up (v : Nat → Nat → Int32) (k : Nat) (f : Nat → Int32) : Nat → Nat → Int32 := fun j => bif Nat.beq j k then f else v j
/-- a shore's state out of its rows -/
def mkS (r0 r1 r2 r3 r4 r5 r6 r7 r8 r9 r10 r11 r12 : Nat → Int32) (c y : Int32) : Nat → Nat → Int32 := fun k => match k with
  | 0 => r0
  | 1 => r1
  | 2 => r2
  | 3 => r3
  | 4 => r4
  | 5 => r5
  | 6 => r6
  | 7 => r7
  | 8 => r8
  | 9 => r9
  | 10 => r10
  | 11 => r11
  | 12 => r12
  | 13 => fun _ => c
  | _ => fun _ => y
/-- a shore with what is in it: its rows (0..6 pieces, 7..9 houses, 10..12 sights), 13 the count of the sights, 14 the year -/
def cShore (cI : ClassId) (a : Nat → Nat) (v : Nat → Nat → Int32) : va_W := [(a 0, .inr (5, [.ref (a 1), .ref (a 9), .ref (a 13), .int (v 14 0)])), (a 1, .inr (3, [.ref (a 2), .ref (a 3), .ref (a 4), .ref (a 5), .ref (a 6), .ref (a 7), .ref (a 8)])), (a 2, .inl (cI, 10, .inl (v 0))), (a 3, .inl (cI, 10, .inl (v 1))), (a 4, .inl (cI, 10, .inl (v 2))), (a 5, .inl (cI, 10, .inl (v 3))), (a 6, .inl (cI, 10, .inl (v 4))), (a 7, .inl (cI, 10, .inl (v 5))), (a 8, .inl (cI, 10, .inl (v 6))), (a 9, .inr (0, [.ref (a 10), .ref (a 11), .ref (a 12)])), (a 10, .inl (cI, 8, .inl (v 7))), (a 11, .inl (cI, 8, .inl (v 8))), (a 12, .inl (cI, 8, .inl (v 9))), (a 13, .inr (6, [.ref (a 14), .ref (a 15), .ref (a 16), .int (v 13 0)])), (a 14, .inl (cI, 8, .inl (v 10))), (a 15, .inl (cI, 8, .inl (v 11))), (a 16, .inl (cI, 8, .inl (v 12)))]
theorem ckp_nd {is isR : List Nat} {N : Nat} (h : ckp is isR N = true) : va_nd is = true := by
  simp only [ckp, Bool.and_eq_true] at h
  exact h.1
section GR
variable {l : Launch} {D : va_G} {cI cZ : ClassId} {E : En} {cc : ByteArray} {nL : Nat} {y : MethodName} {Ts : List Cond} {rm : Room} {k n : Nat} {Wd Wd' : va_W} {pc np : Nat} {lv lv' : List (Nat × Value)} {st : List Value}
/-- other locals listed -/
theorem g_lv (ks : List Nat) (hl : lv_pick lv ks = lv') (kk : G l D E nL k n Wd pc lv' st) : G l D E nL k n Wd pc lv st := by
  obtain ⟨p, e, R, s, m, args, below, meth, c, Q, A⟩ := E
  intro H locs ls hP hD hS h
  exact kk H locs ls hP hD hS (lv_sub h ks hl)
theorem g_pc (e : pc = np) (kk : G l D E nL k n Wd np lv st) : G l D E nL k n Wd pc lv st := by subst e; exact kk
theorem g_wd (e : Wd = Wd') (kk : G l D E nL k n Wd' pc lv st) : G l D E nL k n Wd pc lv st := by subst e; exact kk

theorem g_iconst (h : Ok l D cI cZ E cc nL y Ts rm) {q : Int} {v : Int32} (hv : Int32.ofInt q = v) (hd : decode cc pc = .ok (.iconst q, 1)) (hnp : pc + 1 = np) (kk : G l D E nL k n Wd np lv (.int v :: st)) : G l D E nL k n Wd pc lv st := by
  obtain ⟨p, e, R, s, m, args, below, meth, c, Q, A⟩ := E
  obtain ⟨hx, hb, hml, hown, hts, hK, hN, hA, hRm, hnm⟩ := h
  subst hnp
  intro H locs ls hP hD hS hl
  exact lv_iconst hx hb hd hv (kk H locs ls hP hD hS hl)
theorem g_bipush (h : Ok l D cI cZ E cc nL y Ts rm) {q : Int} {v : Int32} (hv : (Int8.ofInt q).toInt32 = v) (hd : decode cc pc = .ok (.bipush q, 2)) (hnp : pc + 2 = np) (kk : G l D E nL k n Wd np lv (.int v :: st)) : G l D E nL k n Wd pc lv st := by
  obtain ⟨p, e, R, s, m, args, below, meth, c, Q, A⟩ := E
  obtain ⟨hx, hb, hml, hown, hts, hK, hN, hA, hRm, hnm⟩ := h
  subst hnp
  intro H locs ls hP hD hS hl
  exact lv_bipush hx hb hd hv (kk H locs ls hP hD hS hl)
theorem g_sipush (h : Ok l D cI cZ E cc nL y Ts rm) {q : Int} {v : Int32} (hv : (Int16.ofInt q).toInt32 = v) (hd : decode cc pc = .ok (.sipush q, 3)) (hnp : pc + 3 = np) (kk : G l D E nL k n Wd np lv (.int v :: st)) : G l D E nL k n Wd pc lv st := by
  obtain ⟨p, e, R, s, m, args, below, meth, c, Q, A⟩ := E
  obtain ⟨hx, hb, hml, hown, hts, hK, hN, hA, hRm, hnm⟩ := h
  subst hnp
  intro H locs ls hP hD hS hl
  exact lv_sipush hx hb hd hv (kk H locs ls hP hD hS hl)
theorem g_lconst (h : Ok l D cI cZ E cc nL y Ts rm) {q : Fin 2} {v : Int64} (hv : Int64.ofNat (q : Nat) = v) (hd : decode cc pc = .ok (.lconst q, 1)) (hnp : pc + 1 = np) (kk : G l D E nL k n Wd np lv (.long v :: st)) : G l D E nL k n Wd pc lv st := by
  obtain ⟨p, e, R, s, m, args, below, meth, c, Q, A⟩ := E
  obtain ⟨hx, hb, hml, hown, hts, hK, hN, hA, hRm, hnm⟩ := h
  subst hnp
  intro H locs ls hP hD hS hl
  exact lv_lconst hx hb hd hv (kk H locs ls hP hD hS hl)
theorem g_ldc (h : Ok l D cI cZ E cc nL y Ts rm) {ix : Nat} {v : Int32} (hc : Cond.constant y.cls ix v ∈ Ts) (hd : decode cc pc = .ok (.ldc ix, 2)) (hnp : pc + 2 = np) (kk : G l D E nL k n Wd np lv (.int v :: st)) : G l D E nL k n Wd pc lv st := by
  obtain ⟨p, e, R, s, m, args, below, meth, c, Q, A⟩ := E
  obtain ⟨hx, hb, hml, hown, hts, hK, hN, hA, hRm, hnm⟩ := h
  subst hnp
  intro H locs ls hP hD hS hl
  exact lv_ldc hx hb hown (hts _ hc) hd (kk H locs ls hP hD hS hl)
theorem g_ldcw (h : Ok l D cI cZ E cc nL y Ts rm) {ix : Nat} {v : Int32} (hc : Cond.constant y.cls ix v ∈ Ts) (hd : decode cc pc = .ok (.ldc_w ix, 3)) (hnp : pc + 3 = np) (kk : G l D E nL k n Wd np lv (.int v :: st)) : G l D E nL k n Wd pc lv st := by
  obtain ⟨p, e, R, s, m, args, below, meth, c, Q, A⟩ := E
  obtain ⟨hx, hb, hml, hown, hts, hK, hN, hA, hRm, hnm⟩ := h
  subst hnp
  intro H locs ls hP hD hS hl
  exact lv_ldcw hx hb hown (hts _ hc) hd (kk H locs ls hP hD hS hl)
theorem g_ldc2 (h : Ok l D cI cZ E cc nL y Ts rm) {ix : Nat} {v : Int64} (hc : Cond.constantLong y.cls ix v ∈ Ts) (hd : decode cc pc = .ok (.ldc2_w ix, 3)) (hnp : pc + 3 = np) (kk : G l D E nL k n Wd np lv (.long v :: st)) : G l D E nL k n Wd pc lv st := by
  obtain ⟨p, e, R, s, m, args, below, meth, c, Q, A⟩ := E
  obtain ⟨hx, hb, hml, hown, hts, hK, hN, hA, hRm, hnm⟩ := h
  subst hnp
  intro H locs ls hP hD hS hl
  exact lv_ldc2 hx hb hown (hts _ hc) hd (kk H locs ls hP hD hS hl)
theorem g_iload_n (h : Ok l D cI cZ E cc nL y Ts rm) {q : Fin 4} {i : Nat} {x : Int32} (j : Nat) (hi : (q : Nat) = i) (hj : lv[j]? = some (i, .int x)) (hd : decode cc pc = .ok (.iload_n q, 1)) (hnp : pc + 1 = np) (kk : G l D E nL k n Wd np lv (.int x :: st)) : G l D E nL k n Wd pc lv st := by
  obtain ⟨p, e, R, s, m, args, below, meth, c, Q, A⟩ := E
  obtain ⟨hx, hb, hml, hown, hts, hK, hN, hA, hRm, hnm⟩ := h
  subst hnp
  intro H locs ls hP hD hS hl
  exact lv_iload_n hx hb hd hi (lv_at hl j hj) (kk H locs ls hP hD hS hl)
theorem g_iload (h : Ok l D cI cZ E cc nL y Ts rm) {i : Nat} {x : Int32} (j : Nat) (hj : lv[j]? = some (i, .int x)) (hd : decode cc pc = .ok (.iload i, 2)) (hnp : pc + 2 = np) (kk : G l D E nL k n Wd np lv (.int x :: st)) : G l D E nL k n Wd pc lv st := by
  obtain ⟨p, e, R, s, m, args, below, meth, c, Q, A⟩ := E
  obtain ⟨hx, hb, hml, hown, hts, hK, hN, hA, hRm, hnm⟩ := h
  subst hnp
  intro H locs ls hP hD hS hl
  exact lv_iload hx hb hd (lv_at hl j hj) (kk H locs ls hP hD hS hl)
theorem g_lload_n (h : Ok l D cI cZ E cc nL y Ts rm) {q : Fin 4} {i : Nat} {x : Int64} (j : Nat) (hi : (q : Nat) = i) (hj : lv[j]? = some (i, .long x)) (hd : decode cc pc = .ok (.lload_n q, 1)) (hnp : pc + 1 = np) (kk : G l D E nL k n Wd np lv (.long x :: st)) : G l D E nL k n Wd pc lv st := by
  obtain ⟨p, e, R, s, m, args, below, meth, c, Q, A⟩ := E
  obtain ⟨hx, hb, hml, hown, hts, hK, hN, hA, hRm, hnm⟩ := h
  subst hnp
  intro H locs ls hP hD hS hl
  exact lv_lload_n hx hb hd hi (lv_at hl j hj) (kk H locs ls hP hD hS hl)
theorem g_lload (h : Ok l D cI cZ E cc nL y Ts rm) {i : Nat} {x : Int64} (j : Nat) (hj : lv[j]? = some (i, .long x)) (hd : decode cc pc = .ok (.lload i, 2)) (hnp : pc + 2 = np) (kk : G l D E nL k n Wd np lv (.long x :: st)) : G l D E nL k n Wd pc lv st := by
  obtain ⟨p, e, R, s, m, args, below, meth, c, Q, A⟩ := E
  obtain ⟨hx, hb, hml, hown, hts, hK, hN, hA, hRm, hnm⟩ := h
  subst hnp
  intro H locs ls hP hD hS hl
  exact lv_lload hx hb hd (lv_at hl j hj) (kk H locs ls hP hD hS hl)
theorem g_aload_n (h : Ok l D cI cZ E cc nL y Ts rm) {q : Fin 4} {i : Nat} {x : Nat} (j : Nat) (hi : (q : Nat) = i) (hj : lv[j]? = some (i, .ref x)) (hd : decode cc pc = .ok (.aload_n q, 1)) (hnp : pc + 1 = np) (kk : G l D E nL k n Wd np lv (.ref x :: st)) : G l D E nL k n Wd pc lv st := by
  obtain ⟨p, e, R, s, m, args, below, meth, c, Q, A⟩ := E
  obtain ⟨hx, hb, hml, hown, hts, hK, hN, hA, hRm, hnm⟩ := h
  subst hnp
  intro H locs ls hP hD hS hl
  exact lv_aload_n hx hb hd hi (lv_at hl j hj) (kk H locs ls hP hD hS hl)
theorem g_aload (h : Ok l D cI cZ E cc nL y Ts rm) {i : Nat} {x : Nat} (j : Nat) (hj : lv[j]? = some (i, .ref x)) (hd : decode cc pc = .ok (.aload i, 2)) (hnp : pc + 2 = np) (kk : G l D E nL k n Wd np lv (.ref x :: st)) : G l D E nL k n Wd pc lv st := by
  obtain ⟨p, e, R, s, m, args, below, meth, c, Q, A⟩ := E
  obtain ⟨hx, hb, hml, hown, hts, hK, hN, hA, hRm, hnm⟩ := h
  subst hnp
  intro H locs ls hP hD hS hl
  exact lv_aload hx hb hd (lv_at hl j hj) (kk H locs ls hP hD hS hl)
theorem g_istore_n (h : Ok l D cI cZ E cc nL y Ts rm) {q : Fin 4} {i : Nat} {x : Int32} (hi : (q : Nat) = i) (hn : i < nL) (hl2 : (i, Value.int x) :: lv.filter (fun q => !(q.1 == i) && !(q.1 + 1 == i && q.2.category == 2)) = lv') (hd : decode cc pc = .ok (.istore_n q, 1)) (hnp : pc + 1 = np) (kk : G l D E nL k n Wd np lv' st) : G l D E nL k n Wd pc lv (.int x :: st) := by
  obtain ⟨p, e, R, s, m, args, below, meth, c, Q, A⟩ := E
  obtain ⟨hx, hb, hml, hown, hts, hK, hN, hA, hRm, hnm⟩ := h
  subst hnp
  intro H locs ls hP hD hS hl
  exact lv_istore_n hx hb hd hi hl hn hl2 (fun ls hl => kk H locs ls hP hD hS hl)
theorem g_istore (h : Ok l D cI cZ E cc nL y Ts rm) {i : Nat} {x : Int32} (hn : i < nL) (hl2 : (i, Value.int x) :: lv.filter (fun q => !(q.1 == i) && !(q.1 + 1 == i && q.2.category == 2)) = lv') (hd : decode cc pc = .ok (.istore i, 2)) (hnp : pc + 2 = np) (kk : G l D E nL k n Wd np lv' st) : G l D E nL k n Wd pc lv (.int x :: st) := by
  obtain ⟨p, e, R, s, m, args, below, meth, c, Q, A⟩ := E
  obtain ⟨hx, hb, hml, hown, hts, hK, hN, hA, hRm, hnm⟩ := h
  subst hnp
  intro H locs ls hP hD hS hl
  exact lv_istore hx hb hd hl hn hl2 (fun ls hl => kk H locs ls hP hD hS hl)
theorem g_astore_n (h : Ok l D cI cZ E cc nL y Ts rm) {q : Fin 4} {i : Nat} {x : Nat} (hi : (q : Nat) = i) (hn : i < nL) (hl2 : (i, Value.ref x) :: lv.filter (fun q => !(q.1 == i) && !(q.1 + 1 == i && q.2.category == 2)) = lv') (hd : decode cc pc = .ok (.astore_n q, 1)) (hnp : pc + 1 = np) (kk : G l D E nL k n Wd np lv' st) : G l D E nL k n Wd pc lv (.ref x :: st) := by
  obtain ⟨p, e, R, s, m, args, below, meth, c, Q, A⟩ := E
  obtain ⟨hx, hb, hml, hown, hts, hK, hN, hA, hRm, hnm⟩ := h
  subst hnp
  intro H locs ls hP hD hS hl
  exact lv_astore_n hx hb hd hi hl hn hl2 (fun ls hl => kk H locs ls hP hD hS hl)
theorem g_astore (h : Ok l D cI cZ E cc nL y Ts rm) {i : Nat} {x : Nat} (hn : i < nL) (hl2 : (i, Value.ref x) :: lv.filter (fun q => !(q.1 == i) && !(q.1 + 1 == i && q.2.category == 2)) = lv') (hd : decode cc pc = .ok (.astore i, 2)) (hnp : pc + 2 = np) (kk : G l D E nL k n Wd np lv' st) : G l D E nL k n Wd pc lv (.ref x :: st) := by
  obtain ⟨p, e, R, s, m, args, below, meth, c, Q, A⟩ := E
  obtain ⟨hx, hb, hml, hown, hts, hK, hN, hA, hRm, hnm⟩ := h
  subst hnp
  intro H locs ls hP hD hS hl
  exact lv_astore hx hb hd hl hn hl2 (fun ls hl => kk H locs ls hP hD hS hl)
theorem g_lstore_n (h : Ok l D cI cZ E cc nL y Ts rm) {q : Fin 4} {i : Nat} {x : Int64} (hi : (q : Nat) = i) (hn : i + 1 < nL) (hl2 : (i, Value.long x) :: lv.filter (fun q => !(q.1 == i) && (!(q.1 == i + 1) && !(q.1 + 1 == i && q.2.category == 2))) = lv') (hd : decode cc pc = .ok (.lstore_n q, 1)) (hnp : pc + 1 = np) (kk : G l D E nL k n Wd np lv' st) : G l D E nL k n Wd pc lv (.long x :: st) := by
  obtain ⟨p, e, R, s, m, args, below, meth, c, Q, A⟩ := E
  obtain ⟨hx, hb, hml, hown, hts, hK, hN, hA, hRm, hnm⟩ := h
  subst hnp
  intro H locs ls hP hD hS hl
  exact lv_lstore_n hx hb hd hi hl hn hl2 (fun ls hl => kk H locs ls hP hD hS hl)
theorem g_lstore (h : Ok l D cI cZ E cc nL y Ts rm) {i : Nat} {x : Int64} (hn : i + 1 < nL) (hl2 : (i, Value.long x) :: lv.filter (fun q => !(q.1 == i) && (!(q.1 == i + 1) && !(q.1 + 1 == i && q.2.category == 2))) = lv') (hd : decode cc pc = .ok (.lstore i, 2)) (hnp : pc + 2 = np) (kk : G l D E nL k n Wd np lv' st) : G l D E nL k n Wd pc lv (.long x :: st) := by
  obtain ⟨p, e, R, s, m, args, below, meth, c, Q, A⟩ := E
  obtain ⟨hx, hb, hml, hown, hts, hK, hN, hA, hRm, hnm⟩ := h
  subst hnp
  intro H locs ls hP hD hS hl
  exact lv_lstore hx hb hd hl hn hl2 (fun ls hl => kk H locs ls hP hD hS hl)
theorem g_iinc (h : Ok l D cI cZ E cc nL y Ts rm) {i : Nat} {q : Int} {x v : Int32} (j : Nat) (hj : lv[j]? = some (i, .int x)) (hv : x + Int32.ofInt q = v) (hn : i < nL) (hl2 : (i, Value.int v) :: lv.filter (fun q => !(q.1 == i) && !(q.1 + 1 == i && q.2.category == 2)) = lv') (hd : decode cc pc = .ok (.iinc i q, 3)) (hnp : pc + 3 = np) (kk : G l D E nL k n Wd np lv' st) : G l D E nL k n Wd pc lv st := by
  obtain ⟨p, e, R, s, m, args, below, meth, c, Q, A⟩ := E
  obtain ⟨hx, hb, hml, hown, hts, hK, hN, hA, hRm, hnm⟩ := h
  subst hnp
  intro H locs ls hP hD hS hl
  exact lv_iinc hx hb hd hl hj hv hn hl2 (fun ls hl => kk H locs ls hP hD hS hl)
theorem g_iadd (h : Ok l D cI cZ E cc nL y Ts rm) {x z : Int32} (hd : decode cc pc = .ok (.iadd, 1)) (hnp : pc + 1 = np) (kk : G l D E nL k n Wd np lv (.int (x + z) :: st)) : G l D E nL k n Wd pc lv (.int z :: .int x :: st) := by
  obtain ⟨p, e, R, s, m, args, below, meth, c, Q, A⟩ := E
  obtain ⟨hx, hb, hml, hown, hts, hK, hN, hA, hRm, hnm⟩ := h
  subst hnp
  intro H locs ls hP hD hS hl
  exact lv_iadd hx hb hd (kk H locs ls hP hD hS hl)
theorem g_isub (h : Ok l D cI cZ E cc nL y Ts rm) {x z : Int32} (hd : decode cc pc = .ok (.isub, 1)) (hnp : pc + 1 = np) (kk : G l D E nL k n Wd np lv (.int (x - z) :: st)) : G l D E nL k n Wd pc lv (.int z :: .int x :: st) := by
  obtain ⟨p, e, R, s, m, args, below, meth, c, Q, A⟩ := E
  obtain ⟨hx, hb, hml, hown, hts, hK, hN, hA, hRm, hnm⟩ := h
  subst hnp
  intro H locs ls hP hD hS hl
  exact lv_isub hx hb hd (kk H locs ls hP hD hS hl)
theorem g_imul (h : Ok l D cI cZ E cc nL y Ts rm) {x z : Int32} (hd : decode cc pc = .ok (.imul, 1)) (hnp : pc + 1 = np) (kk : G l D E nL k n Wd np lv (.int (x * z) :: st)) : G l D E nL k n Wd pc lv (.int z :: .int x :: st) := by
  obtain ⟨p, e, R, s, m, args, below, meth, c, Q, A⟩ := E
  obtain ⟨hx, hb, hml, hown, hts, hK, hN, hA, hRm, hnm⟩ := h
  subst hnp
  intro H locs ls hP hD hS hl
  exact lv_imul hx hb hd (kk H locs ls hP hD hS hl)
theorem g_iand (h : Ok l D cI cZ E cc nL y Ts rm) {x z : Int32} (hd : decode cc pc = .ok (.iand, 1)) (hnp : pc + 1 = np) (kk : G l D E nL k n Wd np lv (.int (x &&& z) :: st)) : G l D E nL k n Wd pc lv (.int z :: .int x :: st) := by
  obtain ⟨p, e, R, s, m, args, below, meth, c, Q, A⟩ := E
  obtain ⟨hx, hb, hml, hown, hts, hK, hN, hA, hRm, hnm⟩ := h
  subst hnp
  intro H locs ls hP hD hS hl
  exact lv_iand hx hb hd (kk H locs ls hP hD hS hl)
theorem g_ior (h : Ok l D cI cZ E cc nL y Ts rm) {x z : Int32} (hd : decode cc pc = .ok (.ior, 1)) (hnp : pc + 1 = np) (kk : G l D E nL k n Wd np lv (.int (x ||| z) :: st)) : G l D E nL k n Wd pc lv (.int z :: .int x :: st) := by
  obtain ⟨p, e, R, s, m, args, below, meth, c, Q, A⟩ := E
  obtain ⟨hx, hb, hml, hown, hts, hK, hN, hA, hRm, hnm⟩ := h
  subst hnp
  intro H locs ls hP hD hS hl
  exact lv_ior hx hb hd (kk H locs ls hP hD hS hl)
theorem g_ixor (h : Ok l D cI cZ E cc nL y Ts rm) {x z : Int32} (hd : decode cc pc = .ok (.ixor, 1)) (hnp : pc + 1 = np) (kk : G l D E nL k n Wd np lv (.int (x ^^^ z) :: st)) : G l D E nL k n Wd pc lv (.int z :: .int x :: st) := by
  obtain ⟨p, e, R, s, m, args, below, meth, c, Q, A⟩ := E
  obtain ⟨hx, hb, hml, hown, hts, hK, hN, hA, hRm, hnm⟩ := h
  subst hnp
  intro H locs ls hP hD hS hl
  exact lv_ixor hx hb hd (kk H locs ls hP hD hS hl)
theorem g_ishl (h : Ok l D cI cZ E cc nL y Ts rm) {x z : Int32} (hd : decode cc pc = .ok (.ishl, 1)) (hnp : pc + 1 = np) (kk : G l D E nL k n Wd np lv (.int (jshl x z) :: st)) : G l D E nL k n Wd pc lv (.int z :: .int x :: st) := by
  obtain ⟨p, e, R, s, m, args, below, meth, c, Q, A⟩ := E
  obtain ⟨hx, hb, hml, hown, hts, hK, hN, hA, hRm, hnm⟩ := h
  subst hnp
  intro H locs ls hP hD hS hl
  exact lv_ishl hx hb hd (kk H locs ls hP hD hS hl)
theorem g_ishr (h : Ok l D cI cZ E cc nL y Ts rm) {x z : Int32} (hd : decode cc pc = .ok (.ishr, 1)) (hnp : pc + 1 = np) (kk : G l D E nL k n Wd np lv (.int (jshr x z) :: st)) : G l D E nL k n Wd pc lv (.int z :: .int x :: st) := by
  obtain ⟨p, e, R, s, m, args, below, meth, c, Q, A⟩ := E
  obtain ⟨hx, hb, hml, hown, hts, hK, hN, hA, hRm, hnm⟩ := h
  subst hnp
  intro H locs ls hP hD hS hl
  exact lv_ishr hx hb hd (kk H locs ls hP hD hS hl)
theorem g_iushr (h : Ok l D cI cZ E cc nL y Ts rm) {x z : Int32} (hd : decode cc pc = .ok (.iushr, 1)) (hnp : pc + 1 = np) (kk : G l D E nL k n Wd np lv (.int (jushr x z) :: st)) : G l D E nL k n Wd pc lv (.int z :: .int x :: st) := by
  obtain ⟨p, e, R, s, m, args, below, meth, c, Q, A⟩ := E
  obtain ⟨hx, hb, hml, hown, hts, hK, hN, hA, hRm, hnm⟩ := h
  subst hnp
  intro H locs ls hP hD hS hl
  exact lv_iushr hx hb hd rfl (kk H locs ls hP hD hS hl)
theorem g_ineg (h : Ok l D cI cZ E cc nL y Ts rm) {x : Int32} (hd : decode cc pc = .ok (.ineg, 1)) (hnp : pc + 1 = np) (kk : G l D E nL k n Wd np lv (.int (-x) :: st)) : G l D E nL k n Wd pc lv (.int x :: st) := by
  obtain ⟨p, e, R, s, m, args, below, meth, c, Q, A⟩ := E
  obtain ⟨hx, hb, hml, hown, hts, hK, hN, hA, hRm, hnm⟩ := h
  subst hnp
  intro H locs ls hP hD hS hl
  exact lv_ineg hx hb hd (kk H locs ls hP hD hS hl)
theorem g_idiv (h : Ok l D cI cZ E cc nL y Ts rm) {x z : Int32} (hz : ¬ z = 0) (hd : decode cc pc = .ok (.idiv, 1)) (hnp : pc + 1 = np) (kk : G l D E nL k n Wd np lv (.int (x / z) :: st)) : G l D E nL k n Wd pc lv (.int z :: .int x :: st) := by
  obtain ⟨p, e, R, s, m, args, below, meth, c, Q, A⟩ := E
  obtain ⟨hx, hb, hml, hown, hts, hK, hN, hA, hRm, hnm⟩ := h
  subst hnp
  intro H locs ls hP hD hS hl
  exact lv_idiv hx hb hd hz (kk H locs ls hP hD hS hl)
theorem g_irem (h : Ok l D cI cZ E cc nL y Ts rm) {x z : Int32} (hz : ¬ z = 0) (hd : decode cc pc = .ok (.irem, 1)) (hnp : pc + 1 = np) (kk : G l D E nL k n Wd np lv (.int (jrem x z) :: st)) : G l D E nL k n Wd pc lv (.int z :: .int x :: st) := by
  obtain ⟨p, e, R, s, m, args, below, meth, c, Q, A⟩ := E
  obtain ⟨hx, hb, hml, hown, hts, hK, hN, hA, hRm, hnm⟩ := h
  subst hnp
  intro H locs ls hP hD hS hl
  exact lv_irem hx hb hd hz (kk H locs ls hP hD hS hl)
theorem g_ladd (h : Ok l D cI cZ E cc nL y Ts rm) {x z : Int64} (hd : decode cc pc = .ok (.ladd, 1)) (hnp : pc + 1 = np) (kk : G l D E nL k n Wd np lv (.long (x + z) :: st)) : G l D E nL k n Wd pc lv (.long z :: .long x :: st) := by
  obtain ⟨p, e, R, s, m, args, below, meth, c, Q, A⟩ := E
  obtain ⟨hx, hb, hml, hown, hts, hK, hN, hA, hRm, hnm⟩ := h
  subst hnp
  intro H locs ls hP hD hS hl
  exact lv_ladd hx hb hd (kk H locs ls hP hD hS hl)
theorem g_lsub (h : Ok l D cI cZ E cc nL y Ts rm) {x z : Int64} (hd : decode cc pc = .ok (.lsub, 1)) (hnp : pc + 1 = np) (kk : G l D E nL k n Wd np lv (.long (x - z) :: st)) : G l D E nL k n Wd pc lv (.long z :: .long x :: st) := by
  obtain ⟨p, e, R, s, m, args, below, meth, c, Q, A⟩ := E
  obtain ⟨hx, hb, hml, hown, hts, hK, hN, hA, hRm, hnm⟩ := h
  subst hnp
  intro H locs ls hP hD hS hl
  exact lv_lsub hx hb hd (kk H locs ls hP hD hS hl)
theorem g_lmul (h : Ok l D cI cZ E cc nL y Ts rm) {x z : Int64} (hd : decode cc pc = .ok (.lmul, 1)) (hnp : pc + 1 = np) (kk : G l D E nL k n Wd np lv (.long (x * z) :: st)) : G l D E nL k n Wd pc lv (.long z :: .long x :: st) := by
  obtain ⟨p, e, R, s, m, args, below, meth, c, Q, A⟩ := E
  obtain ⟨hx, hb, hml, hown, hts, hK, hN, hA, hRm, hnm⟩ := h
  subst hnp
  intro H locs ls hP hD hS hl
  exact lv_lmul hx hb hd (kk H locs ls hP hD hS hl)
theorem g_ldiv (h : Ok l D cI cZ E cc nL y Ts rm) {x z : Int64} (hz : ¬ z = 0) (hd : decode cc pc = .ok (.ldiv, 1)) (hnp : pc + 1 = np) (kk : G l D E nL k n Wd np lv (.long (x / z) :: st)) : G l D E nL k n Wd pc lv (.long z :: .long x :: st) := by
  obtain ⟨p, e, R, s, m, args, below, meth, c, Q, A⟩ := E
  obtain ⟨hx, hb, hml, hown, hts, hK, hN, hA, hRm, hnm⟩ := h
  subst hnp
  intro H locs ls hP hD hS hl
  exact lv_ldiv hx hb hd hz (kk H locs ls hP hD hS hl)
theorem g_lrem (h : Ok l D cI cZ E cc nL y Ts rm) {x z : Int64} (hz : ¬ z = 0) (hd : decode cc pc = .ok (.lrem, 1)) (hnp : pc + 1 = np) (kk : G l D E nL k n Wd np lv (.long (jlrem x z) :: st)) : G l D E nL k n Wd pc lv (.long z :: .long x :: st) := by
  obtain ⟨p, e, R, s, m, args, below, meth, c, Q, A⟩ := E
  obtain ⟨hx, hb, hml, hown, hts, hK, hN, hA, hRm, hnm⟩ := h
  subst hnp
  intro H locs ls hP hD hS hl
  exact lv_lrem hx hb hd hz (kk H locs ls hP hD hS hl)
theorem g_lcmp (h : Ok l D cI cZ E cc nL y Ts rm) {x z : Int64} (hd : decode cc pc = .ok (.lcmp, 1)) (hnp : pc + 1 = np) (kk : G l D E nL k n Wd np lv (.int (lg_cmp x z) :: st)) : G l D E nL k n Wd pc lv (.long z :: .long x :: st) := by
  obtain ⟨p, e, R, s, m, args, below, meth, c, Q, A⟩ := E
  obtain ⟨hx, hb, hml, hown, hts, hK, hN, hA, hRm, hnm⟩ := h
  subst hnp
  intro H locs ls hP hD hS hl
  exact W.lcmp hx hb hd (kk H locs ls hP hD hS hl)
theorem g_i2l (h : Ok l D cI cZ E cc nL y Ts rm) {x : Int32} (hd : decode cc pc = .ok (.i2l, 1)) (hnp : pc + 1 = np) (kk : G l D E nL k n Wd np lv (.long x.toInt64 :: st)) : G l D E nL k n Wd pc lv (.int x :: st) := by
  obtain ⟨p, e, R, s, m, args, below, meth, c, Q, A⟩ := E
  obtain ⟨hx, hb, hml, hown, hts, hK, hN, hA, hRm, hnm⟩ := h
  subst hnp
  intro H locs ls hP hD hS hl
  exact lv_i2l hx hb hd rfl (kk H locs ls hP hD hS hl)
theorem g_dup (h : Ok l D cI cZ E cc nL y Ts rm) {v : Value} (hv : v.category = 1) (hd : decode cc pc = .ok (.dup, 1)) (hnp : pc + 1 = np) (kk : G l D E nL k n Wd np lv (v :: v :: st)) : G l D E nL k n Wd pc lv (v :: st) := by
  obtain ⟨p, e, R, s, m, args, below, meth, c, Q, A⟩ := E
  obtain ⟨hx, hb, hml, hown, hts, hK, hN, hA, hRm, hnm⟩ := h
  subst hnp
  intro H locs ls hP hD hS hl
  exact lv_dup hx hb hd hv (kk H locs ls hP hD hS hl)
theorem g_pop (h : Ok l D cI cZ E cc nL y Ts rm) {v : Value} (hv : v.category = 1) (hd : decode cc pc = .ok (.pop, 1)) (hnp : pc + 1 = np) (kk : G l D E nL k n Wd np lv st) : G l D E nL k n Wd pc lv (v :: st) := by
  obtain ⟨p, e, R, s, m, args, below, meth, c, Q, A⟩ := E
  obtain ⟨hx, hb, hml, hown, hts, hK, hN, hA, hRm, hnm⟩ := h
  subst hnp
  intro H locs ls hP hD hS hl
  exact lv_pop hx hb hd hv (kk H locs ls hP hD hS hl)
theorem g_dup2 (h : Ok l D cI cZ E cc nL y Ts rm) {v w : Value} (hv : v.category = 1) (hw : w.category = 1) (hd : decode cc pc = .ok (.dup2, 1)) (hnp : pc + 1 = np) (kk : G l D E nL k n Wd np lv (v :: w :: v :: w :: st)) : G l D E nL k n Wd pc lv (v :: w :: st) := by
  obtain ⟨p, e, R, s, m, args, below, meth, c, Q, A⟩ := E
  obtain ⟨hx, hb, hml, hown, hts, hK, hN, hA, hRm, hnm⟩ := h
  subst hnp
  intro H locs ls hP hD hS hl
  exact lv_dup2_11 hx hb hd hv hw (kk H locs ls hP hD hS hl)
theorem g_if_eq {α : Type} {a b : Option α} {z : α} (h : Ok l D cI cZ E cc nL y Ts rm) {x : Int32} {off : Int} {tg : Nat} (hF : (if x = 0 then a else b) = some z) (hd : decode cc pc = .ok (.ifCond .eq off, 3)) (hnp : pc + 3 = np) (ht : (pc : Int) + off = (tg : Int)) (kt : x = 0 → a = some z → G l D E nL k n Wd tg lv st) (kf : ¬ x = 0 → b = some z → G l D E nL k n Wd np lv st) : G l D E nL k n Wd pc lv (.int x :: st) := by
  obtain ⟨p, e, R, s, m, args, below, meth, c, Q, A⟩ := E
  obtain ⟨hx, hb, hml, hown, hts, hK, hN, hA, hRm, hnm⟩ := h
  subst hnp
  intro H locs ls hP hD hS hl
  exact lv_if_eq hx hb hd ht (fun q => kt q (by rw [if_pos q] at hF; exact hF) H locs ls hP hD hS hl) (fun q => kf q (by rw [if_neg q] at hF; exact hF) H locs ls hP hD hS hl)
theorem g_if_ne {α : Type} {a b : Option α} {z : α} (h : Ok l D cI cZ E cc nL y Ts rm) {x : Int32} {off : Int} {tg : Nat} (hF : (if x = 0 then a else b) = some z) (hd : decode cc pc = .ok (.ifCond .ne off, 3)) (hnp : pc + 3 = np) (ht : (pc : Int) + off = (tg : Int)) (kt : ¬ x = 0 → b = some z → G l D E nL k n Wd tg lv st) (kf : x = 0 → a = some z → G l D E nL k n Wd np lv st) : G l D E nL k n Wd pc lv (.int x :: st) := by
  obtain ⟨p, e, R, s, m, args, below, meth, c, Q, A⟩ := E
  obtain ⟨hx, hb, hml, hown, hts, hK, hN, hA, hRm, hnm⟩ := h
  subst hnp
  intro H locs ls hP hD hS hl
  exact lv_if_ne hx hb hd ht (fun q => kt q (by rw [if_neg q] at hF; exact hF) H locs ls hP hD hS hl) (fun q => kf q (by rw [if_pos q] at hF; exact hF) H locs ls hP hD hS hl)
theorem g_if_lt {α : Type} {a b : Option α} {z : α} (h : Ok l D cI cZ E cc nL y Ts rm) {x : Int32} {off : Int} {tg : Nat} (hF : (if x < 0 then a else b) = some z) (hd : decode cc pc = .ok (.ifCond .lt off, 3)) (hnp : pc + 3 = np) (ht : (pc : Int) + off = (tg : Int)) (kt : x < 0 → a = some z → G l D E nL k n Wd tg lv st) (kf : ¬ x < 0 → b = some z → G l D E nL k n Wd np lv st) : G l D E nL k n Wd pc lv (.int x :: st) := by
  obtain ⟨p, e, R, s, m, args, below, meth, c, Q, A⟩ := E
  obtain ⟨hx, hb, hml, hown, hts, hK, hN, hA, hRm, hnm⟩ := h
  subst hnp
  intro H locs ls hP hD hS hl
  exact lv_if_lt hx hb hd ht (fun q => kt q (by rw [if_pos q] at hF; exact hF) H locs ls hP hD hS hl) (fun q => kf q (by rw [if_neg q] at hF; exact hF) H locs ls hP hD hS hl)
theorem g_if_ge {α : Type} {a b : Option α} {z : α} (h : Ok l D cI cZ E cc nL y Ts rm) {x : Int32} {off : Int} {tg : Nat} (hF : (if 0 ≤ x then a else b) = some z) (hd : decode cc pc = .ok (.ifCond .ge off, 3)) (hnp : pc + 3 = np) (ht : (pc : Int) + off = (tg : Int)) (kt : 0 ≤ x → a = some z → G l D E nL k n Wd tg lv st) (kf : ¬ 0 ≤ x → b = some z → G l D E nL k n Wd np lv st) : G l D E nL k n Wd pc lv (.int x :: st) := by
  obtain ⟨p, e, R, s, m, args, below, meth, c, Q, A⟩ := E
  obtain ⟨hx, hb, hml, hown, hts, hK, hN, hA, hRm, hnm⟩ := h
  subst hnp
  intro H locs ls hP hD hS hl
  exact lv_if_ge hx hb hd ht (fun q => kt q (by rw [if_pos q] at hF; exact hF) H locs ls hP hD hS hl) (fun q => kf q (by rw [if_neg q] at hF; exact hF) H locs ls hP hD hS hl)
theorem g_if_gt {α : Type} {a b : Option α} {z : α} (h : Ok l D cI cZ E cc nL y Ts rm) {x : Int32} {off : Int} {tg : Nat} (hF : (if 0 < x then a else b) = some z) (hd : decode cc pc = .ok (.ifCond .gt off, 3)) (hnp : pc + 3 = np) (ht : (pc : Int) + off = (tg : Int)) (kt : 0 < x → a = some z → G l D E nL k n Wd tg lv st) (kf : ¬ 0 < x → b = some z → G l D E nL k n Wd np lv st) : G l D E nL k n Wd pc lv (.int x :: st) := by
  obtain ⟨p, e, R, s, m, args, below, meth, c, Q, A⟩ := E
  obtain ⟨hx, hb, hml, hown, hts, hK, hN, hA, hRm, hnm⟩ := h
  subst hnp
  intro H locs ls hP hD hS hl
  exact lv_if_gt hx hb hd ht (fun q => kt q (by rw [if_pos q] at hF; exact hF) H locs ls hP hD hS hl) (fun q => kf q (by rw [if_neg q] at hF; exact hF) H locs ls hP hD hS hl)
theorem g_if_le {α : Type} {a b : Option α} {z : α} (h : Ok l D cI cZ E cc nL y Ts rm) {x : Int32} {off : Int} {tg : Nat} (hF : (if x ≤ 0 then a else b) = some z) (hd : decode cc pc = .ok (.ifCond .le off, 3)) (hnp : pc + 3 = np) (ht : (pc : Int) + off = (tg : Int)) (kt : x ≤ 0 → a = some z → G l D E nL k n Wd tg lv st) (kf : ¬ x ≤ 0 → b = some z → G l D E nL k n Wd np lv st) : G l D E nL k n Wd pc lv (.int x :: st) := by
  obtain ⟨p, e, R, s, m, args, below, meth, c, Q, A⟩ := E
  obtain ⟨hx, hb, hml, hown, hts, hK, hN, hA, hRm, hnm⟩ := h
  subst hnp
  intro H locs ls hP hD hS hl
  exact lv_if_le hx hb hd ht (fun q => kt q (by rw [if_pos q] at hF; exact hF) H locs ls hP hD hS hl) (fun q => kf q (by rw [if_neg q] at hF; exact hF) H locs ls hP hD hS hl)
theorem g_icmp_eq {α : Type} {a b : Option α} {z : α} (h : Ok l D cI cZ E cc nL y Ts rm) {x w : Int32} {off : Int} {tg : Nat} (hF : (if x = w then a else b) = some z) (hd : decode cc pc = .ok (.if_icmp .eq off, 3)) (hnp : pc + 3 = np) (ht : (pc : Int) + off = (tg : Int)) (kt : x = w → a = some z → G l D E nL k n Wd tg lv st) (kf : ¬ x = w → b = some z → G l D E nL k n Wd np lv st) : G l D E nL k n Wd pc lv (.int w :: .int x :: st) := by
  obtain ⟨p, e, R, s, m, args, below, meth, c, Q, A⟩ := E
  obtain ⟨hx, hb, hml, hown, hts, hK, hN, hA, hRm, hnm⟩ := h
  subst hnp
  intro H locs ls hP hD hS hl
  exact lv_icmp_eq hx hb hd ht (fun q => kt q (by rw [if_pos q] at hF; exact hF) H locs ls hP hD hS hl) (fun q => kf q (by rw [if_neg q] at hF; exact hF) H locs ls hP hD hS hl)
theorem g_icmp_ne {α : Type} {a b : Option α} {z : α} (h : Ok l D cI cZ E cc nL y Ts rm) {x w : Int32} {off : Int} {tg : Nat} (hF : (if x = w then a else b) = some z) (hd : decode cc pc = .ok (.if_icmp .ne off, 3)) (hnp : pc + 3 = np) (ht : (pc : Int) + off = (tg : Int)) (kt : ¬ x = w → b = some z → G l D E nL k n Wd tg lv st) (kf : x = w → a = some z → G l D E nL k n Wd np lv st) : G l D E nL k n Wd pc lv (.int w :: .int x :: st) := by
  obtain ⟨p, e, R, s, m, args, below, meth, c, Q, A⟩ := E
  obtain ⟨hx, hb, hml, hown, hts, hK, hN, hA, hRm, hnm⟩ := h
  subst hnp
  intro H locs ls hP hD hS hl
  exact lv_icmp_ne hx hb hd ht (fun q => kt q (by rw [if_neg q] at hF; exact hF) H locs ls hP hD hS hl) (fun q => kf q (by rw [if_pos q] at hF; exact hF) H locs ls hP hD hS hl)
theorem g_icmp_lt {α : Type} {a b : Option α} {z : α} (h : Ok l D cI cZ E cc nL y Ts rm) {x w : Int32} {off : Int} {tg : Nat} (hF : (if x < w then a else b) = some z) (hd : decode cc pc = .ok (.if_icmp .lt off, 3)) (hnp : pc + 3 = np) (ht : (pc : Int) + off = (tg : Int)) (kt : x < w → a = some z → G l D E nL k n Wd tg lv st) (kf : ¬ x < w → b = some z → G l D E nL k n Wd np lv st) : G l D E nL k n Wd pc lv (.int w :: .int x :: st) := by
  obtain ⟨p, e, R, s, m, args, below, meth, c, Q, A⟩ := E
  obtain ⟨hx, hb, hml, hown, hts, hK, hN, hA, hRm, hnm⟩ := h
  subst hnp
  intro H locs ls hP hD hS hl
  exact lv_icmp_lt hx hb hd ht (fun q => kt q (by rw [if_pos q] at hF; exact hF) H locs ls hP hD hS hl) (fun q => kf q (by rw [if_neg q] at hF; exact hF) H locs ls hP hD hS hl)
theorem g_icmp_ge {α : Type} {a b : Option α} {z : α} (h : Ok l D cI cZ E cc nL y Ts rm) {x w : Int32} {off : Int} {tg : Nat} (hF : (if w ≤ x then a else b) = some z) (hd : decode cc pc = .ok (.if_icmp .ge off, 3)) (hnp : pc + 3 = np) (ht : (pc : Int) + off = (tg : Int)) (kt : w ≤ x → a = some z → G l D E nL k n Wd tg lv st) (kf : ¬ w ≤ x → b = some z → G l D E nL k n Wd np lv st) : G l D E nL k n Wd pc lv (.int w :: .int x :: st) := by
  obtain ⟨p, e, R, s, m, args, below, meth, c, Q, A⟩ := E
  obtain ⟨hx, hb, hml, hown, hts, hK, hN, hA, hRm, hnm⟩ := h
  subst hnp
  intro H locs ls hP hD hS hl
  exact lv_icmp_ge hx hb hd ht (fun q => kt q (by rw [if_pos q] at hF; exact hF) H locs ls hP hD hS hl) (fun q => kf q (by rw [if_neg q] at hF; exact hF) H locs ls hP hD hS hl)
theorem g_icmp_gt {α : Type} {a b : Option α} {z : α} (h : Ok l D cI cZ E cc nL y Ts rm) {x w : Int32} {off : Int} {tg : Nat} (hF : (if w < x then a else b) = some z) (hd : decode cc pc = .ok (.if_icmp .gt off, 3)) (hnp : pc + 3 = np) (ht : (pc : Int) + off = (tg : Int)) (kt : w < x → a = some z → G l D E nL k n Wd tg lv st) (kf : ¬ w < x → b = some z → G l D E nL k n Wd np lv st) : G l D E nL k n Wd pc lv (.int w :: .int x :: st) := by
  obtain ⟨p, e, R, s, m, args, below, meth, c, Q, A⟩ := E
  obtain ⟨hx, hb, hml, hown, hts, hK, hN, hA, hRm, hnm⟩ := h
  subst hnp
  intro H locs ls hP hD hS hl
  exact lv_icmp_gt hx hb hd ht (fun q => kt q (by rw [if_pos q] at hF; exact hF) H locs ls hP hD hS hl) (fun q => kf q (by rw [if_neg q] at hF; exact hF) H locs ls hP hD hS hl)
theorem g_icmp_le {α : Type} {a b : Option α} {z : α} (h : Ok l D cI cZ E cc nL y Ts rm) {x w : Int32} {off : Int} {tg : Nat} (hF : (if x ≤ w then a else b) = some z) (hd : decode cc pc = .ok (.if_icmp .le off, 3)) (hnp : pc + 3 = np) (ht : (pc : Int) + off = (tg : Int)) (kt : x ≤ w → a = some z → G l D E nL k n Wd tg lv st) (kf : ¬ x ≤ w → b = some z → G l D E nL k n Wd np lv st) : G l D E nL k n Wd pc lv (.int w :: .int x :: st) := by
  obtain ⟨p, e, R, s, m, args, below, meth, c, Q, A⟩ := E
  obtain ⟨hx, hb, hml, hown, hts, hK, hN, hA, hRm, hnm⟩ := h
  subst hnp
  intro H locs ls hP hD hS hl
  exact lv_icmp_le hx hb hd ht (fun q => kt q (by rw [if_pos q] at hF; exact hF) H locs ls hP hD hS hl) (fun q => kf q (by rw [if_neg q] at hF; exact hF) H locs ls hP hD hS hl)
theorem g_goto (h : Ok l D cI cZ E cc nL y Ts rm) {off : Int} (hd : decode cc pc = .ok (.goto off, 3)) (ht : (pc : Int) + off = (np : Int)) (kk : G l D E nL k n Wd np lv st) : G l D E nL k n Wd pc lv st := by
  obtain ⟨p, e, R, s, m, args, below, meth, c, Q, A⟩ := E
  obtain ⟨hx, hb, hml, hown, hts, hK, hN, hA, hRm, hnm⟩ := h
  intro H locs ls hP hD hS hl
  exact lv_goto hx hb hd ht (kk H locs ls hP hD hS hl)
theorem g_tsIn (h : Ok l D cI cZ E cc nL y Ts rm) {dflt lo hi : Int} {offs : Array Int} {len : Nat} {x : Int32} {off : Int} (hd : decode cc pc = .ok (.tableswitch dflt lo hi offs, len)) (xi : Int) (hxi : x.toInt = xi) (h1 : ¬ xi < lo) (h2 : ¬ hi < xi) (ho : offs[(xi - lo).toNat]? = some off) (ht : (pc : Int) + off = (np : Int)) (kk : G l D E nL k n Wd np lv st) : G l D E nL k n Wd pc lv (.int x :: st) := by
  obtain ⟨p, e, R, s, m, args, below, meth, c, Q, A⟩ := E
  obtain ⟨hx, hb, hml, hown, hts, hK, hN, hA, hRm, hnm⟩ := h
  subst hxi
  intro H locs ls hP hD hS hl
  exact lv_tableIn hx hb hd h1 h2 ho ht (kk H locs ls hP hD hS hl)
theorem g_tsOut (h : Ok l D cI cZ E cc nL y Ts rm) {dflt lo hi : Int} {offs : Array Int} {len : Nat} {x : Int32} (hd : decode cc pc = .ok (.tableswitch dflt lo hi offs, len)) (h1 : x.toInt < lo ∨ hi < x.toInt) (ht : (pc : Int) + dflt = (np : Int)) (kk : G l D E nL k n Wd np lv st) : G l D E nL k n Wd pc lv (.int x :: st) := by
  obtain ⟨p, e, R, s, m, args, below, meth, c, Q, A⟩ := E
  obtain ⟨hx, hb, hml, hown, hts, hK, hN, hA, hRm, hnm⟩ := h
  intro H locs ls hP hD hS hl
  exact lv_tableOut hx hb hd h1 ht (kk H locs ls hP hD hS hl)
/-- a part of the state gets a name, in the pure residue too -/
theorem g_nm {S β : Type} {K : S → Option β} {z : β} {x : S} (P : S → Prop) (hF : bnd x K = some z) (kk : ∀ v : S, v = x → K v = some z → P v) : P x := kk x rfl hF
/-- the value on top gets a name, in the pure residue too -/
theorem g_top {β : Type} {K : Int32 → Option β} {z : β} {v : Int32} (hF : bnd v K = some z) (kk : ∀ x : Int32, x = v → K x = some z → G l D E nL k n Wd pc lv (.int x :: st)) : G l D E nL k n Wd pc lv (.int v :: st) := kk v rfl hF
theorem g_topl {β : Type} {K : Int64 → Option β} {z : β} {v : Int64} (hF : bnd v K = some z) (kk : ∀ x : Int64, x = v → K x = some z → G l D E nL k n Wd pc lv (.long x :: st)) : G l D E nL k n Wd pc lv (.long v :: st) := kk v rfl hF
theorem g_get (h : Ok l D cI cZ E cc nL y Ts rm) {C : String} {T : u_T} {N ix : Nat} (hin : ∀ w ∈ u_ws C T N, w ∈ Ts) (q0 ci : Nat) {a : Nat} {fs : List Value} (he : Wd[q0]? = some (a, .inr (ci, fs))) (hc : cls[ci]? = some (C, T, N)) (j : Nat) (hj : j < N) (hlk : Cond.fieldLink y.cls ix (T j).1 (T j).2.1 (T j).2.2.1 ∈ Ts) {v : Value} (hv : fs[j]? = some v) (hd : decode cc pc = .ok (.getfield ix, 3)) (hnp : pc + 3 = np) (kk : G l D E nL k n Wd np lv (v :: st)) : G l D E nL k n Wd pc lv (.ref a :: st) := by
  obtain ⟨p, e, R, s, m, args, below, meth, c, Q, A⟩ := E
  obtain ⟨hx, hb, hml, hown, hts, hK, hN, hA, hRm, hnm⟩ := h
  subst hnp
  intro H locs ls hP hD hS hl
  exact va_get hx hb hts hin hown hK hP q0 he hc j hj (hts _ hlk) (fun _ h9 => h9) hv hd (kk H locs ls hP hD hS hl)
theorem g_put (h : Ok l D cI cZ E cc nL y Ts rm) {C : String} {T : u_T} {N ix : Nat} (hin : ∀ w ∈ u_ws C T N, w ∈ Ts) {ty0 : Nat → FieldType} (hty : ∀ k, k < N → parseFieldDescriptor (T k).2.2.1 = some (ty0 k)) (hnm2 : ∀ a, a < N → ∀ b, b < N → a ≠ b → (T a).2.1 ≠ (T b).2.1) (q0 ci : Nat) {a : Nat} {fs : List Value} (he : Wd[q0]? = some (a, .inr (ci, fs))) (hc : cls[ci]? = some (C, T, N)) (j : Nat) (hj : j < N) (hlk : Cond.fieldLink y.cls ix (T j).1 (T j).2.1 (T j).2.2.1 ∈ Ts) (hfin : (T j).2.2.2 = false) {v : Value} (hn : narrow (ty0 j) v = v) (hfit : fits (ty0 j) v = true) (hl2 : j < fs.length) (hw : Wd.set q0 (a, .inr (ci, fs.set j v)) = Wd') (hd : decode cc pc = .ok (.putfield ix, 3)) (hnp : pc + 3 = np) (kk : G l D E nL k n Wd' np lv st) : G l D E nL k n Wd pc lv (v :: .ref a :: st) := by
  obtain ⟨p, e, R, s, m, args, below, meth, c, Q, A⟩ := E
  obtain ⟨hx, hb, hml, hown, hts, hK, hN, hA, hRm, hnm⟩ := h
  subst hnp
  intro H locs ls hP hD hS hl
  subst hw
  exact va_put hx hb hts hin ty0 hty hnm2 hown hK hP hD hS q0 he hc j hj (hts _ hlk) (fun _ h9 => h9) hfin (hty j hj) hn hfit hl2 hd (fun H locs hP hD hS => kk H locs ls hP hD hS hl)
theorem g_putF (h : Ok l D cI cZ E cc nL y Ts rm) {C : String} {T : u_T} {N ix : Nat} (hin : ∀ w ∈ u_ws C T N, w ∈ Ts) {ty0 : Nat → FieldType} (hty : ∀ k, k < N → parseFieldDescriptor (T k).2.2.1 = some (ty0 k)) (hnm2 : ∀ a, a < N → ∀ b, b < N → a ≠ b → (T a).2.1 ≠ (T b).2.1) (q0 ci : Nat) {a : Nat} {fs : List Value} (he : Wd[q0]? = some (a, .inr (ci, fs))) (hc : cls[ci]? = some (C, T, N)) (j : Nat) (hj : j < N) (hlk : Cond.fieldLink y.cls ix (T j).1 (T j).2.1 (T j).2.2.1 ∈ Ts) (hfin : (T j).2.2.2 = true) (hini : y.name = "<init>") (hdc : (T j).1 = y.cls) {v : Value} (hn : narrow (ty0 j) v = v) (hfit : fits (ty0 j) v = true) (hl2 : j < fs.length) (hw : Wd.set q0 (a, .inr (ci, fs.set j v)) = Wd') (hd : decode cc pc = .ok (.putfield ix, 3)) (hnp : pc + 3 = np) (kk : G l D E nL k n Wd' np lv st) : G l D E nL k n Wd pc lv (v :: .ref a :: st) := by
  obtain ⟨p, e, R, s, m, args, below, meth, c, Q, A⟩ := E
  obtain ⟨hx, hb, hml, hown, hts, hK, hN, hA, hRm, hnm⟩ := h
  subst hnp
  intro H locs ls hP hD hS hl
  subst hw
  exact va_putF hx hb hts hin ty0 hty hnm2 hown hK hP hD hS q0 he hc j hj (hts _ hlk) (fun _ h9 => h9) hfin (hnm.trans hini) hdc (hty j hj) hn hfit hl2 hd (fun H locs hP hD hS => kk H locs ls hP hD hS hl)
theorem g_alen (h : Ok l D cI cZ E cc nL y Ts rm) (q0 : Nat) {a N : Nat} {f : Nat → Int32} (ha : Wd[q0]? = some (a, .inl (cI, N, .inl f))) {v : Int32} (hv : Int32.ofNat N = v) (hd : decode cc pc = .ok (.arraylength, 1)) (hnp : pc + 1 = np) (kk : G l D E nL k n Wd np lv (.int v :: st)) : G l D E nL k n Wd pc lv (.ref a :: st) := by
  obtain ⟨p, e, R, s, m, args, below, meth, c, Q, A⟩ := E
  obtain ⟨hx, hb, hml, hown, hts, hK, hN, hA, hRm, hnm⟩ := h
  subst hnp
  intro H locs ls hP hD hS hl
  exact va_alen hx hb hK hP q0 0 ha rfl hv hd (kk H locs ls hP hD hS hl)
theorem g_iald (h : Ok l D cI cZ E cc nL y Ts rm) {α : Type} {K : Option α} {z : α} (q0 : Nat) {a N : Nat} {f : Nat → Int32} {i : Int32} (ha : Wd[q0]? = some (a, .inl (cI, N, .inl f))) (hF : chk i N K = some z) (hd : decode cc pc = .ok (.iaload, 1)) (hnp : pc + 1 = np) (kk : vp_in i N → K = some z → G l D E nL k n Wd np lv (.int (rd f i) :: st)) : G l D E nL k n Wd pc lv (.int i :: .ref a :: st) := by
  obtain ⟨p, e, R, s, m, args, below, meth, c, Q, A⟩ := E
  obtain ⟨hx, hb, hml, hown, hts, hK, hN, hA, hRm, hnm⟩ := h
  subst hnp
  intro H locs ls hP hD hS hl
  exact va_iald hx hb hK hP q0 0 ha rfl (chk_e hF).1 hd (kk (chk_e hF).1 (chk_e hF).2 H locs ls hP hD hS hl)
theorem g_zald (h : Ok l D cI cZ E cc nL y Ts rm) {α : Type} {K : Option α} {z : α} (q0 : Nat) {a N : Nat} {f : Nat → Int32} {i : Int32} (ha : Wd[q0]? = some (a, .inl (cZ, N, .inl f))) (hF : chk i N K = some z) (hd : decode cc pc = .ok (.baload, 1)) (hnp : pc + 1 = np) (kk : vp_in i N → K = some z → G l D E nL k n Wd np lv (.int (rd f i) :: st)) : G l D E nL k n Wd pc lv (.int i :: .ref a :: st) := by
  obtain ⟨p, e, R, s, m, args, below, meth, c, Q, A⟩ := E
  obtain ⟨hx, hb, hml, hown, hts, hK, hN, hA, hRm, hnm⟩ := h
  subst hnp
  intro H locs ls hP hD hS hl
  exact va_zald hx hb hK hP q0 1 ha rfl (chk_e hF).1 hd (kk (chk_e hF).1 (chk_e hF).2 H locs ls hP hD hS hl)
theorem g_iast (h : Ok l D cI cZ E cc nL y Ts rm) {α : Type} {K : Option α} {z : α} (q0 : Nat) {a N : Nat} {f : Nat → Int32} {i x : Int32} (ha : Wd[q0]? = some (a, .inl (cI, N, .inl f))) (hF : chk i N K = some z) (hw : Wd.set q0 (a, .inl (cI, N, .inl (wr f i x))) = Wd') (hd : decode cc pc = .ok (.iastore, 1)) (hnp : pc + 1 = np) (kk : vp_in i N → K = some z → G l D E nL k n Wd' np lv st) : G l D E nL k n Wd pc lv (.int x :: .int i :: .ref a :: st) := by
  obtain ⟨p, e, R, s, m, args, below, meth, c, Q, A⟩ := E
  obtain ⟨hx, hb, hml, hown, hts, hK, hN, hA, hRm, hnm⟩ := h
  subst hnp
  intro H locs ls hP hD hS hl
  subst hw
  exact va_iast hx hb hK hP hD hS q0 0 ha rfl (chk_e hF).1 hd (fun H locs hP hD hS => kk (chk_e hF).1 (chk_e hF).2 H locs ls hP hD hS hl)
theorem g_zast (h : Ok l D cI cZ E cc nL y Ts rm) {α : Type} {K : Option α} {z : α} (q0 : Nat) {a N : Nat} {f : Nat → Int32} {i x : Int32} (ha : Wd[q0]? = some (a, .inl (cZ, N, .inl f))) (hF : chk i N K = some z) (hw : Wd.set q0 (a, .inl (cZ, N, .inl (wr f i (vp_nar .boolean x)))) = Wd') (hd : decode cc pc = .ok (.bastore, 1)) (hnp : pc + 1 = np) (kk : vp_in i N → K = some z → G l D E nL k n Wd' np lv st) : G l D E nL k n Wd pc lv (.int x :: .int i :: .ref a :: st) := by
  obtain ⟨p, e, R, s, m, args, below, meth, c, Q, A⟩ := E
  obtain ⟨hx, hb, hml, hown, hts, hK, hN, hA, hRm, hnm⟩ := h
  subst hnp
  intro H locs ls hP hD hS hl
  subst hw
  exact va_zast hx hb hK hP hD hS q0 1 ha rfl (chk_e hF).1 hd (fun H locs hP hD hS => kk (chk_e hF).1 (chk_e hF).2 H locs ls hP hD hS hl)
/-- the core of every call -/
theorem g_core {p : Program} {e : Env} {R : Room} {s : State} {m : MethodId} {args : Array Value} {below : List Frame} {meth : Method} {c : Code} {Q : State → Prop} {A : Nat → Prop} {H : Heap} {locs : List Loc} {ls : Array Slot} {a0 : Array Value} {Wc Wc' : va_W} {vr : Option Value} {st0 : List Value}
    (hr : va_Run p l e R s m args below meth c H locs k n 0 0 (F0 m pc ls st0) st (Po D Wc H.size vr (fun _ => Wc') a0) (va_A Wc H.size)) (hP : va_P D cls Wd H) (hD : va_D A Wd) (hS : va_S A s.heap H locs) (hA : ∀ q, s.heap.size ≤ q → A q) (is isR : List Nat) {N : Nat} (hn : ckp is isR N = true) (hC : is.map (fun i => Wd[i]?) = Wc.map some) (h1 : is.map (fun i => Wd'[i]?) = Wc'.map some) (h2 : isR.map (fun i => Wd'[i]?) = isR.map (fun i => Wd[i]?)) (hN' : Wd'.length = N) (hf : Wd'.map Prod.fst = Wd.map Prod.fst)
    (kk : ∀ (H1 : Heap) (locs1 : List Loc), va_P D cls Wd' H1 → va_D A Wd' → va_S A s.heap H1 locs1 → W p l e R s m args below meth c H1 locs1 k n Q (F0 m (pc + 3) ls (vr.toList ++ st))) : W p l e R s m args below meth c H locs k n Q (F0 m pc ls st0) := by
  have hFc := va_free (wc := Wc) hD hS hA is hC
  intro T hT X
  obtain ⟨v, st₀, t, T', L, h0, X', hL, e1, e2, ⟨⟨hv, u, hp, -⟩, hz, hk⟩, stp⟩ := hr T hT X
  cases hv
  rw [h0] at hz hk
  obtain ⟨hP1, hD1⟩ := stl_P hP hD is isR hn hC h1 h2 hN' hf hk hp
  obtain ⟨t2, a1, b1⟩ := kk T'.heap (locs ++ L) (by rw [e1]; exact hP1) hD1 ⟨Nat.le_trans hS.1 (by rw [e1]; exact hz), fun q h1 h2 => by rw [e1, hk q (Nat.lt_of_lt_of_le h1 hS.1) (fun z => h2 (hFc q z))]; exact hS.2.1 q h1 h2, fun q hq => by
      rcases List.mem_append.mp hq with h | h
      · exact hS.2.2 q h
      · exact hFc _ (hL q h)⟩ T' rfl X'
  exact ⟨t2, stp t2 a1, b1⟩
theorem g_coreC {p : Program} {e : Env} {R : Room} {s : State} {m : MethodId} {args : Array Value} {below : List Frame} {meth : Method} {c : Code} {Q : State → Prop} {A : Nat → Prop} {H : Heap} {locs : List Loc} {ls : Array Slot} {a0 : Array Value} {Wr Wc : va_W} {Wc' : (Nat → Nat) → va_W} {mc ms : Nat} {st0 : List Value}
    (hr : va_Run p l e R s m args below meth c H locs k n mc ms (F0 m pc ls st0) st (Po D Wc H.size none Wc' a0) (va_A Wc H.size)) (hP : va_P D cls (Wr ++ Wc) H) (hD : va_D A (Wr ++ Wc)) (hS : va_S A s.heap H locs) (hA : ∀ q, s.heap.size ≤ q → A q)
    (kk : ∀ (u : Nat → Nat) (H1 : Heap) (locs1 : List Loc), va_P D cls (Wr ++ Wc' u) H1 → va_D A (Wr ++ Wc' u) → va_S A s.heap H1 locs1 → W p l e R s m args below meth c H1 locs1 (k + mc) (n + ms) Q (F0 m (pc + 3) ls st)) : W p l e R s m args below meth c H locs k n Q (F0 m pc ls st0) := by
  have hisC : (List.range' Wr.length Wc.length).map (fun i => (Wr ++ Wc)[i]?) = Wc.map some := by
    refine List.ext_getElem? (fun j => ?_)
    rw [List.getElem?_map, List.getElem?_map]
    by_cases hj : j < Wc.length
    · rw [List.getElem?_range' hj]
      simp only [Option.map_some, Nat.one_mul]
      rw [List.getElem?_append_right (by omega), Nat.add_sub_cancel_left, List.getElem?_eq_getElem hj]
      rfl
    · rw [List.getElem?_eq_none (by simpa using hj), List.getElem?_eq_none (by simpa using hj)]
      rfl
  have hisR : (List.range Wr.length).map (fun i => (Wr ++ Wc)[i]?) = Wr.map some := by
    refine List.ext_getElem? (fun j => ?_)
    rw [List.getElem?_map, List.getElem?_map]
    by_cases hj : j < Wr.length
    · rw [List.getElem?_range hj]
      simp only [Option.map_some]
      rw [List.getElem?_append_left hj, List.getElem?_eq_getElem hj]
      rfl
    · rw [List.getElem?_eq_none (by simpa using hj), List.getElem?_eq_none (by simpa using hj)]
      rfl
  have hnd : ∀ (N b : Nat), va_nd (List.range' b N) = true := by
    intro N
    induction N with
    | zero => intro b; rfl
    | succ N ih =>
      intro b
      rw [List.range'_succ]
      simp only [va_nd, Bool.and_eq_true, decide_eq_true_eq]
      exact ⟨fun h => by have := (List.mem_range'_1.mp h).1; omega, ih (b + 1)⟩
  have hFc := va_free (wc := Wc) hD hS hA _ hisC
  intro T hT X
  obtain ⟨v, st₀, t, T', L, h0, X', hL, e1, e2, ⟨⟨hv, u, hp, hd1⟩, hz, hk⟩, stp⟩ := hr T hT X
  cases hv
  rw [h0] at hz hk
  obtain ⟨hP1, hD1⟩ := va_join (wr := Wr) (w1 := Wc' u) hP hD (List.range' Wr.length Wc.length) (List.range Wr.length) hisC hisR (by rw [List.range_eq_range']; exact hnd _ _) (fun i hi h2 => by have h3 := List.mem_range.mp hi; have h4 := (List.mem_range'_1.mp h2).1; omega) hk hFc hp hd1
  obtain ⟨t2, a1, b1⟩ := kk u T'.heap (locs ++ L) (by rw [e1]; exact hP1) hD1 ⟨Nat.le_trans hS.1 (by rw [e1]; exact hz), fun q h1 h2 => by rw [e1, hk q (Nat.lt_of_lt_of_le h1 hS.1) (fun z => h2 (hFc q z))]; exact hS.2.1 q h1 h2, fun q hq => by
      rcases List.mem_append.mp hq with h | h
      · exact hS.2.2 q h
      · exact hFc _ (hL q h)⟩ T' rfl X'
  exact ⟨t2, stp t2 a1, b1⟩
/-- what a callee's start asks -/
theorem pr_of {s : State} {A : Nat → Prop} {H : Heap} {Wc : va_W} {av : List Value} {is : List Nat} (hP : va_P D cls Wd H) (hD : va_D A Wd) (hK : va_K D cls (ty2 cI cZ) s) (hN : nsOk s) (hn : va_nd is = true) (hC : is.map (fun i => Wd[i]?) = Wc.map some) : ∀ U : State, U.heap = H → s.WarmedH U.vm → Pr D cI cZ Wc av H.size av.toArray U := by
  intro U hU hW
  have hPc : va_P D cls Wc H := by
    intro j q hq
    have h1 : (is.map (fun i => Wd[i]?))[j]? = some (some q) := by rw [hC, List.getElem?_map, hq]; rfl
    rw [List.getElem?_map] at h1
    cases hi : is[j]? with
    | none => rw [hi] at h1; cases h1
    | some i => rw [hi] at h1; exact hP i q (Option.some.inj h1)
  exact ⟨rfl, by rw [hU], by rw [hU]; exact hPc, va_K.moved hW.alike hK, (hD.sub is hn hC).weaken (fun _ _ _ _ => trivial), hN.warm hW⟩

/-- invokevirtual -/
theorem g_callV (h : Ok l D cI cZ E cc nL y Ts rm) {C : String} {b : Nat} {ix : Nat} {yc : MethodName} {bytes : ByteArray} {maxL na : Nat} {ret : Option FieldType} {wsc wsc' : List Cond} {rmc : Room} {As : List Value} {Wc Wc' : va_W} {vr : Option Value} {lvs : List Value} (hM : mp l yc wsc rmc D cI cZ (.ref b :: As) Wc vr Wc') (hG : GoodIn Ts (wsV y.cls ix C yc wsc)) (hw : wsc = Cond.code yc bytes maxL ret :: wsc') (hrc : rmc.cells = 0 ∧ rmc.slots = 0) (hy : yc.cls = C ∧ yc.cls ≠ "java/lang/invoke/MethodHandle" ∧ yc.cls ≠ "java/lang/invoke/VarHandle" ∧ (parseMethodDescriptor yc.desc).map (fun d => d.parameters.length) = some na) (hR : (Nat.ble (rmc.frames + 1) rm.frames && Nat.ble (8 + (maxL + 11) + rmc.locals) rm.locals) = true)
    (ci q0 : Nat) {q : vw_C} {fs : List Value} (hcl : cls[ci]? = some q) (hqC : q.1 = C) (he : Wd[q0]? = some (b, .inr (ci, fs))) (hlen : As.length = na) (hst : lvs = As.reverse ++ .ref b :: st) (hcat : Nat.ble (st.map fun v => v.category).sum 8 = true) (hkn : k ≤ rm.cells ∧ n ≤ rm.slots)
    (is isR : List Nat) {N : Nat} (hn : ckp is isR N = true) (hC : pkc Wd is = Wc.map some) (h1 : pkc Wd' is = Wc'.map some) (h2 : pkc Wd' isR = pkc Wd isR) (hN' : Wd'.length = N) (hf : Wd'.map Prod.fst = Wd.map Prod.fst) (hd : decode cc pc = .ok (.invokevirtual ix, 3)) (hnp : pc + 3 = np)
    (kk : G l D E nL k n Wd' np lv (vr.toList ++ st)) : G l D E nL k n Wd pc lv lvs := by
  obtain ⟨p, e, R, s, m, args, below, meth, c, Q, A⟩ := E
  obtain ⟨hx, hb, hml, hown, hts, hK, hN, hA, hRm, hnm⟩ := h
  subst hnp
  intro H locs ls hP hD hS hl
  rw [pkc_eq] at hC h1; rw [pkc_eq, pkc_eq] at h2; subst hst; subst hRm; subst hqC
  rw [Bool.and_eq_true] at hR
  exact g_core (va_runV (As := As) (rest := st) ⟨hx, hb, hml, hown, hts⟩ (hM H.size) (cwV na hts hG hw hrc.1 hrc.2 hy ⟨Nat.le_of_ble_eq_true hR.1, Nat.le_of_ble_eq_true hR.2⟩) ⟨Pr_blind, va_recv hK hP hcl he, pr_of hP hD hK hN (ckp_nd hn) hC⟩ rfl hlen hl.1 rfl (lv_room (Nat.le_of_ble_eq_true hcat)) hd hkn) hP hD hS hA is isR hn hC h1 h2 hN' hf (fun H locs hP hD hS => kk H locs ls hP hD hS hl)
/-- invokestatic, the same class or a public one -/
theorem g_callS (h : Ok l D cI cZ E cc nL y Ts rm) {ix : Nat} {yc : MethodName} {bytes : ByteArray} {maxL na : Nat} {ret : Option FieldType} {wsc wsc' : List Cond} {rmc : Room} {As : List Value} {Wc Wc' : va_W} {vr : Option Value} {lvs : List Value} (hM : mp l yc wsc rmc D cI cZ As Wc vr Wc') (hG : GoodIn Ts (va_wsS y.cls ix yc wsc)) (hw : wsc = Cond.code yc bytes maxL ret :: wsc') (hrc : rmc.cells = 0 ∧ rmc.slots = 0) (hy : yc.cls ≠ "java/lang/invoke/MethodHandle" ∧ yc.cls ≠ "java/lang/invoke/VarHandle" ∧ (parseMethodDescriptor yc.desc).map (fun d => d.parameters.length) = some na) (hR : (Nat.ble (rmc.frames + 1) rm.frames && Nat.ble (8 + (maxL + 11) + rmc.locals) rm.locals) = true)
    (hlen : As.length = na) (hst : lvs = As.reverse ++ st) (hcat : Nat.ble (st.map fun v => v.category).sum 8 = true) (hkn : k ≤ rm.cells ∧ n ≤ rm.slots)
    (is isR : List Nat) {N : Nat} (hn : ckp is isR N = true) (hC : pkc Wd is = Wc.map some) (h1 : pkc Wd' is = Wc'.map some) (h2 : pkc Wd' isR = pkc Wd isR) (hN' : Wd'.length = N) (hf : Wd'.map Prod.fst = Wd.map Prod.fst) (hd : decode cc pc = .ok (.invokestatic ix, 3)) (hnp : pc + 3 = np)
    (kk : G l D E nL k n Wd' np lv (vr.toList ++ st)) : G l D E nL k n Wd pc lv lvs := by
  obtain ⟨p, e, R, s, m, args, below, meth, c, Q, A⟩ := E
  obtain ⟨hx, hb, hml, hown, hts, hK, hN, hA, hRm, hnm⟩ := h
  subst hnp
  intro H locs ls hP hD hS hl
  rw [pkc_eq] at hC h1; rw [pkc_eq, pkc_eq] at h2; subst hst; subst hRm
  rw [Bool.and_eq_true] at hR
  exact g_core (va_runS (As := As) (rest := st) ⟨hx, hb, hml, hown, hts⟩ (hM H.size) (va_cwS na hts hG hw hrc.1 hrc.2 hy ⟨Nat.le_of_ble_eq_true hR.1, Nat.le_of_ble_eq_true hR.2⟩) ⟨Pr_blind, pr_of hP hD hK hN (ckp_nd hn) hC⟩ rfl hlen hl.1 rfl (lv_room (Nat.le_of_ble_eq_true hcat)) hd hkn) hP hD hS hA is isR hn hC h1 h2 hN' hf (fun H locs hP hD hS => kk H locs ls hP hD hS hl)
/-- invokestatic, a private one of a nest mate -/
theorem g_callN (h : Ok l D cI cZ E cc nL y Ts rm) {ix : Nat} {yc : MethodName} {bytes : ByteArray} {maxL na : Nat} {ret : Option FieldType} {wsc wsc' : List Cond} {rmc : Room} {As : List Value} {Wc Wc' : va_W} {vr : Option Value} {lvs : List Value} (hM : mp l yc wsc rmc D cI cZ As Wc vr Wc') (hG : GoodIn Ts wsc) (hw : wsc = Cond.code yc bytes maxL ret :: wsc') (hrc : rmc.cells = 0 ∧ rmc.slots = 0) (hnest : (y.cls, ix, yc, yc.cls) ∈ nsl) (hini : Cond.initialized yc.cls ∈ Ts) (hstt : Cond.static yc ∈ Ts) (hy : yc.cls ≠ "java/lang/invoke/MethodHandle" ∧ yc.cls ≠ "java/lang/invoke/VarHandle" ∧ (parseMethodDescriptor yc.desc).map (fun d => d.parameters.length) = some na) (hR : (Nat.ble (rmc.frames + 1) rm.frames && Nat.ble (8 + (maxL + 11) + rmc.locals) rm.locals) = true)
    (hlen : As.length = na) (hst : lvs = As.reverse ++ st) (hcat : Nat.ble (st.map fun v => v.category).sum 8 = true) (hkn : k ≤ rm.cells ∧ n ≤ rm.slots)
    (is isR : List Nat) {N : Nat} (hn : ckp is isR N = true) (hC : pkc Wd is = Wc.map some) (h1 : pkc Wd' is = Wc'.map some) (h2 : pkc Wd' isR = pkc Wd isR) (hN' : Wd'.length = N) (hf : Wd'.map Prod.fst = Wd.map Prod.fst) (hd : decode cc pc = .ok (.invokestatic ix, 3)) (hnp : pc + 3 = np)
    (kk : G l D E nL k n Wd' np lv (vr.toList ++ st)) : G l D E nL k n Wd pc lv lvs := by
  obtain ⟨p, e, R, s, m, args, below, meth, c, Q, A⟩ := E
  obtain ⟨hx, hb, hml, hown, hts, hK, hN, hA, hRm, hnm⟩ := h
  subst hnp
  intro H locs ls hP hD hS hl
  rw [pkc_eq] at hC h1; rw [pkc_eq, pkc_eq] at h2; subst hst; subst hRm
  rw [Bool.and_eq_true] at hR
  exact g_core (va_runSN (As := As) (rest := st) ⟨hx, hb, hml, hown, hts⟩ (hM H.size) ⟨va_cnB na hts hG hw hrc.1 hrc.2 (hN _ hnest) (hts _ hini) hy ⟨Nat.le_of_ble_eq_true hR.1, Nat.le_of_ble_eq_true hR.2⟩, hts _ hstt, trivial⟩ ⟨Pr_blind, pr_of hP hD hK hN (ckp_nd hn) hC⟩ rfl hlen hl.1 rfl (lv_room (Nat.le_of_ble_eq_true hcat)) hd hkn) hP hD hS hA is isR hn hC h1 h2 hN' hf (fun H locs hP hD hS => kk H locs ls hP hD hS hl)
theorem g_mabs (h : Ok l D cI cZ E cc nL y Ts rm) {ix : Nat} {x : Int32} (w1 : Cond.methodLink y.cls ix Lib.Math.abs.name ∈ Ts) (w2 : Cond.static Lib.Math.abs.name ∈ Ts) (w3 : Cond.initialized "java/lang/Math" ∈ Ts) (w4 : Cond.code Lib.Math.abs.name Lib.Math.abs.code 1 (some .int) ∈ Ts) (hfr : Nat.ble 1 rm.frames = true) (hlo : Nat.ble ((st.map fun v => v.category).sum + 13) rm.locals = true) (hkn : k ≤ rm.cells ∧ n ≤ rm.slots) (hd : decode cc pc = .ok (.invokestatic ix, 3)) (hnp : pc + 3 = np) (kk : G l D E nL k n Wd np lv (.int (jabs x) :: st)) : G l D E nL k n Wd pc lv (.int x :: st) := by
  obtain ⟨p, e, R, s, m, args, below, meth, c, Q, A⟩ := E
  obtain ⟨hx, hb, hml, hown, hts, hK, hN, hA, hRm, hnm⟩ := h
  subst hnp
  intro H locs ls hP hD hS hl
  subst hRm
  exact va_mabs hx hb (hml.trans hl.1.symm) hown (hts _ w1) (hts _ w2) (hts _ w3) (hts _ w4) (Nat.le_of_ble_eq_true hfr) (Nat.le_of_ble_eq_true hlo) hkn.1 hkn.2 hd (kk H locs ls hP hD hS hl)
theorem g_mmax (h : Ok l D cI cZ E cc nL y Ts rm) {ix : Nat} {x z : Int32} (w1 : Cond.methodLink y.cls ix Lib.Math.max.name ∈ Ts) (w2 : Cond.static Lib.Math.max.name ∈ Ts) (w3 : Cond.initialized "java/lang/Math" ∈ Ts) (w4 : Cond.code Lib.Math.max.name Lib.Math.max.code 2 (some .int) ∈ Ts) (hfr : Nat.ble 1 rm.frames = true) (hlo : Nat.ble ((st.map fun v => v.category).sum + 13) rm.locals = true) (hkn : k ≤ rm.cells ∧ n ≤ rm.slots) (hd : decode cc pc = .ok (.invokestatic ix, 3)) (hnp : pc + 3 = np) (kk : G l D E nL k n Wd np lv (.int (jmax x z) :: st)) : G l D E nL k n Wd pc lv (.int z :: .int x :: st) := by
  obtain ⟨p, e, R, s, m, args, below, meth, c, Q, A⟩ := E
  obtain ⟨hx, hb, hml, hown, hts, hK, hN, hA, hRm, hnm⟩ := h
  subst hnp
  intro H locs ls hP hD hS hl
  subst hRm
  exact va_mmax hx hb (hml.trans hl.1.symm) hown (hts _ w1) (hts _ w2) (hts _ w3) (hts _ w4) (Nat.le_of_ble_eq_true hfr) (Nat.le_of_ble_eq_true hlo) hkn.1 hkn.2 hd (kk H locs ls hP hD hS hl)
end GR
