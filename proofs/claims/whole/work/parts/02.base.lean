/-! the words that the methods' contracts carry: those of the tables that a call keeps -/
def gTB : List Cond := lw_tbl.filter goodWord
theorem gTB_at {w : Cond} (i : Nat) (h : lw_tbl[i]? = some w) (hg : goodWord w = true) : w ∈ gTB := List.mem_filter.mpr ⟨List.mem_of_getElem? h, hg⟩
theorem gTB_good : GoodIn gTB gTB := fun w h => ⟨h, good_of_word (List.mem_filter.mp h).2⟩
theorem gTB_lw {w : Cond} (h : w ∈ gTB) : w ∈ lw_tbl := (List.mem_filter.mp h).1
def gws (y : MethodName) (b : ByteArray) (n : Nat) (ret : Option FieldType) : List Cond := Cond.code y b n ret :: gTB
theorem gws_good {y : MethodName} {b : ByteArray} {n : Nat} {ret : Option FieldType} (h : Cond.code y b n ret ∈ gTB) : GoodIn gTB (gws y b n ret) := by
  intro w hw
  rcases List.mem_cons.mp hw with e | hw
  · rw [e]; exact gTB_good _ h
  · exact gTB_good w hw
theorem u_in {C : String} {T : u_T} {N : Nat} {Ts : List Cond} (h : ∀ k, k < N → u_lay C T k ∈ Ts) : ∀ w ∈ u_ws C T N, w ∈ Ts := by
  intro w hw
  obtain ⟨k, hk, rfl⟩ := List.mem_map.mp hw
  exact h k (List.mem_range.mp hk)
/-! the world: 46 cells, of the class (0 .. 31) and of the reference (32 .. 45) -/
abbrev gM : Type := Nat → Nat → Int32
abbrev gJ : Type := Nat → Int64
abbrev gE : Type := (Nat → Nat) × va_G × ClassId × ClassId × ClassId × ClassId
def gL (E : gE) (k : Nat) : Nat := E.1 k
def gD (E : gE) : va_G := E.2.1
def gI (E : gE) : ClassId := E.2.2.1
def gJc (E : gE) : ClassId := E.2.2.2.1
def gRc (E : gE) : ClassId := E.2.2.2.2.1
def gSc (E : gE) : ClassId := E.2.2.2.2.2
def gty (E : gE) : List (ClassId × FieldType) := [(gI E, .int), (gJc E, .long), (gRc E, .object RX3), (gSc E, .object RX4)]
def gen0 (E : gE) (f g : Nat → Int32) (t : gJ) (id : Nat) : va_E :=
  if id < 5 then .inr (3, [.ref (gL E (5 + id)), .int (f 1)])
  else if id < 10 then .inl (gI E, 8, .inl f)
  else if id < 14 then .inr (4, [.ref (gL E (4 + id)), .int (f 1), .int (f 2)])
  else if id < 18 then .inl (gI E, 40, .inl f)
  else if id = 18 then .inr (1, [.ref (gL E 19), .int (f 1)])
  else if id = 19 then .inl (gI E, 10, .inl f)
  else if id = 20 then .inr (2, [.ref (gL E 21), .int (f 1)])
  else if id = 21 then .inl (gI E, 10, .inl f)
  else if id = 22 then .inr (5, [.ref (gL E 23), .ref (gL E 24), .int (f 2)])
  else if id = 23 then .inl (gI E, 512, .inl f)
  else if id = 24 then .inl (gI E, 512, .inl f)
  else if id = 25 then .inr (0, [.ref (gL E 26), .ref (gL E 27), .ref (gL E 28)])
  else if id = 26 then .inl (gI E, 8, .inl f)
  else if id = 27 then .inl (gI E, 8, .inl f)
  else if id = 28 then .inl (gI E, 2560, .inl f)
  else if id = 29 then .inl (gRc E, 3, .inr (.inr (.inr (.inr (fun k => some (gL E (2 + k)))))))
  else if id = 30 then .inl (gSc E, 4, .inr (.inr (.inr (.inr (fun k => some (gL E (10 + k)))))))
  else if id = 31 then .inr (6, [.ref (gL E 0), .ref (gL E 1), .ref (gL E 29), .ref (gL E 30), .ref (gL E 18), .ref (gL E 20), .ref (gL E 22), .ref (gL E 25), .int (f 8), .int (f 9), .int (f 10)])
  else if id = 32 then .inr (7, [.int (g 0), .int (g 1), .ref (gL E 33), .ref (gL E 34), .ref (gL E 35), .int (g 5), .ref (gL E 36), .int (g 7), .ref (gL E 37), .int (g 9), .ref (gL E 38), .ref (gL E 39), .ref (gL E 40), .ref (gL E 41), .ref (gL E 42), .int (g 15), .int (g 16), .ref (gL E 43), .ref (gL E 44), .ref (gL E 45)])
  else if id = 33 then .inl (gI E, 4, .inl g)
  else if id = 34 then .inl (gI E, 4, .inl g)
  else if id = 35 then .inl (gI E, 160, .inl g)
  else if id = 36 then .inl (gI E, 8, .inl g)
  else if id = 37 then .inl (gI E, 10, .inl g)
  else if id = 38 then .inl (gI E, 8, .inl g)
  else if id = 39 then .inl (gI E, 1010, .inl g)
  else if id = 40 then .inl (gI E, 8, .inl g)
  else if id = 41 then .inl (gI E, 3, .inl g)
  else if id = 42 then .inl (gI E, 24, .inl g)
  else if id = 43 then .inl (gI E, 8, .inl g)
  else if id = 44 then .inl (gJc E, 20736, .inr (.inl t))
  else .inl (gI E, 512, .inl g)
def gen (E : gE) (μ ν : gM) (τ : gJ) (id : Nat) : va_E := gen0 E (μ id) (ν id) τ id
def wl (E : gE) (μ ν : gM) (τ : gJ) : va_W := (List.range 46).map (fun id => (gL E id, gen E μ ν τ id))
def gA (E : gE) : Nat → Prop := fun q => ∃ id, id < 46 ∧ q = gL E id
def gLok (E : gE) : Prop := ∀ i j, i < 46 → j < 46 → gL E i = gL E j → i = j
def up2 (μ : gM) (a k : Nat) (v : Int32) : gM := fun j => if j = a then upd (μ a) k v else μ j
def cp2 (μ : gM) (a b sp dp n : Nat) : gM := fun j => if j = b then va_cpy (μ a) (μ b) sp dp n else μ j
theorem up2_s {μ : gM} {a k : Nat} {v : Int32} : up2 μ a k v a = upd (μ a) k v := by simp [up2]
theorem up2_n {μ : gM} {a k j : Nat} {v : Int32} (h : j ≠ a) : up2 μ a k v j = μ j := by simp [up2, h]
theorem cp2_s {μ : gM} {a b sp dp n : Nat} : cp2 μ a b sp dp n b = va_cpy (μ a) (μ b) sp dp n := by simp [cp2]
theorem cp2_n {μ : gM} {a b sp dp n j : Nat} (h : j ≠ b) : cp2 μ a b sp dp n j = μ j := by simp [cp2, h]
theorem wl_at {E : gE} {μ ν : gM} {τ : gJ} {id : Nat} {x : va_E} (h : id < 46) (hx : gen E μ ν τ id = x) : (wl E μ ν τ)[id]? = some (gL E id, x) := by
  rw [← hx]; simp [wl, h]
theorem wl_len {E : gE} {μ ν : gM} {τ : gJ} : (wl E μ ν τ).length = 46 := by simp [wl]
theorem wl_get {E : gE} {μ ν : gM} {τ : gJ} {k : Nat} {q : Nat × va_E} (h : (wl E μ ν τ)[k]? = some q) : k < 46 ∧ q = (gL E k, gen E μ ν τ k) := by
  have hk : k < 46 := by
    have := (List.getElem?_eq_some_iff.mp h).1
    rwa [wl_len] at this
  exact ⟨hk, Option.some.inj (h.symm.trans (wl_at hk rfl))⟩
theorem wl_set {E : gE} {μ ν μ' ν' : gM} {τ τ' : gJ} {id : Nat} {x : va_E} (h : id < 46) (hx : gen E μ' ν' τ' id = x) (ho : ∀ j, j ≠ id → gen E μ' ν' τ' j = gen E μ ν τ j) : (wl E μ ν τ).set id (gL E id, x) = wl E μ' ν' τ' := by
  apply List.ext_getElem?
  intro j
  by_cases hj : j < 46
  · rw [wl_at hj rfl]
    by_cases e : j = id
    · subst e
      rw [List.getElem?_set_self (by rw [wl_len]; exact hj), hx]
    · rw [List.getElem?_set_ne (fun z => e z.symm), wl_at hj rfl, ho j e]
  · rw [List.getElem?_eq_none (by rw [List.length_set, wl_len]; omega), List.getElem?_eq_none (by rw [wl_len]; omega)]
theorem wl_setX {E : gE} {μ ν : gM} {τ : gJ} {id k : Nat} {v : Int32} {x : va_E} (h : id < 46) (hx : gen E (up2 μ id k v) ν τ id = x) : (wl E μ ν τ).set id (gL E id, x) = wl E (up2 μ id k v) ν τ :=
  wl_set h hx (fun j hj => by simp only [gen, up2_n hj])
theorem wl_setM {E : gE} {μ ν : gM} {τ : gJ} {id k : Nat} {v : Int32} {x : va_E} (h : id < 46) (hx : gen E μ (up2 ν id k v) τ id = x) : (wl E μ ν τ).set id (gL E id, x) = wl E μ (up2 ν id k v) τ :=
  wl_set h hx (fun j hj => by simp only [gen, up2_n hj])
theorem wl_setC {E : gE} {μ ν : gM} {τ : gJ} {a id sp dp n : Nat} {x : va_E} (h : id < 46) (hx : gen E (cp2 μ a id sp dp n) ν τ id = x) : (wl E μ ν τ).set id (gL E id, x) = wl E (cp2 μ a id sp dp n) ν τ :=
  wl_set h hx (fun j hj => by simp only [gen, cp2_n hj])
theorem gen_J {E : gE} {μ ν : gM} {τ : gJ} : gen E μ ν τ 44 = .inl (gJc E, 20736, .inr (.inl τ)) := by simp [gen, gen0]
theorem wl_setJ {E : gE} {μ ν : gM} {τ τ' : gJ} {x : va_E} (hx : gen E μ ν τ' 44 = x) : (wl E μ ν τ).set 44 (gL E 44, x) = wl E μ ν τ' := by
  refine wl_set (by decide) hx (fun j hj => ?_)
  simp only [gen, gen0, if_neg hj]
theorem wl_D {E : gE} (hE : gLok E) (μ ν : gM) (τ : gJ) : va_D (gA E) (wl E μ ν τ) := by
  refine ⟨fun i j x y hi hj hxy => ?_, fun k q hk => ?_⟩
  · obtain ⟨h1, rfl⟩ := wl_get hi
    obtain ⟨h2, rfl⟩ := wl_get hj
    exact hE i j h1 h2 hxy
  · obtain ⟨h1, rfl⟩ := wl_get hk
    exact ⟨k, h1, rfl⟩
theorem gen_row {E : gE} {μ ν : gM} {τ : gJ} {r : Nat} (h : r < 5) : gen E μ ν τ r = .inr (3, [.ref (gL E (5 + r)), .int (μ r 1)]) := by simp [gen, gen0, h]
theorem gen_hts {E : gE} {μ ν : gM} {τ : gJ} {r : Nat} (h : r < 5) : gen E μ ν τ (5 + r) = .inl (gI E, 8, .inl (μ (5 + r))) := by
  have h1 : ¬ 5 + r < 5 := by omega
  have h2 : 5 + r < 10 := by omega
  simp only [gen, gen0, if_neg h1, if_pos h2]
theorem gen_sheet {E : gE} {μ ν : gM} {τ : gJ} {k : Nat} (h : k < 4) : gen E μ ν τ (10 + k) = .inr (4, [.ref (gL E (14 + k)), .int (μ (10 + k) 1), .int (μ (10 + k) 2)]) := by
  have h1 : ¬ 10 + k < 5 := by omega
  have h2 : ¬ 10 + k < 10 := by omega
  have h3 : 10 + k < 14 := by omega
  have h4 : 4 + (10 + k) = 14 + k := by omega
  simp only [gen, gen0, if_neg h1, if_neg h2, if_pos h3, h4]
theorem gen_cells {E : gE} {μ ν : gM} {τ : gJ} {k : Nat} (h : k < 4) : gen E μ ν τ (14 + k) = .inl (gI E, 40, .inl (μ (14 + k))) := by
  have h1 : ¬ 14 + k < 5 := by omega
  have h2 : ¬ 14 + k < 10 := by omega
  have h3 : ¬ 14 + k < 14 := by omega
  have h4 : 14 + k < 18 := by omega
  simp only [gen, gen0, if_neg h1, if_neg h2, if_neg h3, if_pos h4]
def gNw : Cond → Bool
  | .fieldLinkNest .. => true
  | .methodLinkNest .. => true
  | _ => false
def gK (E : gE) (U : State) : Prop := va_K (gD E) vwCl (gty E) U ∧ ∀ w ∈ lw_tbl, gNw w = true → va_Nw w U
theorem gK.moved {E : gE} {s U : State} (hW : s.WarmedH U.vm) (h : gK E s) : gK E U := by
  refine ⟨va_K.moved hW.alike h.1, fun w hw hn => ?_⟩
  have h1 := h.2 w hw hn
  cases w <;> first | exact va_Nw.warmF hW h1 | exact va_Nw.warmM hW h1 | (simp [gNw] at hn)
theorem gK.call {E : gE} {U : State} {g : JFrame} {mk : MethodId} {a : Array Value} (h : gK E U) : gK E (U.calling g mk a) := by
  refine ⟨va_K.moved (u := U) (U := U.calling g mk a) (Vm.Alike.refl U.vm) h.1, fun w hw hn => ?_⟩
  have h1 := h.2 w hw hn
  cases w <;> first | exact va_Nw.same rfl rfl h1 | (simp [gNw] at hn)
/-! contracts -/
def gRm (f n : Nat) : Room := { frames := f, cells := 0, slots := 0, locals := n }
abbrev gPc (E : gE) (vs : List Value) (μ ν : gM) (τ : gJ) : Array Value → State → Prop := va_Pc vs (fun U => va_P (gD E) vwCl (wl E μ ν τ) U.heap ∧ gK E U)
theorem gPc_blind {E : gE} {vs : List Value} {μ ν : gM} {τ : gJ} : FrameBlind (gPc E vs μ ν τ) := fun a U g mk h => ⟨h.1, h.2.1, h.2.2.call⟩
abbrev gQiX (E : gE) (Q : Int32 → gM → Prop) (ν : gM) (τ : gJ) : Array Value → State → Outcome → State → Prop := va_Qi (fun r (u : gM) => Q r u) (fun u t => va_P (gD E) vwCl (wl E u ν τ) t.heap) (gA E)
abbrev gQlX (E : gE) (Q : Int64 → gM → Prop) (ν : gM) (τ : gJ) : Array Value → State → Outcome → State → Prop := va_Ql (fun r (u : gM) => Q r u) (fun u t => va_P (gD E) vwCl (wl E u ν τ) t.heap) (gA E)
abbrev gQvX (E : gE) (Q : gM → Prop) (ν : gM) (τ : gJ) : Array Value → State → Outcome → State → Prop := va_Qv (fun (u : gM) => Q u) (fun u t => va_P (gD E) vwCl (wl E u ν τ) t.heap) (gA E)
abbrev gQiM (E : gE) (Q : Int32 → gM → gJ → Prop) (μ : gM) : Array Value → State → Outcome → State → Prop := va_Qi (fun r (u : gM × gJ) => Q r u.1 u.2) (fun u t => va_P (gD E) vwCl (wl E μ u.1 u.2) t.heap) (gA E)
abbrev gQlM (E : gE) (Q : Int64 → gM → gJ → Prop) (μ : gM) : Array Value → State → Outcome → State → Prop := va_Ql (fun r (u : gM × gJ) => Q r u.1 u.2) (fun u t => va_P (gD E) vwCl (wl E μ u.1 u.2) t.heap) (gA E)
abbrev gQvM (E : gE) (Q : gM → gJ → Prop) (μ : gM) : Array Value → State → Outcome → State → Prop := va_Qv (fun (u : gM × gJ) => Q u.1 u.2) (fun u t => va_P (gD E) vwCl (wl E μ u.1 u.2) t.heap) (gA E)
abbrev gQiS (E : gE) (Q : Int32 → Prop) (μ ν : gM) (τ : gJ) : Array Value → State → Outcome → State → Prop := va_Qi (fun r (_ : Unit) => Q r) (fun _ t => va_P (gD E) vwCl (wl E μ ν τ) t.heap) (gA E)
def gCal (y : MethodName) (b : ByteArray) (maxL : Nat) (ret : Option FieldType) (n : Nat) : Prop := Cond.code y b maxL ret ∈ gTB ∧ Cond.initialized y.cls ∈ gTB ∧ y.cls ≠ "java/lang/invoke/MethodHandle" ∧ y.cls ≠ "java/lang/invoke/VarHandle" ∧ (parseMethodDescriptor y.desc).map (fun d => d.parameters.length) = some n
def gCalV (y : MethodName) (b : ByteArray) (maxL : Nat) (ret : Option FieldType) (n : Nat) : Prop := gCal y b maxL ret n ∧ Cond.instanceMethod y ∈ gTB ∧ Cond.selects y.cls y y ∈ gTB
def gCalS (y : MethodName) (b : ByteArray) (maxL : Nat) (ret : Option FieldType) (n : Nat) : Prop := gCal y b maxL ret n ∧ Cond.static y ∈ gTB
def gOk (rm : Room) (maxL : Nat) (R : Room) : Prop := rm.cells = 0 ∧ rm.slots = 0 ∧ rm.frames + 1 ≤ R.frames ∧ 8 + (maxL + 11) + rm.locals ≤ R.locals
theorem vin_lt {i : Int32} {n : Nat} (h : vp_in i n) : i.toNatClampNeg < n := Nat.not_le.mp fun q => h (Or.inr q)
theorem vin_im {i : Int32} (h : vp_in i 3) : 2 + i.toNatClampNeg < 5 := by have := vin_lt h; omega
theorem at_heap {D : va_G} {cl : List vw_C} {ws : va_W} {t : State} {H : Heap} (ht : t.heap = H) (hP : va_P D cl ws H) : va_P D cl ws t.heap := by rw [ht]; exact hP
section GR
variable {p : Program} {l : Launch} {e : Env} {R : Room} {s : State} {m : MethodId} {args : Array Value} {below : List Frame} {meth : Method} {c : Code} {H : Heap} {locs : List Loc} {cells slots : Nat} {Q : State → Prop}
variable {cc : ByteArray} {pc nL : Nat} {ls : Array Slot} {rest st : List Value} {E : gE} {μ ν : gM} {τ : gJ} {own : String}
theorem g_ofW {y : MethodName} {ws ws' : List Cond} {rm : Room} {Pc : Array Value → State → Prop} {Qc : Array Value → State → Outcome → State → Prop} {mc ms : Nat} {free : Addr → Prop} {maxL : Nat} {ret : Option FieldType}
    (hy : plainFor y = true) (hw : ws = Cond.code y cc maxL ret :: ws')
    (body : ∀ p e s m args below meth c s₁, BodyLoose p l y (headSpec ws rm) cc maxL ret e s m args below meth c s₁ → c.maxLocals = maxL → Pc args s →
      W p l e rm s m args below meth c s.heap [] 0 0 (MQ below Qc args s mc ms free) (entryFrame m args maxL)) : Met l y ws rm Pc Qc mc ms free := by
  refine MetFree.of_bodySF (code := cc) (maxLocals := maxL) (ret := ret) hy ?_ ?_
  · intro args s m h hn
    obtain ⟨meth, c, h1, h2, h3, h4, h5, h6, -, -⟩ := Cond.code_spec hn (atoms_spec (ws := ws) h _ (by rw [hw]; exact List.mem_cons_self))
    exact ⟨meth, c, h1, h2, h3, h4, h5, h6⟩
  · intro p e s m args below meth c s₁ B hml hP _
    have hh0 : s₁.heap = s.heap := by rw [B.state]; rfl
    obtain ⟨t, a1, o, b1, b2, b3⟩ := body p e s m args below meth c s₁ B hml hP s₁ hh0 (Stand.of_body B)
    exact ⟨t, o, a1, b1, b2, ⟨b3.1, b3.2⟩⟩
theorem g_entr {y : MethodName} {b : ByteArray} {n : Nat} {ret : Option FieldType} {rm : Room} {vs : List Value} {lv : List (Nat × Value)} {Qc : Array Value → State → Outcome → State → Prop} (hy : plainFor y = true) (hn : (lg_sl vs).length ≤ n) (hlv : lv_args 0 vs = lv)
    (body : ∀ (p : Program) (e : Env) (s : State) (m : MethodId) (args : Array Value) (below : List Frame) (meth : Method) (c : Code) (ls : Array Slot) (H : Heap) (locs : List Loc), p.tables.exec = Jvm.exec → c.code = b → meth.sig.returnType = ret → meth.locks = false → CallFix p m c b n s args gTB y.cls → gK E s → va_P (gD E) vwCl (wl E μ ν τ) H → va_S (gA E) s.heap H locs → lv_has ls n lv → W p l e rm s m args below meth c H locs 0 0 (MQ below Qc args s 0 0 (gA E)) (F0 m 0 ls [])) :
    Met l y (gws y b n ret) rm (gPc E vs μ ν τ) Qc 0 0 (gA E) := by
  refine g_ofW (cc := b) (maxL := n) (ret := ret) hy rfl ?_
  intro p e s m args below meth c s₁ B hml hv
  obtain ⟨rfl, hP, hK⟩ := hv
  have hts := atoms_spec (ws := gws y b n ret) B.pre
  have hl := lv_entry vs (n := n) hn
  rw [hlv] at hl
  rw [lg_entry_eq]
  exact body p e s m _ below meth c _ s.heap [] B.exec B.bytes B.returns B.notSynchronized ⟨B.exec, B.bytes, hml, findClass_of_methodNamed B.named, fun w hw => hts w (List.mem_cons_of_mem _ hw)⟩ hK hP va_S.rf hl
theorem g_get {C : String} {T : u_T} {N ci index id : Nat} {fs : List Value} (C0 : CallFix p m c cc nL s args gTB own) (hK : gK E s) (hP : va_P (gD E) vwCl (wl E μ ν τ) H) (hid : id < 46) (he : gen E μ ν τ id = .inr (ci, fs)) (hc : vwCl[ci]? = some (C, T, N)) (hin : ∀ w ∈ u_ws C T N, w ∈ gTB) (k : Nat) (hk : k < N) (hq : Cond.fieldLink own index (T k).1 (T k).2.1 (T k).2.2.1 ∈ gTB) {v : Value} (hv : fs[k]? = some v) (hdg : decode cc pc = .ok (.getfield index, 3))
    (kk : W p l e R s m args below meth c H locs cells slots Q (F0 m (pc + 3) ls (v :: rest))) : W p l e R s m args below meth c H locs cells slots Q (F0 m pc ls (.ref (gL E id) :: rest)) :=
  va_get C0.1 C0.2.1 C0.2.2.2.2 hin C0.2.2.2.1 hK.1 hP id (wl_at hid he) hc k hk (C0.2.2.2.2 _ hq) (fun _ h => h) hv hdg kk
theorem g_getN {C host : String} {T : u_T} {N ci index id : Nat} {fs : List Value} (C0 : CallFix p m c cc nL s args gTB own) (hK : gK E s) (hP : va_P (gD E) vwCl (wl E μ ν τ) H) (hid : id < 46) (he : gen E μ ν τ id = .inr (ci, fs)) (hc : vwCl[ci]? = some (C, T, N)) (hin : ∀ w ∈ u_ws C T N, w ∈ gTB) (k : Nat) (hk : k < N) (hq : Cond.fieldLinkNest own index (T k).1 (T k).2.1 (T k).2.2.1 host ∈ lw_tbl) {v : Value} (hv : fs[k]? = some v) (hdg : decode cc pc = .ok (.getfield index, 3))
    (kk : W p l e R s m args below meth c H locs cells slots Q (F0 m (pc + 3) ls (v :: rest))) : W p l e R s m args below meth c H locs cells slots Q (F0 m pc ls (.ref (gL E id) :: rest)) :=
  va_getN C0.1 C0.2.1 C0.2.2.2.2 hin C0.2.2.2.1 hK.1 hP id (wl_at hid he) hc k hk (va_Nw.use rfl (hK.2 _ hq rfl)) (fun _ h => h) hv hdg kk
theorem g_putX {C : String} {T : u_T} {N ci index id : Nat} {fs : (Nat → Int32) → List Value} {ty0 : Nat → FieldType} {v : Int32} (hE : gLok E) (C0 : CallFix p m c cc nL s args gTB own) (hK : gK E s) (hP : va_P (gD E) vwCl (wl E μ ν τ) H) (hS : va_S (gA E) s.heap H locs) (hid : id < 46) (he : ∀ μ : gM, gen E μ ν τ id = .inr (ci, fs (μ id))) (hc : vwCl[ci]? = some (C, T, N)) (hin : ∀ w ∈ u_ws C T N, w ∈ gTB) (hty : ∀ k, k < N → parseFieldDescriptor (T k).2.2.1 = some (ty0 k)) (hnm : ∀ a, a < N → ∀ b, b < N → a ≠ b → (T a).2.1 ≠ (T b).2.1) (k : Nat) (hk : k < N) (hq : (Cond.fieldLink own index (T k).1 (T k).2.1 (T k).2.2.1) ∈ gTB) (hfin : (T k).2.2.2 = false) (hd : parseFieldDescriptor (T k).2.2.1 = some .int) (hl : k < (fs (μ id)).length) (hset : (fs (μ id)).set k (.int v) = fs (upd (μ id) k v)) (hdg : decode cc pc = .ok (.putfield index, 3))
    (kk : ∀ (H : Heap) (locs : List Loc), va_P (gD E) vwCl (wl E (up2 μ id k v) ν τ) H → va_S (gA E) s.heap H locs → W p l e R s m args below meth c H locs cells slots Q (F0 m (pc + 3) ls rest)) : W p l e R s m args below meth c H locs cells slots Q (F0 m pc ls (.int v :: .ref (gL E id) :: rest)) := by
  refine va_put C0.1 C0.2.1 C0.2.2.2.2 hin ty0 hty hnm C0.2.2.2.1 hK.1 hP (wl_D hE μ ν τ) hS id (wl_at hid (he μ)) hc k hk (C0.2.2.2.2 _ hq) (fun _ h => h) hfin hd rfl rfl hl hdg (fun H1 locs1 h1 _ h3 => ?_)
  rw [hset, wl_setX (v := v) (k := k) hid (by rw [he (up2 μ id k v), up2_s])] at h1
  exact kk H1 locs1 h1 h3
theorem g_putXN {C host : String} {T : u_T} {N ci index id : Nat} {fs : (Nat → Int32) → List Value} {ty0 : Nat → FieldType} {v : Int32} (hE : gLok E) (C0 : CallFix p m c cc nL s args gTB own) (hK : gK E s) (hP : va_P (gD E) vwCl (wl E μ ν τ) H) (hS : va_S (gA E) s.heap H locs) (hid : id < 46) (he : ∀ μ : gM, gen E μ ν τ id = .inr (ci, fs (μ id))) (hc : vwCl[ci]? = some (C, T, N)) (hin : ∀ w ∈ u_ws C T N, w ∈ gTB) (hty : ∀ k, k < N → parseFieldDescriptor (T k).2.2.1 = some (ty0 k)) (hnm : ∀ a, a < N → ∀ b, b < N → a ≠ b → (T a).2.1 ≠ (T b).2.1) (k : Nat) (hk : k < N) (hq : (Cond.fieldLinkNest own index (T k).1 (T k).2.1 (T k).2.2.1 host) ∈ lw_tbl) (hfin : (T k).2.2.2 = false) (hd : parseFieldDescriptor (T k).2.2.1 = some .int) (hl : k < (fs (μ id)).length) (hset : (fs (μ id)).set k (.int v) = fs (upd (μ id) k v)) (hdg : decode cc pc = .ok (.putfield index, 3))
    (kk : ∀ (H : Heap) (locs : List Loc), va_P (gD E) vwCl (wl E (up2 μ id k v) ν τ) H → va_S (gA E) s.heap H locs → W p l e R s m args below meth c H locs cells slots Q (F0 m (pc + 3) ls rest)) : W p l e R s m args below meth c H locs cells slots Q (F0 m pc ls (.int v :: .ref (gL E id) :: rest)) := by
  refine va_putN C0.1 C0.2.1 C0.2.2.2.2 hin ty0 hty hnm C0.2.2.2.1 hK.1 hP (wl_D hE μ ν τ) hS id (wl_at hid (he μ)) hc k hk (va_Nw.use rfl (hK.2 _ hq rfl)) (fun _ h => h) hfin hd rfl rfl hl hdg (fun H1 locs1 h1 _ h3 => ?_)
  rw [hset, wl_setX (v := v) (k := k) hid (by rw [he (up2 μ id k v), up2_s])] at h1
  exact kk H1 locs1 h1 h3
theorem g_putM {C : String} {T : u_T} {N ci index id : Nat} {fs : (Nat → Int32) → List Value} {ty0 : Nat → FieldType} {v : Int32} (hE : gLok E) (C0 : CallFix p m c cc nL s args gTB own) (hK : gK E s) (hP : va_P (gD E) vwCl (wl E μ ν τ) H) (hS : va_S (gA E) s.heap H locs) (hid : id < 46) (he : ∀ ν : gM, gen E μ ν τ id = .inr (ci, fs (ν id))) (hc : vwCl[ci]? = some (C, T, N)) (hin : ∀ w ∈ u_ws C T N, w ∈ gTB) (hty : ∀ k, k < N → parseFieldDescriptor (T k).2.2.1 = some (ty0 k)) (hnm : ∀ a, a < N → ∀ b, b < N → a ≠ b → (T a).2.1 ≠ (T b).2.1) (k : Nat) (hk : k < N) (hq : (Cond.fieldLink own index (T k).1 (T k).2.1 (T k).2.2.1) ∈ gTB) (hfin : (T k).2.2.2 = false) (hd : parseFieldDescriptor (T k).2.2.1 = some .int) (hl : k < (fs (ν id)).length) (hset : (fs (ν id)).set k (.int v) = fs (upd (ν id) k v)) (hdg : decode cc pc = .ok (.putfield index, 3))
    (kk : ∀ (H : Heap) (locs : List Loc), va_P (gD E) vwCl (wl E μ (up2 ν id k v) τ) H → va_S (gA E) s.heap H locs → W p l e R s m args below meth c H locs cells slots Q (F0 m (pc + 3) ls rest)) : W p l e R s m args below meth c H locs cells slots Q (F0 m pc ls (.int v :: .ref (gL E id) :: rest)) := by
  refine va_put C0.1 C0.2.1 C0.2.2.2.2 hin ty0 hty hnm C0.2.2.2.1 hK.1 hP (wl_D hE μ ν τ) hS id (wl_at hid (he ν)) hc k hk (C0.2.2.2.2 _ hq) (fun _ h => h) hfin hd rfl rfl hl hdg (fun H1 locs1 h1 _ h3 => ?_)
  rw [hset, wl_setM (v := v) (k := k) hid (by rw [he (up2 ν id k v), up2_s])] at h1
  exact kk H1 locs1 h1 h3
theorem g_iald {n id : Nat} {f : Nat → Int32} {i : Int32} (hx : p.tables.exec = Jvm.exec) (hb : c.code = cc) (hK : gK E s) (hP : va_P (gD E) vwCl (wl E μ ν τ) H) (hid : id < 46) (he : gen E μ ν τ id = .inl (gI E, n, .inl f)) (hin : vp_in i n) (hdg : decode cc pc = .ok (.iaload, 1))
    (kk : W p l e R s m args below meth c H locs cells slots Q (F0 m (pc + 1) ls (.int (f i.toNatClampNeg) :: rest))) : W p l e R s m args below meth c H locs cells slots Q (F0 m pc ls (.int i :: .ref (gL E id) :: rest)) :=
  va_iald hx hb hK.1 hP id 0 (wl_at hid he) rfl hin hdg kk
theorem g_lald {i : Int32} (hx : p.tables.exec = Jvm.exec) (hb : c.code = cc) (hK : gK E s) (hP : va_P (gD E) vwCl (wl E μ ν τ) H) (hin : vp_in i 20736) (hdg : decode cc pc = .ok (.laload, 1))
    (kk : W p l e R s m args below meth c H locs cells slots Q (F0 m (pc + 1) ls (.long (τ i.toNatClampNeg) :: rest))) : W p l e R s m args below meth c H locs cells slots Q (F0 m pc ls (.int i :: .ref (gL E 44) :: rest)) :=
  va_lald hx hb hK.1 hP 44 1 (wl_at (by decide) gen_J) rfl hin hdg kk
theorem g_iastX {n id : Nat} {i v : Int32} (hE : gLok E) (hx : p.tables.exec = Jvm.exec) (hb : c.code = cc) (hK : gK E s) (hP : va_P (gD E) vwCl (wl E μ ν τ) H) (hS : va_S (gA E) s.heap H locs) (hid : id < 46) (he : ∀ μ : gM, gen E μ ν τ id = .inl (gI E, n, .inl (μ id))) (hin : vp_in i n) (hdg : decode cc pc = .ok (.iastore, 1))
    (kk : ∀ (H : Heap) (locs : List Loc), va_P (gD E) vwCl (wl E (up2 μ id i.toNatClampNeg v) ν τ) H → va_S (gA E) s.heap H locs → W p l e R s m args below meth c H locs cells slots Q (F0 m (pc + 1) ls rest)) : W p l e R s m args below meth c H locs cells slots Q (F0 m pc ls (.int v :: .int i :: .ref (gL E id) :: rest)) := by
  refine va_iast hx hb hK.1 hP (wl_D hE μ ν τ) hS id 0 (wl_at hid (he μ)) rfl hin hdg (fun H1 locs1 h1 _ h3 => ?_)
  rw [wl_setX (v := v) (k := i.toNatClampNeg) hid (by rw [he (up2 μ id _ v), up2_s])] at h1
  exact kk H1 locs1 h1 h3
theorem g_iastM {n id : Nat} {i v : Int32} (hE : gLok E) (hx : p.tables.exec = Jvm.exec) (hb : c.code = cc) (hK : gK E s) (hP : va_P (gD E) vwCl (wl E μ ν τ) H) (hS : va_S (gA E) s.heap H locs) (hid : id < 46) (he : ∀ ν : gM, gen E μ ν τ id = .inl (gI E, n, .inl (ν id))) (hin : vp_in i n) (hdg : decode cc pc = .ok (.iastore, 1))
    (kk : ∀ (H : Heap) (locs : List Loc), va_P (gD E) vwCl (wl E μ (up2 ν id i.toNatClampNeg v) τ) H → va_S (gA E) s.heap H locs → W p l e R s m args below meth c H locs cells slots Q (F0 m (pc + 1) ls rest)) : W p l e R s m args below meth c H locs cells slots Q (F0 m pc ls (.int v :: .int i :: .ref (gL E id) :: rest)) := by
  refine va_iast hx hb hK.1 hP (wl_D hE μ ν τ) hS id 0 (wl_at hid (he ν)) rfl hin hdg (fun H1 locs1 h1 _ h3 => ?_)
  rw [wl_setM (v := v) (k := i.toNatClampNeg) hid (by rw [he (up2 ν id _ v), up2_s])] at h1
  exact kk H1 locs1 h1 h3
theorem g_last {i : Int32} {v : Int64} (hE : gLok E) (hx : p.tables.exec = Jvm.exec) (hb : c.code = cc) (hK : gK E s) (hP : va_P (gD E) vwCl (wl E μ ν τ) H) (hS : va_S (gA E) s.heap H locs) (hin : vp_in i 20736) (hdg : decode cc pc = .ok (.lastore, 1))
    (kk : ∀ (H : Heap) (locs : List Loc), va_P (gD E) vwCl (wl E μ ν (vp_updL τ i.toNatClampNeg v)) H → va_S (gA E) s.heap H locs → W p l e R s m args below meth c H locs cells slots Q (F0 m (pc + 1) ls rest)) : W p l e R s m args below meth c H locs cells slots Q (F0 m pc ls (.long v :: .int i :: .ref (gL E 44) :: rest)) := by
  refine va_last hx hb hK.1 hP (wl_D hE μ ν τ) hS 44 1 (wl_at (by decide) gen_J) rfl hin hdg (fun H1 locs1 h1 _ h3 => ?_)
  rw [wl_setJ (τ' := vp_updL τ i.toNatClampNeg v) gen_J] at h1
  exact kk H1 locs1 h1 h3
theorem g_aaR {i : Int32} (hx : p.tables.exec = Jvm.exec) (hb : c.code = cc) (hK : gK E s) (hP : va_P (gD E) vwCl (wl E μ ν τ) H) (hin : vp_in i 3) (hdg : decode cc pc = .ok (.aaload, 1))
    (kk : W p l e R s m args below meth c H locs cells slots Q (F0 m (pc + 1) ls (.ref (gL E (2 + i.toNatClampNeg)) :: rest))) : W p l e R s m args below meth c H locs cells slots Q (F0 m pc ls (.int i :: .ref (gL E 29) :: rest)) :=
  va_aldq (C := RX3) (f := fun k => some (gL E (2 + k))) hx hb hK.1 hP 29 2 (wl_at (by decide) (by simp [gen, gen0])) rfl hin hdg kk
theorem g_aaS {i : Int32} (hx : p.tables.exec = Jvm.exec) (hb : c.code = cc) (hK : gK E s) (hP : va_P (gD E) vwCl (wl E μ ν τ) H) (hin : vp_in i 4) (hdg : decode cc pc = .ok (.aaload, 1))
    (kk : W p l e R s m args below meth c H locs cells slots Q (F0 m (pc + 1) ls (.ref (gL E (10 + i.toNatClampNeg)) :: rest))) : W p l e R s m args below meth c H locs cells slots Q (F0 m pc ls (.int i :: .ref (gL E 30) :: rest)) :=
  va_aldq (C := RX4) (f := fun k => some (gL E (10 + k))) hx hb hK.1 hP 30 3 (wl_at (by decide) (by simp [gen, gen0])) rfl hin hdg kk
theorem g_alen {n id : Nat} {f : Nat → Int32} {v : Int32} (hx : p.tables.exec = Jvm.exec) (hb : c.code = cc) (hK : gK E s) (hP : va_P (gD E) vwCl (wl E μ ν τ) H) (hid : id < 46) (he : gen E μ ν τ id = .inl (gI E, n, .inl f)) (hv : Int32.ofNat n = v) (hdg : decode cc pc = .ok (.arraylength, 1))
    (kk : W p l e R s m args below meth c H locs cells slots Q (F0 m (pc + 1) ls (.int v :: rest))) : W p l e R s m args below meth c H locs cells slots Q (F0 m pc ls (.ref (gL E id) :: rest)) :=
  va_alen hx hb hK.1 hP id 0 (wl_at hid he) (ty := .int) rfl hv hdg kk
/-! calls -/
variable {y : MethodName} {bytes : ByteArray} {maxL n index : Nat} {ret : Option FieldType} {rm : Room} {As : List Value} {Qc : Array Value → State → Outcome → State → Prop}
theorem g_bV {ci id N : Nat} {fs : List Value} {T : u_T} (C0 : CallFix p m c cc nL s args gTB own) (hK : gK E s) (hP : va_P (gD E) vwCl (wl E μ ν τ) H) (k : gCalV y bytes maxL ret n) (q : Cond.methodLink own index y ∈ gTB) (hM : Met l y (gws y bytes maxL ret) rm (gPc E (.ref (gL E id) :: As) μ ν τ) Qc 0 0 (gA E)) (hid : id < 46) (he : gen E μ ν τ id = .inr (ci, fs)) (hc : vwCl[ci]? = some (y.cls, T, N)) (hn : As.length = n) (hsize : ls.size = nL) (hst : st = As.reverse ++ .ref (gL E id) :: rest) (hW : (rest.map fun v => v.category).sum ≤ 8) (hR : gOk rm maxL R) (hdg : decode cc pc = .ok (.invokevirtual index, 3)) :
    va_Run p l e R s m args below meth c H locs 0 0 0 0 (F0 m pc ls st) rest (Qc (Value.ref (gL E id) :: As).toArray) (gA E) := by
  obtain ⟨⟨k1, k2, k3, k4, k5⟩, k6, k7⟩ := k
  refine va_runV (C := y.cls) C0 hM ⟨callB_of n C0.2.2.2.2 (gws_good k1) rfl hR.1 hR.2.1 (C0.2.2.2.2 _ k2) (C0.2.2.2.2 _ q) ⟨k3, k4, k5⟩ hR.2.2, C0.2.2.2.2 _ k6, C0.2.2.2.2 _ k7⟩ ⟨gPc_blind, ?_, fun U hU hW => ⟨rfl, by rw [hU]; exact hP, hK.moved hW⟩⟩ rfl hn hsize hst (lv_room hW) hdg ⟨Nat.zero_le _, Nat.zero_le _⟩
  exact va_recv hK.1 hP (ci := ci) (q0 := id) hc (wl_at hid he)
theorem g_bS (C0 : CallFix p m c cc nL s args gTB own) (hK : gK E s) (hP : va_P (gD E) vwCl (wl E μ ν τ) H) (k : gCalS y bytes maxL ret n) (q : Cond.methodLink own index y ∈ gTB) (hM : Met l y (gws y bytes maxL ret) rm (gPc E As μ ν τ) Qc 0 0 (gA E)) (hn : As.length = n) (hsize : ls.size = nL) (hst : st = As.reverse ++ rest) (hW : (rest.map fun v => v.category).sum ≤ 8) (hR : gOk rm maxL R) (hdg : decode cc pc = .ok (.invokestatic index, 3)) :
    va_Run p l e R s m args below meth c H locs 0 0 0 0 (F0 m pc ls st) rest (Qc As.toArray) (gA E) := by
  obtain ⟨⟨k1, k2, k3, k4, k5⟩, k6⟩ := k
  exact va_runS C0 hM ⟨callB_of n C0.2.2.2.2 (gws_good k1) rfl hR.1 hR.2.1 (C0.2.2.2.2 _ k2) (C0.2.2.2.2 _ q) ⟨k3, k4, k5⟩ hR.2.2, C0.2.2.2.2 _ k6⟩ ⟨gPc_blind, fun U hU hW => ⟨rfl, by rw [hU]; exact hP, hK.moved hW⟩⟩ rfl hn hsize hst (lv_room hW) hdg ⟨Nat.zero_le _, Nat.zero_le _⟩
theorem g_bSN {host : String} (C0 : CallFix p m c cc nL s args gTB own) (hK : gK E s) (hP : va_P (gD E) vwCl (wl E μ ν τ) H) (k : gCalS y bytes maxL ret n) (q : Cond.methodLinkNest own index y host ∈ lw_tbl) (hM : Met l y (gws y bytes maxL ret) rm (gPc E As μ ν τ) Qc 0 0 (gA E)) (hn : As.length = n) (hsize : ls.size = nL) (hst : st = As.reverse ++ rest) (hW : (rest.map fun v => v.category).sum ≤ 8) (hR : gOk rm maxL R) (hdg : decode cc pc = .ok (.invokestatic index, 3)) :
    va_Run p l e R s m args below meth c H locs 0 0 0 0 (F0 m pc ls st) rest (Qc As.toArray) (gA E) := by
  obtain ⟨⟨k1, k2, k3, k4, k5⟩, k6⟩ := k
  exact va_runSN C0 hM ⟨va_cnB n C0.2.2.2.2 (gws_good k1) rfl hR.1 hR.2.1 (hK.2 _ q rfl) (C0.2.2.2.2 _ k2) ⟨k3, k4, k5⟩ hR.2.2, C0.2.2.2.2 _ k6, trivial⟩ ⟨gPc_blind, fun U hU hW => ⟨rfl, by rw [hU]; exact hP, hK.moved hW⟩⟩ rfl hn hsize hst (lv_room hW) hdg ⟨Nat.zero_le _, Nat.zero_le _⟩
variable {a : Array Value}
theorem g_iX {Qs : Int32 → gM → Prop} (hr : va_Run p l e R s m args below meth c H locs 0 0 0 0 (F0 m pc ls st) rest (gQiX E Qs ν τ a) (gA E)) (hS : va_S (gA E) s.heap H locs)
    (kk : ∀ (r : Int32) (μ : gM) (H : Heap) (locs : List Loc), Qs r μ → va_P (gD E) vwCl (wl E μ ν τ) H → va_S (gA E) s.heap H locs → W p l e R s m args below meth c H locs 0 0 Q (F0 m (pc + 3) ls (.int r :: rest))) : W p l e R s m args below meth c H locs 0 0 Q (F0 m pc ls st) :=
  va_calli hr hS (fun _ _ h => h) (fun _ h => h) (fun r u t H1 locs1 ht _ hp hB _ _ hS1 => kk r u H1 locs1 hp (by rw [← ht]; exact hB) hS1)
theorem g_lX {Qs : Int64 → gM → Prop} (hr : va_Run p l e R s m args below meth c H locs 0 0 0 0 (F0 m pc ls st) rest (gQlX E Qs ν τ a) (gA E)) (hS : va_S (gA E) s.heap H locs)
    (kk : ∀ (r : Int64) (μ : gM) (H : Heap) (locs : List Loc), Qs r μ → va_P (gD E) vwCl (wl E μ ν τ) H → va_S (gA E) s.heap H locs → W p l e R s m args below meth c H locs 0 0 Q (F0 m (pc + 3) ls (.long r :: rest))) : W p l e R s m args below meth c H locs 0 0 Q (F0 m pc ls st) :=
  va_calll hr hS (fun _ _ h => h) (fun _ h => h) (fun r u t H1 locs1 ht _ hp hB _ _ hS1 => kk r u H1 locs1 hp (by rw [← ht]; exact hB) hS1)
theorem g_vX {Qs : gM → Prop} (hr : va_Run p l e R s m args below meth c H locs 0 0 0 0 (F0 m pc ls st) rest (gQvX E Qs ν τ a) (gA E)) (hS : va_S (gA E) s.heap H locs)
    (kk : ∀ (μ : gM) (H : Heap) (locs : List Loc), Qs μ → va_P (gD E) vwCl (wl E μ ν τ) H → va_S (gA E) s.heap H locs → W p l e R s m args below meth c H locs 0 0 Q (F0 m (pc + 3) ls rest)) : W p l e R s m args below meth c H locs 0 0 Q (F0 m pc ls st) :=
  va_callv hr hS (fun _ _ h => h) (fun _ h => h) (fun u t H1 locs1 ht _ hp hB _ _ hS1 => kk u H1 locs1 hp (by rw [← ht]; exact hB) hS1)
theorem g_iM {Qs : Int32 → gM → gJ → Prop} (hr : va_Run p l e R s m args below meth c H locs 0 0 0 0 (F0 m pc ls st) rest (gQiM E Qs μ a) (gA E)) (hS : va_S (gA E) s.heap H locs)
    (kk : ∀ (r : Int32) (ν : gM) (τ : gJ) (H : Heap) (locs : List Loc), Qs r ν τ → va_P (gD E) vwCl (wl E μ ν τ) H → va_S (gA E) s.heap H locs → W p l e R s m args below meth c H locs 0 0 Q (F0 m (pc + 3) ls (.int r :: rest))) : W p l e R s m args below meth c H locs 0 0 Q (F0 m pc ls st) :=
  va_calli hr hS (fun _ _ h => h) (fun _ h => h) (fun r u t H1 locs1 ht _ hp hB _ _ hS1 => kk r u.1 u.2 H1 locs1 hp (by rw [← ht]; exact hB) hS1)
theorem g_lM {Qs : Int64 → gM → gJ → Prop} (hr : va_Run p l e R s m args below meth c H locs 0 0 0 0 (F0 m pc ls st) rest (gQlM E Qs μ a) (gA E)) (hS : va_S (gA E) s.heap H locs)
    (kk : ∀ (r : Int64) (ν : gM) (τ : gJ) (H : Heap) (locs : List Loc), Qs r ν τ → va_P (gD E) vwCl (wl E μ ν τ) H → va_S (gA E) s.heap H locs → W p l e R s m args below meth c H locs 0 0 Q (F0 m (pc + 3) ls (.long r :: rest))) : W p l e R s m args below meth c H locs 0 0 Q (F0 m pc ls st) :=
  va_calll hr hS (fun _ _ h => h) (fun _ h => h) (fun r u t H1 locs1 ht _ hp hB _ _ hS1 => kk r u.1 u.2 H1 locs1 hp (by rw [← ht]; exact hB) hS1)
theorem g_vM {Qs : gM → gJ → Prop} (hr : va_Run p l e R s m args below meth c H locs 0 0 0 0 (F0 m pc ls st) rest (gQvM E Qs μ a) (gA E)) (hS : va_S (gA E) s.heap H locs)
    (kk : ∀ (ν : gM) (τ : gJ) (H : Heap) (locs : List Loc), Qs ν τ → va_P (gD E) vwCl (wl E μ ν τ) H → va_S (gA E) s.heap H locs → W p l e R s m args below meth c H locs 0 0 Q (F0 m (pc + 3) ls rest)) : W p l e R s m args below meth c H locs 0 0 Q (F0 m pc ls st) :=
  va_callv hr hS (fun _ _ h => h) (fun _ h => h) (fun u t H1 locs1 ht _ hp hB _ _ hS1 => kk u.1 u.2 H1 locs1 hp (by rw [← ht]; exact hB) hS1)
theorem g_iS {Qs : Int32 → Prop} (hr : va_Run p l e R s m args below meth c H locs 0 0 0 0 (F0 m pc ls st) rest (gQiS E Qs μ ν τ a) (gA E)) (hS : va_S (gA E) s.heap H locs)
    (kk : ∀ (r : Int32) (H : Heap) (locs : List Loc), Qs r → va_P (gD E) vwCl (wl E μ ν τ) H → va_S (gA E) s.heap H locs → W p l e R s m args below meth c H locs 0 0 Q (F0 m (pc + 3) ls (.int r :: rest))) : W p l e R s m args below meth c H locs 0 0 Q (F0 m pc ls st) :=
  va_calli hr hS (fun _ _ h => h) (fun _ h => h) (fun r _ t H1 locs1 ht _ hp hB _ _ hS1 => kk r H1 locs1 hp (by rw [← ht]; exact hB) hS1)
/-! ends -/
theorem g_retX {Qs : Int32 → gM → Prop} {ty : FieldType} {v : Int32} (hx : p.tables.exec = Jvm.exec) (hb : c.code = cc) (hr : meth.sig.returnType = some ty) (hk : meth.locks = false) (hP : va_P (gD E) vwCl (wl E μ ν τ) H) (hS : va_S (gA E) s.heap H locs) (hn : narrow ty (.int v) = .int v) (hv : Qs v μ) (hdg : decode cc pc = .ok (.ireturn, 1)) : W p l e R s m args below meth c H locs 0 0 (MQ below (gQiX E Qs ν τ) args s 0 0 (gA E)) (F0 m pc ls [.int v]) :=
  W.zret hx hb hr hn (fun t ht _ => ⟨⟨v, μ, rfl, hv, at_heap ht hP⟩, hS.F ht⟩) hS.2.2 hdg hk
theorem g_retM {Qs : Int32 → gM → gJ → Prop} {ty : FieldType} {v : Int32} (hx : p.tables.exec = Jvm.exec) (hb : c.code = cc) (hr : meth.sig.returnType = some ty) (hk : meth.locks = false) (hP : va_P (gD E) vwCl (wl E μ ν τ) H) (hS : va_S (gA E) s.heap H locs) (hn : narrow ty (.int v) = .int v) (hv : Qs v ν τ) (hdg : decode cc pc = .ok (.ireturn, 1)) : W p l e R s m args below meth c H locs 0 0 (MQ below (gQiM E Qs μ) args s 0 0 (gA E)) (F0 m pc ls [.int v]) :=
  W.zret hx hb hr hn (fun t ht _ => ⟨⟨v, (ν, τ), rfl, hv, at_heap ht hP⟩, hS.F ht⟩) hS.2.2 hdg hk
theorem g_retS {Qs : Int32 → Prop} {ty : FieldType} {v : Int32} (hx : p.tables.exec = Jvm.exec) (hb : c.code = cc) (hr : meth.sig.returnType = some ty) (hk : meth.locks = false) (hP : va_P (gD E) vwCl (wl E μ ν τ) H) (hS : va_S (gA E) s.heap H locs) (hn : narrow ty (.int v) = .int v) (hv : Qs v) (hdg : decode cc pc = .ok (.ireturn, 1)) : W p l e R s m args below meth c H locs 0 0 (MQ below (gQiS E Qs μ ν τ) args s 0 0 (gA E)) (F0 m pc ls [.int v]) :=
  W.zret hx hb hr hn (fun t ht _ => ⟨⟨v, (), rfl, hv, at_heap ht hP⟩, hS.F ht⟩) hS.2.2 hdg hk
theorem g_lretX {Qs : Int64 → gM → Prop} {v : Int64} (hx : p.tables.exec = Jvm.exec) (hb : c.code = cc) (hr : meth.sig.returnType = some .long) (hk : meth.locks = false) (hP : va_P (gD E) vwCl (wl E μ ν τ) H) (hS : va_S (gA E) s.heap H locs) (hv : Qs v μ) (hdg : decode cc pc = .ok (.lreturn, 1)) : W p l e R s m args below meth c H locs 0 0 (MQ below (gQlX E Qs ν τ) args s 0 0 (gA E)) (F0 m pc ls [.long v]) :=
  W.lret hx hb hr (fun t ht _ => ⟨⟨v, μ, rfl, hv, at_heap ht hP⟩, hS.F ht⟩) hS.2.2 hdg hk
theorem g_lretM {Qs : Int64 → gM → gJ → Prop} {v : Int64} (hx : p.tables.exec = Jvm.exec) (hb : c.code = cc) (hr : meth.sig.returnType = some .long) (hk : meth.locks = false) (hP : va_P (gD E) vwCl (wl E μ ν τ) H) (hS : va_S (gA E) s.heap H locs) (hv : Qs v ν τ) (hdg : decode cc pc = .ok (.lreturn, 1)) : W p l e R s m args below meth c H locs 0 0 (MQ below (gQlM E Qs μ) args s 0 0 (gA E)) (F0 m pc ls [.long v]) :=
  W.lret hx hb hr (fun t ht _ => ⟨⟨v, (ν, τ), rfl, hv, at_heap ht hP⟩, hS.F ht⟩) hS.2.2 hdg hk
theorem g_vretX {Qs : gM → Prop} (hx : p.tables.exec = Jvm.exec) (hb : c.code = cc) (hr : meth.sig.returnType = none) (hk : meth.locks = false) (hP : va_P (gD E) vwCl (wl E μ ν τ) H) (hS : va_S (gA E) s.heap H locs) (hv : Qs μ) (hdg : decode cc pc = .ok (.return_, 1)) : W p l e R s m args below meth c H locs 0 0 (MQ below (gQvX E Qs ν τ) args s 0 0 (gA E)) (F0 m pc ls []) :=
  W.vret hx hb hr (fun t ht _ => ⟨⟨μ, rfl, hv, at_heap ht hP⟩, hS.F ht⟩) hS.2.2 hdg hk
theorem g_vretM {Qs : gM → gJ → Prop} (hx : p.tables.exec = Jvm.exec) (hb : c.code = cc) (hr : meth.sig.returnType = none) (hk : meth.locks = false) (hP : va_P (gD E) vwCl (wl E μ ν τ) H) (hS : va_S (gA E) s.heap H locs) (hv : Qs ν τ) (hdg : decode cc pc = .ok (.return_, 1)) : W p l e R s m args below meth c H locs 0 0 (MQ below (gQvM E Qs μ) args s 0 0 (gA E)) (F0 m pc ls []) :=
  W.vret hx hb hr (fun t ht _ => ⟨⟨(ν, τ), rfl, hv, at_heap ht hP⟩, hS.F ht⟩) hS.2.2 hdg hk
end GR
