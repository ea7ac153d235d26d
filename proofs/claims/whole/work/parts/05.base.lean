/-! my own rows: contracts whose world keeps its cells, in one form; calls that put the callee's cells back into their places -/
def bI : Bool → Int32
  | true => 1
  | false => 0
theorem bI_nar : ∀ b : Bool, narrow .boolean (.int (bI b)) = .int (bI b) := by intro b; cases b <;> decide
theorem bI_fit : ∀ b : Bool, fits .boolean (.int (bI b)) = true := by intro b; cases b <;> decide
theorem bI_eq0 (b : Bool) : bI b = 0 ↔ b = false := by cases b <;> simp [bI]
theorem bI_ne0 (b : Bool) : ¬ bI b = 0 ↔ b = true := by cases b <;> simp [bI]
/-- a callee's answer, named -/
def q_let {α β : Type} (a : α) (k : α → β) : β := k a
theorem q_let_of {α β : Type} {a b : α} {k : α → β} (h : a = b) : q_let a k = k b := by rw [h]; rfl
abbrev qCW (y : MethodName) (b : ByteArray) (n : Nat) (ret : Option FieldType) : List Cond := Cond.code y b n ret :: qTs
/-- the three words of nest mates -/
def qN (U : State) : Prop := va_Nw (.methodLinkNest RX3 20 yX5_init "SmallFrame") U ∧ va_Nw (.methodLinkNest RX6 27 yX7_byteOf "SmallFrame") U ∧ va_Nw (.methodLinkNest RX3 221 yX7_order "SmallFrame") U
theorem qN.warm {s U : State} (hW : s.WarmedH U.vm) (h : qN s) : qN U := ⟨va_Nw.warmM hW h.1, va_Nw.warmM hW h.2.1, va_Nw.warmM hW h.2.2⟩
theorem qN.same {u U : State} (e : u.vm = U.vm) (h : qN u) : qN U := ⟨va_Nw.same rfl e h.1, va_Nw.same rfl e h.2.1, va_Nw.same rfl e h.2.2⟩
def qPre (D : va_G) (w : va_W) (tys : List (ClassId × FieldType)) (sz : Nat) (U : State) : Prop := U.heap.size = sz ∧ va_P D vwCl w U.heap ∧ va_K D vwCl tys U ∧ va_D (fun _ => True) w ∧ qN U
def qPost (D : va_G) (w : va_W) (tys : List (ClassId × FieldType)) (A : Nat → Prop) (t : State) : Prop := va_P D vwCl w t.heap ∧ va_K D vwCl tys t ∧ va_D A w
theorem q_blind {D : va_G} {w : va_W} {tys : List (ClassId × FieldType)} {sz : Nat} {As : List Value} : FrameBlind (va_Pc As (qPre D w tys sz)) := fun a U g mk q => ⟨q.1, q.2.1, q.2.2.1, va_K.moved (u := U) (U := U.calling g mk a) (Vm.Alike.refl U.vm) q.2.2.2.1, q.2.2.2.2.1, qN.same rfl q.2.2.2.2.2⟩
def CtI (l : Launch) (y : MethodName) (b : ByteArray) (n : Nat) (ret : Option FieldType) (rm : Room) (D : va_G) (As : List Value) (w : va_W) (tys : List (ClassId × FieldType)) {S : Type} (post : Int32 → S → Prop) (w1 : S → va_W) : Prop :=
  ∀ sz : Nat, Met l y (qCW y b n ret) rm (va_Pc As (qPre D w tys sz)) (va_Qi post (fun u t => qPost D (w1 u) tys (va_A w sz) t) (va_A w sz)) 0 0 (va_A w sz)
def CtL (l : Launch) (y : MethodName) (b : ByteArray) (n : Nat) (ret : Option FieldType) (rm : Room) (D : va_G) (As : List Value) (w : va_W) (tys : List (ClassId × FieldType)) {S : Type} (post : Int64 → S → Prop) (w1 : S → va_W) : Prop :=
  ∀ sz : Nat, Met l y (qCW y b n ret) rm (va_Pc As (qPre D w tys sz)) (va_Ql post (fun u t => qPost D (w1 u) tys (va_A w sz) t) (va_A w sz)) 0 0 (va_A w sz)
def CtV (l : Launch) (y : MethodName) (b : ByteArray) (n : Nat) (ret : Option FieldType) (rm : Room) (D : va_G) (As : List Value) (w : va_W) (tys : List (ClassId × FieldType)) {S : Type} (post : S → Prop) (w1 : S → va_W) : Prop :=
  ∀ sz : Nat, Met l y (qCW y b n ret) rm (va_Pc As (qPre D w tys sz)) (va_Qv post (fun u t => qPost D (w1 u) tys (va_A w sz) t) (va_A w sz)) 0 0 (va_A w sz)
/-- what a method's body has at hand -/
def qEnv (p : Program) (l : Launch) (e : Env) (rm : Room) (s : State) (m : MethodId) (As : List Value) (below : List Frame) (meth : Method) (c : Code) (A : Nat → Prop) (D : va_G) (own : String) (b : ByteArray) (n : Nat) (tys : List (ClassId × FieldType)) : Prop :=
  p.tables.exec = Jvm.exec ∧ c.code = b ∧ c.maxLocals = n ∧ s.vm.findClass own = some m.cls ∧ (∀ w ∈ qTs, w.before As.toArray s = true) ∧ qN s ∧ va_K D vwCl tys s ∧ ∀ q : Nat, s.heap.size ≤ q → A q
section QOF
variable {l : Launch} {y : MethodName} {b : ByteArray} {n : Nat} {rm : Room} {D : va_G} {As : List Value} {w : va_W} {tys : List (ClassId × FieldType)} {S : Type} {w1 : S → va_W}
theorem CtI.of {post : Int32 → S → Prop} (hy : plainName y.cls = true) (hn : (lg_sl As).length ≤ n)
    (body : ∀ (p : Program) (e : Env) (s : State) (m : MethodId) (below : List Frame) (meth : Method) (c : Code) (A : Nat → Prop) (ls : Array Slot) (Q : State → Prop), qEnv p l e rm s m As below meth c A D y.cls b n tys → va_P D vwCl w s.heap → va_D A w → va_S A s.heap s.heap [] → lv_has ls n (lv_args 0 As) →
      (∀ (r : Int32) (u : S) (H : Heap) (locs : List Loc) (pc : Nat) (ls : Array Slot), decode b pc = .ok (.ireturn, 1) → post r u → va_P D vwCl (w1 u) H → va_D A (w1 u) → va_S A s.heap H locs → W p l e rm s m As.toArray below meth c H locs 0 0 Q (F0 m pc ls [.int r])) →
      W p l e rm s m As.toArray below meth c s.heap [] 0 0 Q (F0 m 0 ls [])) : CtI l y b n (some .int) rm D As w tys post w1 := by
  intro sz
  refine Met.ofW (cc := b) (maxL := n) (ret := some .int) hy rfl ?_
  intro p e s m args below meth c s₁ B hml hv
  obtain ⟨rfl, hsz, hP, hK, hD0, hN⟩ := hv
  subst hsz
  have hx := B.exec
  have hb := B.bytes
  have hr := B.returns
  have hts := atoms_spec (ws := qCW y b n (some .int)) B.pre
  have hlocks := B.notSynchronized
  rw [lg_entry_eq]
  exact body p e s m below meth c (va_A w s.heap.size) _ _ ⟨hx, hb, hml, findClass_of_methodNamed B.named, fun w h => hts w (List.mem_cons_of_mem _ h), hN, hK, fun q h => Or.inr h⟩ hP (hD0.self (sz := s.heap.size)) va_S.rf (lv_entry As (n := n) hn)
    (fun r u H locs pc ls hd hp hP hD hS => W.iret hx hb hr (fun t ht hW => ⟨⟨r, u, rfl, hp, by rw [ht]; exact hP, va_K.moved hW.alike hK, hD⟩, hS.F ht⟩) hS.2.2 hd)
theorem CtI.ofZ {post : Int32 → S → Prop} (hy : plainName y.cls = true) (hn : (lg_sl As).length ≤ n)
    (body : ∀ (p : Program) (e : Env) (s : State) (m : MethodId) (below : List Frame) (meth : Method) (c : Code) (A : Nat → Prop) (ls : Array Slot) (Q : State → Prop), qEnv p l e rm s m As below meth c A D y.cls b n tys → va_P D vwCl w s.heap → va_D A w → va_S A s.heap s.heap [] → lv_has ls n (lv_args 0 As) →
      (∀ (r : Bool) (u : S) (H : Heap) (locs : List Loc) (pc : Nat) (ls : Array Slot), decode b pc = .ok (.ireturn, 1) → post (bI r) u → va_P D vwCl (w1 u) H → va_D A (w1 u) → va_S A s.heap H locs → W p l e rm s m As.toArray below meth c H locs 0 0 Q (F0 m pc ls [.int (bI r)])) →
      W p l e rm s m As.toArray below meth c s.heap [] 0 0 Q (F0 m 0 ls [])) : CtI l y b n (some .boolean) rm D As w tys post w1 := by
  intro sz
  refine Met.ofW (cc := b) (maxL := n) (ret := some .boolean) hy rfl ?_
  intro p e s m args below meth c s₁ B hml hv
  obtain ⟨rfl, hsz, hP, hK, hD0, hN⟩ := hv
  subst hsz
  have hx := B.exec
  have hb := B.bytes
  have hr := B.returns
  have hts := atoms_spec (ws := qCW y b n (some .boolean)) B.pre
  have hlocks := B.notSynchronized
  rw [lg_entry_eq]
  exact body p e s m below meth c (va_A w s.heap.size) _ _ ⟨hx, hb, hml, findClass_of_methodNamed B.named, fun w h => hts w (List.mem_cons_of_mem _ h), hN, hK, fun q h => Or.inr h⟩ hP (hD0.self (sz := s.heap.size)) va_S.rf (lv_entry As (n := n) hn)
    (fun r u H locs pc ls hd hp hP hD hS => W.zret hx hb hr (bI_nar r) (fun t ht hW => ⟨⟨bI r, u, rfl, hp, by rw [ht]; exact hP, va_K.moved hW.alike hK, hD⟩, hS.F ht⟩) hS.2.2 hd)
theorem CtL.of {post : Int64 → S → Prop} (hy : plainName y.cls = true) (hn : (lg_sl As).length ≤ n)
    (body : ∀ (p : Program) (e : Env) (s : State) (m : MethodId) (below : List Frame) (meth : Method) (c : Code) (A : Nat → Prop) (ls : Array Slot) (Q : State → Prop), qEnv p l e rm s m As below meth c A D y.cls b n tys → va_P D vwCl w s.heap → va_D A w → va_S A s.heap s.heap [] → lv_has ls n (lv_args 0 As) →
      (∀ (r : Int64) (u : S) (H : Heap) (locs : List Loc) (pc : Nat) (ls : Array Slot), decode b pc = .ok (.lreturn, 1) → post r u → va_P D vwCl (w1 u) H → va_D A (w1 u) → va_S A s.heap H locs → W p l e rm s m As.toArray below meth c H locs 0 0 Q (F0 m pc ls [.long r])) →
      W p l e rm s m As.toArray below meth c s.heap [] 0 0 Q (F0 m 0 ls [])) : CtL l y b n (some .long) rm D As w tys post w1 := by
  intro sz
  refine Met.ofW (cc := b) (maxL := n) (ret := some .long) hy rfl ?_
  intro p e s m args below meth c s₁ B hml hv
  obtain ⟨rfl, hsz, hP, hK, hD0, hN⟩ := hv
  subst hsz
  have hx := B.exec
  have hb := B.bytes
  have hr := B.returns
  have hts := atoms_spec (ws := qCW y b n (some .long)) B.pre
  have hlocks := B.notSynchronized
  rw [lg_entry_eq]
  exact body p e s m below meth c (va_A w s.heap.size) _ _ ⟨hx, hb, hml, findClass_of_methodNamed B.named, fun w h => hts w (List.mem_cons_of_mem _ h), hN, hK, fun q h => Or.inr h⟩ hP (hD0.self (sz := s.heap.size)) va_S.rf (lv_entry As (n := n) hn)
    (fun r u H locs pc ls hd hp hP hD hS => W.lret hx hb hr (fun t ht hW => ⟨⟨r, u, rfl, hp, by rw [ht]; exact hP, va_K.moved hW.alike hK, hD⟩, hS.F ht⟩) hS.2.2 hd)
theorem CtV.of {post : S → Prop} (hy : plainName y.cls = true) (hn : (lg_sl As).length ≤ n)
    (body : ∀ (p : Program) (e : Env) (s : State) (m : MethodId) (below : List Frame) (meth : Method) (c : Code) (A : Nat → Prop) (ls : Array Slot) (Q : State → Prop), qEnv p l e rm s m As below meth c A D y.cls b n tys → va_P D vwCl w s.heap → va_D A w → va_S A s.heap s.heap [] → lv_has ls n (lv_args 0 As) →
      (∀ (u : S) (H : Heap) (locs : List Loc) (pc : Nat) (ls : Array Slot), decode b pc = .ok (.return_, 1) → post u → va_P D vwCl (w1 u) H → va_D A (w1 u) → va_S A s.heap H locs → W p l e rm s m As.toArray below meth c H locs 0 0 Q (F0 m pc ls [])) →
      W p l e rm s m As.toArray below meth c s.heap [] 0 0 Q (F0 m 0 ls [])) : CtV l y b n none rm D As w tys post w1 := by
  intro sz
  refine Met.ofW (cc := b) (maxL := n) (ret := none) hy rfl ?_
  intro p e s m args below meth c s₁ B hml hv
  obtain ⟨rfl, hsz, hP, hK, hD0, hN⟩ := hv
  subst hsz
  have hx := B.exec
  have hb := B.bytes
  have hr := B.returns
  have hts := atoms_spec (ws := qCW y b n none) B.pre
  have hlocks := B.notSynchronized
  rw [lg_entry_eq]
  exact body p e s m below meth c (va_A w s.heap.size) _ _ ⟨hx, hb, hml, findClass_of_methodNamed B.named, fun w h => hts w (List.mem_cons_of_mem _ h), hN, hK, fun q h => Or.inr h⟩ hP (hD0.self (sz := s.heap.size)) va_S.rf (lv_entry As (n := n) hn)
    (fun u H locs pc ls hd hp hP hD hS => W.vret hx hb hr (fun t ht hW => ⟨⟨u, rfl, hp, by rw [ht]; exact hP, va_K.moved hW.alike hK, hD⟩, hS.F ht⟩) hS.2.2 hd)
end QOF
/-- the callee's cells put back into their places -/
def q_mix : List Nat → va_W → va_W → va_W
  | i :: is, ws, c :: cs => q_mix is (ws.set i c) cs
  | _, ws, _ => ws
theorem q_mix_get : ∀ (is : List Nat) (ws cs : va_W), is.length = cs.length → ∀ (k : Nat) (q : Nat × va_E), (q_mix is ws cs)[k]? = some q → (∃ j : Nat, is[j]? = some k ∧ cs[j]? = some q) ∨ (k ∉ is ∧ ws[k]? = some q)
  | [], ws, cs, _, k, q, h => Or.inr ⟨List.not_mem_nil, by simpa [q_mix] using h⟩
  | i :: is, ws, [], hl, k, q, h => by simp at hl
  | i :: is, ws, c :: cs, hl, k, q, h => by
    rcases q_mix_get is (ws.set i c) cs (by simpa using hl) k q h with ⟨j, h1, h2⟩ | ⟨h1, h2⟩
    · exact Or.inl ⟨j + 1, by simpa using h1, by simpa using h2⟩
    · by_cases hk : k = i
      · subst hk
        by_cases hlt : k < ws.length
        · rw [List.getElem?_set_self hlt] at h2
          exact Or.inl ⟨0, by simp, by simpa using h2⟩
        · rw [List.getElem?_eq_none (by simpa using hlt)] at h2
          cases h2
      · rw [List.getElem?_set_ne (Ne.symm hk)] at h2
        exact Or.inr ⟨by simp [hk, h1], h2⟩
theorem q_join {A0 : Nat → Prop} {D : va_G} {ws wc w1 : va_W} {H H1 : Heap} (hP : va_P D vwCl ws H) (hD : va_D A0 ws) (isC : List Nat) (hC : isC.map (fun i => ws[i]?) = wc.map some) (hadr : w1.map Prod.fst = wc.map Prod.fst)
    (hk : ∀ q : Nat, q < H.size → ¬ va_A wc H.size q → H1[q]? = H[q]?) (hP1 : va_P D vwCl w1 H1) : va_P D vwCl (q_mix isC ws w1) H1 ∧ va_D A0 (q_mix isC ws w1) := by
  have hlen : isC.length = w1.length := by
    have h1 := congrArg List.length hC
    have h2 := congrArg List.length hadr
    simp at h1 h2
    omega
  have at' : ∀ (k : Nat) (q : Nat × va_E), wc[k]? = some q → ∃ i, isC[k]? = some i ∧ ws[i]? = some q := by
    intro k q hq
    have h1 : (isC.map (fun i => ws[i]?))[k]? = some (some q) := by rw [hC, List.getElem?_map, hq]; rfl
    rw [List.getElem?_map] at h1
    cases hi : isC[k]? with
    | none => rw [hi] at h1; cases h1
    | some i => rw [hi] at h1; exact ⟨i, rfl, Option.some.inj h1⟩
  have old : ∀ (k : Nat) (q : Nat × va_E), (q_mix isC ws w1)[k]? = some q → ∃ q0, ws[k]? = some q0 ∧ q0.1 = q.1 := by
    intro k q h
    rcases q_mix_get isC ws w1 hlen k q h with ⟨j, h1, h2⟩ | ⟨h1, h2⟩
    · have h3 : (w1.map Prod.fst)[j]? = some q.1 := by rw [List.getElem?_map, h2]; rfl
      rw [hadr, List.getElem?_map] at h3
      cases hw : wc[j]? with
      | none => rw [hw] at h3; cases h3
      | some q' =>
        rw [hw] at h3
        obtain ⟨i, h4, h5⟩ := at' j q' hw
        rw [h1] at h4
        cases h4
        exact ⟨q', h5, Option.some.inj h3⟩
    · exact ⟨q, h2, rfl⟩
  refine ⟨fun k q h => ?_, fun i j x y hi hj hxy => ?_, fun k q h => ?_⟩
  · rcases q_mix_get isC ws w1 hlen k q h with ⟨j, h1, h2⟩ | ⟨h1, h2⟩
    · exact hP1 j q h2
    · have hlt := (hP k q h2).lt
      refine (hP k q h2).kept (hk q.1 hlt (fun hA => ?_))
      rcases hA with ⟨k2, e, h3⟩ | h3
      · obtain ⟨i, h4, h5⟩ := at' k2 (q.1, e) h3
        have hki := hD.1 k i q (q.1, e) h2 h5 rfl
        subst hki
        exact h1 (List.mem_of_getElem? h4)
      · omega
  · obtain ⟨x0, a1, a2⟩ := old i x hi
    obtain ⟨y0, b1, b2⟩ := old j y hj
    exact hD.1 i j x0 y0 a1 b1 (a2.trans (hxy.trans b2.symm))
  · obtain ⟨q0, a1, a2⟩ := old k q h
    rw [← a2]
    exact hD.2 k q0 a1
section QCALL
variable {p : Program} {l : Launch} {e : Env} {R : Room} {s : State} {m : MethodId} {args : Array Value} {below : List Frame} {meth : Method} {c : Code} {H : Heap} {locs : List Loc} {cells slots : Nat} {Q : State → Prop}
variable {y : MethodName} {yb cc : ByteArray} {yn nL n idx : Nat} {yret : Option FieldType} {rm : Room} {own : String} {D : va_G} {As rest st : List Value} {wc ws : va_W} {tyc tys : List (ClassId × FieldType)} {S : Type} {w1 : S → va_W} {A : Nat → Prop} {b pc : Nat} {ls : Array Slot} {H0 : Heap}
/-- what the tables say of a callee -/
def qV (y : MethodName) (yb : ByteArray) (yn : Nat) (yret : Option FieldType) (n : Nat) : Prop := Cond.code y yb yn yret ∈ qTs ∧ Cond.instanceMethod y ∈ qTs ∧ Cond.selects y.cls y y ∈ qTs ∧ Cond.initialized y.cls ∈ qTs ∧ (y.cls ≠ "java/lang/invoke/MethodHandle" ∧ y.cls ≠ "java/lang/invoke/VarHandle") ∧ (parseMethodDescriptor y.desc).map (fun d => d.parameters.length) = some n
def qS (y : MethodName) (yb : ByteArray) (yn : Nat) (yret : Option FieldType) (n : Nat) : Prop := Cond.code y yb yn yret ∈ qTs ∧ Cond.static y ∈ qTs ∧ Cond.initialized y.cls ∈ qTs ∧ (y.cls ≠ "java/lang/invoke/MethodHandle" ∧ y.cls ≠ "java/lang/invoke/VarHandle") ∧ (parseMethodDescriptor y.desc).map (fun d => d.parameters.length) = some n
theorem q_GI (h1 : Cond.code y yb yn yret ∈ qTs) : GoodIn qTs (qCW y yb yn yret) := fun w h => by
  rcases List.mem_cons.mp h with rfl | h
  · exact ⟨h1, q_good _ h1⟩
  · exact ⟨h, q_good _ h⟩
theorem q_cwV (v : qV y yb yn yret n) (hl : Cond.methodLink own idx y ∈ qTs) (ht : ∀ w ∈ qTs, w.before args s = true) (hR : rm.frames + 1 ≤ R.frames ∧ 8 + (yn + 11) + rm.locals ≤ R.locals) (hc : rm.cells = 0) (hs : rm.slots = 0) : CallW R s args own y.cls idx y yb yn yret (qCW y yb yn yret) rm 0 0 n := by
  obtain ⟨h1, h2, h3, h4, h5, h6⟩ := v
  exact ⟨callB_of n ht (q_GI h1) rfl hc hs (ht _ h4) (ht _ hl) ⟨h5.1, h5.2, h6⟩ hR, ht _ h2, ht _ h3⟩
theorem q_cwS (v : qS y yb yn yret n) (hl : Cond.methodLink own idx y ∈ qTs) (ht : ∀ w ∈ qTs, w.before args s = true) (hR : rm.frames + 1 ≤ R.frames ∧ 8 + (yn + 11) + rm.locals ≤ R.locals) (hc : rm.cells = 0) (hs : rm.slots = 0) : CallB R s args own idx y yb yn yret (qCW y yb yn yret) rm 0 0 n ∧ (Cond.static y).before args s = true := by
  obtain ⟨h1, h2, h4, h5, h6⟩ := v
  exact ⟨callB_of n ht (q_GI h1) rfl hc hs (ht _ h4) (ht _ hl) ⟨h5.1, h5.2, h6⟩ hR, ht _ h2⟩
theorem q_cwN (v : qS y yb yn yret n) (hl : va_Nw (.methodLinkNest own idx y "SmallFrame") s) (ht : ∀ w ∈ qTs, w.before args s = true) (hR : rm.frames + 1 ≤ R.frames ∧ 8 + (yn + 11) + rm.locals ≤ R.locals) (hc : rm.cells = 0) (hs : rm.slots = 0) : va_CN R s args own idx y "SmallFrame" yb yn yret (qCW y yb yn yret) rm 0 0 n ∧ (Cond.static y).before args s = true ∧ True := by
  obtain ⟨h1, h2, h4, h5, h6⟩ := v
  exact ⟨va_cnB n ht (q_GI h1) rfl hc hs hl (ht _ h4) ⟨h5.1, h5.2, h6⟩ hR, ht _ h2, trivial⟩
theorem q_subP {ws wc : va_W} (hP : va_P D vwCl ws H) (isC : List Nat) (hC : isC.map (fun i => ws[i]?) = wc.map some) : va_P D vwCl wc H := by
  intro k q hq
  have h1 : (isC.map (fun i => ws[i]?))[k]? = some (some q) := by rw [hC, List.getElem?_map, hq]; rfl
  rw [List.getElem?_map] at h1
  cases hi : isC[k]? with
  | none => rw [hi] at h1; cases h1
  | some i => rw [hi] at h1; exact hP i q (Option.some.inj h1)
theorem q_Vi {post : Int32 → S → Prop} (ct : CtI l y yb yn yret rm D (.ref b :: As) wc tyc post w1) (v : qV y yb yn yret n) (hx : p.tables.exec = Jvm.exec) (hb : c.code = cc) (hml : c.maxLocals = nL) (hown : s.vm.findClass own = some m.cls) (ht : ∀ w ∈ qTs, w.before args s = true) (hN : qN s) (hK : va_K D vwCl tys s) (hA : ∀ q : Nat, H0.size ≤ q → A q) (hP : va_P D vwCl ws H) (hD : va_D A ws) (hS : va_S A H0 H locs) (hls : ls.size = nL) (hl : Cond.methodLink own idx y ∈ qTs) (hR : rm.frames + 1 ≤ R.frames ∧ 8 + (yn + 11) + rm.locals ≤ R.locals) (hc0 : rm.cells = 0) (hs0 : rm.slots = 0) (isC : List Nat) (hn : va_nd isC = true) (hC : isC.map (fun i => ws[i]?) = wc.map some) (isT : List Nat) (hT : isT.filterMap (fun i => tys[i]?) = tyc) (hadr : ∀ u, (w1 u).map Prod.fst = wc.map Prod.fst) {ci : Nat} {r0 : vw_C} {fs : List Value} (hci : vwCl[ci]? = some r0) (hre : wc[0]? = some (b, .inr (ci, fs))) (hrc : r0.1 = y.cls) (hst : st = As.reverse ++ .ref b :: rest) (hlen : As.length = n) (hW : (rest.map fun v => v.category).sum ≤ 8) (hdg : decode cc pc = .ok (.invokevirtual idx, 3)) (hcs : cells + 0 ≤ R.cells ∧ slots + 0 ≤ R.slots)
    (kk : ∀ (r : Int32) (u : S) (H1 : Heap) (locs1 : List Loc), post r u → va_P D vwCl (q_mix isC ws (w1 u)) H1 → va_D A (q_mix isC ws (w1 u)) → va_S A H0 H1 locs1 → W p l e R s m args below meth c H1 locs1 cells slots Q (F0 m (pc + 3) ls (.int r :: rest))) : W p l e R s m args below meth c H locs cells slots Q (F0 m pc ls st) := by
  have hPc := q_subP hP isC hC
  have hDc := hD.sub (ws' := wc) isC hn hC
  have hKc := hK.sub isT hT
  have hFc : ∀ q, va_A wc H.size q → A q := va_free hD hS hA isC hC
  refine va_calli (va_runV (As := As) (rest := rest) ⟨hx, hb, hml, hown, ht⟩ (ct H.size) (q_cwV v hl ht hR hc0 hs0) ⟨q_blind, by rw [← hrc]; exact va_recv hKc hPc (ci := ci) (q0 := 0) hci hre, fun U hU hW => ⟨rfl, by rw [hU], by rw [hU]; exact hPc, va_K.moved hW.alike hKc, hDc.weaken (fun _ _ _ _ => trivial), hN.warm hW⟩⟩ rfl hlen hls hst (lv_room hW) hdg hcs) hS (fun q _ h => hFc q h) hFc (fun r u t H1 locs1 ht1 hvm hw hB hz1 hk1 hS1 => ?_)
  obtain ⟨hP1, hK1, hD1⟩ := hB
  rw [ht1] at hP1
  obtain ⟨a1, b1⟩ := q_join hP hD isC hC (hadr u) hk1 hP1
  exact kk r u H1 locs1 hw a1 b1 hS1
theorem q_Si {post : Int32 → S → Prop} (ct : CtI l y yb yn yret rm D As wc tyc post w1) (v : qS y yb yn yret n) (hx : p.tables.exec = Jvm.exec) (hb : c.code = cc) (hml : c.maxLocals = nL) (hown : s.vm.findClass own = some m.cls) (ht : ∀ w ∈ qTs, w.before args s = true) (hN : qN s) (hK : va_K D vwCl tys s) (hA : ∀ q : Nat, H0.size ≤ q → A q) (hP : va_P D vwCl ws H) (hD : va_D A ws) (hS : va_S A H0 H locs) (hls : ls.size = nL) (hl : Cond.methodLink own idx y ∈ qTs) (hR : rm.frames + 1 ≤ R.frames ∧ 8 + (yn + 11) + rm.locals ≤ R.locals) (hc0 : rm.cells = 0) (hs0 : rm.slots = 0) (isC : List Nat) (hn : va_nd isC = true) (hC : isC.map (fun i => ws[i]?) = wc.map some) (isT : List Nat) (hT : isT.filterMap (fun i => tys[i]?) = tyc) (hadr : ∀ u, (w1 u).map Prod.fst = wc.map Prod.fst)  (hst : st = As.reverse ++ rest) (hlen : As.length = n) (hW : (rest.map fun v => v.category).sum ≤ 8) (hdg : decode cc pc = .ok (.invokestatic idx, 3)) (hcs : cells + 0 ≤ R.cells ∧ slots + 0 ≤ R.slots)
    (kk : ∀ (r : Int32) (u : S) (H1 : Heap) (locs1 : List Loc), post r u → va_P D vwCl (q_mix isC ws (w1 u)) H1 → va_D A (q_mix isC ws (w1 u)) → va_S A H0 H1 locs1 → W p l e R s m args below meth c H1 locs1 cells slots Q (F0 m (pc + 3) ls (.int r :: rest))) : W p l e R s m args below meth c H locs cells slots Q (F0 m pc ls st) := by
  have hPc := q_subP hP isC hC
  have hDc := hD.sub (ws' := wc) isC hn hC
  have hKc := hK.sub isT hT
  have hFc : ∀ q, va_A wc H.size q → A q := va_free hD hS hA isC hC
  refine va_calli (va_runS (As := As) (rest := rest) ⟨hx, hb, hml, hown, ht⟩ (ct H.size) (q_cwS v hl ht hR hc0 hs0) ⟨q_blind, fun U hU hW => ⟨rfl, by rw [hU], by rw [hU]; exact hPc, va_K.moved hW.alike hKc, hDc.weaken (fun _ _ _ _ => trivial), hN.warm hW⟩⟩ rfl hlen hls hst (lv_room hW) hdg hcs) hS (fun q _ h => hFc q h) hFc (fun r u t H1 locs1 ht1 hvm hw hB hz1 hk1 hS1 => ?_)
  obtain ⟨hP1, hK1, hD1⟩ := hB
  rw [ht1] at hP1
  obtain ⟨a1, b1⟩ := q_join hP hD isC hC (hadr u) hk1 hP1
  exact kk r u H1 locs1 hw a1 b1 hS1
theorem q_Ni {post : Int32 → S → Prop} (ct : CtI l y yb yn yret rm D As wc tyc post w1) (v : qS y yb yn yret n) (hx : p.tables.exec = Jvm.exec) (hb : c.code = cc) (hml : c.maxLocals = nL) (hown : s.vm.findClass own = some m.cls) (ht : ∀ w ∈ qTs, w.before args s = true) (hN : qN s) (hK : va_K D vwCl tys s) (hA : ∀ q : Nat, H0.size ≤ q → A q) (hP : va_P D vwCl ws H) (hD : va_D A ws) (hS : va_S A H0 H locs) (hls : ls.size = nL) (hl : va_Nw (.methodLinkNest own idx y "SmallFrame") s) (hR : rm.frames + 1 ≤ R.frames ∧ 8 + (yn + 11) + rm.locals ≤ R.locals) (hc0 : rm.cells = 0) (hs0 : rm.slots = 0) (isC : List Nat) (hn : va_nd isC = true) (hC : isC.map (fun i => ws[i]?) = wc.map some) (isT : List Nat) (hT : isT.filterMap (fun i => tys[i]?) = tyc) (hadr : ∀ u, (w1 u).map Prod.fst = wc.map Prod.fst)  (hst : st = As.reverse ++ rest) (hlen : As.length = n) (hW : (rest.map fun v => v.category).sum ≤ 8) (hdg : decode cc pc = .ok (.invokestatic idx, 3)) (hcs : cells + 0 ≤ R.cells ∧ slots + 0 ≤ R.slots)
    (kk : ∀ (r : Int32) (u : S) (H1 : Heap) (locs1 : List Loc), post r u → va_P D vwCl (q_mix isC ws (w1 u)) H1 → va_D A (q_mix isC ws (w1 u)) → va_S A H0 H1 locs1 → W p l e R s m args below meth c H1 locs1 cells slots Q (F0 m (pc + 3) ls (.int r :: rest))) : W p l e R s m args below meth c H locs cells slots Q (F0 m pc ls st) := by
  have hPc := q_subP hP isC hC
  have hDc := hD.sub (ws' := wc) isC hn hC
  have hKc := hK.sub isT hT
  have hFc : ∀ q, va_A wc H.size q → A q := va_free hD hS hA isC hC
  refine va_calli (va_runSN (As := As) (rest := rest) ⟨hx, hb, hml, hown, ht⟩ (ct H.size) (q_cwN v hl ht hR hc0 hs0) ⟨q_blind, fun U hU hW => ⟨rfl, by rw [hU], by rw [hU]; exact hPc, va_K.moved hW.alike hKc, hDc.weaken (fun _ _ _ _ => trivial), hN.warm hW⟩⟩ rfl hlen hls hst (lv_room hW) hdg hcs) hS (fun q _ h => hFc q h) hFc (fun r u t H1 locs1 ht1 hvm hw hB hz1 hk1 hS1 => ?_)
  obtain ⟨hP1, hK1, hD1⟩ := hB
  rw [ht1] at hP1
  obtain ⟨a1, b1⟩ := q_join hP hD isC hC (hadr u) hk1 hP1
  exact kk r u H1 locs1 hw a1 b1 hS1
theorem q_Vl {post : Int64 → S → Prop} (ct : CtL l y yb yn yret rm D (.ref b :: As) wc tyc post w1) (v : qV y yb yn yret n) (hx : p.tables.exec = Jvm.exec) (hb : c.code = cc) (hml : c.maxLocals = nL) (hown : s.vm.findClass own = some m.cls) (ht : ∀ w ∈ qTs, w.before args s = true) (hN : qN s) (hK : va_K D vwCl tys s) (hA : ∀ q : Nat, H0.size ≤ q → A q) (hP : va_P D vwCl ws H) (hD : va_D A ws) (hS : va_S A H0 H locs) (hls : ls.size = nL) (hl : Cond.methodLink own idx y ∈ qTs) (hR : rm.frames + 1 ≤ R.frames ∧ 8 + (yn + 11) + rm.locals ≤ R.locals) (hc0 : rm.cells = 0) (hs0 : rm.slots = 0) (isC : List Nat) (hn : va_nd isC = true) (hC : isC.map (fun i => ws[i]?) = wc.map some) (isT : List Nat) (hT : isT.filterMap (fun i => tys[i]?) = tyc) (hadr : ∀ u, (w1 u).map Prod.fst = wc.map Prod.fst) {ci : Nat} {r0 : vw_C} {fs : List Value} (hci : vwCl[ci]? = some r0) (hre : wc[0]? = some (b, .inr (ci, fs))) (hrc : r0.1 = y.cls) (hst : st = As.reverse ++ .ref b :: rest) (hlen : As.length = n) (hW : (rest.map fun v => v.category).sum ≤ 8) (hdg : decode cc pc = .ok (.invokevirtual idx, 3)) (hcs : cells + 0 ≤ R.cells ∧ slots + 0 ≤ R.slots)
    (kk : ∀ (r : Int64) (u : S) (H1 : Heap) (locs1 : List Loc), post r u → va_P D vwCl (q_mix isC ws (w1 u)) H1 → va_D A (q_mix isC ws (w1 u)) → va_S A H0 H1 locs1 → W p l e R s m args below meth c H1 locs1 cells slots Q (F0 m (pc + 3) ls (.long r :: rest))) : W p l e R s m args below meth c H locs cells slots Q (F0 m pc ls st) := by
  have hPc := q_subP hP isC hC
  have hDc := hD.sub (ws' := wc) isC hn hC
  have hKc := hK.sub isT hT
  have hFc : ∀ q, va_A wc H.size q → A q := va_free hD hS hA isC hC
  refine va_calll (va_runV (As := As) (rest := rest) ⟨hx, hb, hml, hown, ht⟩ (ct H.size) (q_cwV v hl ht hR hc0 hs0) ⟨q_blind, by rw [← hrc]; exact va_recv hKc hPc (ci := ci) (q0 := 0) hci hre, fun U hU hW => ⟨rfl, by rw [hU], by rw [hU]; exact hPc, va_K.moved hW.alike hKc, hDc.weaken (fun _ _ _ _ => trivial), hN.warm hW⟩⟩ rfl hlen hls hst (lv_room hW) hdg hcs) hS (fun q _ h => hFc q h) hFc (fun r u t H1 locs1 ht1 hvm hw hB hz1 hk1 hS1 => ?_)
  obtain ⟨hP1, hK1, hD1⟩ := hB
  rw [ht1] at hP1
  obtain ⟨a1, b1⟩ := q_join hP hD isC hC (hadr u) hk1 hP1
  exact kk r u H1 locs1 hw a1 b1 hS1
theorem q_Sl {post : Int64 → S → Prop} (ct : CtL l y yb yn yret rm D As wc tyc post w1) (v : qS y yb yn yret n) (hx : p.tables.exec = Jvm.exec) (hb : c.code = cc) (hml : c.maxLocals = nL) (hown : s.vm.findClass own = some m.cls) (ht : ∀ w ∈ qTs, w.before args s = true) (hN : qN s) (hK : va_K D vwCl tys s) (hA : ∀ q : Nat, H0.size ≤ q → A q) (hP : va_P D vwCl ws H) (hD : va_D A ws) (hS : va_S A H0 H locs) (hls : ls.size = nL) (hl : Cond.methodLink own idx y ∈ qTs) (hR : rm.frames + 1 ≤ R.frames ∧ 8 + (yn + 11) + rm.locals ≤ R.locals) (hc0 : rm.cells = 0) (hs0 : rm.slots = 0) (isC : List Nat) (hn : va_nd isC = true) (hC : isC.map (fun i => ws[i]?) = wc.map some) (isT : List Nat) (hT : isT.filterMap (fun i => tys[i]?) = tyc) (hadr : ∀ u, (w1 u).map Prod.fst = wc.map Prod.fst)  (hst : st = As.reverse ++ rest) (hlen : As.length = n) (hW : (rest.map fun v => v.category).sum ≤ 8) (hdg : decode cc pc = .ok (.invokestatic idx, 3)) (hcs : cells + 0 ≤ R.cells ∧ slots + 0 ≤ R.slots)
    (kk : ∀ (r : Int64) (u : S) (H1 : Heap) (locs1 : List Loc), post r u → va_P D vwCl (q_mix isC ws (w1 u)) H1 → va_D A (q_mix isC ws (w1 u)) → va_S A H0 H1 locs1 → W p l e R s m args below meth c H1 locs1 cells slots Q (F0 m (pc + 3) ls (.long r :: rest))) : W p l e R s m args below meth c H locs cells slots Q (F0 m pc ls st) := by
  have hPc := q_subP hP isC hC
  have hDc := hD.sub (ws' := wc) isC hn hC
  have hKc := hK.sub isT hT
  have hFc : ∀ q, va_A wc H.size q → A q := va_free hD hS hA isC hC
  refine va_calll (va_runS (As := As) (rest := rest) ⟨hx, hb, hml, hown, ht⟩ (ct H.size) (q_cwS v hl ht hR hc0 hs0) ⟨q_blind, fun U hU hW => ⟨rfl, by rw [hU], by rw [hU]; exact hPc, va_K.moved hW.alike hKc, hDc.weaken (fun _ _ _ _ => trivial), hN.warm hW⟩⟩ rfl hlen hls hst (lv_room hW) hdg hcs) hS (fun q _ h => hFc q h) hFc (fun r u t H1 locs1 ht1 hvm hw hB hz1 hk1 hS1 => ?_)
  obtain ⟨hP1, hK1, hD1⟩ := hB
  rw [ht1] at hP1
  obtain ⟨a1, b1⟩ := q_join hP hD isC hC (hadr u) hk1 hP1
  exact kk r u H1 locs1 hw a1 b1 hS1
theorem q_Vv {post : S → Prop} (ct : CtV l y yb yn yret rm D (.ref b :: As) wc tyc post w1) (v : qV y yb yn yret n) (hx : p.tables.exec = Jvm.exec) (hb : c.code = cc) (hml : c.maxLocals = nL) (hown : s.vm.findClass own = some m.cls) (ht : ∀ w ∈ qTs, w.before args s = true) (hN : qN s) (hK : va_K D vwCl tys s) (hA : ∀ q : Nat, H0.size ≤ q → A q) (hP : va_P D vwCl ws H) (hD : va_D A ws) (hS : va_S A H0 H locs) (hls : ls.size = nL) (hl : Cond.methodLink own idx y ∈ qTs) (hR : rm.frames + 1 ≤ R.frames ∧ 8 + (yn + 11) + rm.locals ≤ R.locals) (hc0 : rm.cells = 0) (hs0 : rm.slots = 0) (isC : List Nat) (hn : va_nd isC = true) (hC : isC.map (fun i => ws[i]?) = wc.map some) (isT : List Nat) (hT : isT.filterMap (fun i => tys[i]?) = tyc) (hadr : ∀ u, (w1 u).map Prod.fst = wc.map Prod.fst) {ci : Nat} {r0 : vw_C} {fs : List Value} (hci : vwCl[ci]? = some r0) (hre : wc[0]? = some (b, .inr (ci, fs))) (hrc : r0.1 = y.cls) (hst : st = As.reverse ++ .ref b :: rest) (hlen : As.length = n) (hW : (rest.map fun v => v.category).sum ≤ 8) (hdg : decode cc pc = .ok (.invokevirtual idx, 3)) (hcs : cells + 0 ≤ R.cells ∧ slots + 0 ≤ R.slots)
    (kk : ∀ (u : S) (H1 : Heap) (locs1 : List Loc), post u → va_P D vwCl (q_mix isC ws (w1 u)) H1 → va_D A (q_mix isC ws (w1 u)) → va_S A H0 H1 locs1 → W p l e R s m args below meth c H1 locs1 cells slots Q (F0 m (pc + 3) ls (rest))) : W p l e R s m args below meth c H locs cells slots Q (F0 m pc ls st) := by
  have hPc := q_subP hP isC hC
  have hDc := hD.sub (ws' := wc) isC hn hC
  have hKc := hK.sub isT hT
  have hFc : ∀ q, va_A wc H.size q → A q := va_free hD hS hA isC hC
  refine va_callv (va_runV (As := As) (rest := rest) ⟨hx, hb, hml, hown, ht⟩ (ct H.size) (q_cwV v hl ht hR hc0 hs0) ⟨q_blind, by rw [← hrc]; exact va_recv hKc hPc (ci := ci) (q0 := 0) hci hre, fun U hU hW => ⟨rfl, by rw [hU], by rw [hU]; exact hPc, va_K.moved hW.alike hKc, hDc.weaken (fun _ _ _ _ => trivial), hN.warm hW⟩⟩ rfl hlen hls hst (lv_room hW) hdg hcs) hS (fun q _ h => hFc q h) hFc (fun u t H1 locs1 ht1 hvm hw hB hz1 hk1 hS1 => ?_)
  obtain ⟨hP1, hK1, hD1⟩ := hB
  rw [ht1] at hP1
  obtain ⟨a1, b1⟩ := q_join hP hD isC hC (hadr u) hk1 hP1
  exact kk u H1 locs1 hw a1 b1 hS1
theorem q_Sv {post : S → Prop} (ct : CtV l y yb yn yret rm D As wc tyc post w1) (v : qS y yb yn yret n) (hx : p.tables.exec = Jvm.exec) (hb : c.code = cc) (hml : c.maxLocals = nL) (hown : s.vm.findClass own = some m.cls) (ht : ∀ w ∈ qTs, w.before args s = true) (hN : qN s) (hK : va_K D vwCl tys s) (hA : ∀ q : Nat, H0.size ≤ q → A q) (hP : va_P D vwCl ws H) (hD : va_D A ws) (hS : va_S A H0 H locs) (hls : ls.size = nL) (hl : Cond.methodLink own idx y ∈ qTs) (hR : rm.frames + 1 ≤ R.frames ∧ 8 + (yn + 11) + rm.locals ≤ R.locals) (hc0 : rm.cells = 0) (hs0 : rm.slots = 0) (isC : List Nat) (hn : va_nd isC = true) (hC : isC.map (fun i => ws[i]?) = wc.map some) (isT : List Nat) (hT : isT.filterMap (fun i => tys[i]?) = tyc) (hadr : ∀ u, (w1 u).map Prod.fst = wc.map Prod.fst)  (hst : st = As.reverse ++ rest) (hlen : As.length = n) (hW : (rest.map fun v => v.category).sum ≤ 8) (hdg : decode cc pc = .ok (.invokestatic idx, 3)) (hcs : cells + 0 ≤ R.cells ∧ slots + 0 ≤ R.slots)
    (kk : ∀ (u : S) (H1 : Heap) (locs1 : List Loc), post u → va_P D vwCl (q_mix isC ws (w1 u)) H1 → va_D A (q_mix isC ws (w1 u)) → va_S A H0 H1 locs1 → W p l e R s m args below meth c H1 locs1 cells slots Q (F0 m (pc + 3) ls (rest))) : W p l e R s m args below meth c H locs cells slots Q (F0 m pc ls st) := by
  have hPc := q_subP hP isC hC
  have hDc := hD.sub (ws' := wc) isC hn hC
  have hKc := hK.sub isT hT
  have hFc : ∀ q, va_A wc H.size q → A q := va_free hD hS hA isC hC
  refine va_callv (va_runS (As := As) (rest := rest) ⟨hx, hb, hml, hown, ht⟩ (ct H.size) (q_cwS v hl ht hR hc0 hs0) ⟨q_blind, fun U hU hW => ⟨rfl, by rw [hU], by rw [hU]; exact hPc, va_K.moved hW.alike hKc, hDc.weaken (fun _ _ _ _ => trivial), hN.warm hW⟩⟩ rfl hlen hls hst (lv_room hW) hdg hcs) hS (fun q _ h => hFc q h) hFc (fun u t H1 locs1 ht1 hvm hw hB hz1 hk1 hS1 => ?_)
  obtain ⟨hP1, hK1, hD1⟩ := hB
  rw [ht1] at hP1
  obtain ⟨a1, b1⟩ := q_join hP hD isC hC (hadr u) hk1 hP1
  exact kk u H1 locs1 hw a1 b1 hS1
end QCALL
