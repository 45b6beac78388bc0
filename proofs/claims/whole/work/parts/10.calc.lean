/-! ===== the calculus V: a machine at a pc with its locals, its stack and its world, whatever heap and frame hold them ===== -/
abbrev KK : Type := va_G × ClassId × ClassId × ClassId
abbrev KT : Type := (Program × Launch × Env × Room) × (State × MethodId × Array Value × List Frame) × (Method × Code × (State → Prop)) × KK × (Nat → Prop)
abbrev kL (Γ : KT) : Launch := Γ.1.2.1
abbrev kR (Γ : KT) : Room := Γ.1.2.2.2
abbrev kS (Γ : KT) : State := Γ.2.1.1
abbrev kM (Γ : KT) : MethodId := Γ.2.1.2.1
abbrev kG (Γ : KT) : Array Value := Γ.2.1.2.2.1
abbrev kC (Γ : KT) : Code := Γ.2.2.1.2.1
abbrev kK (Γ : KT) : KK := Γ.2.2.2.1
abbrev kA (Γ : KT) : Nat → Prop := Γ.2.2.2.2
abbrev tysK (κ : KK) : List (ClassId × FieldType) := [(κ.2.1, .int), (κ.2.2.1, .long), (κ.2.2.2, .boolean)]
def WK (Γ : KT) (H : Heap) (locs : List Loc) (k n : Nat) (g : JFrame) : Prop := W Γ.1.1 Γ.1.2.1 Γ.1.2.2.1 Γ.1.2.2.2 Γ.2.1.1 Γ.2.1.2.1 Γ.2.1.2.2.1 Γ.2.1.2.2.2 Γ.2.2.1.1 Γ.2.2.1.2.1 H locs k n Γ.2.2.1.2.2 g
abbrev ME : Type := (Nat × (Nat → Int32)) ⊕ ((Nat × (Nat → Int64)) ⊕ ((Nat × (Nat → Int32)) ⊕ (Nat × List Value)))
abbrev MW : Type := List (Nat × ME)
abbrev eI (n : Nat) (f : Nat → Int32) : ME := .inl (n, f)
abbrev eJ (n : Nat) (f : Nat → Int64) : ME := .inr (.inl (n, f))
abbrev eZ (n : Nat) (f : Nat → Int32) : ME := .inr (.inr (.inl (n, f)))
abbrev eO (c : Nat) (fs : List Value) : ME := .inr (.inr (.inr (c, fs)))
def rE (κ : KK) : ME → va_E
  | .inl (n, f) => .inl (κ.2.1, n, .inl f)
  | .inr (.inl (n, f)) => .inl (κ.2.2.1, n, .inr (.inl f))
  | .inr (.inr (.inl (n, f))) => .inl (κ.2.2.2, n, .inl f)
  | .inr (.inr (.inr o)) => .inr o
def rW (κ : KK) (ws : MW) : va_W := ws.map (fun q => (q.1, rE κ q.2))
theorem rW_at {κ : KK} {ws : MW} {q0 a : Nat} {x : ME} (h : ws[q0]? = some (a, x)) : (rW κ ws)[q0]? = some (a, rE κ x) := by simp [rW, h]
theorem rW_set (κ : KK) (ws : MW) (q0 a : Nat) (x : ME) : (rW κ ws).set q0 (a, rE κ x) = rW κ (ws.set q0 (a, x)) := by simp [rW, List.map_set]
theorem rW_app (κ : KK) (a b : MW) : rW κ a ++ rW κ b = rW κ (a ++ b) := by simp [rW]
theorem rW_cut {κ : KK} {ws wc : MW} {is : List Nat} (h : is.map (fun i => ws[i]?) = wc.map some) : is.map (fun i => (rW κ ws)[i]?) = (rW κ wc).map some := by
  have h1 : is.map (fun i => (rW κ ws)[i]?) = (is.map (fun i => ws[i]?)).map (Option.map (fun q => (q.1, rE κ q.2))) := by
    rw [List.map_map]
    apply List.map_congr_left
    intro i _
    simp [rW]
  rw [h1, h]
  simp [rW]
theorem fm_of_map {α : Type} {ws wc : List α} {is : List Nat} (h : is.map (fun i => ws[i]?) = wc.map some) : is.filterMap (fun i => ws[i]?) = wc := by
  have h1 : is.filterMap (fun i => ws[i]?) = (is.map (fun i => ws[i]?)).filterMap id := by
    rw [List.filterMap_map]
    rfl
  rw [h1, h, List.filterMap_map]
  simp
def tensL : List Int64 := [1, 10, 100, 1000, 10000, 100000, 1000000, 10000000, 100000000, 1000000000, 10000000000, 100000000000]
def tensF (j : Nat) : Int64 := tensL.getD j 0
def NWS : List Cond := [.fieldLinkNest RX8 132 "RodBoard$Working" "course" "LRodBoard$Course;" RX8, .fieldLinkNest RX8 157 "RodBoard$Clerk" "course" "LRodBoard$Course;" RX8, .fieldLinkNest RX8 187 "RodBoard$Clearing" "n" "I" RX8, .fieldLinkNest RX8 258 "RodBoard$Clearing" "m" "I" RX8, .fieldLinkNest RX8 199 "RodBoard$Clearing" "turnsTaken" "I" RX8, .methodLinkNest RX8 9 yX7_init RX8, .methodLinkNest RX7 17 yX3_init RX8, .methodLinkNest RX8 18 yX6_init RX8, .methodLinkNest RX8 25 yX1_init RX8, .methodLinkNest RX1 11 yX3_init RX8, .methodLinkNest RX8 32 yX0_init RX8, .methodLinkNest RX8 39 yX2_init RX8, .methodLinkNest RX3 23 yX8_isRow RX8]
def NWok (U : State) : Prop := ∀ w ∈ NWS, va_Nw w U
theorem NWok.warm {s U : State} (hW : s.WarmedH U.vm) (h : NWok s) : NWok U := by
  intro w hw
  have h1 := h w hw
  simp only [NWS, List.mem_cons, List.not_mem_nil, or_false] at hw
  rcases hw with rfl | rfl | rfl | rfl | rfl | rfl | rfl | rfl | rfl | rfl | rfl | rfl | rfl <;> first | exact va_Nw.warmF hW h1 | exact va_Nw.warmM hW h1
theorem NWok.same {u U : State} (hvm : u.vm = U.vm) (h : NWok u) : NWok U := by
  intro w hw
  have h1 := h w hw
  simp only [NWS, List.mem_cons, List.not_mem_nil, or_false] at hw
  rcases hw with rfl | rfl | rfl | rfl | rfl | rfl | rfl | rfl | rfl | rfl | rfl | rfl | rfl <;> exact va_Nw.same rfl hvm h1
def TNok (A : Nat → Prop) (U : State) (H : Heap) : Prop := ∃ tt : Nat, va_Z "RodBoard$Rods" "TENS" "[J" (.ref tt) A U H ∧ va_T .long tt 12 (fun j => .long (tensF j)) A U H
def ENV (A : Nat → Prop) (U : State) (H : Heap) : Prop := TNok A U H ∧ NWok U
def PreC (κ : KK) (sz : Nat) (ws : MW) (U : State) : Prop := U.heap.size = sz ∧ va_P κ.1 vwCl (rW κ ws) U.heap ∧ va_K κ.1 vwCl (tysK κ) U ∧ va_D (fun _ => True) (rW κ ws) ∧ ENV (va_A (rW κ ws) sz) U U.heap
def PostC (κ : KK) (sz : Nat) (ws w1 : MW) (t : State) : Prop := va_P κ.1 vwCl (rW κ w1) t.heap ∧ va_K κ.1 vwCl (tysK κ) t ∧ va_D (va_A (rW κ ws) sz) (rW κ w1)
def CtI (l : Launch) (y : MethodName) (wsY : List Cond) (rm : Room) (As : List Value) (ws : MW) (r : Int32) (w1 : MW) : Prop := ∀ (κ : KK) (sz : Nat), Met l y wsY rm (va_Pc As (PreC κ sz ws)) (va_Qi (fun (r' : Int32) (_ : Unit) => r' = r) (fun _ t => PostC κ sz ws w1 t) (va_A (rW κ ws) sz)) 0 0 (va_A (rW κ ws) sz)
def CtL (l : Launch) (y : MethodName) (wsY : List Cond) (rm : Room) (As : List Value) (ws : MW) (r : Int64) (w1 : MW) : Prop := ∀ (κ : KK) (sz : Nat), Met l y wsY rm (va_Pc As (PreC κ sz ws)) (va_Ql (fun (r' : Int64) (_ : Unit) => r' = r) (fun _ t => PostC κ sz ws w1 t) (va_A (rW κ ws) sz)) 0 0 (va_A (rW κ ws) sz)
def CtV (l : Launch) (y : MethodName) (wsY : List Cond) (rm : Room) (As : List Value) (ws : MW) (w1 : MW) : Prop := ∀ (κ : KK) (sz : Nat), Met l y wsY rm (va_Pc As (PreC κ sz ws)) (va_Qv (fun (_ : Unit) => True) (fun _ t => PostC κ sz ws w1 t) (va_A (rW κ ws) sz)) 0 0 (va_A (rW κ ws) sz)
def CX (Γ : KT) (cc : ByteArray) (nL : Nat) (Ts : List Cond) (own : String) (R : Room) : Prop :=
  Γ.1.1.tables.exec = Jvm.exec ∧ Γ.2.2.1.2.1.code = cc ∧ Γ.2.2.1.2.1.maxLocals = nL ∧ (kS Γ).vm.findClass own = some (kM Γ).cls ∧ (∀ w ∈ Ts, w.before (kG Γ) (kS Γ) = true) ∧ va_K (kK Γ).1 vwCl (tysK (kK Γ)) (kS Γ) ∧ (∀ q : Nat, (kS Γ).heap.size ≤ q → kA Γ q) ∧ ENV (kA Γ) (kS Γ) (kS Γ).heap ∧ Γ.2.2.1.1.locks = false ∧ kR Γ = R
def V (Γ : KT) (nL k n pc : Nat) (lv : List (Nat × Value)) (st : List Value) (ws : MW) : Prop := ∀ (H : Heap) (locs : List Loc) (ls : Array Slot), va_P (kK Γ).1 vwCl (rW (kK Γ) ws) H → va_D (kA Γ) (rW (kK Γ) ws) → va_S (kA Γ) (kS Γ).heap H locs → lv_has ls nL lv → WK Γ H locs k n (F0 (kM Γ) pc ls st)
theorem bnd {α β : Type} {x : Option α} {k : α → Option β} {y : β} (h : x.bind k = some y) : ∃ a, x = some a ∧ k a = some y := Option.bind_eq_some_iff.mp h
theorem ite_t {α : Type} {c : Prop} [Decidable c] {a b x : α} (h : c) (e : (if c then a else b) = x) : a = x := by rw [if_pos h] at e; exact e
theorem ite_f {α : Type} {c : Prop} [Decidable c] {a b x : α} (h : ¬ c) (e : (if c then a else b) = x) : b = x := by rw [if_neg h] at e; exact e
def inb (i : Int32) (n : Nat) : Bool := decide (¬ (i < 0 ∨ n ≤ i.toNatClampNeg))
theorem inb_in {i : Int32} {n : Nat} (h : inb i n = true) : vp_in i n := show ¬ (i < 0 ∨ n ≤ i.toNatClampNeg) from of_decide_eq_true h
def rdI (f : Nat → Int32) (n : Nat) (i : Int32) : Option Int32 := if inb i n = true then some (f i.toNatClampNeg) else none
def rdJ (f : Nat → Int64) (n : Nat) (i : Int32) : Option Int64 := if inb i n = true then some (f i.toNatClampNeg) else none
def wrI (f : Nat → Int32) (n : Nat) (i : Int32) (v : Int32) : Option (Nat → Int32) := if inb i n = true then some (upd f i.toNatClampNeg v) else none
def wrJ (f : Nat → Int64) (n : Nat) (i : Int32) (v : Int64) : Option (Nat → Int64) := if inb i n = true then some (vp_updL f i.toNatClampNeg v) else none
def wrZ (f : Nat → Int32) (n : Nat) (i : Int32) (v : Int32) : Option (Nat → Int32) := if inb i n = true then some (upd f i.toNatClampNeg (vp_nar .boolean v)) else none
theorem rdI_s {f : Nat → Int32} {n : Nat} {i v : Int32} (h : rdI f n i = some v) : vp_in i n ∧ f i.toNatClampNeg = v := by
  unfold rdI at h
  split at h
  · next h1 => exact ⟨inb_in h1, Option.some.inj h⟩
  · cases h
theorem rdJ_s {f : Nat → Int64} {n : Nat} {i : Int32} {v : Int64} (h : rdJ f n i = some v) : vp_in i n ∧ f i.toNatClampNeg = v := by
  unfold rdJ at h
  split at h
  · next h1 => exact ⟨inb_in h1, Option.some.inj h⟩
  · cases h
theorem wrI_s {f g : Nat → Int32} {n : Nat} {i v : Int32} (h : wrI f n i v = some g) : vp_in i n ∧ upd f i.toNatClampNeg v = g := by
  unfold wrI at h
  split at h
  · next h1 => exact ⟨inb_in h1, Option.some.inj h⟩
  · cases h
theorem wrZ_s {f g : Nat → Int32} {n : Nat} {i v : Int32} (h : wrZ f n i v = some g) : vp_in i n ∧ upd f i.toNatClampNeg (vp_nar .boolean v) = g := by
  unfold wrZ at h
  split at h
  · next h1 => exact ⟨inb_in h1, Option.some.inj h⟩
  · cases h
theorem wrJ_s {f g : Nat → Int64} {n : Nat} {i : Int32} {v : Int64} (h : wrJ f n i v = some g) : vp_in i n ∧ vp_updL f i.toNatClampNeg v = g := by
  unfold wrJ at h
  split at h
  · next h1 => exact ⟨inb_in h1, Option.some.inj h⟩
  · cases h
def dvI (a b : Int32) : Option Int32 := if b = 0 then none else some (a / b)
def rmI (a b : Int32) : Option Int32 := if b = 0 then none else some (a % b)
def dvJ (a b : Int64) : Option Int64 := if b = 0 then none else some (a / b)
def rmJ (a b : Int64) : Option Int64 := if b = 0 then none else some (a % b)
theorem irem_eq (x y : Int32) : x - x / y * y = x % y := by
  apply Int32.toInt_inj.mp
  have h : (x - x / y * y).toInt = (x.toInt - x.toInt.tdiv y.toInt * y.toInt).bmod (2 ^ 32) := by
    rw [Int32.toInt_sub, Int32.toInt_mul, Int32.toInt_div, Int.bmod_mul_bmod, Int.sub_bmod_bmod]
  have h2 : x.toInt - x.toInt.tdiv y.toInt * y.toInt = (x % y).toInt := by
    rw [Int32.toInt_mod, Int.tmod_def, Int.mul_comm]
  rw [h, h2]
  have h3 := Int32.le_toInt (x % y)
  have h4 := Int32.toInt_lt (x % y)
  apply Int.bmod_eq_of_le <;> omega
theorem lrem_eq (x y : Int64) : x - x / y * y = x % y := by
  apply Int64.toInt_inj.mp
  have h : (x - x / y * y).toInt = (x.toInt - x.toInt.tdiv y.toInt * y.toInt).bmod (2 ^ 64) := by
    rw [Int64.toInt_sub, Int64.toInt_mul, Int64.toInt_div, Int.bmod_mul_bmod, Int.sub_bmod_bmod]
  have h2 : x.toInt - x.toInt.tdiv y.toInt * y.toInt = (x % y).toInt := by
    rw [Int64.toInt_mod, Int.tmod_def, Int.mul_comm]
  rw [h, h2]
  have h3 := Int64.le_toInt (x % y)
  have h4 := Int64.toInt_lt (x % y)
  apply Int.bmod_eq_of_le <;> omega
theorem dvI_s {a b v : Int32} (h : dvI a b = some v) : ¬ b = 0 ∧ a / b = v := by unfold dvI at h; split at h; cases h; exact ⟨by assumption, Option.some.inj h⟩
theorem rmI_s {a b v : Int32} (h : rmI a b = some v) : ¬ b = 0 ∧ a % b = v := by unfold rmI at h; split at h; cases h; exact ⟨by assumption, Option.some.inj h⟩
theorem dvJ_s {a b v : Int64} (h : dvJ a b = some v) : ¬ b = 0 ∧ a / b = v := by unfold dvJ at h; split at h; cases h; exact ⟨by assumption, Option.some.inj h⟩
theorem rmJ_s {a b v : Int64} (h : rmJ a b = some v) : ¬ b = 0 ∧ a % b = v := by unfold rmJ at h; split at h; cases h; exact ⟨by assumption, Option.some.inj h⟩
def ckZ (v : Int32) : Option Int32 := if v = 0 ∨ v = 1 then some v else none
theorem ckZ_s {v w : Int32} (h : ckZ v = some w) : v = w ∧ narrow .boolean (.int w) = .int w := by
  unfold ckZ at h
  split at h
  · next h1 =>
    cases h
    refine ⟨rfl, ?_⟩
    rcases h1 with rfl | rfl <;> rfl
  · cases h
def itr {S E : Type} (f : S → Option (S ⊕ E)) : Nat → S → Option E
  | 0, _ => none
  | n + 1, s => (f s).bind (fun x => Sum.elim (itr f n) some x)
def KF : Nat := 10000
theorem itr_0 {S E : Type} {f : S → Option (S ⊕ E)} {s : S} {e : E} (h : itr f 0 s = some e) : False := by cases h
theorem itr_s {S E : Type} {f : S → Option (S ⊕ E)} {n : Nat} {s : S} {e : E} (h : itr f (n + 1) s = some e) : ∃ x, f s = some x ∧ Sum.elim (itr f n) some x = some e := bnd h

def un2 {α β τ : Type} (K : α → β → τ) : α × β → τ := fun e => K e.1 e.2
def bn2 {α β τ : Type} (x : Option (α × β)) (K : α → β → Option τ) : Option τ := x.bind (fun e => K e.1 e.2)
theorem bd2 {α β τ : Type} {x : Option (α × β)} {K : α → β → Option τ} {y : τ} (h : bn2 x K = some y) : ∃ a b, x = some (a, b) ∧ K a b = some y := by
  obtain ⟨e, h1, h2⟩ := bnd h
  exact ⟨e.1, e.2, h1, h2⟩
def un3 {α β γ τ : Type} (K : α → β → γ → τ) : α × β × γ → τ := fun e => K e.1 e.2.1 e.2.2
def bn3 {α β γ τ : Type} (x : Option (α × β × γ)) (K : α → β → γ → Option τ) : Option τ := x.bind (fun e => K e.1 e.2.1 e.2.2)
theorem bd3 {α β γ τ : Type} {x : Option (α × β × γ)} {K : α → β → γ → Option τ} {y : τ} (h : bn3 x K = some y) : ∃ a b c, x = some (a, b, c) ∧ K a b c = some y := by
  obtain ⟨e, h1, h2⟩ := bnd h
  exact ⟨e.1, e.2.1, e.2.2, h1, h2⟩
def un4 {α β γ δ τ : Type} (K : α → β → γ → δ → τ) : α × β × γ × δ → τ := fun e => K e.1 e.2.1 e.2.2.1 e.2.2.2
def bn4 {α β γ δ τ : Type} (x : Option (α × β × γ × δ)) (K : α → β → γ → δ → Option τ) : Option τ := x.bind (fun e => K e.1 e.2.1 e.2.2.1 e.2.2.2)
theorem bd4 {α β γ δ τ : Type} {x : Option (α × β × γ × δ)} {K : α → β → γ → δ → Option τ} {y : τ} (h : bn4 x K = some y) : ∃ a b c d, x = some (a, b, c, d) ∧ K a b c d = some y := by
  obtain ⟨e, h1, h2⟩ := bnd h
  exact ⟨e.1, e.2.1, e.2.2.1, e.2.2.2, h1, h2⟩
def un5 {α β γ δ ε τ : Type} (K : α → β → γ → δ → ε → τ) : α × β × γ × δ × ε → τ := fun e => K e.1 e.2.1 e.2.2.1 e.2.2.2.1 e.2.2.2.2
def bn5 {α β γ δ ε τ : Type} (x : Option (α × β × γ × δ × ε)) (K : α → β → γ → δ → ε → Option τ) : Option τ := x.bind (fun e => K e.1 e.2.1 e.2.2.1 e.2.2.2.1 e.2.2.2.2)
theorem bd5 {α β γ δ ε τ : Type} {x : Option (α × β × γ × δ × ε)} {K : α → β → γ → δ → ε → Option τ} {y : τ} (h : bn5 x K = some y) : ∃ a b c d f, x = some (a, b, c, d, f) ∧ K a b c d f = some y := by
  obtain ⟨e, h1, h2⟩ := bnd h
  exact ⟨e.1, e.2.1, e.2.2.1, e.2.2.2.1, e.2.2.2.2, h1, h2⟩
def un6 {α β γ δ ε ζ τ : Type} (K : α → β → γ → δ → ε → ζ → τ) : α × β × γ × δ × ε × ζ → τ := fun e => K e.1 e.2.1 e.2.2.1 e.2.2.2.1 e.2.2.2.2.1 e.2.2.2.2.2
def bn6 {α β γ δ ε ζ τ : Type} (x : Option (α × β × γ × δ × ε × ζ)) (K : α → β → γ → δ → ε → ζ → Option τ) : Option τ := x.bind (fun e => K e.1 e.2.1 e.2.2.1 e.2.2.2.1 e.2.2.2.2.1 e.2.2.2.2.2)
theorem bd6 {α β γ δ ε ζ τ : Type} {x : Option (α × β × γ × δ × ε × ζ)} {K : α → β → γ → δ → ε → ζ → Option τ} {y : τ} (h : bn6 x K = some y) : ∃ a b c d f g, x = some (a, b, c, d, f, g) ∧ K a b c d f g = some y := by
  obtain ⟨e, h1, h2⟩ := bnd h
  exact ⟨e.1, e.2.1, e.2.2.1, e.2.2.2.1, e.2.2.2.2.1, e.2.2.2.2.2, h1, h2⟩
def un7 {α β γ δ ε ζ η τ : Type} (K : α → β → γ → δ → ε → ζ → η → τ) : α × β × γ × δ × ε × ζ × η → τ := fun e => K e.1 e.2.1 e.2.2.1 e.2.2.2.1 e.2.2.2.2.1 e.2.2.2.2.2.1 e.2.2.2.2.2.2
def bn7 {α β γ δ ε ζ η τ : Type} (x : Option (α × β × γ × δ × ε × ζ × η)) (K : α → β → γ → δ → ε → ζ → η → Option τ) : Option τ := x.bind (fun e => K e.1 e.2.1 e.2.2.1 e.2.2.2.1 e.2.2.2.2.1 e.2.2.2.2.2.1 e.2.2.2.2.2.2)
theorem bd7 {α β γ δ ε ζ η τ : Type} {x : Option (α × β × γ × δ × ε × ζ × η)} {K : α → β → γ → δ → ε → ζ → η → Option τ} {y : τ} (h : bn7 x K = some y) : ∃ a b c d f g h, x = some (a, b, c, d, f, g, h) ∧ K a b c d f g h = some y := by
  obtain ⟨e, h1, h2⟩ := bnd h
  exact ⟨e.1, e.2.1, e.2.2.1, e.2.2.2.1, e.2.2.2.2.1, e.2.2.2.2.2.1, e.2.2.2.2.2.2, h1, h2⟩
def un8 {α β γ δ ε ζ η θ τ : Type} (K : α → β → γ → δ → ε → ζ → η → θ → τ) : α × β × γ × δ × ε × ζ × η × θ → τ := fun e => K e.1 e.2.1 e.2.2.1 e.2.2.2.1 e.2.2.2.2.1 e.2.2.2.2.2.1 e.2.2.2.2.2.2.1 e.2.2.2.2.2.2.2
def bn8 {α β γ δ ε ζ η θ τ : Type} (x : Option (α × β × γ × δ × ε × ζ × η × θ)) (K : α → β → γ → δ → ε → ζ → η → θ → Option τ) : Option τ := x.bind (fun e => K e.1 e.2.1 e.2.2.1 e.2.2.2.1 e.2.2.2.2.1 e.2.2.2.2.2.1 e.2.2.2.2.2.2.1 e.2.2.2.2.2.2.2)
theorem bd8 {α β γ δ ε ζ η θ τ : Type} {x : Option (α × β × γ × δ × ε × ζ × η × θ)} {K : α → β → γ → δ → ε → ζ → η → θ → Option τ} {y : τ} (h : bn8 x K = some y) : ∃ a b c d f g h i, x = some (a, b, c, d, f, g, h, i) ∧ K a b c d f g h i = some y := by
  obtain ⟨e, h1, h2⟩ := bnd h
  exact ⟨e.1, e.2.1, e.2.2.1, e.2.2.2.1, e.2.2.2.2.1, e.2.2.2.2.2.1, e.2.2.2.2.2.2.1, e.2.2.2.2.2.2.2, h1, h2⟩
def un9 {α β γ δ ε ζ η θ ι τ : Type} (K : α → β → γ → δ → ε → ζ → η → θ → ι → τ) : α × β × γ × δ × ε × ζ × η × θ × ι → τ := fun e => K e.1 e.2.1 e.2.2.1 e.2.2.2.1 e.2.2.2.2.1 e.2.2.2.2.2.1 e.2.2.2.2.2.2.1 e.2.2.2.2.2.2.2.1 e.2.2.2.2.2.2.2.2
def bn9 {α β γ δ ε ζ η θ ι τ : Type} (x : Option (α × β × γ × δ × ε × ζ × η × θ × ι)) (K : α → β → γ → δ → ε → ζ → η → θ → ι → Option τ) : Option τ := x.bind (fun e => K e.1 e.2.1 e.2.2.1 e.2.2.2.1 e.2.2.2.2.1 e.2.2.2.2.2.1 e.2.2.2.2.2.2.1 e.2.2.2.2.2.2.2.1 e.2.2.2.2.2.2.2.2)
theorem bd9 {α β γ δ ε ζ η θ ι τ : Type} {x : Option (α × β × γ × δ × ε × ζ × η × θ × ι)} {K : α → β → γ → δ → ε → ζ → η → θ → ι → Option τ} {y : τ} (h : bn9 x K = some y) : ∃ a b c d f g h i j, x = some (a, b, c, d, f, g, h, i, j) ∧ K a b c d f g h i j = some y := by
  obtain ⟨e, h1, h2⟩ := bnd h
  exact ⟨e.1, e.2.1, e.2.2.1, e.2.2.2.1, e.2.2.2.2.1, e.2.2.2.2.2.1, e.2.2.2.2.2.2.1, e.2.2.2.2.2.2.2.1, e.2.2.2.2.2.2.2.2, h1, h2⟩
def un10 {α β γ δ ε ζ η θ ι κ τ : Type} (K : α → β → γ → δ → ε → ζ → η → θ → ι → κ → τ) : α × β × γ × δ × ε × ζ × η × θ × ι × κ → τ := fun e => K e.1 e.2.1 e.2.2.1 e.2.2.2.1 e.2.2.2.2.1 e.2.2.2.2.2.1 e.2.2.2.2.2.2.1 e.2.2.2.2.2.2.2.1 e.2.2.2.2.2.2.2.2.1 e.2.2.2.2.2.2.2.2.2
def bn10 {α β γ δ ε ζ η θ ι κ τ : Type} (x : Option (α × β × γ × δ × ε × ζ × η × θ × ι × κ)) (K : α → β → γ → δ → ε → ζ → η → θ → ι → κ → Option τ) : Option τ := x.bind (fun e => K e.1 e.2.1 e.2.2.1 e.2.2.2.1 e.2.2.2.2.1 e.2.2.2.2.2.1 e.2.2.2.2.2.2.1 e.2.2.2.2.2.2.2.1 e.2.2.2.2.2.2.2.2.1 e.2.2.2.2.2.2.2.2.2)
theorem bd10 {α β γ δ ε ζ η θ ι κ τ : Type} {x : Option (α × β × γ × δ × ε × ζ × η × θ × ι × κ)} {K : α → β → γ → δ → ε → ζ → η → θ → ι → κ → Option τ} {y : τ} (h : bn10 x K = some y) : ∃ a b c d f g h i j k, x = some (a, b, c, d, f, g, h, i, j, k) ∧ K a b c d f g h i j k = some y := by
  obtain ⟨e, h1, h2⟩ := bnd h
  exact ⟨e.1, e.2.1, e.2.2.1, e.2.2.2.1, e.2.2.2.2.1, e.2.2.2.2.2.1, e.2.2.2.2.2.2.1, e.2.2.2.2.2.2.2.1, e.2.2.2.2.2.2.2.2.1, e.2.2.2.2.2.2.2.2.2, h1, h2⟩
def un11 {α β γ δ ε ζ η θ ι κ μ τ : Type} (K : α → β → γ → δ → ε → ζ → η → θ → ι → κ → μ → τ) : α × β × γ × δ × ε × ζ × η × θ × ι × κ × μ → τ := fun e => K e.1 e.2.1 e.2.2.1 e.2.2.2.1 e.2.2.2.2.1 e.2.2.2.2.2.1 e.2.2.2.2.2.2.1 e.2.2.2.2.2.2.2.1 e.2.2.2.2.2.2.2.2.1 e.2.2.2.2.2.2.2.2.2.1 e.2.2.2.2.2.2.2.2.2.2
def bn11 {α β γ δ ε ζ η θ ι κ μ τ : Type} (x : Option (α × β × γ × δ × ε × ζ × η × θ × ι × κ × μ)) (K : α → β → γ → δ → ε → ζ → η → θ → ι → κ → μ → Option τ) : Option τ := x.bind (fun e => K e.1 e.2.1 e.2.2.1 e.2.2.2.1 e.2.2.2.2.1 e.2.2.2.2.2.1 e.2.2.2.2.2.2.1 e.2.2.2.2.2.2.2.1 e.2.2.2.2.2.2.2.2.1 e.2.2.2.2.2.2.2.2.2.1 e.2.2.2.2.2.2.2.2.2.2)
theorem bd11 {α β γ δ ε ζ η θ ι κ μ τ : Type} {x : Option (α × β × γ × δ × ε × ζ × η × θ × ι × κ × μ)} {K : α → β → γ → δ → ε → ζ → η → θ → ι → κ → μ → Option τ} {y : τ} (h : bn11 x K = some y) : ∃ a b c d f g h i j k m, x = some (a, b, c, d, f, g, h, i, j, k, m) ∧ K a b c d f g h i j k m = some y := by
  obtain ⟨e, h1, h2⟩ := bnd h
  exact ⟨e.1, e.2.1, e.2.2.1, e.2.2.2.1, e.2.2.2.2.1, e.2.2.2.2.2.1, e.2.2.2.2.2.2.1, e.2.2.2.2.2.2.2.1, e.2.2.2.2.2.2.2.2.1, e.2.2.2.2.2.2.2.2.2.1, e.2.2.2.2.2.2.2.2.2.2, h1, h2⟩
def un12 {α β γ δ ε ζ η θ ι κ μ ν τ : Type} (K : α → β → γ → δ → ε → ζ → η → θ → ι → κ → μ → ν → τ) : α × β × γ × δ × ε × ζ × η × θ × ι × κ × μ × ν → τ := fun e => K e.1 e.2.1 e.2.2.1 e.2.2.2.1 e.2.2.2.2.1 e.2.2.2.2.2.1 e.2.2.2.2.2.2.1 e.2.2.2.2.2.2.2.1 e.2.2.2.2.2.2.2.2.1 e.2.2.2.2.2.2.2.2.2.1 e.2.2.2.2.2.2.2.2.2.2.1 e.2.2.2.2.2.2.2.2.2.2.2
def bn12 {α β γ δ ε ζ η θ ι κ μ ν τ : Type} (x : Option (α × β × γ × δ × ε × ζ × η × θ × ι × κ × μ × ν)) (K : α → β → γ → δ → ε → ζ → η → θ → ι → κ → μ → ν → Option τ) : Option τ := x.bind (fun e => K e.1 e.2.1 e.2.2.1 e.2.2.2.1 e.2.2.2.2.1 e.2.2.2.2.2.1 e.2.2.2.2.2.2.1 e.2.2.2.2.2.2.2.1 e.2.2.2.2.2.2.2.2.1 e.2.2.2.2.2.2.2.2.2.1 e.2.2.2.2.2.2.2.2.2.2.1 e.2.2.2.2.2.2.2.2.2.2.2)
theorem bd12 {α β γ δ ε ζ η θ ι κ μ ν τ : Type} {x : Option (α × β × γ × δ × ε × ζ × η × θ × ι × κ × μ × ν)} {K : α → β → γ → δ → ε → ζ → η → θ → ι → κ → μ → ν → Option τ} {y : τ} (h : bn12 x K = some y) : ∃ a b c d f g h i j k m n, x = some (a, b, c, d, f, g, h, i, j, k, m, n) ∧ K a b c d f g h i j k m n = some y := by
  obtain ⟨e, h1, h2⟩ := bnd h
  exact ⟨e.1, e.2.1, e.2.2.1, e.2.2.2.1, e.2.2.2.2.1, e.2.2.2.2.2.1, e.2.2.2.2.2.2.1, e.2.2.2.2.2.2.2.1, e.2.2.2.2.2.2.2.2.1, e.2.2.2.2.2.2.2.2.2.1, e.2.2.2.2.2.2.2.2.2.2.1, e.2.2.2.2.2.2.2.2.2.2.2, h1, h2⟩
def un13 {α β γ δ ε ζ η θ ι κ μ ν ξ τ : Type} (K : α → β → γ → δ → ε → ζ → η → θ → ι → κ → μ → ν → ξ → τ) : α × β × γ × δ × ε × ζ × η × θ × ι × κ × μ × ν × ξ → τ := fun e => K e.1 e.2.1 e.2.2.1 e.2.2.2.1 e.2.2.2.2.1 e.2.2.2.2.2.1 e.2.2.2.2.2.2.1 e.2.2.2.2.2.2.2.1 e.2.2.2.2.2.2.2.2.1 e.2.2.2.2.2.2.2.2.2.1 e.2.2.2.2.2.2.2.2.2.2.1 e.2.2.2.2.2.2.2.2.2.2.2.1 e.2.2.2.2.2.2.2.2.2.2.2.2
def bn13 {α β γ δ ε ζ η θ ι κ μ ν ξ τ : Type} (x : Option (α × β × γ × δ × ε × ζ × η × θ × ι × κ × μ × ν × ξ)) (K : α → β → γ → δ → ε → ζ → η → θ → ι → κ → μ → ν → ξ → Option τ) : Option τ := x.bind (fun e => K e.1 e.2.1 e.2.2.1 e.2.2.2.1 e.2.2.2.2.1 e.2.2.2.2.2.1 e.2.2.2.2.2.2.1 e.2.2.2.2.2.2.2.1 e.2.2.2.2.2.2.2.2.1 e.2.2.2.2.2.2.2.2.2.1 e.2.2.2.2.2.2.2.2.2.2.1 e.2.2.2.2.2.2.2.2.2.2.2.1 e.2.2.2.2.2.2.2.2.2.2.2.2)
theorem bd13 {α β γ δ ε ζ η θ ι κ μ ν ξ τ : Type} {x : Option (α × β × γ × δ × ε × ζ × η × θ × ι × κ × μ × ν × ξ)} {K : α → β → γ → δ → ε → ζ → η → θ → ι → κ → μ → ν → ξ → Option τ} {y : τ} (h : bn13 x K = some y) : ∃ a b c d f g h i j k m n p, x = some (a, b, c, d, f, g, h, i, j, k, m, n, p) ∧ K a b c d f g h i j k m n p = some y := by
  obtain ⟨e, h1, h2⟩ := bnd h
  exact ⟨e.1, e.2.1, e.2.2.1, e.2.2.2.1, e.2.2.2.2.1, e.2.2.2.2.2.1, e.2.2.2.2.2.2.1, e.2.2.2.2.2.2.2.1, e.2.2.2.2.2.2.2.2.1, e.2.2.2.2.2.2.2.2.2.1, e.2.2.2.2.2.2.2.2.2.2.1, e.2.2.2.2.2.2.2.2.2.2.2.1, e.2.2.2.2.2.2.2.2.2.2.2.2, h1, h2⟩
section VROWS
variable {Γ : KT} {cc : ByteArray} {nL k n pc : Nat} {Ts : List Cond} {own : String} {R : Room} {lv lv' : List (Nat × Value)} {st : List Value} {ws ws' : MW}
theorem V_lv (ks : List Nat) (hl : lv_pick lv ks = lv') (h : V Γ nL k n pc lv' st ws) : V Γ nL k n pc lv st ws := fun H locs ls hP hD hS hl0 => h H locs ls hP hD hS (lv_sub hl0 ks hl)
theorem V_ws (hw : ws = ws') (h : V Γ nL k n pc lv st ws') : V Γ nL k n pc lv st ws := hw ▸ h
theorem V_st {st' : List Value} (hw : st = st') (h : V Γ nL k n pc lv st' ws) : V Γ nL k n pc lv st ws := hw ▸ h
theorem V_iconst (C : CX Γ cc nL Ts own R) {i : Int} {v : Int32} (d : decode cc pc = .ok (.iconst i, 1)) (hv : Int32.ofInt i = v) (h : V Γ nL k n (pc + 1) lv (.int v :: st) ws) : V Γ nL k n pc lv (st) ws := fun H locs ls hP hD hS hl => lv_iconst C.1 C.2.1 d hv (h H locs ls hP hD hS hl)
theorem V_bipush (C : CX Γ cc nL Ts own R) {i : Int} {v : Int32} (d : decode cc pc = .ok (.bipush i, 2)) (hv : (Int8.ofInt i).toInt32 = v) (h : V Γ nL k n (pc + 2) lv (.int v :: st) ws) : V Γ nL k n pc lv (st) ws := fun H locs ls hP hD hS hl => lv_bipush C.1 C.2.1 d hv (h H locs ls hP hD hS hl)
theorem V_sipush (C : CX Γ cc nL Ts own R) {i : Int} {v : Int32} (d : decode cc pc = .ok (.sipush i, 3)) (hv : (Int16.ofInt i).toInt32 = v) (h : V Γ nL k n (pc + 3) lv (.int v :: st) ws) : V Γ nL k n pc lv (st) ws := fun H locs ls hP hD hS hl => lv_sipush C.1 C.2.1 d hv (h H locs ls hP hD hS hl)
theorem V_lconst (C : CX Γ cc nL Ts own R) {i : Fin 2} {v : Int64} (d : decode cc pc = .ok (.lconst i, 1)) (hv : Int64.ofNat (i : Nat) = v) (h : V Γ nL k n (pc + 1) lv (.long v :: st) ws) : V Γ nL k n pc lv (st) ws := fun H locs ls hP hD hS hl => lv_lconst C.1 C.2.1 d hv (h H locs ls hP hD hS hl)
theorem V_ldc (C : CX Γ cc nL Ts own R) {i : Nat} {v : Int32} (w : Cond.constant own i v ∈ Ts) (d : decode cc pc = .ok (.ldc i, 2)) (h : V Γ nL k n (pc + 2) lv (.int v :: st) ws) : V Γ nL k n pc lv (st) ws := fun H locs ls hP hD hS hl => lv_ldc C.1 C.2.1 C.2.2.2.1 (C.2.2.2.2.1 _ w) d (h H locs ls hP hD hS hl)
theorem V_ldc2 (C : CX Γ cc nL Ts own R) {i : Nat} {v : Int64} (w : Cond.constantLong own i v ∈ Ts) (d : decode cc pc = .ok (.ldc2_w i, 3)) (h : V Γ nL k n (pc + 3) lv (.long v :: st) ws) : V Γ nL k n pc lv (st) ws := fun H locs ls hP hD hS hl => lv_ldc2 C.1 C.2.1 C.2.2.2.1 (C.2.2.2.2.1 _ w) d (h H locs ls hP hD hS hl)
theorem V_iload_n (C : CX Γ cc nL Ts own R) (j : Nat) {q : Fin 4} {i : Nat} {x : Int32} (d : decode cc pc = .ok (.iload_n q, 1)) (hi : (q : Nat) = i) (hj : lv[j]? = some (i, .int x)) (h : V Γ nL k n (pc + 1) lv (.int x :: st) ws) : V Γ nL k n pc lv (st) ws := fun H locs ls hP hD hS hl => lv_iload_n C.1 C.2.1 d hi (lv_at hl j hj) (h H locs ls hP hD hS hl)
theorem V_iload (C : CX Γ cc nL Ts own R) (j : Nat) {i : Nat} {x : Int32} (d : decode cc pc = .ok (.iload i, 2)) (hj : lv[j]? = some (i, .int x)) (h : V Γ nL k n (pc + 2) lv (.int x :: st) ws) : V Γ nL k n pc lv (st) ws := fun H locs ls hP hD hS hl => lv_iload C.1 C.2.1 d (lv_at hl j hj) (h H locs ls hP hD hS hl)
theorem V_istore_n (C : CX Γ cc nL Ts own R) {q : Fin 4} {i : Nat} {x : Int32} (d : decode cc pc = .ok (.istore_n q, 1)) (hi : (q : Nat) = i) (hn : i < nL) (hv : (i, Value.int x) :: lv.filter (fun q => !(q.1 == i) && !(q.1 + 1 == i && q.2.category == 2)) = lv') (h : V Γ nL k n (pc + 1) lv' st ws) : V Γ nL k n pc lv (.int x :: st) ws := fun H locs ls hP hD hS hl => lv_istore_n C.1 C.2.1 d hi hl hn hv (fun ls hl => h H locs ls hP hD hS hl)
theorem V_istore (C : CX Γ cc nL Ts own R) {i : Nat} {x : Int32} (d : decode cc pc = .ok (.istore i, 2)) (hn : i < nL) (hv : (i, Value.int x) :: lv.filter (fun q => !(q.1 == i) && !(q.1 + 1 == i && q.2.category == 2)) = lv') (h : V Γ nL k n (pc + 2) lv' st ws) : V Γ nL k n pc lv (.int x :: st) ws := fun H locs ls hP hD hS hl => lv_istore C.1 C.2.1 d hl hn hv (fun ls hl => h H locs ls hP hD hS hl)
theorem V_lload_n (C : CX Γ cc nL Ts own R) (j : Nat) {q : Fin 4} {i : Nat} {x : Int64} (d : decode cc pc = .ok (.lload_n q, 1)) (hi : (q : Nat) = i) (hj : lv[j]? = some (i, .long x)) (h : V Γ nL k n (pc + 1) lv (.long x :: st) ws) : V Γ nL k n pc lv (st) ws := fun H locs ls hP hD hS hl => lv_lload_n C.1 C.2.1 d hi (lv_at hl j hj) (h H locs ls hP hD hS hl)
theorem V_lload (C : CX Γ cc nL Ts own R) (j : Nat) {i : Nat} {x : Int64} (d : decode cc pc = .ok (.lload i, 2)) (hj : lv[j]? = some (i, .long x)) (h : V Γ nL k n (pc + 2) lv (.long x :: st) ws) : V Γ nL k n pc lv (st) ws := fun H locs ls hP hD hS hl => lv_lload C.1 C.2.1 d (lv_at hl j hj) (h H locs ls hP hD hS hl)
theorem V_lstore_n (C : CX Γ cc nL Ts own R) {q : Fin 4} {i : Nat} {x : Int64} (d : decode cc pc = .ok (.lstore_n q, 1)) (hi : (q : Nat) = i) (hn : i + 1 < nL) (hv : (i, Value.long x) :: lv.filter (fun q => !(q.1 == i) && (!(q.1 == i + 1) && !(q.1 + 1 == i && q.2.category == 2))) = lv') (h : V Γ nL k n (pc + 1) lv' st ws) : V Γ nL k n pc lv (.long x :: st) ws := fun H locs ls hP hD hS hl => lv_lstore_n C.1 C.2.1 d hi hl hn hv (fun ls hl => h H locs ls hP hD hS hl)
theorem V_lstore (C : CX Γ cc nL Ts own R) {i : Nat} {x : Int64} (d : decode cc pc = .ok (.lstore i, 2)) (hn : i + 1 < nL) (hv : (i, Value.long x) :: lv.filter (fun q => !(q.1 == i) && (!(q.1 == i + 1) && !(q.1 + 1 == i && q.2.category == 2))) = lv') (h : V Γ nL k n (pc + 2) lv' st ws) : V Γ nL k n pc lv (.long x :: st) ws := fun H locs ls hP hD hS hl => lv_lstore C.1 C.2.1 d hl hn hv (fun ls hl => h H locs ls hP hD hS hl)
theorem V_aload_n (C : CX Γ cc nL Ts own R) (j : Nat) {q : Fin 4} {i : Nat} {x : Nat} (d : decode cc pc = .ok (.aload_n q, 1)) (hi : (q : Nat) = i) (hj : lv[j]? = some (i, .ref x)) (h : V Γ nL k n (pc + 1) lv (.ref x :: st) ws) : V Γ nL k n pc lv (st) ws := fun H locs ls hP hD hS hl => lv_aload_n C.1 C.2.1 d hi (lv_at hl j hj) (h H locs ls hP hD hS hl)
theorem V_aload (C : CX Γ cc nL Ts own R) (j : Nat) {i : Nat} {x : Nat} (d : decode cc pc = .ok (.aload i, 2)) (hj : lv[j]? = some (i, .ref x)) (h : V Γ nL k n (pc + 2) lv (.ref x :: st) ws) : V Γ nL k n pc lv (st) ws := fun H locs ls hP hD hS hl => lv_aload C.1 C.2.1 d (lv_at hl j hj) (h H locs ls hP hD hS hl)
theorem V_astore_n (C : CX Γ cc nL Ts own R) {q : Fin 4} {i : Nat} {x : Nat} (d : decode cc pc = .ok (.astore_n q, 1)) (hi : (q : Nat) = i) (hn : i < nL) (hv : (i, Value.ref x) :: lv.filter (fun q => !(q.1 == i) && !(q.1 + 1 == i && q.2.category == 2)) = lv') (h : V Γ nL k n (pc + 1) lv' st ws) : V Γ nL k n pc lv (.ref x :: st) ws := fun H locs ls hP hD hS hl => lv_astore_n C.1 C.2.1 d hi hl hn hv (fun ls hl => h H locs ls hP hD hS hl)
theorem V_astore (C : CX Γ cc nL Ts own R) {i : Nat} {x : Nat} (d : decode cc pc = .ok (.astore i, 2)) (hn : i < nL) (hv : (i, Value.ref x) :: lv.filter (fun q => !(q.1 == i) && !(q.1 + 1 == i && q.2.category == 2)) = lv') (h : V Γ nL k n (pc + 2) lv' st ws) : V Γ nL k n pc lv (.ref x :: st) ws := fun H locs ls hP hD hS hl => lv_astore C.1 C.2.1 d hl hn hv (fun ls hl => h H locs ls hP hD hS hl)
theorem V_iinc (C : CX Γ cc nL Ts own R) (j : Nat) {i : Nat} {z : Int} {x v : Int32} (d : decode cc pc = .ok (.iinc i z, 3)) (hj : lv[j]? = some (i, .int x)) (hx : x + Int32.ofInt z = v) (hn : i < nL) (hv : (i, Value.int v) :: lv.filter (fun q => !(q.1 == i) && !(q.1 + 1 == i && q.2.category == 2)) = lv') (h : V Γ nL k n (pc + 3) lv' st ws) : V Γ nL k n pc lv st ws := fun H locs ls hP hD hS hl => lv_iinc C.1 C.2.1 d hl hj hx hn hv (fun ls hl => h H locs ls hP hD hS hl)
theorem V_iadd (C : CX Γ cc nL Ts own R) {x y : Int32} (d : decode cc pc = .ok (.iadd, 1)) (h : V Γ nL k n (pc + 1) lv (.int (x + y) :: st) ws) : V Γ nL k n pc lv (.int y :: .int x :: st) ws := fun H locs ls hP hD hS hl => lv_iadd C.1 C.2.1 d (h H locs ls hP hD hS hl)
theorem V_isub (C : CX Γ cc nL Ts own R) {x y : Int32} (d : decode cc pc = .ok (.isub, 1)) (h : V Γ nL k n (pc + 1) lv (.int (x - y) :: st) ws) : V Γ nL k n pc lv (.int y :: .int x :: st) ws := fun H locs ls hP hD hS hl => lv_isub C.1 C.2.1 d (h H locs ls hP hD hS hl)
theorem V_imul (C : CX Γ cc nL Ts own R) {x y : Int32} (d : decode cc pc = .ok (.imul, 1)) (h : V Γ nL k n (pc + 1) lv (.int (x * y) :: st) ws) : V Γ nL k n pc lv (.int y :: .int x :: st) ws := fun H locs ls hP hD hS hl => lv_imul C.1 C.2.1 d (h H locs ls hP hD hS hl)
theorem V_iand (C : CX Γ cc nL Ts own R) {x y : Int32} (d : decode cc pc = .ok (.iand, 1)) (h : V Γ nL k n (pc + 1) lv (.int (x &&& y) :: st) ws) : V Γ nL k n pc lv (.int y :: .int x :: st) ws := fun H locs ls hP hD hS hl => lv_iand C.1 C.2.1 d (h H locs ls hP hD hS hl)
theorem V_ior (C : CX Γ cc nL Ts own R) {x y : Int32} (d : decode cc pc = .ok (.ior, 1)) (h : V Γ nL k n (pc + 1) lv (.int (x ||| y) :: st) ws) : V Γ nL k n pc lv (.int y :: .int x :: st) ws := fun H locs ls hP hD hS hl => lv_ior C.1 C.2.1 d (h H locs ls hP hD hS hl)
theorem V_ladd (C : CX Γ cc nL Ts own R) {x y : Int64} (d : decode cc pc = .ok (.ladd, 1)) (h : V Γ nL k n (pc + 1) lv (.long (x + y) :: st) ws) : V Γ nL k n pc lv (.long y :: .long x :: st) ws := fun H locs ls hP hD hS hl => lv_ladd C.1 C.2.1 d (h H locs ls hP hD hS hl)
theorem V_lsub (C : CX Γ cc nL Ts own R) {x y : Int64} (d : decode cc pc = .ok (.lsub, 1)) (h : V Γ nL k n (pc + 1) lv (.long (x - y) :: st) ws) : V Γ nL k n pc lv (.long y :: .long x :: st) ws := fun H locs ls hP hD hS hl => lv_lsub C.1 C.2.1 d (h H locs ls hP hD hS hl)
theorem V_lmul (C : CX Γ cc nL Ts own R) {x y : Int64} (d : decode cc pc = .ok (.lmul, 1)) (h : V Γ nL k n (pc + 1) lv (.long (x * y) :: st) ws) : V Γ nL k n pc lv (.long y :: .long x :: st) ws := fun H locs ls hP hD hS hl => lv_lmul C.1 C.2.1 d (h H locs ls hP hD hS hl)
theorem V_land (C : CX Γ cc nL Ts own R) {x y : Int64} (d : decode cc pc = .ok (.land, 1)) (h : V Γ nL k n (pc + 1) lv (.long (x &&& y) :: st) ws) : V Γ nL k n pc lv (.long y :: .long x :: st) ws := fun H locs ls hP hD hS hl => lv_land C.1 C.2.1 d (h H locs ls hP hD hS hl)
theorem V_lor (C : CX Γ cc nL Ts own R) {x y : Int64} (d : decode cc pc = .ok (.lor, 1)) (h : V Γ nL k n (pc + 1) lv (.long (x ||| y) :: st) ws) : V Γ nL k n pc lv (.long y :: .long x :: st) ws := fun H locs ls hP hD hS hl => lv_lor C.1 C.2.1 d (h H locs ls hP hD hS hl)
theorem V_ishl (C : CX Γ cc nL Ts own R) {x y : Int32} (d : decode cc pc = .ok (.ishl, 1)) (h : V Γ nL k n (pc + 1) lv (.int (x <<< (y &&& 31)) :: st) ws) : V Γ nL k n pc lv (.int y :: .int x :: st) ws := fun H locs ls hP hD hS hl => lv_ishl C.1 C.2.1 d (h H locs ls hP hD hS hl)
theorem V_ishr (C : CX Γ cc nL Ts own R) {x y : Int32} (d : decode cc pc = .ok (.ishr, 1)) (h : V Γ nL k n (pc + 1) lv (.int (x >>> (y &&& 31)) :: st) ws) : V Γ nL k n pc lv (.int y :: .int x :: st) ws := fun H locs ls hP hD hS hl => lv_ishr C.1 C.2.1 d (h H locs ls hP hD hS hl)
theorem V_lshl (C : CX Γ cc nL Ts own R) {x : Int64} {y : Int32} (d : decode cc pc = .ok (.lshl, 1)) (h : V Γ nL k n (pc + 1) lv (.long (x <<< (y.toInt64 &&& 63)) :: st) ws) : V Γ nL k n pc lv (.int y :: .long x :: st) ws := fun H locs ls hP hD hS hl => lv_lshl C.1 C.2.1 d rfl (h H locs ls hP hD hS hl)
theorem V_ineg (C : CX Γ cc nL Ts own R) {x : Int32} (d : decode cc pc = .ok (.ineg, 1)) (h : V Γ nL k n (pc + 1) lv (.int (-x) :: st) ws) : V Γ nL k n pc lv (.int x :: st) ws := fun H locs ls hP hD hS hl => lv_ineg C.1 C.2.1 d (h H locs ls hP hD hS hl)
theorem V_lneg (C : CX Γ cc nL Ts own R) {x : Int64} (d : decode cc pc = .ok (.lneg, 1)) (h : V Γ nL k n (pc + 1) lv (.long (-x) :: st) ws) : V Γ nL k n pc lv (.long x :: st) ws := fun H locs ls hP hD hS hl => lv_lneg C.1 C.2.1 d (h H locs ls hP hD hS hl)
theorem V_i2l (C : CX Γ cc nL Ts own R) {x : Int32} (d : decode cc pc = .ok (.i2l, 1)) (h : V Γ nL k n (pc + 1) lv (.long x.toInt64 :: st) ws) : V Γ nL k n pc lv (.int x :: st) ws := fun H locs ls hP hD hS hl => lv_i2l C.1 C.2.1 d rfl (h H locs ls hP hD hS hl)
theorem V_l2i (C : CX Γ cc nL Ts own R) {x : Int64} (d : decode cc pc = .ok (.l2i, 1)) (h : V Γ nL k n (pc + 1) lv (.int x.toInt32 :: st) ws) : V Γ nL k n pc lv (.long x :: st) ws := fun H locs ls hP hD hS hl => lv_l2i C.1 C.2.1 d rfl (h H locs ls hP hD hS hl)
theorem V_idiv (C : CX Γ cc nL Ts own R) {x y v : Int32} (hv : dvI x y = some v) (d : decode cc pc = .ok (.idiv, 1)) (h : V Γ nL k n (pc + 1) lv (.int v :: st) ws) : V Γ nL k n pc lv (.int y :: .int x :: st) ws := fun H locs ls hP hD hS hl => lv_idiv C.1 C.2.1 d (dvI_s hv).1 (by rw [(dvI_s hv).2]; exact h H locs ls hP hD hS hl)
theorem V_irem (C : CX Γ cc nL Ts own R) {x y v : Int32} (hv : rmI x y = some v) (d : decode cc pc = .ok (.irem, 1)) (h : V Γ nL k n (pc + 1) lv (.int v :: st) ws) : V Γ nL k n pc lv (.int y :: .int x :: st) ws := fun H locs ls hP hD hS hl => lv_irem C.1 C.2.1 d (rmI_s hv).1 (by rw [irem_eq, (rmI_s hv).2]; exact h H locs ls hP hD hS hl)
theorem V_ldiv (C : CX Γ cc nL Ts own R) {x y v : Int64} (hv : dvJ x y = some v) (d : decode cc pc = .ok (.ldiv, 1)) (h : V Γ nL k n (pc + 1) lv (.long v :: st) ws) : V Γ nL k n pc lv (.long y :: .long x :: st) ws := fun H locs ls hP hD hS hl => lv_ldiv C.1 C.2.1 d (dvJ_s hv).1 (by rw [(dvJ_s hv).2]; exact h H locs ls hP hD hS hl)
theorem V_lrem (C : CX Γ cc nL Ts own R) {x y v : Int64} (hv : rmJ x y = some v) (d : decode cc pc = .ok (.lrem, 1)) (h : V Γ nL k n (pc + 1) lv (.long v :: st) ws) : V Γ nL k n pc lv (.long y :: .long x :: st) ws := fun H locs ls hP hD hS hl => lv_lrem C.1 C.2.1 d (rmJ_s hv).1 (by rw [lrem_eq, (rmJ_s hv).2]; exact h H locs ls hP hD hS hl)
theorem V_dup (C : CX Γ cc nL Ts own R) {a : Value} (d : decode cc pc = .ok (.dup, 1)) (ha : a.category = 1) (h : V Γ nL k n (pc + 1) lv (a :: a :: st) ws) : V Γ nL k n pc lv (a :: st) ws := fun H locs ls hP hD hS hl => lv_dup C.1 C.2.1 d ha (h H locs ls hP hD hS hl)
theorem V_dup2_11 (C : CX Γ cc nL Ts own R) {a b : Value} (d : decode cc pc = .ok (.dup2, 1)) (ha : a.category = 1) (hb : b.category = 1) (h : V Γ nL k n (pc + 1) lv (a :: b :: a :: b :: st) ws) : V Γ nL k n pc lv (a :: b :: st) ws := fun H locs ls hP hD hS hl => lv_dup2_11 C.1 C.2.1 d ha hb (h H locs ls hP hD hS hl)
theorem V_goto (C : CX Γ cc nL Ts own R) (tgt : Nat) {off : Int} (d : decode cc pc = .ok (.goto off, 3)) (ht : (pc : Int) + off = (tgt : Int)) (h : V Γ nL k n tgt lv st ws) : V Γ nL k n pc lv st ws := fun H locs ls hP hD hS hl => lv_goto C.1 C.2.1 d ht (h H locs ls hP hD hS hl)
theorem V_icmp_eq (C : CX Γ cc nL Ts own R) (tgt : Nat) {x y : Int32} {off : Int} (d : decode cc pc = .ok (.if_icmp .eq off, 3)) (ht : (pc : Int) + off = (tgt : Int)) (kt : x = y → V Γ nL k n (tgt) lv st ws) (kf : ¬ x = y → V Γ nL k n (pc + 3) lv st ws) : V Γ nL k n pc lv (.int y :: .int x :: st) ws := fun H locs ls hP hD hS hl => lv_icmp_eq C.1 C.2.1 d ht (fun c0 => kt c0 H locs ls hP hD hS hl) (fun c0 => kf c0 H locs ls hP hD hS hl)
theorem V_icmp_ne (C : CX Γ cc nL Ts own R) (tgt : Nat) {x y : Int32} {off : Int} (d : decode cc pc = .ok (.if_icmp .ne off, 3)) (ht : (pc : Int) + off = (tgt : Int)) (kt : x = y → V Γ nL k n (pc + 3) lv st ws) (kf : ¬ x = y → V Γ nL k n (tgt) lv st ws) : V Γ nL k n pc lv (.int y :: .int x :: st) ws := fun H locs ls hP hD hS hl => lv_icmp_ne C.1 C.2.1 d ht (fun c0 => kf c0 H locs ls hP hD hS hl) (fun c0 => kt c0 H locs ls hP hD hS hl)
theorem V_icmp_lt (C : CX Γ cc nL Ts own R) (tgt : Nat) {x y : Int32} {off : Int} (d : decode cc pc = .ok (.if_icmp .lt off, 3)) (ht : (pc : Int) + off = (tgt : Int)) (kt : x < y → V Γ nL k n (tgt) lv st ws) (kf : ¬ x < y → V Γ nL k n (pc + 3) lv st ws) : V Γ nL k n pc lv (.int y :: .int x :: st) ws := fun H locs ls hP hD hS hl => lv_icmp_lt C.1 C.2.1 d ht (fun c0 => kt c0 H locs ls hP hD hS hl) (fun c0 => kf c0 H locs ls hP hD hS hl)
theorem V_icmp_ge (C : CX Γ cc nL Ts own R) (tgt : Nat) {x y : Int32} {off : Int} (d : decode cc pc = .ok (.if_icmp .ge off, 3)) (ht : (pc : Int) + off = (tgt : Int)) (kt : x < y → V Γ nL k n (pc + 3) lv st ws) (kf : ¬ x < y → V Γ nL k n (tgt) lv st ws) : V Γ nL k n pc lv (.int y :: .int x :: st) ws := fun H locs ls hP hD hS hl => lv_icmp_ge C.1 C.2.1 d ht (fun c0 => kf (Int32.not_lt.mpr c0) H locs ls hP hD hS hl) (fun c0 => kt (Int32.not_le.mp c0) H locs ls hP hD hS hl)
theorem V_icmp_gt (C : CX Γ cc nL Ts own R) (tgt : Nat) {x y : Int32} {off : Int} (d : decode cc pc = .ok (.if_icmp .gt off, 3)) (ht : (pc : Int) + off = (tgt : Int)) (kt : y < x → V Γ nL k n (tgt) lv st ws) (kf : ¬ y < x → V Γ nL k n (pc + 3) lv st ws) : V Γ nL k n pc lv (.int y :: .int x :: st) ws := fun H locs ls hP hD hS hl => lv_icmp_gt C.1 C.2.1 d ht (fun c0 => kt c0 H locs ls hP hD hS hl) (fun c0 => kf c0 H locs ls hP hD hS hl)
theorem V_icmp_le (C : CX Γ cc nL Ts own R) (tgt : Nat) {x y : Int32} {off : Int} (d : decode cc pc = .ok (.if_icmp .le off, 3)) (ht : (pc : Int) + off = (tgt : Int)) (kt : y < x → V Γ nL k n (pc + 3) lv st ws) (kf : ¬ y < x → V Γ nL k n (tgt) lv st ws) : V Γ nL k n pc lv (.int y :: .int x :: st) ws := fun H locs ls hP hD hS hl => lv_icmp_le C.1 C.2.1 d ht (fun c0 => kf (Int32.not_lt.mpr c0) H locs ls hP hD hS hl) (fun c0 => kt (Int32.not_le.mp c0) H locs ls hP hD hS hl)
theorem V_if_eq (C : CX Γ cc nL Ts own R) (tgt : Nat) {x : Int32} {off : Int} (d : decode cc pc = .ok (.ifCond .eq off, 3)) (ht : (pc : Int) + off = (tgt : Int)) (kt : x = 0 → V Γ nL k n (tgt) lv st ws) (kf : ¬ x = 0 → V Γ nL k n (pc + 3) lv st ws) : V Γ nL k n pc lv (.int x :: st) ws := fun H locs ls hP hD hS hl => lv_if_eq C.1 C.2.1 d ht (fun c0 => kt c0 H locs ls hP hD hS hl) (fun c0 => kf c0 H locs ls hP hD hS hl)
theorem V_if_ne (C : CX Γ cc nL Ts own R) (tgt : Nat) {x : Int32} {off : Int} (d : decode cc pc = .ok (.ifCond .ne off, 3)) (ht : (pc : Int) + off = (tgt : Int)) (kt : x = 0 → V Γ nL k n (pc + 3) lv st ws) (kf : ¬ x = 0 → V Γ nL k n (tgt) lv st ws) : V Γ nL k n pc lv (.int x :: st) ws := fun H locs ls hP hD hS hl => lv_if_ne C.1 C.2.1 d ht (fun c0 => kf c0 H locs ls hP hD hS hl) (fun c0 => kt c0 H locs ls hP hD hS hl)
theorem V_if_lt (C : CX Γ cc nL Ts own R) (tgt : Nat) {x : Int32} {off : Int} (d : decode cc pc = .ok (.ifCond .lt off, 3)) (ht : (pc : Int) + off = (tgt : Int)) (kt : x < 0 → V Γ nL k n (tgt) lv st ws) (kf : ¬ x < 0 → V Γ nL k n (pc + 3) lv st ws) : V Γ nL k n pc lv (.int x :: st) ws := fun H locs ls hP hD hS hl => lv_if_lt C.1 C.2.1 d ht (fun c0 => kt c0 H locs ls hP hD hS hl) (fun c0 => kf c0 H locs ls hP hD hS hl)
theorem V_if_ge (C : CX Γ cc nL Ts own R) (tgt : Nat) {x : Int32} {off : Int} (d : decode cc pc = .ok (.ifCond .ge off, 3)) (ht : (pc : Int) + off = (tgt : Int)) (kt : x < 0 → V Γ nL k n (pc + 3) lv st ws) (kf : ¬ x < 0 → V Γ nL k n (tgt) lv st ws) : V Γ nL k n pc lv (.int x :: st) ws := fun H locs ls hP hD hS hl => lv_if_ge C.1 C.2.1 d ht (fun c0 => kf (Int32.not_lt.mpr c0) H locs ls hP hD hS hl) (fun c0 => kt (Int32.not_le.mp c0) H locs ls hP hD hS hl)
theorem V_if_gt (C : CX Γ cc nL Ts own R) (tgt : Nat) {x : Int32} {off : Int} (d : decode cc pc = .ok (.ifCond .gt off, 3)) (ht : (pc : Int) + off = (tgt : Int)) (kt : 0 < x → V Γ nL k n (tgt) lv st ws) (kf : ¬ 0 < x → V Γ nL k n (pc + 3) lv st ws) : V Γ nL k n pc lv (.int x :: st) ws := fun H locs ls hP hD hS hl => lv_if_gt C.1 C.2.1 d ht (fun c0 => kt c0 H locs ls hP hD hS hl) (fun c0 => kf c0 H locs ls hP hD hS hl)
theorem V_if_le (C : CX Γ cc nL Ts own R) (tgt : Nat) {x : Int32} {off : Int} (d : decode cc pc = .ok (.ifCond .le off, 3)) (ht : (pc : Int) + off = (tgt : Int)) (kt : 0 < x → V Γ nL k n (pc + 3) lv st ws) (kf : ¬ 0 < x → V Γ nL k n (tgt) lv st ws) : V Γ nL k n pc lv (.int x :: st) ws := fun H locs ls hP hD hS hl => lv_if_le C.1 C.2.1 d ht (fun c0 => kf (Int32.not_lt.mpr c0) H locs ls hP hD hS hl) (fun c0 => kt (Int32.not_le.mp c0) H locs ls hP hD hS hl)
theorem lc_eq {x y : Int64} : lg_cmp x y = 0 ↔ x = y := by
  unfold lg_cmp
  split
  · next h => exact ⟨fun q => absurd q (by decide), fun q => by subst q; exact absurd h (Int64.lt_irrefl)⟩
  · split
    · next h => exact ⟨fun _ => h, fun _ => rfl⟩
    · next h => exact ⟨fun q => absurd q (by decide), fun q => absurd q h⟩
theorem lc_lt {x y : Int64} : lg_cmp x y < 0 ↔ x < y := by
  unfold lg_cmp
  split
  · next h => exact ⟨fun q => absurd q (by decide), fun q => absurd (Int64.lt_trans h q) (Int64.lt_irrefl)⟩
  · next h =>
    split
    · next h => subst h; exact ⟨fun q => absurd q (by decide), fun q => absurd q (Int64.lt_irrefl)⟩
    · next h2 => exact ⟨fun _ => by
        rcases Int64.lt_or_eq_of_le (Int64.not_lt.mp h) with q | q
        · exact q
        · exact absurd q h2, fun _ => by decide⟩
theorem lc_gt {x y : Int64} : 0 < lg_cmp x y ↔ y < x := by
  unfold lg_cmp
  split
  · next h => exact ⟨fun _ => h, fun _ => by decide⟩
  · next h =>
    split
    · next h2 => exact ⟨fun q => absurd q (by decide), fun q => absurd q h⟩
    · next h2 => exact ⟨fun q => absurd q (by decide), fun q => absurd q h⟩
theorem V_lcmp (C : CX Γ cc nL Ts own R) {x y : Int64} (d : decode cc pc = .ok (.lcmp, 1)) (h : V Γ nL k n (pc + 1) lv (.int (lg_cmp x y) :: st) ws) : V Γ nL k n pc lv (.long y :: .long x :: st) ws := fun H locs ls hP hD hS hl => W.lcmp C.1 C.2.1 d (h H locs ls hP hD hS hl)
theorem V_lcmp_eq (C : CX Γ cc nL Ts own R) (tgt : Nat) {x y : Int64} {off : Int} (d : decode cc pc = .ok (.lcmp, 1)) (d2 : decode cc (pc + 1) = .ok (.ifCond .eq off, 3)) (ht : ((pc + 1 : Nat) : Int) + off = (tgt : Int)) (kt : x = y → V Γ nL k n (tgt) lv st ws) (kf : ¬ x = y → V Γ nL k n (pc + 1 + 3) lv st ws) : V Γ nL k n pc lv (.long y :: .long x :: st) ws := V_lcmp C d (V_if_eq C tgt d2 ht (fun c0 => kt (lc_eq.mp c0)) (fun c0 => kf (fun c1 => c0 (lc_eq.mpr c1))))
theorem V_lcmp_ne (C : CX Γ cc nL Ts own R) (tgt : Nat) {x y : Int64} {off : Int} (d : decode cc pc = .ok (.lcmp, 1)) (d2 : decode cc (pc + 1) = .ok (.ifCond .ne off, 3)) (ht : ((pc + 1 : Nat) : Int) + off = (tgt : Int)) (kt : x = y → V Γ nL k n (pc + 1 + 3) lv st ws) (kf : ¬ x = y → V Γ nL k n (tgt) lv st ws) : V Γ nL k n pc lv (.long y :: .long x :: st) ws := V_lcmp C d (V_if_ne C tgt d2 ht (fun c0 => kt (lc_eq.mp c0)) (fun c0 => kf (fun c1 => c0 (lc_eq.mpr c1))))
theorem V_lcmp_lt (C : CX Γ cc nL Ts own R) (tgt : Nat) {x y : Int64} {off : Int} (d : decode cc pc = .ok (.lcmp, 1)) (d2 : decode cc (pc + 1) = .ok (.ifCond .lt off, 3)) (ht : ((pc + 1 : Nat) : Int) + off = (tgt : Int)) (kt : x < y → V Γ nL k n (tgt) lv st ws) (kf : ¬ x < y → V Γ nL k n (pc + 1 + 3) lv st ws) : V Γ nL k n pc lv (.long y :: .long x :: st) ws := V_lcmp C d (V_if_lt C tgt d2 ht (fun c0 => kt (lc_lt.mp c0)) (fun c0 => kf (fun c1 => c0 (lc_lt.mpr c1))))
theorem V_lcmp_ge (C : CX Γ cc nL Ts own R) (tgt : Nat) {x y : Int64} {off : Int} (d : decode cc pc = .ok (.lcmp, 1)) (d2 : decode cc (pc + 1) = .ok (.ifCond .ge off, 3)) (ht : ((pc + 1 : Nat) : Int) + off = (tgt : Int)) (kt : x < y → V Γ nL k n (pc + 1 + 3) lv st ws) (kf : ¬ x < y → V Γ nL k n (tgt) lv st ws) : V Γ nL k n pc lv (.long y :: .long x :: st) ws := V_lcmp C d (V_if_ge C tgt d2 ht (fun c0 => kt (lc_lt.mp c0)) (fun c0 => kf (fun c1 => c0 (lc_lt.mpr c1))))
theorem V_lcmp_gt (C : CX Γ cc nL Ts own R) (tgt : Nat) {x y : Int64} {off : Int} (d : decode cc pc = .ok (.lcmp, 1)) (d2 : decode cc (pc + 1) = .ok (.ifCond .gt off, 3)) (ht : ((pc + 1 : Nat) : Int) + off = (tgt : Int)) (kt : y < x → V Γ nL k n (tgt) lv st ws) (kf : ¬ y < x → V Γ nL k n (pc + 1 + 3) lv st ws) : V Γ nL k n pc lv (.long y :: .long x :: st) ws := V_lcmp C d (V_if_gt C tgt d2 ht (fun c0 => kt (lc_gt.mp c0)) (fun c0 => kf (fun c1 => c0 (lc_gt.mpr c1))))
theorem V_lcmp_le (C : CX Γ cc nL Ts own R) (tgt : Nat) {x y : Int64} {off : Int} (d : decode cc pc = .ok (.lcmp, 1)) (d2 : decode cc (pc + 1) = .ok (.ifCond .le off, 3)) (ht : ((pc + 1 : Nat) : Int) + off = (tgt : Int)) (kt : y < x → V Γ nL k n (pc + 1 + 3) lv st ws) (kf : ¬ y < x → V Γ nL k n (tgt) lv st ws) : V Γ nL k n pc lv (.long y :: .long x :: st) ws := V_lcmp C d (V_if_le C tgt d2 ht (fun c0 => kt (lc_gt.mp c0)) (fun c0 => kf (fun c1 => c0 (lc_gt.mpr c1))))
theorem V_tabIn (C : CX Γ cc nL Ts own R) (tgt : Nat) {dflt lo hi : Int} {offs : Array Int} {len : Nat} {x : Int32} {off : Int} (d : decode cc pc = .ok (.tableswitch dflt lo hi offs, len)) (v : Int) (hx : x.toInt = v) (h1 : lo ≤ v) (h2 : v ≤ hi) (ho : offs[(v - lo).toNat]? = some off) (ht : (pc : Int) + off = (tgt : Int)) (h : V Γ nL k n tgt lv st ws) : V Γ nL k n pc lv (.int x :: st) ws := fun H locs ls hP hD hS hl => lv_tableIn C.1 C.2.1 d (by omega) (by omega) (by rw [hx]; exact ho) ht (h H locs ls hP hD hS hl)
theorem V_tabOut (C : CX Γ cc nL Ts own R) (tgt : Nat) {dflt lo hi : Int} {offs : Array Int} {len : Nat} {x : Int32} (d : decode cc pc = .ok (.tableswitch dflt lo hi offs, len)) (hx : x.toInt < lo ∨ hi < x.toInt) (ht : (pc : Int) + dflt = (tgt : Int)) (h : V Γ nL k n tgt lv st ws) : V Γ nL k n pc lv (.int x :: st) ws := fun H locs ls hP hD hS hl => lv_tableOut C.1 C.2.1 d hx ht (h H locs ls hP hD hS hl)
theorem V_get (C : CX Γ cc nL Ts own R) {index : Nat} {CN : String} {T : u_T} {N ci a : Nat} {fs : List Value} {v : Value} (hin : ∀ w ∈ u_ws CN T N, w ∈ Ts) (q0 kf : Nat) (he : ws[q0]? = some (a, eO ci fs)) (hc : vwCl[ci]? = some (CN, T, N)) (hk : kf < N) (w : Cond.fieldLink own index (T kf).1 (T kf).2.1 (T kf).2.2.1 ∈ Ts) (hv : fs[kf]? = some v) (d : decode cc pc = .ok (.getfield index, 3)) (h : V Γ nL k n (pc + 3) lv (v :: st) ws) : V Γ nL k n pc lv (.ref a :: st) ws := fun H locs ls hP hD hS hl => va_get C.1 C.2.1 C.2.2.2.2.1 hin C.2.2.2.1 C.2.2.2.2.2.1 hP q0 (rW_at he) hc kf hk (C.2.2.2.2.1 _ w) (fun _ h9 => h9) hv d (h H locs ls hP hD hS hl)
theorem V_getN (C : CX Γ cc nL Ts own R) {index : Nat} {CN : String} {T : u_T} {N ci a : Nat} {fs : List Value} {v : Value} (hin : ∀ w ∈ u_ws CN T N, w ∈ Ts) (q0 kf : Nat) (he : ws[q0]? = some (a, eO ci fs)) (hc : vwCl[ci]? = some (CN, T, N)) (hk : kf < N) (w : Cond.fieldLinkNest own index (T kf).1 (T kf).2.1 (T kf).2.2.1 RX8 ∈ NWS) (hv : fs[kf]? = some v) (d : decode cc pc = .ok (.getfield index, 3)) (h : V Γ nL k n (pc + 3) lv (v :: st) ws) : V Γ nL k n pc lv (.ref a :: st) ws := fun H locs ls hP hD hS hl => va_getN C.1 C.2.1 C.2.2.2.2.1 hin C.2.2.2.1 C.2.2.2.2.2.1 hP q0 (rW_at he) hc kf hk (va_Nw.use rfl (C.2.2.2.2.2.2.2.1.2 _ w)) (fun _ h9 => h9) hv d (h H locs ls hP hD hS hl)
theorem V_put (C : CX Γ cc nL Ts own R) {index : Nat} {CN : String} {T : u_T} {N ci a : Nat} {fs : List Value} {v : Value} {ty : FieldType} (hin : ∀ w ∈ u_ws CN T N, w ∈ Ts) (ty0 : Nat → FieldType) (hty : ∀ k, k < N → parseFieldDescriptor (T k).2.2.1 = some (ty0 k)) (hnm : ∀ a, a < N → ∀ b, b < N → a ≠ b → (T a).2.1 ≠ (T b).2.1) (q0 kf : Nat) (he : ws[q0]? = some (a, eO ci fs)) (hc : vwCl[ci]? = some (CN, T, N)) (hk : kf < N) (w : Cond.fieldLink own index (T kf).1 (T kf).2.1 (T kf).2.2.1 ∈ Ts) (hfin : (T kf).2.2.2 = false) (hd : parseFieldDescriptor (T kf).2.2.1 = some ty) (hn : narrow ty v = v) (hfit : fits ty v = true) (hl : kf < fs.length) (d : decode cc pc = .ok (.putfield index, 3)) (hw : ws.set q0 (a, eO ci (fs.set kf v)) = ws') (h : V Γ nL k n (pc + 3) lv st ws') : V Γ nL k n pc lv (v :: .ref a :: st) ws := fun H locs ls hP hD hS hlv => va_put C.1 C.2.1 C.2.2.2.2.1 hin ty0 hty hnm C.2.2.2.1 C.2.2.2.2.2.1 hP hD hS q0 (rW_at he) hc kf hk (C.2.2.2.2.1 _ w) (fun _ h9 => h9) hfin hd hn hfit hl d (fun H1 locs1 hP1 hD1 hS1 => by
  have e : (rW (kK Γ) ws).set q0 (a, .inr (ci, fs.set kf v)) = rW (kK Γ) ws' := (rW_set (kK Γ) ws q0 a (eO ci (fs.set kf v))).trans (by rw [hw])
  rw [e] at hP1 hD1
  exact h H1 locs1 ls hP1 hD1 hS1 hlv)
theorem V_iald (C : CX Γ cc nL Ts own R) {a N : Nat} {f : Nat → Int32} {i v : Int32} (q0 : Nat) (he : ws[q0]? = some (a, eI N f)) (hv : rdI f N i = some v) (d : decode cc pc = .ok (.iaload, 1)) (h : V Γ nL k n (pc + 1) lv (.int v :: st) ws) : V Γ nL k n pc lv (.int i :: .ref a :: st) ws := fun H locs ls hP hD hS hl => va_iald C.1 C.2.1 C.2.2.2.2.2.1 hP q0 0 (rW_at he) rfl (rdI_s hv).1 d (by rw [(rdI_s hv).2]; exact h H locs ls hP hD hS hl)
theorem V_zald (C : CX Γ cc nL Ts own R) {a N : Nat} {f : Nat → Int32} {i v : Int32} (q0 : Nat) (he : ws[q0]? = some (a, eZ N f)) (hv : rdI f N i = some v) (d : decode cc pc = .ok (.baload, 1)) (h : V Γ nL k n (pc + 1) lv (.int v :: st) ws) : V Γ nL k n pc lv (.int i :: .ref a :: st) ws := fun H locs ls hP hD hS hl => va_zald C.1 C.2.1 C.2.2.2.2.2.1 hP q0 2 (rW_at he) rfl (rdI_s hv).1 d (by rw [(rdI_s hv).2]; exact h H locs ls hP hD hS hl)
theorem V_lald (C : CX Γ cc nL Ts own R) {a N : Nat} {f : Nat → Int64} {i : Int32} {v : Int64} (q0 : Nat) (he : ws[q0]? = some (a, eJ N f)) (hv : rdJ f N i = some v) (d : decode cc pc = .ok (.laload, 1)) (h : V Γ nL k n (pc + 1) lv (.long v :: st) ws) : V Γ nL k n pc lv (.int i :: .ref a :: st) ws := fun H locs ls hP hD hS hl => va_lald C.1 C.2.1 C.2.2.2.2.2.1 hP q0 1 (rW_at he) rfl (rdJ_s hv).1 d (by rw [(rdJ_s hv).2]; exact h H locs ls hP hD hS hl)
theorem V_alen (C : CX Γ cc nL Ts own R) {a : Nat} {v : Int32} (q0 : Nat) {x : ME} {cA : ClassId} {X : vp_A} {ty : FieldType} (t0 : Nat) (he : ws[q0]? = some (a, x)) (hx : rE (kK Γ) x = .inl (cA, X)) (ht : (tysK (kK Γ))[t0]? = some (cA, ty)) (hv : Int32.ofNat X.1 = v) (d : decode cc pc = .ok (.arraylength, 1)) (h : V Γ nL k n (pc + 1) lv (.int v :: st) ws) : V Γ nL k n pc lv (.ref a :: st) ws := fun H locs ls hP hD hS hl => va_alen C.1 C.2.1 C.2.2.2.2.2.1 hP q0 t0 ((rW_at he).trans (by rw [hx])) ht hv d (h H locs ls hP hD hS hl)
theorem V_iast (C : CX Γ cc nL Ts own R) {a N : Nat} {f g : Nat → Int32} {i x : Int32} (q0 : Nat) (he : ws[q0]? = some (a, eI N f)) (hv : wrI f N i x = some g) (d : decode cc pc = .ok (.iastore, 1)) (hw : ws.set q0 (a, eI N g) = ws') (h : V Γ nL k n (pc + 1) lv st ws') : V Γ nL k n pc lv (.int x :: .int i :: .ref a :: st) ws := fun H locs ls hP hD hS hl => va_iast C.1 C.2.1 C.2.2.2.2.2.1 hP hD hS q0 0 (rW_at he) rfl (wrI_s hv).1 d (fun H1 locs1 hP1 hD1 hS1 => by
  rw [(wrI_s hv).2] at hP1 hD1
  have e : (rW (kK Γ) ws).set q0 (a, .inl ((kK Γ).2.1, N, .inl g)) = rW (kK Γ) ws' := (rW_set (kK Γ) ws q0 a (eI N g)).trans (by rw [hw])
  rw [e] at hP1 hD1
  exact h H1 locs1 ls hP1 hD1 hS1 hl)
theorem V_zast (C : CX Γ cc nL Ts own R) {a N : Nat} {f g : Nat → Int32} {i x : Int32} (q0 : Nat) (he : ws[q0]? = some (a, eZ N f)) (hv : wrZ f N i x = some g) (d : decode cc pc = .ok (.bastore, 1)) (hw : ws.set q0 (a, eZ N g) = ws') (h : V Γ nL k n (pc + 1) lv st ws') : V Γ nL k n pc lv (.int x :: .int i :: .ref a :: st) ws := fun H locs ls hP hD hS hl => va_zast C.1 C.2.1 C.2.2.2.2.2.1 hP hD hS q0 2 (rW_at he) rfl (wrZ_s hv).1 d (fun H1 locs1 hP1 hD1 hS1 => by
  rw [(wrZ_s hv).2] at hP1 hD1
  have e : (rW (kK Γ) ws).set q0 (a, .inl ((kK Γ).2.2.2, N, .inl g)) = rW (kK Γ) ws' := (rW_set (kK Γ) ws q0 a (eZ N g)).trans (by rw [hw])
  rw [e] at hP1 hD1
  exact h H1 locs1 ls hP1 hD1 hS1 hl)
theorem V_last (C : CX Γ cc nL Ts own R) {a N : Nat} {f g : Nat → Int64} {i : Int32} {x : Int64} (q0 : Nat) (he : ws[q0]? = some (a, eJ N f)) (hv : wrJ f N i x = some g) (d : decode cc pc = .ok (.lastore, 1)) (hw : ws.set q0 (a, eJ N g) = ws') (h : V Γ nL k n (pc + 1) lv st ws') : V Γ nL k n pc lv (.long x :: .int i :: .ref a :: st) ws := fun H locs ls hP hD hS hl => va_last C.1 C.2.1 C.2.2.2.2.2.1 hP hD hS q0 1 (rW_at he) rfl (wrJ_s hv).1 d (fun H1 locs1 hP1 hD1 hS1 => by
  rw [(wrJ_s hv).2] at hP1 hD1
  have e : (rW (kK Γ) ws).set q0 (a, .inl ((kK Γ).2.2.1, N, .inr (.inl g))) = rW (kK Γ) ws' := (rW_set (kK Γ) ws q0 a (eJ N g)).trans (by rw [hw])
  rw [e] at hP1 hD1
  exact h H1 locs1 ls hP1 hD1 hS1 hl)
/-- the table of tens: its reference t, to be read as an array of 12 longs -/
def isTens (Γ : KT) (t : Nat) : Prop := va_T .long t 12 (fun j => .long (tensF j)) (kA Γ) (kS Γ) (kS Γ).heap
theorem V_tens (C : CX Γ cc nL Ts own R) {index : Nat} (w : Cond.fieldLink own index "RodBoard$Rods" "TENS" "[J" ∈ Ts) (d : decode cc pc = .ok (.getstatic index, 3)) (h : ∀ t : Nat, isTens Γ t → V Γ nL k n (pc + 3) lv (.ref t :: st) ws) : V Γ nL k n pc lv st ws := fun H locs ls hP hD hS hl => by
  obtain ⟨tt, hZ, hT⟩ := C.2.2.2.2.2.2.2.1.1
  exact va_gets C.1 C.2.1 hZ hS C.2.2.2.1 (C.2.2.2.2.1 _ w) (fun _ h9 => h9) d (h tt hT H locs ls hP hD hS hl)
theorem V_tensLd (C : CX Γ cc nL Ts own R) {t : Nat} {i : Int32} {v : Int64} (hT : isTens Γ t) (hv : rdJ tensF 12 i = some v) (d : decode cc pc = .ok (.laload, 1)) (h : V Γ nL k n (pc + 1) lv (.long v :: st) ws) : V Γ nL k n pc lv (.int i :: .ref t :: st) ws := fun H locs ls hP hD hS hl => va_tl C.1 C.2.1 hT hS (rdJ_s hv).1 (by rw [(rdJ_s hv).2]) d (h H locs ls hP hD hS hl)
theorem V_tensLen (C : CX Γ cc nL Ts own R) {t : Nat} (hT : isTens Γ t) (d : decode cc pc = .ok (.arraylength, 1)) (h : V Γ nL k n (pc + 1) lv (.int 12 :: st) ws) : V Γ nL k n pc lv (.ref t :: st) ws := fun H locs ls hP hD hS hl => va_tlen C.1 C.2.1 hT hS rfl d (h H locs ls hP hD hS hl)
theorem V_idivK (C : CX Γ cc nL Ts own R) {x y : Int32} (hy : ¬ y = 0) (d : decode cc pc = .ok (.idiv, 1)) (h : V Γ nL k n (pc + 1) lv (.int (x / y) :: st) ws) : V Γ nL k n pc lv (.int y :: .int x :: st) ws := fun H locs ls hP hD hS hl => lv_idiv C.1 C.2.1 d hy (h H locs ls hP hD hS hl)
theorem V_iremK (C : CX Γ cc nL Ts own R) {x y : Int32} (hy : ¬ y = 0) (d : decode cc pc = .ok (.irem, 1)) (h : V Γ nL k n (pc + 1) lv (.int (x % y) :: st) ws) : V Γ nL k n pc lv (.int y :: .int x :: st) ws := fun H locs ls hP hD hS hl => lv_irem C.1 C.2.1 d hy (by rw [irem_eq]; exact h H locs ls hP hD hS hl)
theorem V_ldivK (C : CX Γ cc nL Ts own R) {x y : Int64} (hy : ¬ y = 0) (d : decode cc pc = .ok (.ldiv, 1)) (h : V Γ nL k n (pc + 1) lv (.long (x / y) :: st) ws) : V Γ nL k n pc lv (.long y :: .long x :: st) ws := fun H locs ls hP hD hS hl => lv_ldiv C.1 C.2.1 d hy (h H locs ls hP hD hS hl)
theorem V_lremK (C : CX Γ cc nL Ts own R) {x y : Int64} (hy : ¬ y = 0) (d : decode cc pc = .ok (.lrem, 1)) (h : V Γ nL k n (pc + 1) lv (.long (x % y) :: st) ws) : V Γ nL k n pc lv (.long y :: .long x :: st) ws := fun H locs ls hP hD hS hl => lv_lrem C.1 C.2.1 d hy (by rw [lrem_eq]; exact h H locs ls hP hD hS hl)
end VROWS
