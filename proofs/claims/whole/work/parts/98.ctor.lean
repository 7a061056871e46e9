/-! ===== the constructors ===== -/
section ZCtor
variable {E : zE} {M : zM} {d m0 m1 pc : Nat} {L st : List zV} {h : zH} {u : zU2} {nn : Nat} {Q : List zV → zH → zU2 → Prop}
abbrev mX1_letters : zM := (yX1_lettersOfLanguage, cX1_lettersOfLanguage, 5, some (.array .int))
set_option maxRecDepth 100000 in
theorem wa_int : Cond.arrayClass .int ∈ ztb := List.mem_filter.mpr ⟨List.mem_append_right _ (List.mem_of_getElem? (i := 124) rfl), rfl⟩
set_option maxRecDepth 100000 in
theorem wa_char : Cond.arrayClass .char ∈ ztb := List.mem_filter.mpr ⟨List.mem_append_right _ (List.mem_of_getElem? (i := 123) rfl), rfl⟩
set_option maxRecDepth 100000 in
theorem wa_boolean : Cond.arrayClass .boolean ∈ ztb := List.mem_filter.mpr ⟨List.mem_append_right _ (List.mem_of_getElem? (i := 1309) rfl), rfl⟩
set_option maxRecDepth 100000 in
theorem wa_long : Cond.arrayClass .long ∈ ztb := List.mem_filter.mpr ⟨List.mem_append_right _ (List.mem_of_getElem? (i := 222) rfl), rfl⟩
set_option maxRecDepth 100000 in
theorem wob1 : Cond.instanceMethod Lib.objectInit ∈ ztb := List.mem_filter.mpr ⟨List.mem_append_right _ (List.mem_of_getElem? (i := 30) rfl), rfl⟩
set_option maxRecDepth 100000 in
theorem wob2 : Cond.code Lib.objectInit ⟨#[0xb1]⟩ 1 none ∈ ztb := List.mem_filter.mpr ⟨List.mem_append_right _ (List.mem_of_getElem? (i := 31) rfl), rfl⟩
set_option maxRecDepth 100000 in
theorem wlt1 : Cond.methodLink RX1 9 mX1_letters.1 ∈ ztb := List.mem_filter.mpr ⟨List.mem_append_right _ (List.mem_of_getElem? (i := 44) rfl), rfl⟩
set_option maxRecDepth 100000 in
theorem wlt2 : Cond.static mX1_letters.1 ∈ ztb := List.mem_filter.mpr ⟨List.mem_append_right _ (List.mem_of_getElem? (i := 45) rfl), rfl⟩
set_option maxRecDepth 100000 in
theorem wlt3 : Cond.code mX1_letters.1 mX1_letters.2.1 mX1_letters.2.2.1 mX1_letters.2.2.2 ∈ ztb := List.mem_filter.mpr ⟨List.mem_append_right _ (List.mem_of_getElem? (i := 46) rfl), rfl⟩
set_option maxRecDepth 100000 in
theorem wmx1 : Cond.methodLink RX2 15 Lib.Math.max.name ∈ ztb := List.mem_filter.mpr ⟨List.mem_append_right _ (List.mem_of_getElem? (i := 185) rfl), rfl⟩
set_option maxRecDepth 100000 in
theorem wmx2 : Cond.static Lib.Math.max.name ∈ ztb := List.mem_filter.mpr ⟨List.mem_append_right _ (List.mem_of_getElem? (i := 186) rfl), rfl⟩
set_option maxRecDepth 100000 in
theorem wmx3 : Cond.code Lib.Math.max.name Lib.Math.max.code 2 (some .int) ∈ ztb := List.mem_filter.mpr ⟨List.mem_append_right _ (List.mem_of_getElem? (i := 187) rfl), rfl⟩
set_option maxRecDepth 100000 in
theorem wq184 : Cond.methodLink RX2 3 Lib.objectInit ∈ ztb := List.mem_filter.mpr ⟨List.mem_append_right _ (List.mem_of_getElem? (i := 184) rfl), rfl⟩
set_option maxRecDepth 100000 in
theorem wq202 : Cond.methodLink RX5 3 Lib.objectInit ∈ ztb := List.mem_filter.mpr ⟨List.mem_append_right _ (List.mem_of_getElem? (i := 202) rfl), rfl⟩
set_option maxRecDepth 100000 in
theorem wq131 : Cond.methodLink RX6 3 Lib.objectInit ∈ ztb := List.mem_filter.mpr ⟨List.mem_append_right _ (List.mem_of_getElem? (i := 131) rfl), rfl⟩
set_option maxRecDepth 100000 in
theorem wq391 : Cond.methodLink RX7 3 Lib.objectInit ∈ ztb := List.mem_filter.mpr ⟨List.mem_append_right _ (List.mem_of_getElem? (i := 391) rfl), rfl⟩
set_option maxRecDepth 100000 in
theorem wq313 : Cond.methodLink RX3 3 Lib.objectInit ∈ ztb := List.mem_filter.mpr ⟨List.mem_append_right _ (List.mem_of_getElem? (i := 313) rfl), rfl⟩
set_option maxRecDepth 100000 in
theorem wq339 : Cond.methodLink RX0 3 Lib.objectInit ∈ ztb := List.mem_filter.mpr ⟨List.mem_append_right _ (List.mem_of_getElem? (i := 339) rfl), rfl⟩
set_option maxRecDepth 100000 in
theorem wq178 : Cond.methodLink RX8 3 Lib.objectInit ∈ ztb := List.mem_filter.mpr ⟨List.mem_append_right _ (List.mem_of_getElem? (i := 178) rfl), rfl⟩
set_option maxRecDepth 100000 in
theorem wq179 : Cond.classLink RX8 9 RX2 ∈ ztb := List.mem_filter.mpr ⟨List.mem_append_right _ (List.mem_of_getElem? (i := 179) rfl), rfl⟩
set_option maxRecDepth 100000 in
theorem wq180 : Cond.instantiable RX2 2 ∈ ztb := List.mem_filter.mpr ⟨List.mem_append_right _ (List.mem_of_getElem? (i := 180) rfl), rfl⟩
set_option maxRecDepth 100000 in
theorem wq181 : Cond.methodLink RX8 11 mX2_init.1 ∈ ztb := List.mem_filter.mpr ⟨List.mem_append_right _ (List.mem_of_getElem? (i := 181) rfl), rfl⟩
set_option maxRecDepth 100000 in
theorem wq182 : Cond.instanceMethod mX2_init.1 ∈ ztb := List.mem_filter.mpr ⟨List.mem_append_right _ (List.mem_of_getElem? (i := 182) rfl), rfl⟩
set_option maxRecDepth 100000 in
theorem wq197 : Cond.classLink RX8 49 RX5 ∈ ztb := List.mem_filter.mpr ⟨List.mem_append_right _ (List.mem_of_getElem? (i := 197) rfl), rfl⟩
set_option maxRecDepth 100000 in
theorem wq198 : Cond.instantiable RX5 5 ∈ ztb := List.mem_filter.mpr ⟨List.mem_append_right _ (List.mem_of_getElem? (i := 198) rfl), rfl⟩
set_option maxRecDepth 100000 in
theorem wq199 : Cond.methodLinkNest RX8 51 mX5_init.1 RX9 ∈ znw := List.mem_filter.mpr ⟨List.mem_append_right _ (List.mem_of_getElem? (i := 199) rfl), rfl⟩
set_option maxRecDepth 100000 in
theorem wq200 : Cond.instanceMethod mX5_init.1 ∈ ztb := List.mem_filter.mpr ⟨List.mem_append_right _ (List.mem_of_getElem? (i := 200) rfl), rfl⟩
set_option maxRecDepth 100000 in
theorem wq43 : Cond.methodLink RX1 3 Lib.objectInit ∈ ztb := List.mem_filter.mpr ⟨List.mem_append_right _ (List.mem_of_getElem? (i := 43) rfl), rfl⟩
set_option maxRecDepth 100000 in
theorem wq37 : Cond.methodLink RX4 3 Lib.objectInit ∈ ztb := List.mem_filter.mpr ⟨List.mem_append_right _ (List.mem_of_getElem? (i := 37) rfl), rfl⟩
set_option maxRecDepth 100000 in
theorem wq38 : Cond.classLink RX4 9 RX1 ∈ ztb := List.mem_filter.mpr ⟨List.mem_append_right _ (List.mem_of_getElem? (i := 38) rfl), rfl⟩
set_option maxRecDepth 100000 in
theorem wq39 : Cond.instantiable RX1 7 ∈ ztb := List.mem_filter.mpr ⟨List.mem_append_right _ (List.mem_of_getElem? (i := 39) rfl), rfl⟩
set_option maxRecDepth 100000 in
theorem wq40 : Cond.methodLinkNest RX4 11 mX1_init.1 RX9 ∈ znw := List.mem_filter.mpr ⟨List.mem_append_right _ (List.mem_of_getElem? (i := 40) rfl), rfl⟩
set_option maxRecDepth 100000 in
theorem wq41 : Cond.instanceMethod mX1_init.1 ∈ ztb := List.mem_filter.mpr ⟨List.mem_append_right _ (List.mem_of_getElem? (i := 41) rfl), rfl⟩
set_option maxRecDepth 100000 in
theorem wq126 : Cond.classLink RX4 18 RX6 ∈ ztb := List.mem_filter.mpr ⟨List.mem_append_right _ (List.mem_of_getElem? (i := 126) rfl), rfl⟩
set_option maxRecDepth 100000 in
theorem wq127 : Cond.instantiable RX6 6 ∈ ztb := List.mem_filter.mpr ⟨List.mem_append_right _ (List.mem_of_getElem? (i := 127) rfl), rfl⟩
set_option maxRecDepth 100000 in
theorem wq128 : Cond.methodLinkNest RX4 20 mX6_init.1 RX9 ∈ znw := List.mem_filter.mpr ⟨List.mem_append_right _ (List.mem_of_getElem? (i := 128) rfl), rfl⟩
set_option maxRecDepth 100000 in
theorem wq129 : Cond.instanceMethod mX6_init.1 ∈ ztb := List.mem_filter.mpr ⟨List.mem_append_right _ (List.mem_of_getElem? (i := 129) rfl), rfl⟩
set_option maxRecDepth 100000 in
theorem wq29 : Cond.methodLink RX9 3 Lib.objectInit ∈ ztb := List.mem_filter.mpr ⟨List.mem_append_right _ (List.mem_of_getElem? (i := 29) rfl), rfl⟩
set_option maxRecDepth 100000 in
theorem wq32 : Cond.classLink RX9 17 RX4 ∈ ztb := List.mem_filter.mpr ⟨List.mem_append_right _ (List.mem_of_getElem? (i := 32) rfl), rfl⟩
set_option maxRecDepth 100000 in
theorem wq33 : Cond.instantiable RX4 6 ∈ ztb := List.mem_filter.mpr ⟨List.mem_append_right _ (List.mem_of_getElem? (i := 33) rfl), rfl⟩
set_option maxRecDepth 100000 in
theorem wq34 : Cond.methodLinkNest RX9 19 mX4_init.1 RX9 ∈ znw := List.mem_filter.mpr ⟨List.mem_append_right _ (List.mem_of_getElem? (i := 34) rfl), rfl⟩
set_option maxRecDepth 100000 in
theorem wq35 : Cond.instanceMethod mX4_init.1 ∈ ztb := List.mem_filter.mpr ⟨List.mem_append_right _ (List.mem_of_getElem? (i := 35) rfl), rfl⟩
set_option maxRecDepth 100000 in
theorem wq173 : Cond.classLink RX9 24 RX8 ∈ ztb := List.mem_filter.mpr ⟨List.mem_append_right _ (List.mem_of_getElem? (i := 173) rfl), rfl⟩
set_option maxRecDepth 100000 in
theorem wq174 : Cond.instantiable RX8 17 ∈ ztb := List.mem_filter.mpr ⟨List.mem_append_right _ (List.mem_of_getElem? (i := 174) rfl), rfl⟩
set_option maxRecDepth 100000 in
theorem wq175 : Cond.methodLinkNest RX9 26 mX8_init.1 RX9 ∈ znw := List.mem_filter.mpr ⟨List.mem_append_right _ (List.mem_of_getElem? (i := 175) rfl), rfl⟩
set_option maxRecDepth 100000 in
theorem wq176 : Cond.instanceMethod mX8_init.1 ∈ ztb := List.mem_filter.mpr ⟨List.mem_append_right _ (List.mem_of_getElem? (i := 176) rfl), rfl⟩
set_option maxRecDepth 100000 in
theorem wq308 : Cond.classLink RX9 34 RX3 ∈ ztb := List.mem_filter.mpr ⟨List.mem_append_right _ (List.mem_of_getElem? (i := 308) rfl), rfl⟩
set_option maxRecDepth 100000 in
theorem wq309 : Cond.instantiable RX3 6 ∈ ztb := List.mem_filter.mpr ⟨List.mem_append_right _ (List.mem_of_getElem? (i := 309) rfl), rfl⟩
set_option maxRecDepth 100000 in
theorem wq310 : Cond.methodLinkNest RX9 36 mX3_init.1 RX9 ∈ znw := List.mem_filter.mpr ⟨List.mem_append_right _ (List.mem_of_getElem? (i := 310) rfl), rfl⟩
set_option maxRecDepth 100000 in
theorem wq311 : Cond.instanceMethod mX3_init.1 ∈ ztb := List.mem_filter.mpr ⟨List.mem_append_right _ (List.mem_of_getElem? (i := 311) rfl), rfl⟩
set_option maxRecDepth 100000 in
theorem wq334 : Cond.classLink RX9 51 RX0 ∈ ztb := List.mem_filter.mpr ⟨List.mem_append_right _ (List.mem_of_getElem? (i := 334) rfl), rfl⟩
set_option maxRecDepth 100000 in
theorem wq335 : Cond.instantiable RX0 13 ∈ ztb := List.mem_filter.mpr ⟨List.mem_append_right _ (List.mem_of_getElem? (i := 335) rfl), rfl⟩
set_option maxRecDepth 100000 in
theorem wq336 : Cond.methodLinkNest RX9 53 mX0_init.1 RX9 ∈ znw := List.mem_filter.mpr ⟨List.mem_append_right _ (List.mem_of_getElem? (i := 336) rfl), rfl⟩
set_option maxRecDepth 100000 in
theorem wq337 : Cond.instanceMethod mX0_init.1 ∈ ztb := List.mem_filter.mpr ⟨List.mem_append_right _ (List.mem_of_getElem? (i := 337) rfl), rfl⟩
set_option maxRecDepth 100000 in
theorem wq386 : Cond.classLink RX9 61 RX7 ∈ ztb := List.mem_filter.mpr ⟨List.mem_append_right _ (List.mem_of_getElem? (i := 386) rfl), rfl⟩
set_option maxRecDepth 100000 in
theorem wq387 : Cond.instantiable RX7 2 ∈ ztb := List.mem_filter.mpr ⟨List.mem_append_right _ (List.mem_of_getElem? (i := 387) rfl), rfl⟩
set_option maxRecDepth 100000 in
theorem wq388 : Cond.methodLinkNest RX9 63 mX7_init.1 RX9 ∈ znw := List.mem_filter.mpr ⟨List.mem_append_right _ (List.mem_of_getElem? (i := 388) rfl), rfl⟩
set_option maxRecDepth 100000 in
theorem wq389 : Cond.instanceMethod mX7_init.1 ∈ ztb := List.mem_filter.mpr ⟨List.mem_append_right _ (List.mem_of_getElem? (i := 389) rfl), rfl⟩
set_option maxRecDepth 100000 in
theorem wq1049 : Cond.methodLink RX10 3 Lib.objectInit ∈ ztb := List.mem_filter.mpr ⟨List.mem_append_right _ (List.mem_of_getElem? (i := 1049) rfl), rfl⟩
def fz (h : zH) (n : Nat) : Prop := ∀ c j, n ≤ c → h c j = 0
def fu (u : zU2) (n : Nat) : Prop := ∀ c j, n ≤ c → u c j = false
theorem fz.up {n n' : Nat} (z : fz h n) (hn : n ≤ n') : fz h n' := fun c j hc => z c j (Nat.le_trans hn hc)
theorem fu.up {n n' : Nat} (z : fu u n) (hn : n ≤ n') : fu u n' := fun c j hc => z c j (Nat.le_trans hn hc)
theorem fz.set {n c j : Nat} {x : Int} (z : fz h n) (hc : c < n) : fz (hset h c j x) n := fun c' j' h' => by
  rw [hset_ne (by omega)]; exact z c' j' h'
theorem fu.set {n c j : Nat} (z : fu u n) (hc : c < n) : fu (uset u c j) n := fun c' j' h' => by
  unfold uset
  rw [if_neg (by omega)]; exact z c' j' h'
def hwd (h : zH) (q : Nat) : zH := fun c j => if c = q ∧ j < 21 then wdL j else h c j
theorem hwd_o {q c j : Nat} (hc : c ≠ q) : hwd h q c j = h c j := if_neg (fun z => hc z.1)
theorem fz.wd {n q : Nat} (z : fz h n) (hc : q < n) : fz (hwd h q) n := fun c' j' h' => by
  rw [hwd_o (by omega)]; exact z c' j' h'
theorem hset_z {c j : Nat} (h0 : h c j = 0) : hset h c j 0 = h := by
  funext c' j'
  unfold hset
  split
  · rename_i z
    rw [z.1, z.2, h0]
  · rfl
def zdf (fk : Nat × Nat) : Value := match fk.1 with
  | 1 => .null
  | 2 => .null
  | _ => .int 0
theorem ndX0 : ∀ j, j < 13 → defaultValue (tyX0 j) = zdf (zfk 0 j) := by decide +kernel
theorem ndX1 : ∀ j, j < 7 → defaultValue (tyX1 j) = zdf (zfk 1 j) := by decide +kernel
theorem ndX2 : ∀ j, j < 2 → defaultValue (tyX2 j) = zdf (zfk 2 j) := by decide +kernel
theorem ndX3 : ∀ j, j < 6 → defaultValue (tyX3 j) = zdf (zfk 3 j) := by decide +kernel
theorem ndX4 : ∀ j, j < 6 → defaultValue (tyX4 j) = zdf (zfk 4 j) := by decide +kernel
theorem ndX5 : ∀ j, j < 5 → defaultValue (tyX5 j) = zdf (zfk 5 j) := by decide +kernel
theorem ndX6 : ∀ j, j < 6 → defaultValue (tyX6 j) = zdf (zfk 6 j) := by decide +kernel
theorem ndX7 : ∀ j, j < 2 → defaultValue (tyX7 j) = zdf (zfk 7 j) := by decide +kernel
theorem ndX8 : ∀ j, j < 17 → defaultValue (tyX8 j) = zdf (zfk 8 j) := by decide +kernel
theorem ndX9 : ∀ j, j < 14 → defaultValue (tyX9 j) = zdf (zfk 9 j) := by decide +kernel
theorem ndX10 : ∀ j, j < 86 → defaultValue (tyX10 j) = zdf (zfk 10 j) := by decide +kernel
theorem newOk {n ci N : Nat} {ty : Nat → FieldType} (hz : ∀ j, h n j = 0) (hu : ∀ j, u n j = false) (hd : ∀ j, j < N → defaultValue (ty j) = zdf (zfk ci j)) : ∀ j, j < N → defaultValue (ty j) = zfB E n (zfk ci j) (h n j) (u n j) := by
  intro j hj
  rw [hd j hj, hz, hu]
  generalize zfk ci j = fk
  obtain ⟨a, b⟩ := fk
  match a with
  | 0 => rfl
  | 1 => rfl
  | 2 => rfl
  | _ + 3 => rfl
theorem y_putR {c ci N k ix c2 : Nat} {C0 : String} {T : u_T} {ty : FieldType} (ty0 : Nat → FieldType) (hty : ∀ k, k < N → parseFieldDescriptor (T k).2.2.1 = some (ty0 k)) (hnm : ∀ a, a < N → ∀ b, b < N → a ≠ b → (T a).2.1 ≠ (T b).2.1) (hd : decode M.2.1 pc = .ok (.putfield ix, 3)) (hs : zsh E c = (ci, N)) (hc : c < nn) (h20 : ci < 20) (hcl : vwCl[ci]? = some (C0, T, N)) (hin : ∀ w ∈ u_ws C0 T N, w ∈ ztb) (hk : k < N) (hlk : Cond.fieldLink M.1.cls ix (T k).1 (T k).2.1 (T k).2.2.1 ∈ ztb) (hM : M.1.name = "<init>") (hdecl : (T k).1 = M.1.cls) (hdd : parseFieldDescriptor (T k).2.2.1 = some ty) (hn : narrow ty (zrv E (zR c2)) = zrv E (zR c2)) (hfit : fits ty (zrv E (zR c2)) = true) (hv : zfB E c (zfk ci k) 0 true = zrv E (zR c2)) (h0 : h c k = 0) (kk : zB E M d m0 m1 (pc + 3) L st h (uset u c k) nn Q) : zB E M d m0 m1 pc L (zR c2 :: zR c :: st) h u nn Q := by
  refine y_put (x := 0) true ty0 hty hnm hd hs hc h20 hcl hin hk hlk hM hdecl hdd hn hfit hv (fun _ => by unfold r32; omega) ?_
  rw [hset_z h0]
  exact kk
theorem y_putC {c ci N k ix x : Nat} {C0 : String} {T : u_T} {ty : FieldType} (ty0 : Nat → FieldType) (hty : ∀ k, k < N → parseFieldDescriptor (T k).2.2.1 = some (ty0 k)) (hnm : ∀ a, a < N → ∀ b, b < N → a ≠ b → (T a).2.1 ≠ (T b).2.1) (hd : decode M.2.1 pc = .ok (.putfield ix, 3)) (hs : zsh E c = (ci, N)) (hc : c < nn) (h20 : ci < 20) (hcl : vwCl[ci]? = some (C0, T, N)) (hin : ∀ w ∈ u_ws C0 T N, w ∈ ztb) (hk : k < N) (hlk : Cond.fieldLink M.1.cls ix (T k).1 (T k).2.1 (T k).2.2.1 ∈ ztb) (hM : M.1.name = "<init>") (hdecl : (T k).1 = M.1.cls) (hdd : parseFieldDescriptor (T k).2.2.1 = some ty) (hn : narrow ty (zrv E (zR x)) = zrv E (zR x)) (hfit : fits ty (zrv E (zR x)) = true) (hv : zfB E c (zfk ci k) ((x : Nat) : Int) true = zrv E (zR x)) (hx : x < 1000000) (kk : zB E M d m0 m1 (pc + 3) L st (hset h c k ((x : Nat) : Int)) (uset u c k) nn Q) : zB E M d m0 m1 pc L (zR x :: zR c :: st) h u nn Q :=
  y_put (x := ((x : Nat) : Int)) true ty0 hty hnm hd hs hc h20 hcl hin hk hlk hM hdecl hdd hn hfit hv (fun _ => by unfold r32; omega) kk
theorem y_putI {c ci N k ix : Nat} {x : Int} {C0 : String} {T : u_T} {ty : FieldType} (ty0 : Nat → FieldType) (hty : ∀ k, k < N → parseFieldDescriptor (T k).2.2.1 = some (ty0 k)) (hnm : ∀ a, a < N → ∀ b, b < N → a ≠ b → (T a).2.1 ≠ (T b).2.1) (hd : decode M.2.1 pc = .ok (.putfield ix, 3)) (hs : zsh E c = (ci, N)) (hc : c < nn) (h20 : ci < 20) (hcl : vwCl[ci]? = some (C0, T, N)) (hin : ∀ w ∈ u_ws C0 T N, w ∈ ztb) (hk : k < N) (hlk : Cond.fieldLink M.1.cls ix (T k).1 (T k).2.1 (T k).2.2.1 ∈ ztb) (hM : M.1.name = "<init>") (hdecl : (T k).1 = M.1.cls) (hdd : parseFieldDescriptor (T k).2.2.1 = some ty) (hn : narrow ty (.int (Int32.ofInt x)) = .int (Int32.ofInt x)) (hfit : fits ty (.int (Int32.ofInt x)) = true) (hv : zfB E c (zfk ci k) x (u c k) = zrv E (zI x)) (kk : zB E M d m0 m1 (pc + 3) L st (hset h c k x) u nn Q) : zB E M d m0 m1 pc L (zI x :: zR c :: st) h u nn Q :=
  y_put (x := x) false ty0 hty hnm hd hs hc h20 hcl hin hk hlk hM hdecl hdd hn hfit hv (fun o => o.1 rfl) kk
theorem y_put0 {c ci N k ix : Nat} {C0 : String} {T : u_T} {ty : FieldType} (ty0 : Nat → FieldType) (hty : ∀ k, k < N → parseFieldDescriptor (T k).2.2.1 = some (ty0 k)) (hnm : ∀ a, a < N → ∀ b, b < N → a ≠ b → (T a).2.1 ≠ (T b).2.1) (hd : decode M.2.1 pc = .ok (.putfield ix, 3)) (hs : zsh E c = (ci, N)) (hc : c < nn) (h20 : ci < 20) (hcl : vwCl[ci]? = some (C0, T, N)) (hin : ∀ w ∈ u_ws C0 T N, w ∈ ztb) (hk : k < N) (hlk : Cond.fieldLink M.1.cls ix (T k).1 (T k).2.1 (T k).2.2.1 ∈ ztb) (hM : M.1.name = "<init>") (hdecl : (T k).1 = M.1.cls) (hdd : parseFieldDescriptor (T k).2.2.1 = some ty) (hn : narrow ty (.int (Int32.ofInt 0)) = .int (Int32.ofInt 0)) (hfit : fits ty (.int (Int32.ofInt 0)) = true) (hv : zfB E c (zfk ci k) 0 (u c k) = zrv E (zI 0)) (h0 : h c k = 0) (kk : zB E M d m0 m1 (pc + 3) L st h u nn Q) : zB E M d m0 m1 pc L (zI 0 :: zR c :: st) h u nn Q := by
  refine y_putI ty0 hty hnm hd hs hc h20 hcl hin hk hlk hM hdecl hdd hn hfit hv ?_
  rw [hset_z h0]
  exact kk
/-! the letters of the language -/
def ltS (s : Nat × Int × List Int) (ch : Int) : Nat × Int × List Int := if ch = 32 then (s.1 + 1, 25, s.2.2) else (s.1, s.2.1 - 5, s.2.2.set s.1 (zor (s.2.2.getD s.1 0) (zshl (ch - 97 + 1) s.2.1)))
def lt1 : Nat → Nat × Int × List Int
  | 0 => (0, 25, List.replicate 21 0)
  | i + 1 => ltS (lt1 i) (tChZ 1 i)
theorem lt_all : ∀ i, i < 105 → (lt1 i).1 < 21 ∧ -100 ≤ (lt1 i).2.1 ∧ (lt1 i).2.1 ≤ 25 ∧ (lt1 i).2.2.length = 21 ∧ (tChZ 1 i = 32 ∨ (97 ≤ tChZ 1 i ∧ tChZ 1 i ≤ 122)) := by decide +kernel
theorem lt_end : (lt1 105).1 ≤ 21 ∧ ∀ j, j < 21 → (lt1 105).2.2.getD j 0 = wdL j := by decide +kernel
def hlt (h : zH) (q i : Nat) : zH := fun c j => if c = q ∧ j < 21 then (lt1 i).2.2.getD j 0 else h c j
theorem hlt_end {q : Nat} : hlt h q 105 = hwd h q := by
  funext c j
  unfold hlt hwd
  split
  · rename_i z
    exact lt_end.2 j z.2
  · rfl
theorem hlt_0 {q : Nat} (z : ∀ j, h q j = 0) : hlt h q 0 = h := by
  funext c j
  unfold hlt
  split
  · rename_i y
    rw [y.1, z j]
    show (List.replicate 21 (0 : Int)).getD j 0 = 0
    rw [List.getD_eq_getElem?_getD, List.getElem?_replicate]
    split <;> rfl
  · rfl
theorem lt_sp {i : Nat} (e : tChZ 1 i = 32) : lt1 (i + 1) = ((lt1 i).1 + 1, 25, (lt1 i).2.2) := by
  show ltS (lt1 i) (tChZ 1 i) = _
  unfold ltS
  rw [if_pos e]
theorem lt_le {i : Nat} (e : tChZ 1 i ≠ 32) : lt1 (i + 1) = ((lt1 i).1, (lt1 i).2.1 - 5, (lt1 i).2.2.set (lt1 i).1 (zor ((lt1 i).2.2.getD (lt1 i).1 0) (zshl (tChZ 1 i - 97 + 1) (lt1 i).2.1))) := by
  show ltS (lt1 i) (tChZ 1 i) = _
  unfold ltS
  rw [if_neg e]
theorem N_let {q : Nat} (s0 : zsh E q = (20, 21)) (z0 : fz h q) (v0 : fu u q) (hK : Q [zR q] (hwd h q) u) : zCB E mX1_letters d q (q + 1) [] h u Q := by
  have hZ : ∀ U : State, zStB E U U.heap → vk_R mX1_letters.1.cls 39 zTtx1 (zTK E 1) U := fun U z => z.2.2.2.2.2
  have l105 : zTlen.getD 1 0 = 105 := rfl
  have fin : ∀ (x1 x2 x3 x4 : zV), zB E mX1_letters d q (q + 1) 75 [zR q, x1, x2, x3, x4] [] (hwd h q) u (q + 1) Q := by
    intro x1 x2 x3 x4
    refine y_aload_n dX1_lettersOfLanguage_75 rfl ?_
    exact y_aret dX1_lettersOfLanguage_76 rfl (Or.inr ⟨_, rfl⟩) rfl hK
  have loop : ∀ (m i : Nat), i + m = 105 → ∀ x4 : zV, zB E mX1_letters d q (q + 1) 12 [zR q, zI ((lt1 i).1 : Nat), zI (lt1 i).2.1, zI (i : Int), x4] [] (hlt h q i) u (q + 1) Q := by
    intro m
    induction m with
    | zero =>
      intro i hi x4
      have e : i = 105 := by omega
      subst e
      refine y_iload_n dX1_lettersOfLanguage_12 rfl ?_
      refine y_ldcS dX1_lettersOfLanguage_13 hZ ?_
      refine y_slen dX1_lettersOfLanguage_15 (by omega) wt48 (Nat.le_of_ble_eq_true rfl) (by omega) ?_
      refine y_icmp_ge (tgt := 75) dX1_lettersOfLanguage_18 (by decide) (fun _ => ?_) (fun z => absurd (by rw [l105]; omega) z)
      rw [hlt_end]
      exact fin _ _ _ _
    | succ m ih =>
      intro i hi x4
      obtain ⟨a1, a2, a3, a4, a5⟩ := lt_all i (by omega)
      refine y_iload_n dX1_lettersOfLanguage_12 rfl ?_
      refine y_ldcS dX1_lettersOfLanguage_13 hZ ?_
      refine y_slen dX1_lettersOfLanguage_15 (by omega) wt48 (Nat.le_of_ble_eq_true rfl) (by omega) ?_
      refine y_icmp_ge (tgt := 75) dX1_lettersOfLanguage_18 (by decide) (fun z => absurd z (by rw [l105]; omega)) (fun _ => ?_)
      refine y_iload_n dX1_lettersOfLanguage_21 rfl ?_
      refine y_bipush dX1_lettersOfLanguage_22 (r32d rfl) (by decide) ?_
      refine y_icmp_ge (tgt := 75) dX1_lettersOfLanguage_24 (by decide) (fun z => absurd z (by omega)) (fun _ => ?_)
      refine y_ldcS dX1_lettersOfLanguage_27 hZ ?_
      refine y_iload_n dX1_lettersOfLanguage_29 rfl ?_
      refine y_schr dX1_lettersOfLanguage_30 (by omega) rfl (by rw [l105]; omega) wt58 (Nat.le_of_ble_eq_true rfl) (by omega) ?_
      refine y_istore dX1_lettersOfLanguage_33 (by decide) rfl ?_
      refine y_iload dX1_lettersOfLanguage_35 rfl ?_
      refine y_bipush dX1_lettersOfLanguage_37 (r32d rfl) (by decide) ?_
      refine y_icmp_ne (tgt := 51) dX1_lettersOfLanguage_39 (by decide) (fun c => ?_) (fun c => ?_)
      · have e1 := lt_le c
        refine y_aload_n dX1_lettersOfLanguage_51 rfl ?_
        refine y_iload_n dX1_lettersOfLanguage_52 rfl ?_
        refine y_dup2 dX1_lettersOfLanguage_53 rfl rfl ?_
        refine y_iaload dX1_lettersOfLanguage_54 s0 (by omega) (by omega) (by omega) ?_
        refine y_iload dX1_lettersOfLanguage_55 rfl ?_
        refine y_bipush dX1_lettersOfLanguage_57 (r32d rfl) (by decide) ?_
        refine y_isub dX1_lettersOfLanguage_59 ?_
        refine y_iconst dX1_lettersOfLanguage_60 (r32d rfl) ?_
        refine y_iadd dX1_lettersOfLanguage_61 ?_
        refine y_iload_n dX1_lettersOfLanguage_62 rfl ?_
        refine y_ishl dX1_lettersOfLanguage_63 ?_
        refine y_ior dX1_lettersOfLanguage_64 ?_
        refine y_iastore dX1_lettersOfLanguage_65 s0 (by omega) (by omega) (by omega) ?_
        refine y_iinc dX1_lettersOfLanguage_66 rfl (by decide) rfl ?_
        refine y_iinc dX1_lettersOfLanguage_69 rfl (by decide) rfl ?_
        refine y_goto (tgt := 12) dX1_lettersOfLanguage_72 (by decide) ?_
        rw [w32i (x := tChZ 1 i - 97) (by omega) (by omega), w32i (x := tChZ 1 i - 97 + 1) (by omega) (by omega), w32i (x := (lt1 i).2.1 + -5) (by omega) (by omega), w_suc (i := i) (by omega), Int.toNat_natCast]
        have g := ih (i + 1) (by omega) (zI (tChZ 1 i))
        have eh : hset (hlt h q i) q (lt1 i).1 (zor (hlt h q i q (lt1 i).1) (zshl (tChZ 1 i - 97 + 1) (lt1 i).2.1)) = hlt h q (i + 1) := by
          funext c' j'
          unfold hlt hset
          rw [e1]
          dsimp only
          by_cases y : c' = q ∧ j' < 21
          · rw [if_pos y]
            by_cases y2 : j' = (lt1 i).1
            · subst y2
              rw [if_pos ⟨y.1, rfl⟩, if_pos ⟨rfl, a1⟩, List.getD_eq_getElem?_getD (l := List.set _ _ _), List.getElem?_set_self (by omega)]
              first | rfl | (rw [if_pos y]; rfl)
            · rw [if_neg (fun z => y2 z.2), if_pos y, List.getD_eq_getElem?_getD (l := List.set _ _ _), List.getElem?_set_ne (fun z => y2 z.symm), ← List.getD_eq_getElem?_getD]
          · rw [if_neg y, if_neg (fun z => y ⟨z.1, by rw [z.2]; exact a1⟩), if_neg y]
        rw [eh]
        rw [e1] at g
        dsimp only at g
        exact g
      · have c' := Decidable.not_not.mp c
        have e1 := lt_sp c'
        refine y_iinc dX1_lettersOfLanguage_42 rfl (by decide) rfl ?_
        refine y_bipush dX1_lettersOfLanguage_45 (r32d rfl) (by decide) ?_
        refine y_istore_n dX1_lettersOfLanguage_47 rfl (by decide) rfl ?_
        refine y_goto (tgt := 69) dX1_lettersOfLanguage_48 (by decide) ?_
        refine y_iinc dX1_lettersOfLanguage_69 rfl (by decide) rfl ?_
        refine y_goto (tgt := 12) dX1_lettersOfLanguage_72 (by decide) ?_
        rw [w_suc (i := (lt1 i).1) (by omega), w_suc (i := i) (by omega)]
        have g := ih (i + 1) (by omega) (zI (tChZ 1 i))
        have eh : hlt h q i = hlt h q (i + 1) := by
          funext c2 j2
          unfold hlt
          rw [e1]
        rw [eh]
        rw [e1] at g
        dsimp only at g
        exact g
  refine y_in (L0 := [zU, zU, zU, zU, zU]) pn_X1 rfl (Nat.le_of_ble_eq_true rfl) (by omega) ?_
  refine y_bipush dX1_lettersOfLanguage_0 (r32d rfl) (by decide) ?_
  refine y_newaI (t := 0) (ty := .int) dX1_lettersOfLanguage_2 rfl wa_int s0 (by decide) rfl (by omega) (by omega) (fun j => z0 _ j (by omega)) ?_
  refine y_astore_n dX1_lettersOfLanguage_4 rfl (by decide) rfl ?_
  refine y_iconst dX1_lettersOfLanguage_5 (r32d rfl) ?_
  refine y_istore_n dX1_lettersOfLanguage_6 rfl (by decide) rfl ?_
  refine y_bipush dX1_lettersOfLanguage_7 (r32d rfl) (by decide) ?_
  refine y_istore_n dX1_lettersOfLanguage_9 rfl (by decide) rfl ?_
  refine y_iconst dX1_lettersOfLanguage_10 (r32d rfl) ?_
  refine y_istore_n dX1_lettersOfLanguage_11 rfl (by decide) rfl ?_
  have g := loop 105 0 (by omega) zU
  rw [hlt_0 (fun j => z0 q j (Nat.le_refl q))] at g
  exact g
theorem N_X2 {q : Nat} {n : Nat} (s0 : zsh E q = (2, 2)) (s1 : zsh E (q + 1) = (20, n)) {x : Int} (hx : x = (n : Int)) (hn : n < 1000) (z0 : fz h q) (v0 : fu u q) (hK : Q [] h (uset u q 0)) : zCB E mX2_init d (q + 1) (q + 2) [zR q, zI x] h u Q := by
  have z00 := z0.up (n' := q + 1) (by omega)
  have v00 := v0.up (n' := q + 1) (by omega)
  refine y_in (L0 := [zR q, zI x]) pn_X2 rfl (Nat.le_of_ble_eq_true rfl) (by omega) ?_
  refine y_aload_n dX2_init_0 rfl ?_
  refine y_obj dX2_init_1 wq184 wob1 wob2 (Nat.le_of_ble_eq_true rfl) ?_
  refine y_aload_n dX2_init_4 rfl ?_
  refine y_iconst dX2_init_5 (r32d rfl) ?_
  refine y_put0 (ty := tyX2 1) tyX2 tyX2_ok nmX2 dX2_init_6 s0 (by omega) (by decide) rfl inz2 (show 1 < 2 by decide) wf_X2_9 rfl rfl (tyX2_ok 1 (by decide)) (by decide) (by decide) rfl (by (first | exact z0 _ _ (by omega) | (repeat (first | rw [hset_ne (by omega)] | rw [hwd_o (by omega)])); exact z0 _ _ (by omega))) ?_
  refine y_aload_n dX2_init_9 rfl ?_
  refine y_iload_n dX2_init_10 rfl ?_
  refine y_iconst dX2_init_11 (r32d rfl) ?_
  refine y_mmax dX2_init_12 wmx1 wmx2 wi_J9 wmx3 (Nat.le_of_ble_eq_true rfl) ?_
  rw [Int.max_eq_left (show (0 : Int) ≤ x by omega)]
  refine y_newaI (t := 0) (ty := .int) dX2_init_15 rfl wa_int s1 (by decide) (by omega) (by omega) (by omega) (fun j => z00 _ j (by omega)) ?_
  have z1 := z00.up (n' := q + 2) (by omega)
  have v1 := v00.up (n' := q + 2) (by omega)
  refine y_putR (ty := tyX2 0) tyX2 tyX2_ok nmX2 dX2_init_17 s0 (by omega) (by decide) rfl inz2 (show 0 < 2 by decide) wf_X2_21 rfl rfl (tyX2_ok 0 (by decide)) rfl rfl rfl (by (first | exact z0 _ _ (by omega) | (repeat (first | rw [hset_ne (by omega)] | rw [hwd_o (by omega)])); exact z0 _ _ (by omega))) ?_
  have v2 := v1.set (c := q) (j := 0) (by omega)
  exact y_vret dX2_init_20 rfl rfl hK

theorem N_X5 {q : Nat} (s0 : zsh E q = (5, 5)) (s1 : zsh E (q + 1) = (20, 64)) (s2 : zsh E (q + 2) = (20, 64)) (s3 : zsh E (q + 3) = (23, 64)) (s4 : zsh E (q + 4) = (23, 6))  (z0 : fz h q) (v0 : fu u q) (hK : Q [] h (uset (uset (uset (uset u q 0) q 1) q 2) q 3)) : zCB E mX5_init d (q + 1) (q + 5) [zR q] h u Q := by
  have z00 := z0.up (n' := q + 1) (by omega)
  have v00 := v0.up (n' := q + 1) (by omega)
  refine y_in (L0 := [zR q]) pn_X5 rfl (Nat.le_of_ble_eq_true rfl) (by omega) ?_
  refine y_aload_n dX5_init_0 rfl ?_
  refine y_obj dX5_init_1 wq202 wob1 wob2 (Nat.le_of_ble_eq_true rfl) ?_
  refine y_aload_n dX5_init_4 rfl ?_
  refine y_bipush dX5_init_5 (r32d rfl) (by decide) ?_
  refine y_newaI (t := 0) (ty := .int) dX5_init_7 rfl wa_int s1 (by decide) rfl (by omega) (by omega) (fun j => z00 _ j (by omega)) ?_
  have z1 := z00.up (n' := q + 2) (by omega)
  have v1 := v00.up (n' := q + 2) (by omega)
  refine y_putR (ty := tyX5 0) tyX5 tyX5_ok nmX5 dX5_init_9 s0 (by omega) (by decide) rfl inz5 (show 0 < 5 by decide) wf_X5_9 rfl rfl (tyX5_ok 0 (by decide)) rfl rfl rfl (by (first | exact z0 _ _ (by omega) | (repeat (first | rw [hset_ne (by omega)] | rw [hwd_o (by omega)])); exact z0 _ _ (by omega))) ?_
  have v2 := v1.set (c := q) (j := 0) (by omega)
  refine y_aload_n dX5_init_12 rfl ?_
  refine y_bipush dX5_init_13 (r32d rfl) (by decide) ?_
  refine y_newaI (t := 0) (ty := .int) dX5_init_15 rfl wa_int s2 (by decide) rfl (by omega) (by omega) (fun j => z1 _ j (by omega)) ?_
  have z3 := z1.up (n' := q + 3) (by omega)
  have v3 := v2.up (n' := q + 3) (by omega)
  refine y_putR (ty := tyX5 1) tyX5 tyX5_ok nmX5 dX5_init_17 s0 (by omega) (by decide) rfl inz5 (show 1 < 5 by decide) wf_X5_15 rfl rfl (tyX5_ok 1 (by decide)) rfl rfl rfl (by (first | exact z0 _ _ (by omega) | (repeat (first | rw [hset_ne (by omega)] | rw [hwd_o (by omega)])); exact z0 _ _ (by omega))) ?_
  have v4 := v3.set (c := q) (j := 1) (by omega)
  refine y_aload_n dX5_init_20 rfl ?_
  refine y_bipush dX5_init_21 (r32d rfl) (by decide) ?_
  refine y_newaI (t := 3) (ty := .long) dX5_init_23 rfl wa_long s3 (by decide) rfl (by omega) (by omega) (fun j => z3 _ j (by omega)) ?_
  have z5 := z3.up (n' := q + 4) (by omega)
  have v5 := v4.up (n' := q + 4) (by omega)
  refine y_putR (ty := tyX5 2) tyX5 tyX5_ok nmX5 dX5_init_25 s0 (by omega) (by decide) rfl inz5 (show 2 < 5 by decide) wf_X5_18 rfl rfl (tyX5_ok 2 (by decide)) rfl rfl rfl (by (first | exact z0 _ _ (by omega) | (repeat (first | rw [hset_ne (by omega)] | rw [hwd_o (by omega)])); exact z0 _ _ (by omega))) ?_
  have v6 := v5.set (c := q) (j := 2) (by omega)
  refine y_aload_n dX5_init_28 rfl ?_
  refine y_bipush dX5_init_29 (r32d rfl) (by decide) ?_
  refine y_newaI (t := 3) (ty := .long) dX5_init_31 rfl wa_long s4 (by decide) rfl (by omega) (by omega) (fun j => z5 _ j (by omega)) ?_
  have z7 := z5.up (n' := q + 5) (by omega)
  have v7 := v6.up (n' := q + 5) (by omega)
  refine y_putR (ty := tyX5 3) tyX5 tyX5_ok nmX5 dX5_init_33 s0 (by omega) (by decide) rfl inz5 (show 3 < 5 by decide) wf_X5_22 rfl rfl (tyX5_ok 3 (by decide)) rfl rfl rfl (by (first | exact z0 _ _ (by omega) | (repeat (first | rw [hset_ne (by omega)] | rw [hwd_o (by omega)])); exact z0 _ _ (by omega))) ?_
  have v8 := v7.set (c := q) (j := 3) (by omega)
  refine y_aload_n dX5_init_36 rfl ?_
  refine y_iconst dX5_init_37 (r32d rfl) ?_
  refine y_put0 (ty := tyX5 4) tyX5 tyX5_ok nmX5 dX5_init_38 s0 (by omega) (by decide) rfl inz5 (show 4 < 5 by decide) wf_X5_25 rfl rfl (tyX5_ok 4 (by decide)) (by decide) (by decide) rfl (by (first | exact z0 _ _ (by omega) | (repeat (first | rw [hset_ne (by omega)] | rw [hwd_o (by omega)])); exact z0 _ _ (by omega))) ?_
  exact y_vret dX5_init_41 rfl rfl hK

theorem N_X6 {q : Nat} (s0 : zsh E q = (6, 6)) (s1 : zsh E (q + 1) = (20, 72))  (z0 : fz h q) (v0 : fu u q) (hK : Q [] ((hset h q 4 (1))) (uset u q 0)) : zCB E mX6_init d (q + 1) (q + 2) [zR q] h u Q := by
  have z00 := z0.up (n' := q + 1) (by omega)
  have v00 := v0.up (n' := q + 1) (by omega)
  refine y_in (L0 := [zR q]) pn_X6 rfl (Nat.le_of_ble_eq_true rfl) (by omega) ?_
  refine y_aload_n dX6_init_0 rfl ?_
  refine y_obj dX6_init_1 wq131 wob1 wob2 (Nat.le_of_ble_eq_true rfl) ?_
  refine y_aload_n dX6_init_4 rfl ?_
  refine y_bipush dX6_init_5 (r32d rfl) (by decide) ?_
  refine y_newaI (t := 0) (ty := .int) dX6_init_7 rfl wa_int s1 (by decide) rfl (by omega) (by omega) (fun j => z00 _ j (by omega)) ?_
  have z1 := z00.up (n' := q + 2) (by omega)
  have v1 := v00.up (n' := q + 2) (by omega)
  refine y_putR (ty := tyX6 0) tyX6 tyX6_ok nmX6 dX6_init_9 s0 (by omega) (by decide) rfl inz6 (show 0 < 6 by decide) wf_X6_9 rfl rfl (tyX6_ok 0 (by decide)) rfl rfl rfl (by (first | exact z0 _ _ (by omega) | (repeat (first | rw [hset_ne (by omega)] | rw [hwd_o (by omega)])); exact z0 _ _ (by omega))) ?_
  have v2 := v1.set (c := q) (j := 0) (by omega)
  refine y_aload_n dX6_init_12 rfl ?_
  refine y_iconst dX6_init_13 (r32d rfl) ?_
  refine y_put0 (ty := tyX6 1) tyX6 tyX6_ok nmX6 dX6_init_14 s0 (by omega) (by decide) rfl inz6 (show 1 < 6 by decide) wf_X6_15 rfl rfl (tyX6_ok 1 (by decide)) (by decide) (by decide) rfl (by (first | exact z0 _ _ (by omega) | (repeat (first | rw [hset_ne (by omega)] | rw [hwd_o (by omega)])); exact z0 _ _ (by omega))) ?_
  refine y_aload_n dX6_init_17 rfl ?_
  refine y_iconst dX6_init_18 (r32d rfl) ?_
  refine y_put0 (ty := tyX6 2) tyX6 tyX6_ok nmX6 dX6_init_19 s0 (by omega) (by decide) rfl inz6 (show 2 < 6 by decide) wf_X6_19 rfl rfl (tyX6_ok 2 (by decide)) (by decide) (by decide) rfl (by (first | exact z0 _ _ (by omega) | (repeat (first | rw [hset_ne (by omega)] | rw [hwd_o (by omega)])); exact z0 _ _ (by omega))) ?_
  refine y_aload_n dX6_init_22 rfl ?_
  refine y_iconst dX6_init_23 (r32d rfl) ?_
  refine y_put0 (ty := tyX6 3) tyX6 tyX6_ok nmX6 dX6_init_24 s0 (by omega) (by decide) rfl inz6 (show 3 < 6 by decide) wf_X6_22 rfl rfl (tyX6_ok 3 (by decide)) (by decide) (by decide) rfl (by (first | exact z0 _ _ (by omega) | (repeat (first | rw [hset_ne (by omega)] | rw [hwd_o (by omega)])); exact z0 _ _ (by omega))) ?_
  refine y_aload_n dX6_init_27 rfl ?_
  refine y_iconst dX6_init_28 (r32d rfl) ?_
  refine y_putI (x := 1) (ty := tyX6 4) tyX6 tyX6_ok nmX6 dX6_init_29 s0 (by omega) (by decide) rfl inz6 (show 4 < 6 by decide) wf_X6_25 rfl rfl (tyX6_ok 4 (by decide)) (by decide) (by decide) rfl ?_
  have z3 := z1.set (c := q) (j := 4) (x := 1) (by omega)
  refine y_aload_n dX6_init_32 rfl ?_
  refine y_iconst dX6_init_33 (r32d rfl) ?_
  refine y_put0 (ty := tyX6 5) tyX6 tyX6_ok nmX6 dX6_init_34 s0 (by omega) (by decide) rfl inz6 (show 5 < 6 by decide) wf_X6_29 rfl rfl (tyX6_ok 5 (by decide)) (by decide) (by decide) rfl (by (first | exact z0 _ _ (by omega) | (repeat (first | rw [hset_ne (by omega)] | rw [hwd_o (by omega)])); exact z0 _ _ (by omega))) ?_
  exact y_vret dX6_init_37 rfl rfl hK

theorem N_X7 {q : Nat} (s0 : zsh E q = (7, 2)) (s1 : zsh E (q + 1) = (20, 8))  (z0 : fz h q) (v0 : fu u q) (hK : Q [] h (uset u q 0)) : zCB E mX7_init d (q + 1) (q + 2) [zR q] h u Q := by
  have z00 := z0.up (n' := q + 1) (by omega)
  have v00 := v0.up (n' := q + 1) (by omega)
  refine y_in (L0 := [zR q]) pn_X7 rfl (Nat.le_of_ble_eq_true rfl) (by omega) ?_
  refine y_aload_n dX7_init_0 rfl ?_
  refine y_obj dX7_init_1 wq391 wob1 wob2 (Nat.le_of_ble_eq_true rfl) ?_
  refine y_aload_n dX7_init_4 rfl ?_
  refine y_bipush dX7_init_5 (r32d rfl) (by decide) ?_
  refine y_newaI (t := 0) (ty := .int) dX7_init_7 rfl wa_int s1 (by decide) rfl (by omega) (by omega) (fun j => z00 _ j (by omega)) ?_
  have z1 := z00.up (n' := q + 2) (by omega)
  have v1 := v00.up (n' := q + 2) (by omega)
  refine y_putR (ty := tyX7 0) tyX7 tyX7_ok nmX7 dX7_init_9 s0 (by omega) (by decide) rfl inz7 (show 0 < 2 by decide) wf_X7_9 rfl rfl (tyX7_ok 0 (by decide)) rfl rfl rfl (by (first | exact z0 _ _ (by omega) | (repeat (first | rw [hset_ne (by omega)] | rw [hwd_o (by omega)])); exact z0 _ _ (by omega))) ?_
  have v2 := v1.set (c := q) (j := 0) (by omega)
  refine y_aload_n dX7_init_12 rfl ?_
  refine y_iconst dX7_init_13 (r32d rfl) ?_
  refine y_put0 (ty := tyX7 1) tyX7 tyX7_ok nmX7 dX7_init_14 s0 (by omega) (by decide) rfl inz7 (show 1 < 2 by decide) wf_X7_15 rfl rfl (tyX7_ok 1 (by decide)) (by decide) (by decide) rfl (by (first | exact z0 _ _ (by omega) | (repeat (first | rw [hset_ne (by omega)] | rw [hwd_o (by omega)])); exact z0 _ _ (by omega))) ?_
  exact y_vret dX7_init_17 rfl rfl hK

theorem N_X3 {q : Nat} (s0 : zsh E q = (3, 6)) (s1 : zsh E (q + 1) = (20, 60)) (s2 : zsh E (q + 2) = (20, 60)) (s3 : zsh E (q + 3) = (20, 60)) (s4 : zsh E (q + 4) = (20, 60)) (s5 : zsh E (q + 5) = (20, 60))  (z0 : fz h q) (v0 : fu u q) (hK : Q [] h (uset (uset (uset (uset (uset u q 0) q 1) q 2) q 3) q 4)) : zCB E mX3_init d (q + 1) (q + 6) [zR q] h u Q := by
  have z00 := z0.up (n' := q + 1) (by omega)
  have v00 := v0.up (n' := q + 1) (by omega)
  refine y_in (L0 := [zR q]) pn_X3 rfl (Nat.le_of_ble_eq_true rfl) (by omega) ?_
  refine y_aload_n dX3_init_0 rfl ?_
  refine y_obj dX3_init_1 wq313 wob1 wob2 (Nat.le_of_ble_eq_true rfl) ?_
  refine y_aload_n dX3_init_4 rfl ?_
  refine y_bipush dX3_init_5 (r32d rfl) (by decide) ?_
  refine y_newaI (t := 0) (ty := .int) dX3_init_7 rfl wa_int s1 (by decide) rfl (by omega) (by omega) (fun j => z00 _ j (by omega)) ?_
  have z1 := z00.up (n' := q + 2) (by omega)
  have v1 := v00.up (n' := q + 2) (by omega)
  refine y_putR (ty := tyX3 0) tyX3 tyX3_ok nmX3 dX3_init_9 s0 (by omega) (by decide) rfl inz3 (show 0 < 6 by decide) wf_X3_9 rfl rfl (tyX3_ok 0 (by decide)) rfl rfl rfl (by (first | exact z0 _ _ (by omega) | (repeat (first | rw [hset_ne (by omega)] | rw [hwd_o (by omega)])); exact z0 _ _ (by omega))) ?_
  have v2 := v1.set (c := q) (j := 0) (by omega)
  refine y_aload_n dX3_init_12 rfl ?_
  refine y_bipush dX3_init_13 (r32d rfl) (by decide) ?_
  refine y_newaI (t := 0) (ty := .int) dX3_init_15 rfl wa_int s2 (by decide) rfl (by omega) (by omega) (fun j => z1 _ j (by omega)) ?_
  have z3 := z1.up (n' := q + 3) (by omega)
  have v3 := v2.up (n' := q + 3) (by omega)
  refine y_putR (ty := tyX3 1) tyX3 tyX3_ok nmX3 dX3_init_17 s0 (by omega) (by decide) rfl inz3 (show 1 < 6 by decide) wf_X3_15 rfl rfl (tyX3_ok 1 (by decide)) rfl rfl rfl (by (first | exact z0 _ _ (by omega) | (repeat (first | rw [hset_ne (by omega)] | rw [hwd_o (by omega)])); exact z0 _ _ (by omega))) ?_
  have v4 := v3.set (c := q) (j := 1) (by omega)
  refine y_aload_n dX3_init_20 rfl ?_
  refine y_bipush dX3_init_21 (r32d rfl) (by decide) ?_
  refine y_newaI (t := 0) (ty := .int) dX3_init_23 rfl wa_int s3 (by decide) rfl (by omega) (by omega) (fun j => z3 _ j (by omega)) ?_
  have z5 := z3.up (n' := q + 4) (by omega)
  have v5 := v4.up (n' := q + 4) (by omega)
  refine y_putR (ty := tyX3 2) tyX3 tyX3_ok nmX3 dX3_init_25 s0 (by omega) (by decide) rfl inz3 (show 2 < 6 by decide) wf_X3_18 rfl rfl (tyX3_ok 2 (by decide)) rfl rfl rfl (by (first | exact z0 _ _ (by omega) | (repeat (first | rw [hset_ne (by omega)] | rw [hwd_o (by omega)])); exact z0 _ _ (by omega))) ?_
  have v6 := v5.set (c := q) (j := 2) (by omega)
  refine y_aload_n dX3_init_28 rfl ?_
  refine y_bipush dX3_init_29 (r32d rfl) (by decide) ?_
  refine y_newaI (t := 0) (ty := .int) dX3_init_31 rfl wa_int s4 (by decide) rfl (by omega) (by omega) (fun j => z5 _ j (by omega)) ?_
  have z7 := z5.up (n' := q + 5) (by omega)
  have v7 := v6.up (n' := q + 5) (by omega)
  refine y_putR (ty := tyX3 3) tyX3 tyX3_ok nmX3 dX3_init_33 s0 (by omega) (by decide) rfl inz3 (show 3 < 6 by decide) wf_X3_21 rfl rfl (tyX3_ok 3 (by decide)) rfl rfl rfl (by (first | exact z0 _ _ (by omega) | (repeat (first | rw [hset_ne (by omega)] | rw [hwd_o (by omega)])); exact z0 _ _ (by omega))) ?_
  have v8 := v7.set (c := q) (j := 3) (by omega)
  refine y_aload_n dX3_init_36 rfl ?_
  refine y_bipush dX3_init_37 (r32d rfl) (by decide) ?_
  refine y_newaI (t := 0) (ty := .int) dX3_init_39 rfl wa_int s5 (by decide) rfl (by omega) (by omega) (fun j => z7 _ j (by omega)) ?_
  have z9 := z7.up (n' := q + 6) (by omega)
  have v9 := v8.up (n' := q + 6) (by omega)
  refine y_putR (ty := tyX3 4) tyX3 tyX3_ok nmX3 dX3_init_41 s0 (by omega) (by decide) rfl inz3 (show 4 < 6 by decide) wf_X3_24 rfl rfl (tyX3_ok 4 (by decide)) rfl rfl rfl (by (first | exact z0 _ _ (by omega) | (repeat (first | rw [hset_ne (by omega)] | rw [hwd_o (by omega)])); exact z0 _ _ (by omega))) ?_
  have v10 := v9.set (c := q) (j := 4) (by omega)
  refine y_aload_n dX3_init_44 rfl ?_
  refine y_iconst dX3_init_45 (r32d rfl) ?_
  refine y_put0 (ty := tyX3 5) tyX3 tyX3_ok nmX3 dX3_init_46 s0 (by omega) (by decide) rfl inz3 (show 5 < 6 by decide) wf_X3_27 rfl rfl (tyX3_ok 5 (by decide)) (by decide) (by decide) rfl (by (first | exact z0 _ _ (by omega) | (repeat (first | rw [hset_ne (by omega)] | rw [hwd_o (by omega)])); exact z0 _ _ (by omega))) ?_
  exact y_vret dX3_init_49 rfl rfl hK

theorem N_X0 {q : Nat} (s0 : zsh E q = (0, 13)) (s1 : zsh E (q + 1) = (20, 480)) (s2 : zsh E (q + 2) = (20, 8)) (s3 : zsh E (q + 3) = (20, 80)) (s4 : zsh E (q + 4) = (20, 80)) (s5 : zsh E (q + 5) = (20, 8)) (s6 : zsh E (q + 6) = (20, 8)) (s7 : zsh E (q + 7) = (20, 96)) (s8 : zsh E (q + 8) = (20, 96)) (s9 : zsh E (q + 9) = (20, 96)) (s10 : zsh E (q + 10) = (20, 96)) (s11 : zsh E (q + 11) = (23, 120))  (z0 : fz h q) (v0 : fu u q) (hK : Q [] ((hset (hset h q 11 (4)) q 12 (6))) (uset (uset (uset (uset (uset (uset (uset (uset (uset (uset (uset u q 0) q 1) q 2) q 3) q 4) q 5) q 6) q 7) q 8) q 9) q 10)) : zCB E mX0_init d (q + 1) (q + 12) [zR q] h u Q := by
  have z00 := z0.up (n' := q + 1) (by omega)
  have v00 := v0.up (n' := q + 1) (by omega)
  refine y_in (L0 := [zR q]) pn_X0 rfl (Nat.le_of_ble_eq_true rfl) (by omega) ?_
  refine y_aload_n dX0_init_0 rfl ?_
  refine y_obj dX0_init_1 wq339 wob1 wob2 (Nat.le_of_ble_eq_true rfl) ?_
  refine y_aload_n dX0_init_4 rfl ?_
  refine y_sipush dX0_init_5 (r32d rfl) (by decide) ?_
  refine y_newaI (t := 0) (ty := .int) dX0_init_8 rfl wa_int s1 (by decide) rfl (by omega) (by omega) (fun j => z00 _ j (by omega)) ?_
  have z1 := z00.up (n' := q + 2) (by omega)
  have v1 := v00.up (n' := q + 2) (by omega)
  refine y_putR (ty := tyX0 0) tyX0 tyX0_ok nmX0 dX0_init_10 s0 (by omega) (by decide) rfl inz0 (show 0 < 13 by decide) wf_X0_9 rfl rfl (tyX0_ok 0 (by decide)) rfl rfl rfl (by (first | exact z0 _ _ (by omega) | (repeat (first | rw [hset_ne (by omega)] | rw [hwd_o (by omega)])); exact z0 _ _ (by omega))) ?_
  have v2 := v1.set (c := q) (j := 0) (by omega)
  refine y_aload_n dX0_init_13 rfl ?_
  refine y_bipush dX0_init_14 (r32d rfl) (by decide) ?_
  refine y_newaI (t := 0) (ty := .int) dX0_init_16 rfl wa_int s2 (by decide) rfl (by omega) (by omega) (fun j => z1 _ j (by omega)) ?_
  have z3 := z1.up (n' := q + 3) (by omega)
  have v3 := v2.up (n' := q + 3) (by omega)
  refine y_putR (ty := tyX0 1) tyX0 tyX0_ok nmX0 dX0_init_18 s0 (by omega) (by decide) rfl inz0 (show 1 < 13 by decide) wf_X0_15 rfl rfl (tyX0_ok 1 (by decide)) rfl rfl rfl (by (first | exact z0 _ _ (by omega) | (repeat (first | rw [hset_ne (by omega)] | rw [hwd_o (by omega)])); exact z0 _ _ (by omega))) ?_
  have v4 := v3.set (c := q) (j := 1) (by omega)
  refine y_aload_n dX0_init_21 rfl ?_
  refine y_bipush dX0_init_22 (r32d rfl) (by decide) ?_
  refine y_newaI (t := 0) (ty := .int) dX0_init_24 rfl wa_int s3 (by decide) rfl (by omega) (by omega) (fun j => z3 _ j (by omega)) ?_
  have z5 := z3.up (n' := q + 4) (by omega)
  have v5 := v4.up (n' := q + 4) (by omega)
  refine y_putR (ty := tyX0 2) tyX0 tyX0_ok nmX0 dX0_init_26 s0 (by omega) (by decide) rfl inz0 (show 2 < 13 by decide) wf_X0_18 rfl rfl (tyX0_ok 2 (by decide)) rfl rfl rfl (by (first | exact z0 _ _ (by omega) | (repeat (first | rw [hset_ne (by omega)] | rw [hwd_o (by omega)])); exact z0 _ _ (by omega))) ?_
  have v6 := v5.set (c := q) (j := 2) (by omega)
  refine y_aload_n dX0_init_29 rfl ?_
  refine y_bipush dX0_init_30 (r32d rfl) (by decide) ?_
  refine y_newaI (t := 0) (ty := .int) dX0_init_32 rfl wa_int s4 (by decide) rfl (by omega) (by omega) (fun j => z5 _ j (by omega)) ?_
  have z7 := z5.up (n' := q + 5) (by omega)
  have v7 := v6.up (n' := q + 5) (by omega)
  refine y_putR (ty := tyX0 3) tyX0 tyX0_ok nmX0 dX0_init_34 s0 (by omega) (by decide) rfl inz0 (show 3 < 13 by decide) wf_X0_21 rfl rfl (tyX0_ok 3 (by decide)) rfl rfl rfl (by (first | exact z0 _ _ (by omega) | (repeat (first | rw [hset_ne (by omega)] | rw [hwd_o (by omega)])); exact z0 _ _ (by omega))) ?_
  have v8 := v7.set (c := q) (j := 3) (by omega)
  refine y_aload_n dX0_init_37 rfl ?_
  refine y_bipush dX0_init_38 (r32d rfl) (by decide) ?_
  refine y_newaI (t := 0) (ty := .int) dX0_init_40 rfl wa_int s5 (by decide) rfl (by omega) (by omega) (fun j => z7 _ j (by omega)) ?_
  have z9 := z7.up (n' := q + 6) (by omega)
  have v9 := v8.up (n' := q + 6) (by omega)
  refine y_putR (ty := tyX0 4) tyX0 tyX0_ok nmX0 dX0_init_42 s0 (by omega) (by decide) rfl inz0 (show 4 < 13 by decide) wf_X0_24 rfl rfl (tyX0_ok 4 (by decide)) rfl rfl rfl (by (first | exact z0 _ _ (by omega) | (repeat (first | rw [hset_ne (by omega)] | rw [hwd_o (by omega)])); exact z0 _ _ (by omega))) ?_
  have v10 := v9.set (c := q) (j := 4) (by omega)
  refine y_aload_n dX0_init_45 rfl ?_
  refine y_bipush dX0_init_46 (r32d rfl) (by decide) ?_
  refine y_newaI (t := 0) (ty := .int) dX0_init_48 rfl wa_int s6 (by decide) rfl (by omega) (by omega) (fun j => z9 _ j (by omega)) ?_
  have z11 := z9.up (n' := q + 7) (by omega)
  have v11 := v10.up (n' := q + 7) (by omega)
  refine y_putR (ty := tyX0 5) tyX0 tyX0_ok nmX0 dX0_init_50 s0 (by omega) (by decide) rfl inz0 (show 5 < 13 by decide) wf_X0_27 rfl rfl (tyX0_ok 5 (by decide)) rfl rfl rfl (by (first | exact z0 _ _ (by omega) | (repeat (first | rw [hset_ne (by omega)] | rw [hwd_o (by omega)])); exact z0 _ _ (by omega))) ?_
  have v12 := v11.set (c := q) (j := 5) (by omega)
  refine y_aload_n dX0_init_53 rfl ?_
  refine y_bipush dX0_init_54 (r32d rfl) (by decide) ?_
  refine y_newaI (t := 0) (ty := .int) dX0_init_56 rfl wa_int s7 (by decide) rfl (by omega) (by omega) (fun j => z11 _ j (by omega)) ?_
  have z13 := z11.up (n' := q + 8) (by omega)
  have v13 := v12.up (n' := q + 8) (by omega)
  refine y_putR (ty := tyX0 6) tyX0 tyX0_ok nmX0 dX0_init_58 s0 (by omega) (by decide) rfl inz0 (show 6 < 13 by decide) wf_X0_30 rfl rfl (tyX0_ok 6 (by decide)) rfl rfl rfl (by (first | exact z0 _ _ (by omega) | (repeat (first | rw [hset_ne (by omega)] | rw [hwd_o (by omega)])); exact z0 _ _ (by omega))) ?_
  have v14 := v13.set (c := q) (j := 6) (by omega)
  refine y_aload_n dX0_init_61 rfl ?_
  refine y_bipush dX0_init_62 (r32d rfl) (by decide) ?_
  refine y_newaI (t := 0) (ty := .int) dX0_init_64 rfl wa_int s8 (by decide) rfl (by omega) (by omega) (fun j => z13 _ j (by omega)) ?_
  have z15 := z13.up (n' := q + 9) (by omega)
  have v15 := v14.up (n' := q + 9) (by omega)
  refine y_putR (ty := tyX0 7) tyX0 tyX0_ok nmX0 dX0_init_66 s0 (by omega) (by decide) rfl inz0 (show 7 < 13 by decide) wf_X0_33 rfl rfl (tyX0_ok 7 (by decide)) rfl rfl rfl (by (first | exact z0 _ _ (by omega) | (repeat (first | rw [hset_ne (by omega)] | rw [hwd_o (by omega)])); exact z0 _ _ (by omega))) ?_
  have v16 := v15.set (c := q) (j := 7) (by omega)
  refine y_aload_n dX0_init_69 rfl ?_
  refine y_bipush dX0_init_70 (r32d rfl) (by decide) ?_
  refine y_newaI (t := 0) (ty := .int) dX0_init_72 rfl wa_int s9 (by decide) rfl (by omega) (by omega) (fun j => z15 _ j (by omega)) ?_
  have z17 := z15.up (n' := q + 10) (by omega)
  have v17 := v16.up (n' := q + 10) (by omega)
  refine y_putR (ty := tyX0 8) tyX0 tyX0_ok nmX0 dX0_init_74 s0 (by omega) (by decide) rfl inz0 (show 8 < 13 by decide) wf_X0_36 rfl rfl (tyX0_ok 8 (by decide)) rfl rfl rfl (by (first | exact z0 _ _ (by omega) | (repeat (first | rw [hset_ne (by omega)] | rw [hwd_o (by omega)])); exact z0 _ _ (by omega))) ?_
  have v18 := v17.set (c := q) (j := 8) (by omega)
  refine y_aload_n dX0_init_77 rfl ?_
  refine y_bipush dX0_init_78 (r32d rfl) (by decide) ?_
  refine y_newaI (t := 0) (ty := .int) dX0_init_80 rfl wa_int s10 (by decide) rfl (by omega) (by omega) (fun j => z17 _ j (by omega)) ?_
  have z19 := z17.up (n' := q + 11) (by omega)
  have v19 := v18.up (n' := q + 11) (by omega)
  refine y_putR (ty := tyX0 9) tyX0 tyX0_ok nmX0 dX0_init_82 s0 (by omega) (by decide) rfl inz0 (show 9 < 13 by decide) wf_X0_39 rfl rfl (tyX0_ok 9 (by decide)) rfl rfl rfl (by (first | exact z0 _ _ (by omega) | (repeat (first | rw [hset_ne (by omega)] | rw [hwd_o (by omega)])); exact z0 _ _ (by omega))) ?_
  have v20 := v19.set (c := q) (j := 9) (by omega)
  refine y_aload_n dX0_init_85 rfl ?_
  refine y_bipush dX0_init_86 (r32d rfl) (by decide) ?_
  refine y_newaI (t := 3) (ty := .long) dX0_init_88 rfl wa_long s11 (by decide) rfl (by omega) (by omega) (fun j => z19 _ j (by omega)) ?_
  have z21 := z19.up (n' := q + 12) (by omega)
  have v21 := v20.up (n' := q + 12) (by omega)
  refine y_putR (ty := tyX0 10) tyX0 tyX0_ok nmX0 dX0_init_90 s0 (by omega) (by decide) rfl inz0 (show 10 < 13 by decide) wf_X0_42 rfl rfl (tyX0_ok 10 (by decide)) rfl rfl rfl (by (first | exact z0 _ _ (by omega) | (repeat (first | rw [hset_ne (by omega)] | rw [hwd_o (by omega)])); exact z0 _ _ (by omega))) ?_
  have v22 := v21.set (c := q) (j := 10) (by omega)
  refine y_aload_n dX0_init_93 rfl ?_
  refine y_iconst dX0_init_94 (r32d rfl) ?_
  refine y_putI (x := 4) (ty := tyX0 11) tyX0 tyX0_ok nmX0 dX0_init_95 s0 (by omega) (by decide) rfl inz0 (show 11 < 13 by decide) wf_X0_46 rfl rfl (tyX0_ok 11 (by decide)) (by decide) (by decide) rfl ?_
  have z23 := z21.set (c := q) (j := 11) (x := 4) (by omega)
  refine y_aload_n dX0_init_98 rfl ?_
  refine y_bipush dX0_init_99 (r32d rfl) (by decide) ?_
  refine y_putI (x := 6) (ty := tyX0 12) tyX0 tyX0_ok nmX0 dX0_init_101 s0 (by omega) (by decide) rfl inz0 (show 12 < 13 by decide) wf_X0_50 rfl rfl (tyX0_ok 12 (by decide)) (by decide) (by decide) rfl ?_
  have z24 := z23.set (c := q) (j := 12) (x := 6) (by omega)
  exact y_vret dX0_init_104 rfl rfl hK

theorem N_X8 {q : Nat} (s0 : zsh E q = (8, 17)) (s1 : zsh E (q + 1) = (2, 2)) (s2 : zsh E (q + 2) = (20, 4)) (s3 : zsh E (q + 3) = (2, 2)) (s4 : zsh E (q + 4) = (20, 8)) (s5 : zsh E (q + 5) = (2, 2)) (s6 : zsh E (q + 6) = (20, 5)) (s7 : zsh E (q + 7) = (2, 2)) (s8 : zsh E (q + 8) = (20, 6)) (s9 : zsh E (q + 9) = (20, 8)) (s10 : zsh E (q + 10) = (20, 8)) (s11 : zsh E (q + 11) = (20, 480)) (s12 : zsh E (q + 12) = (20, 35)) (s13 : zsh E (q + 13) = (20, 80)) (s14 : zsh E (q + 14) = (5, 5)) (s15 : zsh E (q + 15) = (20, 64)) (s16 : zsh E (q + 16) = (20, 64)) (s17 : zsh E (q + 17) = (23, 64)) (s18 : zsh E (q + 18) = (23, 6))  (z0 : fz h q) (v0 : fu u q) (hK : Q [] ((hset (hset (hset h q 14 (4)) q 15 (6)) q 16 (300))) (uset (uset (uset (uset (uset (uset (uset (uset (uset (uset (uset (uset (uset (uset (uset (uset (uset (uset u (q + 1) 0) q 0) (q + 3) 0) q 1) (q + 5) 0) q 2) (q + 7) 0) q 3) q 4) q 5) q 6) q 7) q 8) (q + 14) 0) (q + 14) 1) (q + 14) 2) (q + 14) 3) q 10)) : zCB E mX8_init (d + 1) (q + 1) (q + 19) [zR q] h u Q := by
  have z00 := z0.up (n' := q + 1) (by omega)
  have v00 := v0.up (n' := q + 1) (by omega)
  refine y_in (L0 := [zR q]) pn_X8 rfl (Nat.le_of_ble_eq_true rfl) (by omega) ?_
  refine y_aload_n dX8_init_0 rfl ?_
  refine y_obj dX8_init_1 wq178 wob1 wob2 (Nat.le_of_ble_eq_true rfl) ?_
  refine y_aload_n dX8_init_4 rfl ?_
  refine y_new tyX2 tyX2_ok dX8_init_5 s1 (by decide) rfl inz2 wq179 wq180 wi_X2 (by omega) (newOk (fun j => z00 _ j (by omega)) (fun j => v00 _ j (by omega)) ndX2) ?_
  have z1 := z00.up (n' := q + 2) (by omega)
  have v1 := v00.up (n' := q + 2) (by omega)
  refine y_dup dX8_init_8 rfl ?_
  refine y_iconst dX8_init_9 (r32d rfl) ?_
  refine y_callI (M' := mX2_init) (c0 := q + 1) (m2 := q + 3) (as := [zI 4]) dX8_init_10 rfl wq181 rfl wq182 wi_X2 wc_X2_init rfl wy_X2_init (by decide) (Nat.le_of_ble_eq_true rfl) (by omega) (by omega) ?_
  refine N_X2 (q := q + 1) s1 s2 rfl (by decide) z00 v00 ?_
  have z2 : fz h (q + 3) := (z00.up (n' := q + 3) (by omega))
  have v2 : fu (uset u (q + 1) 0) (q + 3) := (fu.set (v00.up (n' := q + 3) (by omega)) (by omega))
  show zB _ _ _ _ _ _ _ (_ :: _) _ _ _ _
  refine y_putR (ty := tyX8 0) tyX8 tyX8_ok nmX8 dX8_init_13 s0 (by omega) (by decide) rfl inz8 (show 0 < 17 by decide) wf_X8_14 rfl rfl (tyX8_ok 0 (by decide)) rfl rfl rfl (by (first | exact z0 _ _ (by omega) | (repeat (first | rw [hset_ne (by omega)] | rw [hwd_o (by omega)])); exact z0 _ _ (by omega))) ?_
  have v3 := v2.set (c := q) (j := 0) (by omega)
  refine y_aload_n dX8_init_16 rfl ?_
  refine y_new tyX2 tyX2_ok dX8_init_17 s3 (by decide) rfl inz2 wq179 wq180 wi_X2 (by omega) (newOk (fun j => z2 _ j (by omega)) (fun j => v3 _ j (by omega)) ndX2) ?_
  have z4 := z2.up (n' := q + 4) (by omega)
  have v4 := v3.up (n' := q + 4) (by omega)
  refine y_dup dX8_init_20 rfl ?_
  refine y_bipush dX8_init_21 (r32d rfl) (by decide) ?_
  refine y_callI (M' := mX2_init) (c0 := q + 3) (m2 := q + 5) (as := [zI 8]) dX8_init_23 rfl wq181 rfl wq182 wi_X2 wc_X2_init rfl wy_X2_init (by decide) (Nat.le_of_ble_eq_true rfl) (by omega) (by omega) ?_
  refine N_X2 (q := q + 3) s3 s4 rfl (by decide) z2 v3 ?_
  have z5 : fz h (q + 5) := (z2.up (n' := q + 5) (by omega))
  have v5 : fu (uset (uset (uset u (q + 1) 0) q 0) (q + 3) 0) (q + 5) := (fu.set (v3.up (n' := q + 5) (by omega)) (by omega))
  show zB _ _ _ _ _ _ _ (_ :: _) _ _ _ _
  refine y_putR (ty := tyX8 1) tyX8 tyX8_ok nmX8 dX8_init_26 s0 (by omega) (by decide) rfl inz8 (show 1 < 17 by decide) wf_X8_20 rfl rfl (tyX8_ok 1 (by decide)) rfl rfl rfl (by (first | exact z0 _ _ (by omega) | (repeat (first | rw [hset_ne (by omega)] | rw [hwd_o (by omega)])); exact z0 _ _ (by omega))) ?_
  have v6 := v5.set (c := q) (j := 1) (by omega)
  refine y_aload_n dX8_init_29 rfl ?_
  refine y_new tyX2 tyX2_ok dX8_init_30 s5 (by decide) rfl inz2 wq179 wq180 wi_X2 (by omega) (newOk (fun j => z5 _ j (by omega)) (fun j => v6 _ j (by omega)) ndX2) ?_
  have z7 := z5.up (n' := q + 6) (by omega)
  have v7 := v6.up (n' := q + 6) (by omega)
  refine y_dup dX8_init_33 rfl ?_
  refine y_iconst dX8_init_34 (r32d rfl) ?_
  refine y_callI (M' := mX2_init) (c0 := q + 5) (m2 := q + 7) (as := [zI 5]) dX8_init_35 rfl wq181 rfl wq182 wi_X2 wc_X2_init rfl wy_X2_init (by decide) (Nat.le_of_ble_eq_true rfl) (by omega) (by omega) ?_
  refine N_X2 (q := q + 5) s5 s6 rfl (by decide) z5 v6 ?_
  have z8 : fz h (q + 7) := (z5.up (n' := q + 7) (by omega))
  have v8 : fu (uset (uset (uset (uset (uset u (q + 1) 0) q 0) (q + 3) 0) q 1) (q + 5) 0) (q + 7) := (fu.set (v6.up (n' := q + 7) (by omega)) (by omega))
  show zB _ _ _ _ _ _ _ (_ :: _) _ _ _ _
  refine y_putR (ty := tyX8 2) tyX8 tyX8_ok nmX8 dX8_init_38 s0 (by omega) (by decide) rfl inz8 (show 2 < 17 by decide) wf_X8_23 rfl rfl (tyX8_ok 2 (by decide)) rfl rfl rfl (by (first | exact z0 _ _ (by omega) | (repeat (first | rw [hset_ne (by omega)] | rw [hwd_o (by omega)])); exact z0 _ _ (by omega))) ?_
  have v9 := v8.set (c := q) (j := 2) (by omega)
  refine y_aload_n dX8_init_41 rfl ?_
  refine y_new tyX2 tyX2_ok dX8_init_42 s7 (by decide) rfl inz2 wq179 wq180 wi_X2 (by omega) (newOk (fun j => z8 _ j (by omega)) (fun j => v9 _ j (by omega)) ndX2) ?_
  have z10 := z8.up (n' := q + 8) (by omega)
  have v10 := v9.up (n' := q + 8) (by omega)
  refine y_dup dX8_init_45 rfl ?_
  refine y_bipush dX8_init_46 (r32d rfl) (by decide) ?_
  refine y_callI (M' := mX2_init) (c0 := q + 7) (m2 := q + 9) (as := [zI 6]) dX8_init_48 rfl wq181 rfl wq182 wi_X2 wc_X2_init rfl wy_X2_init (by decide) (Nat.le_of_ble_eq_true rfl) (by omega) (by omega) ?_
  refine N_X2 (q := q + 7) s7 s8 rfl (by decide) z8 v9 ?_
  have z11 : fz h (q + 9) := (z8.up (n' := q + 9) (by omega))
  have v11 : fu (uset (uset (uset (uset (uset (uset (uset u (q + 1) 0) q 0) (q + 3) 0) q 1) (q + 5) 0) q 2) (q + 7) 0) (q + 9) := (fu.set (v9.up (n' := q + 9) (by omega)) (by omega))
  show zB _ _ _ _ _ _ _ (_ :: _) _ _ _ _
  refine y_putR (ty := tyX8 3) tyX8 tyX8_ok nmX8 dX8_init_51 s0 (by omega) (by decide) rfl inz8 (show 3 < 17 by decide) wf_X8_26 rfl rfl (tyX8_ok 3 (by decide)) rfl rfl rfl (by (first | exact z0 _ _ (by omega) | (repeat (first | rw [hset_ne (by omega)] | rw [hwd_o (by omega)])); exact z0 _ _ (by omega))) ?_
  have v12 := v11.set (c := q) (j := 3) (by omega)
  refine y_aload_n dX8_init_54 rfl ?_
  refine y_bipush dX8_init_55 (r32d rfl) (by decide) ?_
  refine y_newaI (t := 0) (ty := .int) dX8_init_57 rfl wa_int s9 (by decide) rfl (by omega) (by omega) (fun j => z11 _ j (by omega)) ?_
  have z13 := z11.up (n' := q + 10) (by omega)
  have v13 := v12.up (n' := q + 10) (by omega)
  refine y_putR (ty := tyX8 4) tyX8 tyX8_ok nmX8 dX8_init_59 s0 (by omega) (by decide) rfl inz8 (show 4 < 17 by decide) wf_X8_29 rfl rfl (tyX8_ok 4 (by decide)) rfl rfl rfl (by (first | exact z0 _ _ (by omega) | (repeat (first | rw [hset_ne (by omega)] | rw [hwd_o (by omega)])); exact z0 _ _ (by omega))) ?_
  have v14 := v13.set (c := q) (j := 4) (by omega)
  refine y_aload_n dX8_init_62 rfl ?_
  refine y_bipush dX8_init_63 (r32d rfl) (by decide) ?_
  refine y_newaI (t := 0) (ty := .int) dX8_init_65 rfl wa_int s10 (by decide) rfl (by omega) (by omega) (fun j => z13 _ j (by omega)) ?_
  have z15 := z13.up (n' := q + 11) (by omega)
  have v15 := v14.up (n' := q + 11) (by omega)
  refine y_putR (ty := tyX8 5) tyX8 tyX8_ok nmX8 dX8_init_67 s0 (by omega) (by decide) rfl inz8 (show 5 < 17 by decide) wf_X8_33 rfl rfl (tyX8_ok 5 (by decide)) rfl rfl rfl (by (first | exact z0 _ _ (by omega) | (repeat (first | rw [hset_ne (by omega)] | rw [hwd_o (by omega)])); exact z0 _ _ (by omega))) ?_
  have v16 := v15.set (c := q) (j := 5) (by omega)
  refine y_aload_n dX8_init_70 rfl ?_
  refine y_sipush dX8_init_71 (r32d rfl) (by decide) ?_
  refine y_newaI (t := 0) (ty := .int) dX8_init_74 rfl wa_int s11 (by decide) rfl (by omega) (by omega) (fun j => z15 _ j (by omega)) ?_
  have z17 := z15.up (n' := q + 12) (by omega)
  have v17 := v16.up (n' := q + 12) (by omega)
  refine y_putR (ty := tyX8 6) tyX8 tyX8_ok nmX8 dX8_init_76 s0 (by omega) (by decide) rfl inz8 (show 6 < 17 by decide) wf_X8_36 rfl rfl (tyX8_ok 6 (by decide)) rfl rfl rfl (by (first | exact z0 _ _ (by omega) | (repeat (first | rw [hset_ne (by omega)] | rw [hwd_o (by omega)])); exact z0 _ _ (by omega))) ?_
  have v18 := v17.set (c := q) (j := 6) (by omega)
  refine y_aload_n dX8_init_79 rfl ?_
  refine y_bipush dX8_init_80 (r32d rfl) (by decide) ?_
  refine y_newaI (t := 0) (ty := .int) dX8_init_82 rfl wa_int s12 (by decide) rfl (by omega) (by omega) (fun j => z17 _ j (by omega)) ?_
  have z19 := z17.up (n' := q + 13) (by omega)
  have v19 := v18.up (n' := q + 13) (by omega)
  refine y_putR (ty := tyX8 7) tyX8 tyX8_ok nmX8 dX8_init_84 s0 (by omega) (by decide) rfl inz8 (show 7 < 17 by decide) wf_X8_39 rfl rfl (tyX8_ok 7 (by decide)) rfl rfl rfl (by (first | exact z0 _ _ (by omega) | (repeat (first | rw [hset_ne (by omega)] | rw [hwd_o (by omega)])); exact z0 _ _ (by omega))) ?_
  have v20 := v19.set (c := q) (j := 7) (by omega)
  refine y_aload_n dX8_init_87 rfl ?_
  refine y_bipush dX8_init_88 (r32d rfl) (by decide) ?_
  refine y_newaI (t := 0) (ty := .int) dX8_init_90 rfl wa_int s13 (by decide) rfl (by omega) (by omega) (fun j => z19 _ j (by omega)) ?_
  have z21 := z19.up (n' := q + 14) (by omega)
  have v21 := v20.up (n' := q + 14) (by omega)
  refine y_putR (ty := tyX8 8) tyX8 tyX8_ok nmX8 dX8_init_92 s0 (by omega) (by decide) rfl inz8 (show 8 < 17 by decide) wf_X8_42 rfl rfl (tyX8_ok 8 (by decide)) rfl rfl rfl (by (first | exact z0 _ _ (by omega) | (repeat (first | rw [hset_ne (by omega)] | rw [hwd_o (by omega)])); exact z0 _ _ (by omega))) ?_
  have v22 := v21.set (c := q) (j := 8) (by omega)
  refine y_aload_n dX8_init_95 rfl ?_
  refine y_iconst dX8_init_96 (r32d rfl) ?_
  refine y_put0 (ty := tyX8 9) tyX8 tyX8_ok nmX8 dX8_init_97 s0 (by omega) (by decide) rfl inz8 (show 9 < 17 by decide) wf_X8_45 rfl rfl (tyX8_ok 9 (by decide)) (by decide) (by decide) rfl (by (first | exact z0 _ _ (by omega) | (repeat (first | rw [hset_ne (by omega)] | rw [hwd_o (by omega)])); exact z0 _ _ (by omega))) ?_
  refine y_aload_n dX8_init_100 rfl ?_
  refine y_new tyX5 tyX5_ok dX8_init_101 s14 (by decide) rfl inz5 wq197 wq198 wi_X5 (by omega) (newOk (fun j => z21 _ j (by omega)) (fun j => v22 _ j (by omega)) ndX5) ?_
  have z23 := z21.up (n' := q + 15) (by omega)
  have v23 := v22.up (n' := q + 15) (by omega)
  refine y_dup dX8_init_104 rfl ?_
  refine y_callIN (M' := mX5_init) (c0 := q + 14) (m2 := q + 19) (as := []) dX8_init_105 rfl wq199 rfl wq200 wi_X5 wc_X5_init rfl wy_X5_init (by decide) (Nat.le_of_ble_eq_true rfl) (by omega) (by omega) ?_
  refine N_X5 (q := q + 14) s14 s15 s16 s17 s18 z21 v22 ?_
  have z24 : fz h (q + 19) := (z21.up (n' := q + 19) (by omega))
  have v24 : fu (uset (uset (uset (uset (uset (uset (uset (uset (uset (uset (uset (uset (uset (uset (uset (uset (uset u (q + 1) 0) q 0) (q + 3) 0) q 1) (q + 5) 0) q 2) (q + 7) 0) q 3) q 4) q 5) q 6) q 7) q 8) (q + 14) 0) (q + 14) 1) (q + 14) 2) (q + 14) 3) (q + 19) := (fu.set (fu.set (fu.set (fu.set (v22.up (n' := q + 19) (by omega)) (by omega)) (by omega)) (by omega)) (by omega))
  show zB _ _ _ _ _ _ _ (_ :: _) _ _ _ _
  refine y_putR (ty := tyX8 10) tyX8 tyX8_ok nmX8 dX8_init_108 s0 (by omega) (by decide) rfl inz8 (show 10 < 17 by decide) wf_X8_52 rfl rfl (tyX8_ok 10 (by decide)) rfl rfl rfl (by (first | exact z0 _ _ (by omega) | (repeat (first | rw [hset_ne (by omega)] | rw [hwd_o (by omega)])); exact z0 _ _ (by omega))) ?_
  have v25 := v24.set (c := q) (j := 10) (by omega)
  refine y_aload_n dX8_init_111 rfl ?_
  refine y_iconst dX8_init_112 (r32d rfl) ?_
  refine y_put0 (ty := tyX8 11) tyX8 tyX8_ok nmX8 dX8_init_113 s0 (by omega) (by decide) rfl inz8 (show 11 < 17 by decide) wf_X8_56 rfl rfl (tyX8_ok 11 (by decide)) (by decide) (by decide) rfl (by (first | exact z0 _ _ (by omega) | (repeat (first | rw [hset_ne (by omega)] | rw [hwd_o (by omega)])); exact z0 _ _ (by omega))) ?_
  refine y_aload_n dX8_init_116 rfl ?_
  refine y_iconst dX8_init_117 (r32d rfl) ?_
  refine y_put0 (ty := tyX8 12) tyX8 tyX8_ok nmX8 dX8_init_118 s0 (by omega) (by decide) rfl inz8 (show 12 < 17 by decide) wf_X8_60 rfl rfl (tyX8_ok 12 (by decide)) (by decide) (by decide) rfl (by (first | exact z0 _ _ (by omega) | (repeat (first | rw [hset_ne (by omega)] | rw [hwd_o (by omega)])); exact z0 _ _ (by omega))) ?_
  refine y_aload_n dX8_init_121 rfl ?_
  refine y_iconst dX8_init_122 (r32d rfl) ?_
  refine y_put0 (ty := tyX8 13) tyX8 tyX8_ok nmX8 dX8_init_123 s0 (by omega) (by decide) rfl inz8 (show 13 < 17 by decide) wf_X8_63 rfl rfl (tyX8_ok 13 (by decide)) (by decide) (by decide) rfl (by (first | exact z0 _ _ (by omega) | (repeat (first | rw [hset_ne (by omega)] | rw [hwd_o (by omega)])); exact z0 _ _ (by omega))) ?_
  refine y_aload_n dX8_init_126 rfl ?_
  refine y_iconst dX8_init_127 (r32d rfl) ?_
  refine y_putI (x := 4) (ty := tyX8 14) tyX8 tyX8_ok nmX8 dX8_init_128 s0 (by omega) (by decide) rfl inz8 (show 14 < 17 by decide) wf_X8_66 rfl rfl (tyX8_ok 14 (by decide)) (by decide) (by decide) rfl ?_
  have z26 := z24.set (c := q) (j := 14) (x := 4) (by omega)
  refine y_aload_n dX8_init_131 rfl ?_
  refine y_bipush dX8_init_132 (r32d rfl) (by decide) ?_
  refine y_putI (x := 6) (ty := tyX8 15) tyX8 tyX8_ok nmX8 dX8_init_134 s0 (by omega) (by decide) rfl inz8 (show 15 < 17 by decide) wf_X8_69 rfl rfl (tyX8_ok 15 (by decide)) (by decide) (by decide) rfl ?_
  have z27 := z26.set (c := q) (j := 15) (x := 6) (by omega)
  refine y_aload_n dX8_init_137 rfl ?_
  refine y_sipush dX8_init_138 (r32d rfl) (by decide) ?_
  refine y_putI (x := 300) (ty := tyX8 16) tyX8 tyX8_ok nmX8 dX8_init_141 s0 (by omega) (by decide) rfl inz8 (show 16 < 17 by decide) wf_X8_72 rfl rfl (tyX8_ok 16 (by decide)) (by decide) (by decide) rfl ?_
  have z28 := z27.set (c := q) (j := 16) (x := 300) (by omega)
  exact y_vret dX8_init_144 rfl rfl hK

theorem N_X1 {q : Nat} (s0 : zsh E q = (1, 7)) (s1 : zsh E (q + 1) = (20, 21)) (s2 : zsh E (q + 2) = (21, 0)) (hq : q < 1000) (z0 : fz h q) (v0 : fu u q) (hK : Q [] ((hset (hwd h (q + 1)) q 1 (q + 2 : Nat))) (uset (uset u q 0) q 1)) : zCB E mX1_init (d + 1) (q + 1) (q + 3) [zR q] h u Q := by
  have z00 := z0.up (n' := q + 1) (by omega)
  have v00 := v0.up (n' := q + 1) (by omega)
  refine y_in (L0 := [zR q]) pn_X1 rfl (Nat.le_of_ble_eq_true rfl) (by omega) ?_
  refine y_aload_n dX1_init_0 rfl ?_
  refine y_obj dX1_init_1 wq43 wob1 wob2 (Nat.le_of_ble_eq_true rfl) ?_
  refine y_aload_n dX1_init_4 rfl ?_
  refine y_callS (M' := mX1_letters) (m2 := q + 2) (as := []) dX1_init_5 rfl wlt1 wlt2 wi_X1 wlt3 (by decide +kernel) (by decide) (Nat.le_of_ble_eq_true rfl) (by omega) (by omega) ?_
  refine N_let (q := q + 1) s1 z00 v00 ?_
  have z1 := (z00.up (n' := q + 2) (by omega)).wd (q := q + 1) (by omega)
  have v1 := v00.up (n' := q + 2) (by omega)
  show zB _ _ _ _ _ _ _ (_ :: _) _ _ _ _
  refine y_putR (ty := tyX1 0) tyX1 tyX1_ok nmX1 dX1_init_8 s0 (by omega) (by decide) rfl inz1 (show 0 < 7 by decide) wf_X1_15 rfl rfl (tyX1_ok 0 (by decide)) rfl rfl rfl (by (first | exact z0 _ _ (by omega) | (repeat (first | rw [hset_ne (by omega)] | rw [hwd_o (by omega)])); exact z0 _ _ (by omega))) ?_
  have v2 := v1.set (c := q) (j := 0) (by omega)
  refine y_aload_n dX1_init_11 rfl ?_
  refine y_iconst dX1_init_12 (r32d rfl) ?_
  refine y_newaI (t := 1) (ty := .char) dX1_init_13 rfl wa_char s2 (by decide) rfl (by omega) (by omega) (fun j => z1 _ j (by omega)) ?_
  have z3 := z1.up (n' := q + 3) (by omega)
  have v3 := v2.up (n' := q + 3) (by omega)
  refine y_putC (x := q + 2) (ty := tyX1 1) tyX1 tyX1_ok nmX1 dX1_init_15 s0 (by omega) (by decide) rfl inz1 (show 1 < 7 by decide) wf_X1_19 rfl rfl (tyX1_ok 1 (by decide)) rfl rfl rfl (by omega) ?_
  have v4 := v3.set (c := q) (j := 1) (by omega)
  have z4 := z3.set (c := q) (j := 1) (x := ((q + 2 : Nat) : Int)) (by omega)
  refine y_aload_n dX1_init_18 rfl ?_
  refine y_iconst dX1_init_19 (r32d rfl) ?_
  refine y_put0 (ty := tyX1 2) tyX1 tyX1_ok nmX1 dX1_init_20 s0 (by omega) (by decide) rfl inz1 (show 2 < 7 by decide) wf_X1_23 rfl rfl (tyX1_ok 2 (by decide)) (by decide) (by decide) rfl (by (first | exact z0 _ _ (by omega) | (repeat (first | rw [hset_ne (by omega)] | rw [hwd_o (by omega)])); exact z0 _ _ (by omega))) ?_
  refine y_aload_n dX1_init_23 rfl ?_
  refine y_iconst dX1_init_24 (r32d rfl) ?_
  refine y_put0 (ty := tyX1 3) tyX1 tyX1_ok nmX1 dX1_init_25 s0 (by omega) (by decide) rfl inz1 (show 3 < 7 by decide) wf_X1_27 rfl rfl (tyX1_ok 3 (by decide)) (by decide) (by decide) rfl (by (first | exact z0 _ _ (by omega) | (repeat (first | rw [hset_ne (by omega)] | rw [hwd_o (by omega)])); exact z0 _ _ (by omega))) ?_
  refine y_aload_n dX1_init_28 rfl ?_
  refine y_iconst dX1_init_29 (r32d rfl) ?_
  refine y_put0 (ty := tyX1 4) tyX1 tyX1_ok nmX1 dX1_init_30 s0 (by omega) (by decide) rfl inz1 (show 4 < 7 by decide) wf_X1_30 rfl rfl (tyX1_ok 4 (by decide)) (by decide) (by decide) rfl (by (first | exact z0 _ _ (by omega) | (repeat (first | rw [hset_ne (by omega)] | rw [hwd_o (by omega)])); exact z0 _ _ (by omega))) ?_
  refine y_aload_n dX1_init_33 rfl ?_
  refine y_iconst dX1_init_34 (r32d rfl) ?_
  refine y_put0 (ty := tyX1 5) tyX1 tyX1_ok nmX1 dX1_init_35 s0 (by omega) (by decide) rfl inz1 (show 5 < 7 by decide) wf_X1_33 rfl rfl (tyX1_ok 5 (by decide)) (by decide) (by decide) rfl (by (first | exact z0 _ _ (by omega) | (repeat (first | rw [hset_ne (by omega)] | rw [hwd_o (by omega)])); exact z0 _ _ (by omega))) ?_
  refine y_aload_n dX1_init_38 rfl ?_
  refine y_iconst dX1_init_39 (r32d rfl) ?_
  refine y_put0 (ty := tyX1 6) tyX1 tyX1_ok nmX1 dX1_init_40 s0 (by omega) (by decide) rfl inz1 (show 6 < 7 by decide) wf_X1_36 rfl rfl (tyX1_ok 6 (by decide)) (by decide) (by decide) rfl (by (first | exact z0 _ _ (by omega) | (repeat (first | rw [hset_ne (by omega)] | rw [hwd_o (by omega)])); exact z0 _ _ (by omega))) ?_
  exact y_vret dX1_init_43 rfl rfl hK

theorem N_X4 {q : Nat} (s0 : zsh E q = (4, 6)) (s1 : zsh E (q + 1) = (1, 7)) (s2 : zsh E (q + 2) = (20, 21)) (s3 : zsh E (q + 3) = (21, 0)) (s4 : zsh E (q + 4) = (6, 6)) (s5 : zsh E (q + 5) = (20, 72)) (hq : q < 900) (z0 : fz h q) (v0 : fu u q) (hK : Q [] ((hset (hset (hset (hwd h (q + 2)) (q + 1) 1 (q + 3 : Nat)) (q + 4) 4 (1)) q 3 (-1))) (uset (uset (uset (uset (uset u (q + 1) 0) (q + 1) 1) q 0) (q + 4) 0) q 1)) : zCB E mX4_init (d + 2) (q + 1) (q + 6) [zR q] h u Q := by
  have z00 := z0.up (n' := q + 1) (by omega)
  have v00 := v0.up (n' := q + 1) (by omega)
  refine y_in (L0 := [zR q]) pn_X4 rfl (Nat.le_of_ble_eq_true rfl) (by omega) ?_
  refine y_aload_n dX4_init_0 rfl ?_
  refine y_obj dX4_init_1 wq37 wob1 wob2 (Nat.le_of_ble_eq_true rfl) ?_
  refine y_aload_n dX4_init_4 rfl ?_
  refine y_new tyX1 tyX1_ok dX4_init_5 s1 (by decide) rfl inz1 wq38 wq39 wi_X1 (by omega) (newOk (fun j => z00 _ j (by omega)) (fun j => v00 _ j (by omega)) ndX1) ?_
  have z1 := z00.up (n' := q + 2) (by omega)
  have v1 := v00.up (n' := q + 2) (by omega)
  refine y_dup dX4_init_8 rfl ?_
  refine y_callIN (M' := mX1_init) (c0 := q + 1) (m2 := q + 4) (as := []) dX4_init_9 rfl wq40 rfl wq41 wi_X1 wc_X1_init rfl wy_X1_init (by decide) (Nat.le_of_ble_eq_true rfl) (by omega) (by omega) ?_
  refine N_X1 (q := q + 1) s1 s2 s3 (by omega) z00 v00 ?_
  have z2 : fz (hset (hwd h (q + 2)) (q + 1) 1 (q + 3 : Nat)) (q + 4) := (fz.set (fz.wd (z00.up (n' := q + 4) (by omega)) (by omega)) (by omega))
  have v2 : fu (uset (uset u (q + 1) 0) (q + 1) 1) (q + 4) := (fu.set (fu.set (v00.up (n' := q + 4) (by omega)) (by omega)) (by omega))
  show zB _ _ _ _ _ _ _ (_ :: _) _ _ _ _
  refine y_putR (ty := tyX4 0) tyX4 tyX4_ok nmX4 dX4_init_12 s0 (by omega) (by decide) rfl inz4 (show 0 < 6 by decide) wf_X4_12 rfl rfl (tyX4_ok 0 (by decide)) rfl rfl rfl (by (first | exact z0 _ _ (by omega) | (repeat (first | rw [hset_ne (by omega)] | rw [hwd_o (by omega)])); exact z0 _ _ (by omega))) ?_
  have v3 := v2.set (c := q) (j := 0) (by omega)
  refine y_aload_n dX4_init_15 rfl ?_
  refine y_new tyX6 tyX6_ok dX4_init_16 s4 (by decide) rfl inz6 wq126 wq127 wi_X6 (by omega) (newOk (fun j => z2 _ j (by omega)) (fun j => v3 _ j (by omega)) ndX6) ?_
  have z4 := z2.up (n' := q + 5) (by omega)
  have v4 := v3.up (n' := q + 5) (by omega)
  refine y_dup dX4_init_19 rfl ?_
  refine y_callIN (M' := mX6_init) (c0 := q + 4) (m2 := q + 6) (as := []) dX4_init_20 rfl wq128 rfl wq129 wi_X6 wc_X6_init rfl wy_X6_init (by decide) (Nat.le_of_ble_eq_true rfl) (by omega) (by omega) ?_
  refine N_X6 (q := q + 4) s4 s5 z2 v3 ?_
  have z5 : fz (hset (hset (hwd h (q + 2)) (q + 1) 1 (q + 3 : Nat)) (q + 4) 4 (1)) (q + 6) := (fz.set (z2.up (n' := q + 6) (by omega)) (by omega))
  have v5 : fu (uset (uset (uset (uset u (q + 1) 0) (q + 1) 1) q 0) (q + 4) 0) (q + 6) := (fu.set (v3.up (n' := q + 6) (by omega)) (by omega))
  show zB _ _ _ _ _ _ _ (_ :: _) _ _ _ _
  refine y_putR (ty := tyX4 1) tyX4 tyX4_ok nmX4 dX4_init_23 s0 (by omega) (by decide) rfl inz4 (show 1 < 6 by decide) wf_X4_21 rfl rfl (tyX4_ok 1 (by decide)) rfl rfl rfl (by (first | exact z0 _ _ (by omega) | (repeat (first | rw [hset_ne (by omega)] | rw [hwd_o (by omega)])); exact z0 _ _ (by omega))) ?_
  have v6 := v5.set (c := q) (j := 1) (by omega)
  refine y_aload_n dX4_init_26 rfl ?_
  refine y_iconst dX4_init_27 (r32d rfl) ?_
  refine y_put0 (ty := tyX4 2) tyX4 tyX4_ok nmX4 dX4_init_28 s0 (by omega) (by decide) rfl inz4 (show 2 < 6 by decide) wf_X4_25 rfl rfl (tyX4_ok 2 (by decide)) (by decide) (by decide) rfl (by (first | exact z0 _ _ (by omega) | (repeat (first | rw [hset_ne (by omega)] | rw [hwd_o (by omega)])); exact z0 _ _ (by omega))) ?_
  refine y_aload_n dX4_init_31 rfl ?_
  refine y_iconst dX4_init_32 (r32d rfl) ?_
  refine y_putI (x := -1) (ty := tyX4 3) tyX4 tyX4_ok nmX4 dX4_init_33 s0 (by omega) (by decide) rfl inz4 (show 3 < 6 by decide) wf_X4_29 rfl rfl (tyX4_ok 3 (by decide)) (by decide) (by decide) rfl ?_
  have z7 := z5.set (c := q) (j := 3) (x := -1) (by omega)
  refine y_aload_n dX4_init_36 rfl ?_
  refine y_iconst dX4_init_37 (r32d rfl) ?_
  refine y_put0 (ty := tyX4 4) tyX4 tyX4_ok nmX4 dX4_init_38 s0 (by omega) (by decide) rfl inz4 (show 4 < 6 by decide) wf_X4_32 rfl rfl (tyX4_ok 4 (by decide)) (by decide) (by decide) rfl (by (first | exact z0 _ _ (by omega) | (repeat (first | rw [hset_ne (by omega)] | rw [hwd_o (by omega)])); exact z0 _ _ (by omega))) ?_
  refine y_aload_n dX4_init_41 rfl ?_
  refine y_iconst dX4_init_42 (r32d rfl) ?_
  refine y_put0 (ty := tyX4 5) tyX4 tyX4_ok nmX4 dX4_init_43 s0 (by omega) (by decide) rfl inz4 (show 5 < 6 by decide) wf_X4_35 rfl rfl (tyX4_ok 5 (by decide)) (by decide) (by decide) rfl (by (first | exact z0 _ _ (by omega) | (repeat (first | rw [hset_ne (by omega)] | rw [hwd_o (by omega)])); exact z0 _ _ (by omega))) ?_
  exact y_vret dX4_init_46 rfl rfl hK

def ehhX9 (h : zH) : zH := (hset (hset (hset (hset (hset (hset (hset (hset (hset (hset (hset (hset (hset (hset (hset (hset (hwd h 4) 3 1 (5 : Nat)) 6 4 1) 2 3 (-1)) 8 14 4) 8 15 6) 8 16 300) 0 3 (8 : Nat)) 27 14 4) 27 15 6) 27 16 300) 0 4 (27 : Nat)) 0 6 (-1)) 52 11 4) 52 12 6) 64 11 4) 64 12 6)
def euuX9 (u : zU2) : zU2 := (uset (uset (uset (uset (uset (uset (uset (uset (uset (uset (uset (uset (uset (uset (uset (uset (uset (uset (uset (uset (uset (uset (uset (uset (uset (uset (uset (uset (uset (uset (uset (uset (uset (uset (uset (uset (uset (uset (uset (uset (uset (uset (uset (uset (uset (uset (uset (uset (uset (uset (uset (uset (uset (uset (uset (uset (uset (uset (uset (uset (uset (uset (uset (uset (uset (uset (uset (uset (uset (uset (uset (uset (uset (uset (uset (uset (uset (uset (uset (uset u 0 0) 3 0) 3 1) 2 0) 6 0) 2 1) 0 2) 9 0) 8 0) 11 0) 8 1) 13 0) 8 2) 15 0) 8 3) 8 4) 8 5) 8 6) 8 7) 8 8) 22 0) 22 1) 22 2) 22 3) 8 10) 0 3) 28 0) 27 0) 30 0) 27 1) 32 0) 27 2) 34 0) 27 3) 27 4) 27 5) 27 6) 27 7) 27 8) 41 0) 41 1) 41 2) 41 3) 27 10) 0 4) 46 0) 46 1) 46 2) 46 3) 46 4) 0 5) 52 0) 52 1) 52 2) 52 3) 52 4) 52 5) 52 6) 52 7) 52 8) 52 9) 52 10) 0 9) 64 0) 64 1) 64 2) 64 3) 64 4) 64 5) 64 6) 64 7) 64 8) 64 9) 64 10) 0 10) 76 0) 0 11) 78 0) 0 12) 0 13)
theorem N_X9 (hE : isC E)  (z0 : fz h 0) (v0 : fu u 0) (hK : Q [] (ehhX9 h) (euuX9 u)) : zCB E mX9_init (d + 3) 1 81 [zR 0] h u Q := by
  unfold ehhX9 euuX9 at hK
  have z00 := z0.up (n' := 1) (by omega)
  have v00 := v0.up (n' := 1) (by omega)
  refine y_in (L0 := [zR 0]) pn_X9 rfl (Nat.le_of_ble_eq_true rfl) (by omega) ?_
  refine y_aload_n dX9_init_0 rfl ?_
  refine y_obj dX9_init_1 wq29 wob1 wob2 (Nat.le_of_ble_eq_true rfl) ?_
  refine y_aload_n dX9_init_4 rfl ?_
  refine y_sipush dX9_init_5 (r32d rfl) (by decide) ?_
  refine y_newaI (t := 1) (ty := .char) dX9_init_8 rfl wa_char (sC_1 hE) (by decide) rfl (by omega) (by omega) (fun j => z00 _ j (by omega)) ?_
  have z1 := z00.up (n' := 2) (by omega)
  have v1 := v00.up (n' := 2) (by omega)
  refine y_putR (ty := tyX9 0) tyX9 tyX9_ok nmX9 dX9_init_10 (sC_0 hE) (by omega) (by decide) rfl inz9 (show 0 < 14 by decide) wf_X9_9 rfl rfl (tyX9_ok 0 (by decide)) rfl rfl rfl (by (first | exact z0 _ _ (by omega) | (repeat (first | rw [hset_ne (by omega)] | rw [hwd_o (by omega)])); exact z0 _ _ (by omega))) ?_
  have v2 := v1.set (c := 0) (j := 0) (by omega)
  refine y_aload_n dX9_init_13 rfl ?_
  refine y_iconst dX9_init_14 (r32d rfl) ?_
  refine y_put0 (ty := tyX9 1) tyX9 tyX9_ok nmX9 dX9_init_15 (sC_0 hE) (by omega) (by decide) rfl inz9 (show 1 < 14 by decide) wf_X9_13 rfl rfl (tyX9_ok 1 (by decide)) (by decide) (by decide) rfl (by (first | exact z0 _ _ (by omega) | (repeat (first | rw [hset_ne (by omega)] | rw [hwd_o (by omega)])); exact z0 _ _ (by omega))) ?_
  refine y_aload_n dX9_init_18 rfl ?_
  refine y_new tyX4 tyX4_ok dX9_init_19 (sC_2 hE) (by decide) rfl inz4 wq32 wq33 wi_X4 (by omega) (newOk (fun j => z1 _ j (by omega)) (fun j => v2 _ j (by omega)) ndX4) ?_
  have z3 := z1.up (n' := 3) (by omega)
  have v3 := v2.up (n' := 3) (by omega)
  refine y_dup dX9_init_22 rfl ?_
  refine y_callIN (M' := mX4_init) (c0 := 2) (m2 := 8) (as := []) dX9_init_23 rfl wq34 rfl wq35 wi_X4 wc_X4_init rfl wy_X4_init (by decide) (Nat.le_of_ble_eq_true rfl) (by omega) (by omega) ?_
  refine N_X4 (q := 2) (sC_2 hE) (sC_3 hE) (sC_4 hE) (sC_5 hE) (sC_6 hE) (sC_7 hE) (by omega) z1 v2 ?_
  have z4 : fz (hset (hset (hset (hwd h 4) 3 1 (5 : Nat)) 6 4 1) 2 3 (-1)) 8 := (fz.set (fz.set (fz.set (fz.wd (z1.up (n' := 8) (by omega)) (by omega)) (by omega)) (by omega)) (by omega))
  have v4 : fu (uset (uset (uset (uset (uset (uset u 0 0) 3 0) 3 1) 2 0) 6 0) 2 1) 8 := (fu.set (fu.set (fu.set (fu.set (fu.set (v2.up (n' := 8) (by omega)) (by omega)) (by omega)) (by omega)) (by omega)) (by omega))
  show zB _ _ _ _ _ _ _ (_ :: _) _ _ _ _
  refine y_putR (ty := tyX9 2) tyX9 tyX9_ok nmX9 dX9_init_26 (sC_0 hE) (by omega) (by decide) rfl inz9 (show 2 < 14 by decide) wf_X9_20 rfl rfl (tyX9_ok 2 (by decide)) rfl rfl rfl (by (first | exact z0 _ _ (by omega) | (repeat (first | rw [hset_ne (by omega)] | rw [hwd_o (by omega)])); exact z0 _ _ (by omega))) ?_
  have v5 := v4.set (c := 0) (j := 2) (by omega)
  refine y_aload_n dX9_init_29 rfl ?_
  refine y_new tyX8 tyX8_ok dX9_init_30 (sC_8 hE) (by decide) rfl inz8 wq173 wq174 wi_X8 (by omega) (newOk (fun j => z4 _ j (by omega)) (fun j => v5 _ j (by omega)) ndX8) ?_
  have z6 := z4.up (n' := 9) (by omega)
  have v6 := v5.up (n' := 9) (by omega)
  refine y_dup dX9_init_33 rfl ?_
  refine y_callIN (M' := mX8_init) (c0 := 8) (m2 := 27) (as := []) dX9_init_34 rfl wq175 rfl wq176 wi_X8 wc_X8_init rfl wy_X8_init (by decide) (Nat.le_of_ble_eq_true rfl) (by omega) (by omega) ?_
  refine N_X8 (q := 8) (sC_8 hE) (sC_9 hE) (sC_10 hE) (sC_11 hE) (sC_12 hE) (sC_13 hE) (sC_14 hE) (sC_15 hE) (sC_16 hE) (sC_17 hE) (sC_18 hE) (sC_19 hE) (sC_20 hE) (sC_21 hE) (sC_22 hE) (sC_23 hE) (sC_24 hE) (sC_25 hE) (sC_26 hE) z4 v5 ?_
  have z7 : fz (hset (hset (hset (hset (hset (hset (hwd h 4) 3 1 (5 : Nat)) 6 4 1) 2 3 (-1)) 8 14 4) 8 15 6) 8 16 300) 27 := (fz.set (fz.set (fz.set (z4.up (n' := 27) (by omega)) (by omega)) (by omega)) (by omega))
  have v7 : fu (uset (uset (uset (uset (uset (uset (uset (uset (uset (uset (uset (uset (uset (uset (uset (uset (uset (uset (uset (uset (uset (uset (uset (uset (uset u 0 0) 3 0) 3 1) 2 0) 6 0) 2 1) 0 2) 9 0) 8 0) 11 0) 8 1) 13 0) 8 2) 15 0) 8 3) 8 4) 8 5) 8 6) 8 7) 8 8) 22 0) 22 1) 22 2) 22 3) 8 10) 27 := (fu.set (fu.set (fu.set (fu.set (fu.set (fu.set (fu.set (fu.set (fu.set (fu.set (fu.set (fu.set (fu.set (fu.set (fu.set (fu.set (fu.set (fu.set (v5.up (n' := 27) (by omega)) (by omega)) (by omega)) (by omega)) (by omega)) (by omega)) (by omega)) (by omega)) (by omega)) (by omega)) (by omega)) (by omega)) (by omega)) (by omega)) (by omega)) (by omega)) (by omega)) (by omega)) (by omega))
  show zB _ _ _ _ _ _ _ (_ :: _) _ _ _ _
  refine y_putC (x := 8) (ty := tyX9 3) tyX9 tyX9_ok nmX9 dX9_init_37 (sC_0 hE) (by omega) (by decide) rfl inz9 (show 3 < 14 by decide) wf_X9_27 rfl rfl (tyX9_ok 3 (by decide)) rfl rfl rfl (by omega) ?_
  have v8 := v7.set (c := 0) (j := 3) (by omega)
  have z8 := z7.set (c := 0) (j := 3) (x := ((8 : Nat) : Int)) (by omega)
  refine y_aload_n dX9_init_40 rfl ?_
  refine y_new tyX8 tyX8_ok dX9_init_41 (sC_27 hE) (by decide) rfl inz8 wq173 wq174 wi_X8 (by omega) (newOk (fun j => z8 _ j (by omega)) (fun j => v8 _ j (by omega)) ndX8) ?_
  have z9 := z8.up (n' := 28) (by omega)
  have v9 := v8.up (n' := 28) (by omega)
  refine y_dup dX9_init_44 rfl ?_
  refine y_callIN (M' := mX8_init) (c0 := 27) (m2 := 46) (as := []) dX9_init_45 rfl wq175 rfl wq176 wi_X8 wc_X8_init rfl wy_X8_init (by decide) (Nat.le_of_ble_eq_true rfl) (by omega) (by omega) ?_
  refine N_X8 (q := 27) (sC_27 hE) (sC_28 hE) (sC_29 hE) (sC_30 hE) (sC_31 hE) (sC_32 hE) (sC_33 hE) (sC_34 hE) (sC_35 hE) (sC_36 hE) (sC_37 hE) (sC_38 hE) (sC_39 hE) (sC_40 hE) (sC_41 hE) (sC_42 hE) (sC_43 hE) (sC_44 hE) (sC_45 hE) z8 v8 ?_
  have z10 : fz (hset (hset (hset (hset (hset (hset (hset (hset (hset (hset (hwd h 4) 3 1 (5 : Nat)) 6 4 1) 2 3 (-1)) 8 14 4) 8 15 6) 8 16 300) 0 3 (8 : Nat)) 27 14 4) 27 15 6) 27 16 300) 46 := (fz.set (fz.set (fz.set (z8.up (n' := 46) (by omega)) (by omega)) (by omega)) (by omega))
  have v10 : fu (uset (uset (uset (uset (uset (uset (uset (uset (uset (uset (uset (uset (uset (uset (uset (uset (uset (uset (uset (uset (uset (uset (uset (uset (uset (uset (uset (uset (uset (uset (uset (uset (uset (uset (uset (uset (uset (uset (uset (uset (uset (uset (uset (uset u 0 0) 3 0) 3 1) 2 0) 6 0) 2 1) 0 2) 9 0) 8 0) 11 0) 8 1) 13 0) 8 2) 15 0) 8 3) 8 4) 8 5) 8 6) 8 7) 8 8) 22 0) 22 1) 22 2) 22 3) 8 10) 0 3) 28 0) 27 0) 30 0) 27 1) 32 0) 27 2) 34 0) 27 3) 27 4) 27 5) 27 6) 27 7) 27 8) 41 0) 41 1) 41 2) 41 3) 27 10) 46 := (fu.set (fu.set (fu.set (fu.set (fu.set (fu.set (fu.set (fu.set (fu.set (fu.set (fu.set (fu.set (fu.set (fu.set (fu.set (fu.set (fu.set (fu.set (v8.up (n' := 46) (by omega)) (by omega)) (by omega)) (by omega)) (by omega)) (by omega)) (by omega)) (by omega)) (by omega)) (by omega)) (by omega)) (by omega)) (by omega)) (by omega)) (by omega)) (by omega)) (by omega)) (by omega)) (by omega))
  show zB _ _ _ _ _ _ _ (_ :: _) _ _ _ _
  refine y_putC (x := 27) (ty := tyX9 4) tyX9 tyX9_ok nmX9 dX9_init_48 (sC_0 hE) (by omega) (by decide) rfl inz9 (show 4 < 14 by decide) wf_X9_31 rfl rfl (tyX9_ok 4 (by decide)) rfl rfl rfl (by omega) ?_
  have v11 := v10.set (c := 0) (j := 4) (by omega)
  have z11 := z10.set (c := 0) (j := 4) (x := ((27 : Nat) : Int)) (by omega)
  refine y_aload_n dX9_init_51 rfl ?_
  refine y_new tyX3 tyX3_ok dX9_init_52 (sC_46 hE) (by decide) rfl inz3 wq308 wq309 wi_X3 (by omega) (newOk (fun j => z11 _ j (by omega)) (fun j => v11 _ j (by omega)) ndX3) ?_
  have z12 := z11.up (n' := 47) (by omega)
  have v12 := v11.up (n' := 47) (by omega)
  refine y_dup dX9_init_55 rfl ?_
  refine y_callIN (M' := mX3_init) (c0 := 46) (m2 := 52) (as := []) dX9_init_56 rfl wq310 rfl wq311 wi_X3 wc_X3_init rfl wy_X3_init (by decide) (Nat.le_of_ble_eq_true rfl) (by omega) (by omega) ?_
  refine N_X3 (q := 46) (sC_46 hE) (sC_47 hE) (sC_48 hE) (sC_49 hE) (sC_50 hE) (sC_51 hE) z11 v11 ?_
  have z13 : fz (hset (hset (hset (hset (hset (hset (hset (hset (hset (hset (hset (hwd h 4) 3 1 (5 : Nat)) 6 4 1) 2 3 (-1)) 8 14 4) 8 15 6) 8 16 300) 0 3 (8 : Nat)) 27 14 4) 27 15 6) 27 16 300) 0 4 (27 : Nat)) 52 := (z11.up (n' := 52) (by omega))
  have v13 : fu (uset (uset (uset (uset (uset (uset (uset (uset (uset (uset (uset (uset (uset (uset (uset (uset (uset (uset (uset (uset (uset (uset (uset (uset (uset (uset (uset (uset (uset (uset (uset (uset (uset (uset (uset (uset (uset (uset (uset (uset (uset (uset (uset (uset (uset (uset (uset (uset (uset (uset u 0 0) 3 0) 3 1) 2 0) 6 0) 2 1) 0 2) 9 0) 8 0) 11 0) 8 1) 13 0) 8 2) 15 0) 8 3) 8 4) 8 5) 8 6) 8 7) 8 8) 22 0) 22 1) 22 2) 22 3) 8 10) 0 3) 28 0) 27 0) 30 0) 27 1) 32 0) 27 2) 34 0) 27 3) 27 4) 27 5) 27 6) 27 7) 27 8) 41 0) 41 1) 41 2) 41 3) 27 10) 0 4) 46 0) 46 1) 46 2) 46 3) 46 4) 52 := (fu.set (fu.set (fu.set (fu.set (fu.set (v11.up (n' := 52) (by omega)) (by omega)) (by omega)) (by omega)) (by omega)) (by omega))
  show zB _ _ _ _ _ _ _ (_ :: _) _ _ _ _
  refine y_putR (ty := tyX9 5) tyX9 tyX9_ok nmX9 dX9_init_59 (sC_0 hE) (by omega) (by decide) rfl inz9 (show 5 < 14 by decide) wf_X9_37 rfl rfl (tyX9_ok 5 (by decide)) rfl rfl rfl (by (first | exact z0 _ _ (by omega) | (repeat (first | rw [hset_ne (by omega)] | rw [hwd_o (by omega)])); exact z0 _ _ (by omega))) ?_
  have v14 := v13.set (c := 0) (j := 5) (by omega)
  refine y_aload_n dX9_init_62 rfl ?_
  refine y_iconst dX9_init_63 (r32d rfl) ?_
  refine y_putI (x := -1) (ty := tyX9 6) tyX9 tyX9_ok nmX9 dX9_init_64 (sC_0 hE) (by omega) (by decide) rfl inz9 (show 6 < 14 by decide) wf_X9_41 rfl rfl (tyX9_ok 6 (by decide)) (by decide) (by decide) rfl ?_
  have z15 := z13.set (c := 0) (j := 6) (x := -1) (by omega)
  refine y_aload_n dX9_init_67 rfl ?_
  refine y_iconst dX9_init_68 (r32d rfl) ?_
  refine y_put0 (ty := tyX9 7) tyX9 tyX9_ok nmX9 dX9_init_69 (sC_0 hE) (by omega) (by decide) rfl inz9 (show 7 < 14 by decide) wf_X9_44 rfl rfl (tyX9_ok 7 (by decide)) (by decide) (by decide) rfl (by (first | exact z0 _ _ (by omega) | (repeat (first | rw [hset_ne (by omega)] | rw [hwd_o (by omega)])); exact z0 _ _ (by omega))) ?_
  refine y_aload_n dX9_init_72 rfl ?_
  refine y_iconst dX9_init_73 (r32d rfl) ?_
  refine y_put0 (ty := tyX9 8) tyX9 tyX9_ok nmX9 dX9_init_74 (sC_0 hE) (by omega) (by decide) rfl inz9 (show 8 < 14 by decide) wf_X9_47 rfl rfl (tyX9_ok 8 (by decide)) (by decide) (by decide) rfl (by (first | exact z0 _ _ (by omega) | (repeat (first | rw [hset_ne (by omega)] | rw [hwd_o (by omega)])); exact z0 _ _ (by omega))) ?_
  refine y_aload_n dX9_init_77 rfl ?_
  refine y_new tyX0 tyX0_ok dX9_init_78 (sC_52 hE) (by decide) rfl inz0 wq334 wq335 wi_X0 (by omega) (newOk (fun j => z15 _ j (by omega)) (fun j => v14 _ j (by omega)) ndX0) ?_
  have z16 := z15.up (n' := 53) (by omega)
  have v16 := v14.up (n' := 53) (by omega)
  refine y_dup dX9_init_81 rfl ?_
  refine y_callIN (M' := mX0_init) (c0 := 52) (m2 := 64) (as := []) dX9_init_82 rfl wq336 rfl wq337 wi_X0 wc_X0_init rfl wy_X0_init (by decide) (Nat.le_of_ble_eq_true rfl) (by omega) (by omega) ?_
  refine N_X0 (q := 52) (sC_52 hE) (sC_53 hE) (sC_54 hE) (sC_55 hE) (sC_56 hE) (sC_57 hE) (sC_58 hE) (sC_59 hE) (sC_60 hE) (sC_61 hE) (sC_62 hE) (sC_63 hE) z15 v14 ?_
  have z17 : fz (hset (hset (hset (hset (hset (hset (hset (hset (hset (hset (hset (hset (hset (hset (hwd h 4) 3 1 (5 : Nat)) 6 4 1) 2 3 (-1)) 8 14 4) 8 15 6) 8 16 300) 0 3 (8 : Nat)) 27 14 4) 27 15 6) 27 16 300) 0 4 (27 : Nat)) 0 6 (-1)) 52 11 4) 52 12 6) 64 := (fz.set (fz.set (z15.up (n' := 64) (by omega)) (by omega)) (by omega))
  have v17 : fu (uset (uset (uset (uset (uset (uset (uset (uset (uset (uset (uset (uset (uset (uset (uset (uset (uset (uset (uset (uset (uset (uset (uset (uset (uset (uset (uset (uset (uset (uset (uset (uset (uset (uset (uset (uset (uset (uset (uset (uset (uset (uset (uset (uset (uset (uset (uset (uset (uset (uset (uset (uset (uset (uset (uset (uset (uset (uset (uset (uset (uset (uset u 0 0) 3 0) 3 1) 2 0) 6 0) 2 1) 0 2) 9 0) 8 0) 11 0) 8 1) 13 0) 8 2) 15 0) 8 3) 8 4) 8 5) 8 6) 8 7) 8 8) 22 0) 22 1) 22 2) 22 3) 8 10) 0 3) 28 0) 27 0) 30 0) 27 1) 32 0) 27 2) 34 0) 27 3) 27 4) 27 5) 27 6) 27 7) 27 8) 41 0) 41 1) 41 2) 41 3) 27 10) 0 4) 46 0) 46 1) 46 2) 46 3) 46 4) 0 5) 52 0) 52 1) 52 2) 52 3) 52 4) 52 5) 52 6) 52 7) 52 8) 52 9) 52 10) 64 := (fu.set (fu.set (fu.set (fu.set (fu.set (fu.set (fu.set (fu.set (fu.set (fu.set (fu.set (v14.up (n' := 64) (by omega)) (by omega)) (by omega)) (by omega)) (by omega)) (by omega)) (by omega)) (by omega)) (by omega)) (by omega)) (by omega)) (by omega))
  show zB _ _ _ _ _ _ _ (_ :: _) _ _ _ _
  refine y_putR (ty := tyX9 9) tyX9 tyX9_ok nmX9 dX9_init_85 (sC_0 hE) (by omega) (by decide) rfl inz9 (show 9 < 14 by decide) wf_X9_54 rfl rfl (tyX9_ok 9 (by decide)) rfl rfl rfl (by (first | exact z0 _ _ (by omega) | (repeat (first | rw [hset_ne (by omega)] | rw [hwd_o (by omega)])); exact z0 _ _ (by omega))) ?_
  have v18 := v17.set (c := 0) (j := 9) (by omega)
  refine y_aload_n dX9_init_88 rfl ?_
  refine y_new tyX0 tyX0_ok dX9_init_89 (sC_64 hE) (by decide) rfl inz0 wq334 wq335 wi_X0 (by omega) (newOk (fun j => z17 _ j (by omega)) (fun j => v18 _ j (by omega)) ndX0) ?_
  have z19 := z17.up (n' := 65) (by omega)
  have v19 := v18.up (n' := 65) (by omega)
  refine y_dup dX9_init_92 rfl ?_
  refine y_callIN (M' := mX0_init) (c0 := 64) (m2 := 76) (as := []) dX9_init_93 rfl wq336 rfl wq337 wi_X0 wc_X0_init rfl wy_X0_init (by decide) (Nat.le_of_ble_eq_true rfl) (by omega) (by omega) ?_
  refine N_X0 (q := 64) (sC_64 hE) (sC_65 hE) (sC_66 hE) (sC_67 hE) (sC_68 hE) (sC_69 hE) (sC_70 hE) (sC_71 hE) (sC_72 hE) (sC_73 hE) (sC_74 hE) (sC_75 hE) z17 v18 ?_
  have z20 : fz (hset (hset (hset (hset (hset (hset (hset (hset (hset (hset (hset (hset (hset (hset (hset (hset (hwd h 4) 3 1 (5 : Nat)) 6 4 1) 2 3 (-1)) 8 14 4) 8 15 6) 8 16 300) 0 3 (8 : Nat)) 27 14 4) 27 15 6) 27 16 300) 0 4 (27 : Nat)) 0 6 (-1)) 52 11 4) 52 12 6) 64 11 4) 64 12 6) 76 := (fz.set (fz.set (z17.up (n' := 76) (by omega)) (by omega)) (by omega))
  have v20 : fu (uset (uset (uset (uset (uset (uset (uset (uset (uset (uset (uset (uset (uset (uset (uset (uset (uset (uset (uset (uset (uset (uset (uset (uset (uset (uset (uset (uset (uset (uset (uset (uset (uset (uset (uset (uset (uset (uset (uset (uset (uset (uset (uset (uset (uset (uset (uset (uset (uset (uset (uset (uset (uset (uset (uset (uset (uset (uset (uset (uset (uset (uset (uset (uset (uset (uset (uset (uset (uset (uset (uset (uset (uset (uset u 0 0) 3 0) 3 1) 2 0) 6 0) 2 1) 0 2) 9 0) 8 0) 11 0) 8 1) 13 0) 8 2) 15 0) 8 3) 8 4) 8 5) 8 6) 8 7) 8 8) 22 0) 22 1) 22 2) 22 3) 8 10) 0 3) 28 0) 27 0) 30 0) 27 1) 32 0) 27 2) 34 0) 27 3) 27 4) 27 5) 27 6) 27 7) 27 8) 41 0) 41 1) 41 2) 41 3) 27 10) 0 4) 46 0) 46 1) 46 2) 46 3) 46 4) 0 5) 52 0) 52 1) 52 2) 52 3) 52 4) 52 5) 52 6) 52 7) 52 8) 52 9) 52 10) 0 9) 64 0) 64 1) 64 2) 64 3) 64 4) 64 5) 64 6) 64 7) 64 8) 64 9) 64 10) 76 := (fu.set (fu.set (fu.set (fu.set (fu.set (fu.set (fu.set (fu.set (fu.set (fu.set (fu.set (v18.up (n' := 76) (by omega)) (by omega)) (by omega)) (by omega)) (by omega)) (by omega)) (by omega)) (by omega)) (by omega)) (by omega)) (by omega)) (by omega))
  show zB _ _ _ _ _ _ _ (_ :: _) _ _ _ _
  refine y_putR (ty := tyX9 10) tyX9 tyX9_ok nmX9 dX9_init_96 (sC_0 hE) (by omega) (by decide) rfl inz9 (show 10 < 14 by decide) wf_X9_58 rfl rfl (tyX9_ok 10 (by decide)) rfl rfl rfl (by (first | exact z0 _ _ (by omega) | (repeat (first | rw [hset_ne (by omega)] | rw [hwd_o (by omega)])); exact z0 _ _ (by omega))) ?_
  have v21 := v20.set (c := 0) (j := 10) (by omega)
  refine y_aload_n dX9_init_99 rfl ?_
  refine y_new tyX7 tyX7_ok dX9_init_100 (sC_76 hE) (by decide) rfl inz7 wq386 wq387 wi_X7 (by omega) (newOk (fun j => z20 _ j (by omega)) (fun j => v21 _ j (by omega)) ndX7) ?_
  have z22 := z20.up (n' := 77) (by omega)
  have v22 := v21.up (n' := 77) (by omega)
  refine y_dup dX9_init_103 rfl ?_
  refine y_callIN (M' := mX7_init) (c0 := 76) (m2 := 78) (as := []) dX9_init_104 rfl wq388 rfl wq389 wi_X7 wc_X7_init rfl wy_X7_init (by decide) (Nat.le_of_ble_eq_true rfl) (by omega) (by omega) ?_
  refine N_X7 (q := 76) (sC_76 hE) (sC_77 hE) z20 v21 ?_
  have z23 : fz (hset (hset (hset (hset (hset (hset (hset (hset (hset (hset (hset (hset (hset (hset (hset (hset (hwd h 4) 3 1 (5 : Nat)) 6 4 1) 2 3 (-1)) 8 14 4) 8 15 6) 8 16 300) 0 3 (8 : Nat)) 27 14 4) 27 15 6) 27 16 300) 0 4 (27 : Nat)) 0 6 (-1)) 52 11 4) 52 12 6) 64 11 4) 64 12 6) 78 := (z20.up (n' := 78) (by omega))
  have v23 : fu (uset (uset (uset (uset (uset (uset (uset (uset (uset (uset (uset (uset (uset (uset (uset (uset (uset (uset (uset (uset (uset (uset (uset (uset (uset (uset (uset (uset (uset (uset (uset (uset (uset (uset (uset (uset (uset (uset (uset (uset (uset (uset (uset (uset (uset (uset (uset (uset (uset (uset (uset (uset (uset (uset (uset (uset (uset (uset (uset (uset (uset (uset (uset (uset (uset (uset (uset (uset (uset (uset (uset (uset (uset (uset (uset (uset u 0 0) 3 0) 3 1) 2 0) 6 0) 2 1) 0 2) 9 0) 8 0) 11 0) 8 1) 13 0) 8 2) 15 0) 8 3) 8 4) 8 5) 8 6) 8 7) 8 8) 22 0) 22 1) 22 2) 22 3) 8 10) 0 3) 28 0) 27 0) 30 0) 27 1) 32 0) 27 2) 34 0) 27 3) 27 4) 27 5) 27 6) 27 7) 27 8) 41 0) 41 1) 41 2) 41 3) 27 10) 0 4) 46 0) 46 1) 46 2) 46 3) 46 4) 0 5) 52 0) 52 1) 52 2) 52 3) 52 4) 52 5) 52 6) 52 7) 52 8) 52 9) 52 10) 0 9) 64 0) 64 1) 64 2) 64 3) 64 4) 64 5) 64 6) 64 7) 64 8) 64 9) 64 10) 0 10) 76 0) 78 := (fu.set (v21.up (n' := 78) (by omega)) (by omega))
  show zB _ _ _ _ _ _ _ (_ :: _) _ _ _ _
  refine y_putR (ty := tyX9 11) tyX9 tyX9_ok nmX9 dX9_init_107 (sC_0 hE) (by omega) (by decide) rfl inz9 (show 11 < 14 by decide) wf_X9_64 rfl rfl (tyX9_ok 11 (by decide)) rfl rfl rfl (by (first | exact z0 _ _ (by omega) | (repeat (first | rw [hset_ne (by omega)] | rw [hwd_o (by omega)])); exact z0 _ _ (by omega))) ?_
  have v24 := v23.set (c := 0) (j := 11) (by omega)
  refine y_aload_n dX9_init_110 rfl ?_
  refine y_new tyX7 tyX7_ok dX9_init_111 (sC_78 hE) (by decide) rfl inz7 wq386 wq387 wi_X7 (by omega) (newOk (fun j => z23 _ j (by omega)) (fun j => v24 _ j (by omega)) ndX7) ?_
  have z25 := z23.up (n' := 79) (by omega)
  have v25 := v24.up (n' := 79) (by omega)
  refine y_dup dX9_init_114 rfl ?_
  refine y_callIN (M' := mX7_init) (c0 := 78) (m2 := 80) (as := []) dX9_init_115 rfl wq388 rfl wq389 wi_X7 wc_X7_init rfl wy_X7_init (by decide) (Nat.le_of_ble_eq_true rfl) (by omega) (by omega) ?_
  refine N_X7 (q := 78) (sC_78 hE) (sC_79 hE) z23 v24 ?_
  have z26 : fz (hset (hset (hset (hset (hset (hset (hset (hset (hset (hset (hset (hset (hset (hset (hset (hset (hwd h 4) 3 1 (5 : Nat)) 6 4 1) 2 3 (-1)) 8 14 4) 8 15 6) 8 16 300) 0 3 (8 : Nat)) 27 14 4) 27 15 6) 27 16 300) 0 4 (27 : Nat)) 0 6 (-1)) 52 11 4) 52 12 6) 64 11 4) 64 12 6) 80 := (z23.up (n' := 80) (by omega))
  have v26 : fu (uset (uset (uset (uset (uset (uset (uset (uset (uset (uset (uset (uset (uset (uset (uset (uset (uset (uset (uset (uset (uset (uset (uset (uset (uset (uset (uset (uset (uset (uset (uset (uset (uset (uset (uset (uset (uset (uset (uset (uset (uset (uset (uset (uset (uset (uset (uset (uset (uset (uset (uset (uset (uset (uset (uset (uset (uset (uset (uset (uset (uset (uset (uset (uset (uset (uset (uset (uset (uset (uset (uset (uset (uset (uset (uset (uset (uset (uset u 0 0) 3 0) 3 1) 2 0) 6 0) 2 1) 0 2) 9 0) 8 0) 11 0) 8 1) 13 0) 8 2) 15 0) 8 3) 8 4) 8 5) 8 6) 8 7) 8 8) 22 0) 22 1) 22 2) 22 3) 8 10) 0 3) 28 0) 27 0) 30 0) 27 1) 32 0) 27 2) 34 0) 27 3) 27 4) 27 5) 27 6) 27 7) 27 8) 41 0) 41 1) 41 2) 41 3) 27 10) 0 4) 46 0) 46 1) 46 2) 46 3) 46 4) 0 5) 52 0) 52 1) 52 2) 52 3) 52 4) 52 5) 52 6) 52 7) 52 8) 52 9) 52 10) 0 9) 64 0) 64 1) 64 2) 64 3) 64 4) 64 5) 64 6) 64 7) 64 8) 64 9) 64 10) 0 10) 76 0) 0 11) 78 0) 80 := (fu.set (v24.up (n' := 80) (by omega)) (by omega))
  show zB _ _ _ _ _ _ _ (_ :: _) _ _ _ _
  refine y_putR (ty := tyX9 12) tyX9 tyX9_ok nmX9 dX9_init_118 (sC_0 hE) (by omega) (by decide) rfl inz9 (show 12 < 14 by decide) wf_X9_68 rfl rfl (tyX9_ok 12 (by decide)) rfl rfl rfl (by (first | exact z0 _ _ (by omega) | (repeat (first | rw [hset_ne (by omega)] | rw [hwd_o (by omega)])); exact z0 _ _ (by omega))) ?_
  have v27 := v26.set (c := 0) (j := 12) (by omega)
  refine y_aload_n dX9_init_121 rfl ?_
  refine y_bipush dX9_init_122 (r32d rfl) (by decide) ?_
  refine y_newaI (t := 3) (ty := .long) dX9_init_124 rfl wa_long (sC_80 hE) (by decide) rfl (by omega) (by omega) (fun j => z26 _ j (by omega)) ?_
  have z28 := z26.up (n' := 81) (by omega)
  have v28 := v27.up (n' := 81) (by omega)
  refine y_putR (ty := tyX9 13) tyX9 tyX9_ok nmX9 dX9_init_126 (sC_0 hE) (by omega) (by decide) rfl inz9 (show 13 < 14 by decide) wf_X9_71 rfl rfl (tyX9_ok 13 (by decide)) rfl rfl rfl (by (first | exact z0 _ _ (by omega) | (repeat (first | rw [hset_ne (by omega)] | rw [hwd_o (by omega)])); exact z0 _ _ (by omega))) ?_
  have v29 := v28.set (c := 0) (j := 13) (by omega)
  exact y_vret dX9_init_129 rfl rfl hK

def ehhX10 (h : zH) : zH := (hset (hset (hset (hset (hset h 0 29 (4)) 0 30 (6)) 0 31 (300)) 0 52 (-1)) 0 55 (-1))
def euuX10 (u : zU2) : zU2 := (uset (uset (uset (uset (uset (uset (uset (uset (uset (uset (uset (uset (uset (uset (uset (uset (uset (uset (uset (uset (uset (uset (uset (uset (uset (uset (uset (uset (uset (uset (uset (uset (uset (uset (uset (uset (uset (uset (uset (uset (uset u 0 1) 0 3) 0 4) 0 5) 0 6) 0 7) 0 8) 0 9) 0 10) 0 11) 0 12) 0 13) 0 14) 0 15) 0 16) 0 17) 0 18) 0 19) 0 20) 0 21) 0 22) 0 58) 0 59) 0 60) 0 61) 0 62) 0 63) 0 64) 0 65) 0 66) 0 67) 0 69) 0 75) 0 76) 0 77) 0 78) 0 79) 0 80) 0 82) 0 83) 0 85)
theorem N_X10 (hE : isR E)  (z0 : fz h 0) (v0 : fu u 0) (hK : Q [] (ehhX10 h) (euuX10 u)) : zCB E mX10_init d 1 42 [zR 0] h u Q := by
  unfold ehhX10 euuX10 at hK
  have z00 := z0.up (n' := 1) (by omega)
  have v00 := v0.up (n' := 1) (by omega)
  refine y_in (L0 := [zR 0]) pn_X10 rfl (Nat.le_of_ble_eq_true rfl) (by omega) ?_
  refine y_aload_n dX10_init_0 rfl ?_
  refine y_obj dX10_init_1 wq1049 wob1 wob2 (Nat.le_of_ble_eq_true rfl) ?_
  refine y_aload_n dX10_init_4 rfl ?_
  refine y_sipush dX10_init_5 (r32d rfl) (by decide) ?_
  refine y_newaI (t := 0) (ty := .int) dX10_init_8 rfl wa_int (sR_1 hE) (by decide) rfl (by omega) (by omega) (fun j => z00 _ j (by omega)) ?_
  have z1 := z00.up (n' := 2) (by omega)
  have v1 := v00.up (n' := 2) (by omega)
  refine y_putR (ty := tyX10 1) tyX10 tyX10_ok nmX10 dX10_init_10 (sR_0 hE) (by omega) (by decide) rfl inz10 (show 1 < 86 by decide) wf_X10_9 rfl rfl (tyX10_ok 1 (by decide)) rfl rfl rfl (by (first | exact z0 _ _ (by omega) | (repeat (first | rw [hset_ne (by omega)] | rw [hwd_o (by omega)])); exact z0 _ _ (by omega))) ?_
  have v2 := v1.set (c := 0) (j := 1) (by omega)
  refine y_aload_n dX10_init_13 rfl ?_
  refine y_bipush dX10_init_14 (r32d rfl) (by decide) ?_
  refine y_newaI (t := 0) (ty := .int) dX10_init_16 rfl wa_int (sR_2 hE) (by decide) rfl (by omega) (by omega) (fun j => z1 _ j (by omega)) ?_
  have z3 := z1.up (n' := 3) (by omega)
  have v3 := v2.up (n' := 3) (by omega)
  refine y_putR (ty := tyX10 3) tyX10 tyX10_ok nmX10 dX10_init_18 (sR_0 hE) (by omega) (by decide) rfl inz10 (show 3 < 86 by decide) wf_X10_15 rfl rfl (tyX10_ok 3 (by decide)) rfl rfl rfl (by (first | exact z0 _ _ (by omega) | (repeat (first | rw [hset_ne (by omega)] | rw [hwd_o (by omega)])); exact z0 _ _ (by omega))) ?_
  have v4 := v3.set (c := 0) (j := 3) (by omega)
  refine y_aload_n dX10_init_21 rfl ?_
  refine y_bipush dX10_init_22 (r32d rfl) (by decide) ?_
  refine y_newaI (t := 0) (ty := .int) dX10_init_24 rfl wa_int (sR_3 hE) (by decide) rfl (by omega) (by omega) (fun j => z3 _ j (by omega)) ?_
  have z5 := z3.up (n' := 4) (by omega)
  have v5 := v4.up (n' := 4) (by omega)
  refine y_putR (ty := tyX10 4) tyX10 tyX10_ok nmX10 dX10_init_26 (sR_0 hE) (by omega) (by decide) rfl inz10 (show 4 < 86 by decide) wf_X10_18 rfl rfl (tyX10_ok 4 (by decide)) rfl rfl rfl (by (first | exact z0 _ _ (by omega) | (repeat (first | rw [hset_ne (by omega)] | rw [hwd_o (by omega)])); exact z0 _ _ (by omega))) ?_
  have v6 := v5.set (c := 0) (j := 4) (by omega)
  refine y_aload_n dX10_init_29 rfl ?_
  refine y_bipush dX10_init_30 (r32d rfl) (by decide) ?_
  refine y_newaI (t := 0) (ty := .int) dX10_init_32 rfl wa_int (sR_4 hE) (by decide) rfl (by omega) (by omega) (fun j => z5 _ j (by omega)) ?_
  have z7 := z5.up (n' := 5) (by omega)
  have v7 := v6.up (n' := 5) (by omega)
  refine y_putR (ty := tyX10 5) tyX10 tyX10_ok nmX10 dX10_init_34 (sR_0 hE) (by omega) (by decide) rfl inz10 (show 5 < 86 by decide) wf_X10_21 rfl rfl (tyX10_ok 5 (by decide)) rfl rfl rfl (by (first | exact z0 _ _ (by omega) | (repeat (first | rw [hset_ne (by omega)] | rw [hwd_o (by omega)])); exact z0 _ _ (by omega))) ?_
  have v8 := v7.set (c := 0) (j := 5) (by omega)
  refine y_aload_n dX10_init_37 rfl ?_
  refine y_bipush dX10_init_38 (r32d rfl) (by decide) ?_
  refine y_newaI (t := 0) (ty := .int) dX10_init_40 rfl wa_int (sR_5 hE) (by decide) rfl (by omega) (by omega) (fun j => z7 _ j (by omega)) ?_
  have z9 := z7.up (n' := 6) (by omega)
  have v9 := v8.up (n' := 6) (by omega)
  refine y_putR (ty := tyX10 6) tyX10 tyX10_ok nmX10 dX10_init_42 (sR_0 hE) (by omega) (by decide) rfl inz10 (show 6 < 86 by decide) wf_X10_24 rfl rfl (tyX10_ok 6 (by decide)) rfl rfl rfl (by (first | exact z0 _ _ (by omega) | (repeat (first | rw [hset_ne (by omega)] | rw [hwd_o (by omega)])); exact z0 _ _ (by omega))) ?_
  have v10 := v9.set (c := 0) (j := 6) (by omega)
  refine y_aload_n dX10_init_45 rfl ?_
  refine y_sipush dX10_init_46 (r32d rfl) (by decide) ?_
  refine y_newaI (t := 0) (ty := .int) dX10_init_49 rfl wa_int (sR_6 hE) (by decide) rfl (by omega) (by omega) (fun j => z9 _ j (by omega)) ?_
  have z11 := z9.up (n' := 7) (by omega)
  have v11 := v10.up (n' := 7) (by omega)
  refine y_putR (ty := tyX10 7) tyX10 tyX10_ok nmX10 dX10_init_51 (sR_0 hE) (by omega) (by decide) rfl inz10 (show 7 < 86 by decide) wf_X10_27 rfl rfl (tyX10_ok 7 (by decide)) rfl rfl rfl (by (first | exact z0 _ _ (by omega) | (repeat (first | rw [hset_ne (by omega)] | rw [hwd_o (by omega)])); exact z0 _ _ (by omega))) ?_
  have v12 := v11.set (c := 0) (j := 7) (by omega)
  refine y_aload_n dX10_init_54 rfl ?_
  refine y_sipush dX10_init_55 (r32d rfl) (by decide) ?_
  refine y_newaI (t := 0) (ty := .int) dX10_init_58 rfl wa_int (sR_7 hE) (by decide) rfl (by omega) (by omega) (fun j => z11 _ j (by omega)) ?_
  have z13 := z11.up (n' := 8) (by omega)
  have v13 := v12.up (n' := 8) (by omega)
  refine y_putR (ty := tyX10 8) tyX10 tyX10_ok nmX10 dX10_init_60 (sR_0 hE) (by omega) (by decide) rfl inz10 (show 8 < 86 by decide) wf_X10_30 rfl rfl (tyX10_ok 8 (by decide)) rfl rfl rfl (by (first | exact z0 _ _ (by omega) | (repeat (first | rw [hset_ne (by omega)] | rw [hwd_o (by omega)])); exact z0 _ _ (by omega))) ?_
  have v14 := v13.set (c := 0) (j := 8) (by omega)
  refine y_aload_n dX10_init_63 rfl ?_
  refine y_sipush dX10_init_64 (r32d rfl) (by decide) ?_
  refine y_newaI (t := 0) (ty := .int) dX10_init_67 rfl wa_int (sR_8 hE) (by decide) rfl (by omega) (by omega) (fun j => z13 _ j (by omega)) ?_
  have z15 := z13.up (n' := 9) (by omega)
  have v15 := v14.up (n' := 9) (by omega)
  refine y_putR (ty := tyX10 9) tyX10 tyX10_ok nmX10 dX10_init_69 (sR_0 hE) (by omega) (by decide) rfl inz10 (show 9 < 86 by decide) wf_X10_33 rfl rfl (tyX10_ok 9 (by decide)) rfl rfl rfl (by (first | exact z0 _ _ (by omega) | (repeat (first | rw [hset_ne (by omega)] | rw [hwd_o (by omega)])); exact z0 _ _ (by omega))) ?_
  have v16 := v15.set (c := 0) (j := 9) (by omega)
  refine y_aload_n dX10_init_72 rfl ?_
  refine y_sipush dX10_init_73 (r32d rfl) (by decide) ?_
  refine y_newaI (t := 0) (ty := .int) dX10_init_76 rfl wa_int (sR_9 hE) (by decide) rfl (by omega) (by omega) (fun j => z15 _ j (by omega)) ?_
  have z17 := z15.up (n' := 10) (by omega)
  have v17 := v16.up (n' := 10) (by omega)
  refine y_putR (ty := tyX10 10) tyX10 tyX10_ok nmX10 dX10_init_78 (sR_0 hE) (by omega) (by decide) rfl inz10 (show 10 < 86 by decide) wf_X10_36 rfl rfl (tyX10_ok 10 (by decide)) rfl rfl rfl (by (first | exact z0 _ _ (by omega) | (repeat (first | rw [hset_ne (by omega)] | rw [hwd_o (by omega)])); exact z0 _ _ (by omega))) ?_
  have v18 := v17.set (c := 0) (j := 10) (by omega)
  refine y_aload_n dX10_init_81 rfl ?_
  refine y_sipush dX10_init_82 (r32d rfl) (by decide) ?_
  refine y_newaI (t := 2) (ty := .boolean) dX10_init_85 rfl wa_boolean (sR_10 hE) (by decide) rfl (by omega) (by omega) (fun j => z17 _ j (by omega)) ?_
  have z19 := z17.up (n' := 11) (by omega)
  have v19 := v18.up (n' := 11) (by omega)
  refine y_putR (ty := tyX10 11) tyX10 tyX10_ok nmX10 dX10_init_87 (sR_0 hE) (by omega) (by decide) rfl inz10 (show 11 < 86 by decide) wf_X10_39 rfl rfl (tyX10_ok 11 (by decide)) rfl rfl rfl (by (first | exact z0 _ _ (by omega) | (repeat (first | rw [hset_ne (by omega)] | rw [hwd_o (by omega)])); exact z0 _ _ (by omega))) ?_
  have v20 := v19.set (c := 0) (j := 11) (by omega)
  refine y_aload_n dX10_init_90 rfl ?_
  refine y_sipush dX10_init_91 (r32d rfl) (by decide) ?_
  refine y_newaI (t := 2) (ty := .boolean) dX10_init_94 rfl wa_boolean (sR_11 hE) (by decide) rfl (by omega) (by omega) (fun j => z19 _ j (by omega)) ?_
  have z21 := z19.up (n' := 12) (by omega)
  have v21 := v20.up (n' := 12) (by omega)
  refine y_putR (ty := tyX10 12) tyX10 tyX10_ok nmX10 dX10_init_96 (sR_0 hE) (by omega) (by decide) rfl inz10 (show 12 < 86 by decide) wf_X10_43 rfl rfl (tyX10_ok 12 (by decide)) rfl rfl rfl (by (first | exact z0 _ _ (by omega) | (repeat (first | rw [hset_ne (by omega)] | rw [hwd_o (by omega)])); exact z0 _ _ (by omega))) ?_
  have v22 := v21.set (c := 0) (j := 12) (by omega)
  refine y_aload_n dX10_init_99 rfl ?_
  refine y_bipush dX10_init_100 (r32d rfl) (by decide) ?_
  refine y_newaI (t := 0) (ty := .int) dX10_init_102 rfl wa_int (sR_12 hE) (by decide) rfl (by omega) (by omega) (fun j => z21 _ j (by omega)) ?_
  have z23 := z21.up (n' := 13) (by omega)
  have v23 := v22.up (n' := 13) (by omega)
  refine y_putR (ty := tyX10 13) tyX10 tyX10_ok nmX10 dX10_init_104 (sR_0 hE) (by omega) (by decide) rfl inz10 (show 13 < 86 by decide) wf_X10_46 rfl rfl (tyX10_ok 13 (by decide)) rfl rfl rfl (by (first | exact z0 _ _ (by omega) | (repeat (first | rw [hset_ne (by omega)] | rw [hwd_o (by omega)])); exact z0 _ _ (by omega))) ?_
  have v24 := v23.set (c := 0) (j := 13) (by omega)
  refine y_aload_n dX10_init_107 rfl ?_
  refine y_bipush dX10_init_108 (r32d rfl) (by decide) ?_
  refine y_newaI (t := 0) (ty := .int) dX10_init_110 rfl wa_int (sR_13 hE) (by decide) rfl (by omega) (by omega) (fun j => z23 _ j (by omega)) ?_
  have z25 := z23.up (n' := 14) (by omega)
  have v25 := v24.up (n' := 14) (by omega)
  refine y_putR (ty := tyX10 14) tyX10 tyX10_ok nmX10 dX10_init_112 (sR_0 hE) (by omega) (by decide) rfl inz10 (show 14 < 86 by decide) wf_X10_49 rfl rfl (tyX10_ok 14 (by decide)) rfl rfl rfl (by (first | exact z0 _ _ (by omega) | (repeat (first | rw [hset_ne (by omega)] | rw [hwd_o (by omega)])); exact z0 _ _ (by omega))) ?_
  have v26 := v25.set (c := 0) (j := 14) (by omega)
  refine y_aload_n dX10_init_115 rfl ?_
  refine y_bipush dX10_init_116 (r32d rfl) (by decide) ?_
  refine y_newaI (t := 0) (ty := .int) dX10_init_118 rfl wa_int (sR_14 hE) (by decide) rfl (by omega) (by omega) (fun j => z25 _ j (by omega)) ?_
  have z27 := z25.up (n' := 15) (by omega)
  have v27 := v26.up (n' := 15) (by omega)
  refine y_putR (ty := tyX10 15) tyX10 tyX10_ok nmX10 dX10_init_120 (sR_0 hE) (by omega) (by decide) rfl inz10 (show 15 < 86 by decide) wf_X10_52 rfl rfl (tyX10_ok 15 (by decide)) rfl rfl rfl (by (first | exact z0 _ _ (by omega) | (repeat (first | rw [hset_ne (by omega)] | rw [hwd_o (by omega)])); exact z0 _ _ (by omega))) ?_
  have v28 := v27.set (c := 0) (j := 15) (by omega)
  refine y_aload_n dX10_init_123 rfl ?_
  refine y_bipush dX10_init_124 (r32d rfl) (by decide) ?_
  refine y_newaI (t := 0) (ty := .int) dX10_init_126 rfl wa_int (sR_15 hE) (by decide) rfl (by omega) (by omega) (fun j => z27 _ j (by omega)) ?_
  have z29 := z27.up (n' := 16) (by omega)
  have v29 := v28.up (n' := 16) (by omega)
  refine y_putR (ty := tyX10 16) tyX10 tyX10_ok nmX10 dX10_init_128 (sR_0 hE) (by omega) (by decide) rfl inz10 (show 16 < 86 by decide) wf_X10_55 rfl rfl (tyX10_ok 16 (by decide)) rfl rfl rfl (by (first | exact z0 _ _ (by omega) | (repeat (first | rw [hset_ne (by omega)] | rw [hwd_o (by omega)])); exact z0 _ _ (by omega))) ?_
  have v30 := v29.set (c := 0) (j := 16) (by omega)
  refine y_aload_n dX10_init_131 rfl ?_
  refine y_bipush dX10_init_132 (r32d rfl) (by decide) ?_
  refine y_newaI (t := 0) (ty := .int) dX10_init_134 rfl wa_int (sR_16 hE) (by decide) rfl (by omega) (by omega) (fun j => z29 _ j (by omega)) ?_
  have z31 := z29.up (n' := 17) (by omega)
  have v31 := v30.up (n' := 17) (by omega)
  refine y_putR (ty := tyX10 17) tyX10 tyX10_ok nmX10 dX10_init_136 (sR_0 hE) (by omega) (by decide) rfl inz10 (show 17 < 86 by decide) wf_X10_58 rfl rfl (tyX10_ok 17 (by decide)) rfl rfl rfl (by (first | exact z0 _ _ (by omega) | (repeat (first | rw [hset_ne (by omega)] | rw [hwd_o (by omega)])); exact z0 _ _ (by omega))) ?_
  have v32 := v31.set (c := 0) (j := 17) (by omega)
  refine y_aload_n dX10_init_139 rfl ?_
  refine y_bipush dX10_init_140 (r32d rfl) (by decide) ?_
  refine y_newaI (t := 0) (ty := .int) dX10_init_142 rfl wa_int (sR_17 hE) (by decide) rfl (by omega) (by omega) (fun j => z31 _ j (by omega)) ?_
  have z33 := z31.up (n' := 18) (by omega)
  have v33 := v32.up (n' := 18) (by omega)
  refine y_putR (ty := tyX10 18) tyX10 tyX10_ok nmX10 dX10_init_144 (sR_0 hE) (by omega) (by decide) rfl inz10 (show 18 < 86 by decide) wf_X10_61 rfl rfl (tyX10_ok 18 (by decide)) rfl rfl rfl (by (first | exact z0 _ _ (by omega) | (repeat (first | rw [hset_ne (by omega)] | rw [hwd_o (by omega)])); exact z0 _ _ (by omega))) ?_
  have v34 := v33.set (c := 0) (j := 18) (by omega)
  refine y_aload_n dX10_init_147 rfl ?_
  refine y_bipush dX10_init_148 (r32d rfl) (by decide) ?_
  refine y_newaI (t := 0) (ty := .int) dX10_init_150 rfl wa_int (sR_18 hE) (by decide) rfl (by omega) (by omega) (fun j => z33 _ j (by omega)) ?_
  have z35 := z33.up (n' := 19) (by omega)
  have v35 := v34.up (n' := 19) (by omega)
  refine y_putR (ty := tyX10 19) tyX10 tyX10_ok nmX10 dX10_init_152 (sR_0 hE) (by omega) (by decide) rfl inz10 (show 19 < 86 by decide) wf_X10_64 rfl rfl (tyX10_ok 19 (by decide)) rfl rfl rfl (by (first | exact z0 _ _ (by omega) | (repeat (first | rw [hset_ne (by omega)] | rw [hwd_o (by omega)])); exact z0 _ _ (by omega))) ?_
  have v36 := v35.set (c := 0) (j := 19) (by omega)
  refine y_aload_n dX10_init_155 rfl ?_
  refine y_bipush dX10_init_156 (r32d rfl) (by decide) ?_
  refine y_newaI (t := 2) (ty := .boolean) dX10_init_158 rfl wa_boolean (sR_19 hE) (by decide) rfl (by omega) (by omega) (fun j => z35 _ j (by omega)) ?_
  have z37 := z35.up (n' := 20) (by omega)
  have v37 := v36.up (n' := 20) (by omega)
  refine y_putR (ty := tyX10 20) tyX10 tyX10_ok nmX10 dX10_init_160 (sR_0 hE) (by omega) (by decide) rfl inz10 (show 20 < 86 by decide) wf_X10_67 rfl rfl (tyX10_ok 20 (by decide)) rfl rfl rfl (by (first | exact z0 _ _ (by omega) | (repeat (first | rw [hset_ne (by omega)] | rw [hwd_o (by omega)])); exact z0 _ _ (by omega))) ?_
  have v38 := v37.set (c := 0) (j := 20) (by omega)
  refine y_aload_n dX10_init_163 rfl ?_
  refine y_sipush dX10_init_164 (r32d rfl) (by decide) ?_
  refine y_newaI (t := 0) (ty := .int) dX10_init_167 rfl wa_int (sR_20 hE) (by decide) rfl (by omega) (by omega) (fun j => z37 _ j (by omega)) ?_
  have z39 := z37.up (n' := 21) (by omega)
  have v39 := v38.up (n' := 21) (by omega)
  refine y_putR (ty := tyX10 21) tyX10 tyX10_ok nmX10 dX10_init_169 (sR_0 hE) (by omega) (by decide) rfl inz10 (show 21 < 86 by decide) wf_X10_70 rfl rfl (tyX10_ok 21 (by decide)) rfl rfl rfl (by (first | exact z0 _ _ (by omega) | (repeat (first | rw [hset_ne (by omega)] | rw [hwd_o (by omega)])); exact z0 _ _ (by omega))) ?_
  have v40 := v39.set (c := 0) (j := 21) (by omega)
  refine y_aload_n dX10_init_172 rfl ?_
  refine y_sipush dX10_init_173 (r32d rfl) (by decide) ?_
  refine y_newaI (t := 0) (ty := .int) dX10_init_176 rfl wa_int (sR_21 hE) (by decide) rfl (by omega) (by omega) (fun j => z39 _ j (by omega)) ?_
  have z41 := z39.up (n' := 22) (by omega)
  have v41 := v40.up (n' := 22) (by omega)
  refine y_putR (ty := tyX10 22) tyX10 tyX10_ok nmX10 dX10_init_178 (sR_0 hE) (by omega) (by decide) rfl inz10 (show 22 < 86 by decide) wf_X10_73 rfl rfl (tyX10_ok 22 (by decide)) rfl rfl rfl (by (first | exact z0 _ _ (by omega) | (repeat (first | rw [hset_ne (by omega)] | rw [hwd_o (by omega)])); exact z0 _ _ (by omega))) ?_
  have v42 := v41.set (c := 0) (j := 22) (by omega)
  refine y_aload_n dX10_init_181 rfl ?_
  refine y_iconst dX10_init_182 (r32d rfl) ?_
  refine y_putI (x := 4) (ty := tyX10 29) tyX10 tyX10_ok nmX10 dX10_init_183 (sR_0 hE) (by omega) (by decide) rfl inz10 (show 29 < 86 by decide) wf_X10_76 rfl rfl (tyX10_ok 29 (by decide)) (by decide) (by decide) rfl ?_
  have z43 := z41.set (c := 0) (j := 29) (x := 4) (by omega)
  refine y_aload_n dX10_init_186 rfl ?_
  refine y_bipush dX10_init_187 (r32d rfl) (by decide) ?_
  refine y_putI (x := 6) (ty := tyX10 30) tyX10 tyX10_ok nmX10 dX10_init_189 (sR_0 hE) (by omega) (by decide) rfl inz10 (show 30 < 86 by decide) wf_X10_80 rfl rfl (tyX10_ok 30 (by decide)) (by decide) (by decide) rfl ?_
  have z44 := z43.set (c := 0) (j := 30) (x := 6) (by omega)
  refine y_aload_n dX10_init_192 rfl ?_
  refine y_sipush dX10_init_193 (r32d rfl) (by decide) ?_
  refine y_putI (x := 300) (ty := tyX10 31) tyX10 tyX10_ok nmX10 dX10_init_196 (sR_0 hE) (by omega) (by decide) rfl inz10 (show 31 < 86 by decide) wf_X10_83 rfl rfl (tyX10_ok 31 (by decide)) (by decide) (by decide) rfl ?_
  have z45 := z44.set (c := 0) (j := 31) (x := 300) (by omega)
  refine y_aload_n dX10_init_199 rfl ?_
  refine y_iconst dX10_init_200 (r32d rfl) ?_
  refine y_putI (x := -1) (ty := tyX10 52) tyX10 tyX10_ok nmX10 dX10_init_201 (sR_0 hE) (by omega) (by decide) rfl inz10 (show 52 < 86 by decide) wf_X10_86 rfl rfl (tyX10_ok 52 (by decide)) (by decide) (by decide) rfl ?_
  have z46 := z45.set (c := 0) (j := 52) (x := -1) (by omega)
  refine y_aload_n dX10_init_204 rfl ?_
  refine y_iconst dX10_init_205 (r32d rfl) ?_
  refine y_putI (x := -1) (ty := tyX10 55) tyX10 tyX10_ok nmX10 dX10_init_206 (sR_0 hE) (by omega) (by decide) rfl inz10 (show 55 < 86 by decide) wf_X10_89 rfl rfl (tyX10_ok 55 (by decide)) (by decide) (by decide) rfl ?_
  have z47 := z46.set (c := 0) (j := 55) (x := -1) (by omega)
  refine y_aload_n dX10_init_209 rfl ?_
  refine y_bipush dX10_init_210 (r32d rfl) (by decide) ?_
  refine y_newaI (t := 0) (ty := .int) dX10_init_212 rfl wa_int (sR_22 hE) (by decide) rfl (by omega) (by omega) (fun j => z47 _ j (by omega)) ?_
  have z48 := z47.up (n' := 23) (by omega)
  have v48 := v42.up (n' := 23) (by omega)
  refine y_putR (ty := tyX10 58) tyX10 tyX10_ok nmX10 dX10_init_214 (sR_0 hE) (by omega) (by decide) rfl inz10 (show 58 < 86 by decide) wf_X10_92 rfl rfl (tyX10_ok 58 (by decide)) rfl rfl rfl (by (first | exact z0 _ _ (by omega) | (repeat (first | rw [hset_ne (by omega)] | rw [hwd_o (by omega)])); exact z0 _ _ (by omega))) ?_
  have v49 := v48.set (c := 0) (j := 58) (by omega)
  refine y_aload_n dX10_init_217 rfl ?_
  refine y_bipush dX10_init_218 (r32d rfl) (by decide) ?_
  refine y_newaI (t := 0) (ty := .int) dX10_init_220 rfl wa_int (sR_23 hE) (by decide) rfl (by omega) (by omega) (fun j => z48 _ j (by omega)) ?_
  have z50 := z48.up (n' := 24) (by omega)
  have v50 := v49.up (n' := 24) (by omega)
  refine y_putR (ty := tyX10 59) tyX10 tyX10_ok nmX10 dX10_init_222 (sR_0 hE) (by omega) (by decide) rfl inz10 (show 59 < 86 by decide) wf_X10_95 rfl rfl (tyX10_ok 59 (by decide)) rfl rfl rfl (by (first | exact z0 _ _ (by omega) | (repeat (first | rw [hset_ne (by omega)] | rw [hwd_o (by omega)])); exact z0 _ _ (by omega))) ?_
  have v51 := v50.set (c := 0) (j := 59) (by omega)
  refine y_aload_n dX10_init_225 rfl ?_
  refine y_bipush dX10_init_226 (r32d rfl) (by decide) ?_
  refine y_newaI (t := 0) (ty := .int) dX10_init_228 rfl wa_int (sR_24 hE) (by decide) rfl (by omega) (by omega) (fun j => z50 _ j (by omega)) ?_
  have z52 := z50.up (n' := 25) (by omega)
  have v52 := v51.up (n' := 25) (by omega)
  refine y_putR (ty := tyX10 60) tyX10 tyX10_ok nmX10 dX10_init_230 (sR_0 hE) (by omega) (by decide) rfl inz10 (show 60 < 86 by decide) wf_X10_98 rfl rfl (tyX10_ok 60 (by decide)) rfl rfl rfl (by (first | exact z0 _ _ (by omega) | (repeat (first | rw [hset_ne (by omega)] | rw [hwd_o (by omega)])); exact z0 _ _ (by omega))) ?_
  have v53 := v52.set (c := 0) (j := 60) (by omega)
  refine y_aload_n dX10_init_233 rfl ?_
  refine y_bipush dX10_init_234 (r32d rfl) (by decide) ?_
  refine y_newaI (t := 0) (ty := .int) dX10_init_236 rfl wa_int (sR_25 hE) (by decide) rfl (by omega) (by omega) (fun j => z52 _ j (by omega)) ?_
  have z54 := z52.up (n' := 26) (by omega)
  have v54 := v53.up (n' := 26) (by omega)
  refine y_putR (ty := tyX10 61) tyX10 tyX10_ok nmX10 dX10_init_238 (sR_0 hE) (by omega) (by decide) rfl inz10 (show 61 < 86 by decide) wf_X10_101 rfl rfl (tyX10_ok 61 (by decide)) rfl rfl rfl (by (first | exact z0 _ _ (by omega) | (repeat (first | rw [hset_ne (by omega)] | rw [hwd_o (by omega)])); exact z0 _ _ (by omega))) ?_
  have v55 := v54.set (c := 0) (j := 61) (by omega)
  refine y_aload_n dX10_init_241 rfl ?_
  refine y_bipush dX10_init_242 (r32d rfl) (by decide) ?_
  refine y_newaI (t := 2) (ty := .boolean) dX10_init_244 rfl wa_boolean (sR_26 hE) (by decide) rfl (by omega) (by omega) (fun j => z54 _ j (by omega)) ?_
  have z56 := z54.up (n' := 27) (by omega)
  have v56 := v55.up (n' := 27) (by omega)
  refine y_putR (ty := tyX10 62) tyX10 tyX10_ok nmX10 dX10_init_246 (sR_0 hE) (by omega) (by decide) rfl inz10 (show 62 < 86 by decide) wf_X10_104 rfl rfl (tyX10_ok 62 (by decide)) rfl rfl rfl (by (first | exact z0 _ _ (by omega) | (repeat (first | rw [hset_ne (by omega)] | rw [hwd_o (by omega)])); exact z0 _ _ (by omega))) ?_
  have v57 := v56.set (c := 0) (j := 62) (by omega)
  refine y_aload_n dX10_init_249 rfl ?_
  refine y_bipush dX10_init_250 (r32d rfl) (by decide) ?_
  refine y_newaI (t := 0) (ty := .int) dX10_init_252 rfl wa_int (sR_27 hE) (by decide) rfl (by omega) (by omega) (fun j => z56 _ j (by omega)) ?_
  have z58 := z56.up (n' := 28) (by omega)
  have v58 := v57.up (n' := 28) (by omega)
  refine y_putR (ty := tyX10 63) tyX10 tyX10_ok nmX10 dX10_init_254 (sR_0 hE) (by omega) (by decide) rfl inz10 (show 63 < 86 by decide) wf_X10_107 rfl rfl (tyX10_ok 63 (by decide)) rfl rfl rfl (by (first | exact z0 _ _ (by omega) | (repeat (first | rw [hset_ne (by omega)] | rw [hwd_o (by omega)])); exact z0 _ _ (by omega))) ?_
  have v59 := v58.set (c := 0) (j := 63) (by omega)
  refine y_aload_n dX10_init_257 rfl ?_
  refine y_bipush dX10_init_258 (r32d rfl) (by decide) ?_
  refine y_newaI (t := 0) (ty := .int) dX10_init_260 rfl wa_int (sR_28 hE) (by decide) rfl (by omega) (by omega) (fun j => z58 _ j (by omega)) ?_
  have z60 := z58.up (n' := 29) (by omega)
  have v60 := v59.up (n' := 29) (by omega)
  refine y_putR (ty := tyX10 64) tyX10 tyX10_ok nmX10 dX10_init_262 (sR_0 hE) (by omega) (by decide) rfl inz10 (show 64 < 86 by decide) wf_X10_110 rfl rfl (tyX10_ok 64 (by decide)) rfl rfl rfl (by (first | exact z0 _ _ (by omega) | (repeat (first | rw [hset_ne (by omega)] | rw [hwd_o (by omega)])); exact z0 _ _ (by omega))) ?_
  have v61 := v60.set (c := 0) (j := 64) (by omega)
  refine y_aload_n dX10_init_265 rfl ?_
  refine y_bipush dX10_init_266 (r32d rfl) (by decide) ?_
  refine y_newaI (t := 2) (ty := .boolean) dX10_init_268 rfl wa_boolean (sR_29 hE) (by decide) rfl (by omega) (by omega) (fun j => z60 _ j (by omega)) ?_
  have z62 := z60.up (n' := 30) (by omega)
  have v62 := v61.up (n' := 30) (by omega)
  refine y_putR (ty := tyX10 65) tyX10 tyX10_ok nmX10 dX10_init_270 (sR_0 hE) (by omega) (by decide) rfl inz10 (show 65 < 86 by decide) wf_X10_113 rfl rfl (tyX10_ok 65 (by decide)) rfl rfl rfl (by (first | exact z0 _ _ (by omega) | (repeat (first | rw [hset_ne (by omega)] | rw [hwd_o (by omega)])); exact z0 _ _ (by omega))) ?_
  have v63 := v62.set (c := 0) (j := 65) (by omega)
  refine y_aload_n dX10_init_273 rfl ?_
  refine y_bipush dX10_init_274 (r32d rfl) (by decide) ?_
  refine y_newaI (t := 0) (ty := .int) dX10_init_276 rfl wa_int (sR_30 hE) (by decide) rfl (by omega) (by omega) (fun j => z62 _ j (by omega)) ?_
  have z64 := z62.up (n' := 31) (by omega)
  have v64 := v63.up (n' := 31) (by omega)
  refine y_putR (ty := tyX10 66) tyX10 tyX10_ok nmX10 dX10_init_278 (sR_0 hE) (by omega) (by decide) rfl inz10 (show 66 < 86 by decide) wf_X10_116 rfl rfl (tyX10_ok 66 (by decide)) rfl rfl rfl (by (first | exact z0 _ _ (by omega) | (repeat (first | rw [hset_ne (by omega)] | rw [hwd_o (by omega)])); exact z0 _ _ (by omega))) ?_
  have v65 := v64.set (c := 0) (j := 66) (by omega)
  refine y_aload_n dX10_init_281 rfl ?_
  refine y_bipush dX10_init_282 (r32d rfl) (by decide) ?_
  refine y_newaI (t := 0) (ty := .int) dX10_init_284 rfl wa_int (sR_31 hE) (by decide) rfl (by omega) (by omega) (fun j => z64 _ j (by omega)) ?_
  have z66 := z64.up (n' := 32) (by omega)
  have v66 := v65.up (n' := 32) (by omega)
  refine y_putR (ty := tyX10 67) tyX10 tyX10_ok nmX10 dX10_init_286 (sR_0 hE) (by omega) (by decide) rfl inz10 (show 67 < 86 by decide) wf_X10_119 rfl rfl (tyX10_ok 67 (by decide)) rfl rfl rfl (by (first | exact z0 _ _ (by omega) | (repeat (first | rw [hset_ne (by omega)] | rw [hwd_o (by omega)])); exact z0 _ _ (by omega))) ?_
  have v67 := v66.set (c := 0) (j := 67) (by omega)
  refine y_aload_n dX10_init_289 rfl ?_
  refine y_bipush dX10_init_290 (r32d rfl) (by decide) ?_
  refine y_newaI (t := 0) (ty := .int) dX10_init_292 rfl wa_int (sR_32 hE) (by decide) rfl (by omega) (by omega) (fun j => z66 _ j (by omega)) ?_
  have z68 := z66.up (n' := 33) (by omega)
  have v68 := v67.up (n' := 33) (by omega)
  refine y_putR (ty := tyX10 69) tyX10 tyX10_ok nmX10 dX10_init_294 (sR_0 hE) (by omega) (by decide) rfl inz10 (show 69 < 86 by decide) wf_X10_122 rfl rfl (tyX10_ok 69 (by decide)) rfl rfl rfl (by (first | exact z0 _ _ (by omega) | (repeat (first | rw [hset_ne (by omega)] | rw [hwd_o (by omega)])); exact z0 _ _ (by omega))) ?_
  have v69 := v68.set (c := 0) (j := 69) (by omega)
  refine y_aload_n dX10_init_297 rfl ?_
  refine y_bipush dX10_init_298 (r32d rfl) (by decide) ?_
  refine y_newaI (t := 0) (ty := .int) dX10_init_300 rfl wa_int (sR_33 hE) (by decide) rfl (by omega) (by omega) (fun j => z68 _ j (by omega)) ?_
  have z70 := z68.up (n' := 34) (by omega)
  have v70 := v69.up (n' := 34) (by omega)
  refine y_putR (ty := tyX10 75) tyX10 tyX10_ok nmX10 dX10_init_302 (sR_0 hE) (by omega) (by decide) rfl inz10 (show 75 < 86 by decide) wf_X10_125 rfl rfl (tyX10_ok 75 (by decide)) rfl rfl rfl (by (first | exact z0 _ _ (by omega) | (repeat (first | rw [hset_ne (by omega)] | rw [hwd_o (by omega)])); exact z0 _ _ (by omega))) ?_
  have v71 := v70.set (c := 0) (j := 75) (by omega)
  refine y_aload_n dX10_init_305 rfl ?_
  refine y_bipush dX10_init_306 (r32d rfl) (by decide) ?_
  refine y_newaI (t := 0) (ty := .int) dX10_init_308 rfl wa_int (sR_34 hE) (by decide) rfl (by omega) (by omega) (fun j => z70 _ j (by omega)) ?_
  have z72 := z70.up (n' := 35) (by omega)
  have v72 := v71.up (n' := 35) (by omega)
  refine y_putR (ty := tyX10 76) tyX10 tyX10_ok nmX10 dX10_init_310 (sR_0 hE) (by omega) (by decide) rfl inz10 (show 76 < 86 by decide) wf_X10_128 rfl rfl (tyX10_ok 76 (by decide)) rfl rfl rfl (by (first | exact z0 _ _ (by omega) | (repeat (first | rw [hset_ne (by omega)] | rw [hwd_o (by omega)])); exact z0 _ _ (by omega))) ?_
  have v73 := v72.set (c := 0) (j := 76) (by omega)
  refine y_aload_n dX10_init_313 rfl ?_
  refine y_bipush dX10_init_314 (r32d rfl) (by decide) ?_
  refine y_newaI (t := 0) (ty := .int) dX10_init_316 rfl wa_int (sR_35 hE) (by decide) rfl (by omega) (by omega) (fun j => z72 _ j (by omega)) ?_
  have z74 := z72.up (n' := 36) (by omega)
  have v74 := v73.up (n' := 36) (by omega)
  refine y_putR (ty := tyX10 77) tyX10 tyX10_ok nmX10 dX10_init_318 (sR_0 hE) (by omega) (by decide) rfl inz10 (show 77 < 86 by decide) wf_X10_131 rfl rfl (tyX10_ok 77 (by decide)) rfl rfl rfl (by (first | exact z0 _ _ (by omega) | (repeat (first | rw [hset_ne (by omega)] | rw [hwd_o (by omega)])); exact z0 _ _ (by omega))) ?_
  have v75 := v74.set (c := 0) (j := 77) (by omega)
  refine y_aload_n dX10_init_321 rfl ?_
  refine y_bipush dX10_init_322 (r32d rfl) (by decide) ?_
  refine y_newaI (t := 0) (ty := .int) dX10_init_324 rfl wa_int (sR_36 hE) (by decide) rfl (by omega) (by omega) (fun j => z74 _ j (by omega)) ?_
  have z76 := z74.up (n' := 37) (by omega)
  have v76 := v75.up (n' := 37) (by omega)
  refine y_putR (ty := tyX10 78) tyX10 tyX10_ok nmX10 dX10_init_326 (sR_0 hE) (by omega) (by decide) rfl inz10 (show 78 < 86 by decide) wf_X10_134 rfl rfl (tyX10_ok 78 (by decide)) rfl rfl rfl (by (first | exact z0 _ _ (by omega) | (repeat (first | rw [hset_ne (by omega)] | rw [hwd_o (by omega)])); exact z0 _ _ (by omega))) ?_
  have v77 := v76.set (c := 0) (j := 78) (by omega)
  refine y_aload_n dX10_init_329 rfl ?_
  refine y_bipush dX10_init_330 (r32d rfl) (by decide) ?_
  refine y_newaI (t := 3) (ty := .long) dX10_init_332 rfl wa_long (sR_37 hE) (by decide) rfl (by omega) (by omega) (fun j => z76 _ j (by omega)) ?_
  have z78 := z76.up (n' := 38) (by omega)
  have v78 := v77.up (n' := 38) (by omega)
  refine y_putR (ty := tyX10 79) tyX10 tyX10_ok nmX10 dX10_init_334 (sR_0 hE) (by omega) (by decide) rfl inz10 (show 79 < 86 by decide) wf_X10_137 rfl rfl (tyX10_ok 79 (by decide)) rfl rfl rfl (by (first | exact z0 _ _ (by omega) | (repeat (first | rw [hset_ne (by omega)] | rw [hwd_o (by omega)])); exact z0 _ _ (by omega))) ?_
  have v79 := v78.set (c := 0) (j := 79) (by omega)
  refine y_aload_n dX10_init_337 rfl ?_
  refine y_bipush dX10_init_338 (r32d rfl) (by decide) ?_
  refine y_newaI (t := 3) (ty := .long) dX10_init_340 rfl wa_long (sR_38 hE) (by decide) rfl (by omega) (by omega) (fun j => z78 _ j (by omega)) ?_
  have z80 := z78.up (n' := 39) (by omega)
  have v80 := v79.up (n' := 39) (by omega)
  refine y_putR (ty := tyX10 80) tyX10 tyX10_ok nmX10 dX10_init_342 (sR_0 hE) (by omega) (by decide) rfl inz10 (show 80 < 86 by decide) wf_X10_141 rfl rfl (tyX10_ok 80 (by decide)) rfl rfl rfl (by (first | exact z0 _ _ (by omega) | (repeat (first | rw [hset_ne (by omega)] | rw [hwd_o (by omega)])); exact z0 _ _ (by omega))) ?_
  have v81 := v80.set (c := 0) (j := 80) (by omega)
  refine y_aload_n dX10_init_345 rfl ?_
  refine y_bipush dX10_init_346 (r32d rfl) (by decide) ?_
  refine y_newaI (t := 0) (ty := .int) dX10_init_348 rfl wa_int (sR_39 hE) (by decide) rfl (by omega) (by omega) (fun j => z80 _ j (by omega)) ?_
  have z82 := z80.up (n' := 40) (by omega)
  have v82 := v81.up (n' := 40) (by omega)
  refine y_putR (ty := tyX10 82) tyX10 tyX10_ok nmX10 dX10_init_350 (sR_0 hE) (by omega) (by decide) rfl inz10 (show 82 < 86 by decide) wf_X10_144 rfl rfl (tyX10_ok 82 (by decide)) rfl rfl rfl (by (first | exact z0 _ _ (by omega) | (repeat (first | rw [hset_ne (by omega)] | rw [hwd_o (by omega)])); exact z0 _ _ (by omega))) ?_
  have v83 := v82.set (c := 0) (j := 82) (by omega)
  refine y_aload_n dX10_init_353 rfl ?_
  refine y_bipush dX10_init_354 (r32d rfl) (by decide) ?_
  refine y_newaI (t := 0) (ty := .int) dX10_init_356 rfl wa_int (sR_40 hE) (by decide) rfl (by omega) (by omega) (fun j => z82 _ j (by omega)) ?_
  have z84 := z82.up (n' := 41) (by omega)
  have v84 := v83.up (n' := 41) (by omega)
  refine y_putR (ty := tyX10 83) tyX10 tyX10_ok nmX10 dX10_init_358 (sR_0 hE) (by omega) (by decide) rfl inz10 (show 83 < 86 by decide) wf_X10_147 rfl rfl (tyX10_ok 83 (by decide)) rfl rfl rfl (by (first | exact z0 _ _ (by omega) | (repeat (first | rw [hset_ne (by omega)] | rw [hwd_o (by omega)])); exact z0 _ _ (by omega))) ?_
  have v85 := v84.set (c := 0) (j := 83) (by omega)
  refine y_aload_n dX10_init_361 rfl ?_
  refine y_bipush dX10_init_362 (r32d rfl) (by decide) ?_
  refine y_newaI (t := 0) (ty := .int) dX10_init_364 rfl wa_int (sR_41 hE) (by decide) rfl (by omega) (by omega) (fun j => z84 _ j (by omega)) ?_
  have z86 := z84.up (n' := 42) (by omega)
  have v86 := v85.up (n' := 42) (by omega)
  refine y_putR (ty := tyX10 85) tyX10 tyX10_ok nmX10 dX10_init_366 (sR_0 hE) (by omega) (by decide) rfl inz10 (show 85 < 86 by decide) wf_X10_150 rfl rfl (tyX10_ok 85 (by decide)) rfl rfl rfl (by (first | exact z0 _ _ (by omega) | (repeat (first | rw [hset_ne (by omega)] | rw [hwd_o (by omega)])); exact z0 _ _ (by omega))) ?_
  have v87 := v86.set (c := 0) (j := 85) (by omega)
  exact y_vret dX10_init_369 rfl rfl hK
end ZCtor
