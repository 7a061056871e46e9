/-! ===== topic: the class's rule line ===== -/
section TRuleC
variable {E : zE} {d : Nat} {h : zH} {T : zH} {K : Int → zH → Prop}
def frRy (r2 : Nat) (h h' : zH) : Prop := ∀ c j, c ≠ 6 → c ≠ 7 → c ≠ r2 + 1 → c ≠ r2 + 2 → ¬ (c = r2 ∧ j = 4) → ¬ (c = 3 ∧ 3 ≤ j ∧ j ≤ 6) → h' c j = h c j
theorem yStep_t {B : Nat → Int} {n q op kn : Nat} {W : List Int} {O : zO} : yStep B n (q, true, W, O, op, kn) = yOp B n q W O op kn := if_pos rfl
theorem yStep_f {B : Nat → Int} {n q op kn : Nat} {W : List Int} {O : zO} : yStep B n (q, false, W, O, op, kn) = ySg B n q W O op kn := if_neg (by dsimp only; decide)
theorem X6_readL (hE : isC E) {r2 : Nat} (hr2 : isRu E r2) (hr : 7 < r2) {B : Nat → Int} {n : Nat} : ∀ (m q i : Nat), n - q < m → ∀ (w : Bool) (W : List Int) (O : zO) (op kn : Nat) (h : zH) (K : Int → zH → Prop), i ≤ q → AtC h B n q → MxC h r2 (bI (w = true)) W O op kn → yInv (q, w, W, O, op, kn) →
    (∀ f, yRes B n (q, w, W, O, op, kn) = .inl f → ∀ h' q', frRy r2 h h' → AtC h' B n q' → f.2 = tkP B n q' → f.1 ≠ 0 → K f.1 h') →
    (∀ r, yRes B n (q, w, W, O, op, kn) = .inr r → ∀ h', frRy r2 h h' → AtC h' B n r.2 → h' r2 4 = (r.1.length : Int) → OuC h' r2 r.1 → r.1.length ≤ 64 → dpR r.1 0 1 → K 0 h') →
    zG E mX6_read (d + 3) 32 [zR 6, zR 3, zR r2, zI (i : Int), zU] [] h (qI K)
  | 0, _, _, hm, _, _, _, _, _, _, _, _, _, _, _, _, _ => absurd hm (Nat.not_lt_zero _)
  | m + 1, q, i, hm, w, W, O, op, kn, h, K, hi, a, mx, iv, h0, h1 => by
    have hn := a.1.2.2.1
    have hq := a.2.2.1
    have next : ∀ s' : yS, yStep B n (q, w, W, O, op, kn) = .inr s' → yInv s' → ∀ h', frR r2 h h' → MxC h' r2 (bI (s'.2.1 = true)) s'.2.2.1 s'.2.2.2.1 s'.2.2.2.2.1 s'.2.2.2.2.2 → zG E mX6_read (d + 3) 71 [zR 6, zR 3, zR r2, zI (i : Int), zU] [zI 0] h' (qI K) := by
      intro s' es ivs h' fr' mx'
      have yr := yRes_r (s := (q, w, W, O, op, kn)) hq es
      have yq := yStep_q (s := (q, w, W, O, op, kn)) hq es
      dsimp only at yr yq
      obtain ⟨q1, w1, W1, O1, op1, kn1⟩ := s'
      dsimp only at mx' yr yq
      refine bX6_read_71 (d := d + 2) hE hr2 ⟨fun _ => ⟨fun z => absurd mx'.1.2.2.2.2.1 z, fun _ => C_adv hE (fr'.at' hr a) (fun h2 fr2 a2 x ex => ?_)⟩, fun z => absurd rfl z⟩
      rw [w_suc (by omega)] at ex
      rw [ex]
      have mx2 : MxC h2 r2 (bI (w1 = true)) W1 O1 op1 kn1 := by
        obtain ⟨⟨m1, m2, m3, m4, m5, m6⟩, mw, mo⟩ := mx'
        exact ⟨⟨by rw [fr2 _ _ (by omega)]; exact m1, by rw [fr2 _ _ (by omega)]; exact m2, by rw [fr2 _ _ (by omega)]; exact m3, by rw [fr2 _ _ (by omega)]; exact m4, by rw [fr2 _ _ (by omega)]; exact m5, by rw [fr2 _ _ (by omega)]; exact m6⟩, mw.mv (fun j hj => fr2 _ _ (by omega)), fun j hj => by rw [fr2 _ _ (by omega), fr2 _ _ (by omega)]; exact mo j hj⟩
      have fry : frRy r2 h h2 := fun c j n1 n2 n3 n4 n5 n6 => by rw [fr2 c j n6]; exact fr' c j n1 n2 n3 n4 n5
      rw [yr.1] at h0 h1
      refine X6_readL hE hr2 hr m q1 (i + 1) (by omega) w1 W1 O1 op1 kn1 h2 K (by omega) (by rw [yq.1]; exact a2) mx2 ivs (fun f ef h3 q3 fr3 => h0 f ef h3 q3 (fun c j n1 n2 n3 n4 n5 n6 => by rw [fr3 c j n1 n2 n3 n4 n5 n6]; exact fry c j n1 n2 n3 n4 n5 n6)) (fun r er h3 fr3 => h1 r er h3 (fun c j n1 n2 n3 n4 n5 n6 => by rw [fr3 c j n1 n2 n3 n4 n5 n6]; exact fry c j n1 n2 n3 n4 n5 n6))
    have fault : ∀ (f : pF), yStep B n (q, w, W, O, op, kn) = .inl (.inl f) → f.2 = tkP B n q → f.1 ≠ 0 → ∀ h', frR r2 h h' → zG E mX6_read (d + 3) 71 [zR 6, zR 3, zR r2, zI (i : Int), zU] [zI f.1] h' (qI K) := by
      intro f ef e2 e1 h' fr'
      exact bX6_read_71 (d := d + 2) hE hr2 ⟨fun z => absurd z e1, fun _ => h0 f (yRes_l ef) h' q (fun c j n1 n2 n3 n4 n5 _ => fr' c j n1 n2 n3 n4 n5) (fr'.at' hr a) e2 e1⟩
    refine bX6_read_32 (d := d + 2) hE hr2 ⟨fun z => absurd z (by omega), fun _ => ⟨fun z => absurd mx.1.2.2.2.2.1 z, fun _ => ?_⟩⟩
    rw [mx.1.2.2.2.1, a.k]
    cases w with
    | true =>
      refine ⟨fun z => absurd z (by decide), fun _ => X6_takeOp hE hr2 hr a mx iv (fun f ef e2 e1 => fault f (yStep_t.trans ef) e2 e1 h (frR.rf r2 h)) (fun s' es h' fr' mx' => next s' (yStep_t.trans es) (yInv_op a.1.by hq iv es) h' fr' mx')⟩
    | false =>
      refine ⟨fun _ => X6_takeSg hE hr2 hr a mx iv (fun f ef e2 e1 h' fr' => fault f (yStep_f.trans ef) e2 e1 h' fr') (fun s' es h' fr' mx' => next s' (yStep_f.trans es) (yInv_sg iv es) h' fr' mx') (fun O' q' eo h' fr' e5 e4 ou => ?_), fun z => absurd (by decide) z⟩
      have ye := yInv_end iv eo
      have fin : K 0 h' := h1 (O', q') (yRes_l (yStep_f.trans eo)) h' (fun c j n1 n2 n3 n4 n5 _ => fr' c j n1 n2 n3 n4 n5) (by rw [ye.1]; exact fr'.at' hr a) e4 ou ye.2.2.2.1 ye.2.2.2.2
      have ne : h' 6 5 ≠ 0 := by rw [e5]; decide
      exact bX6_read_71 (d := d + 2) hE hr2 ⟨fun _ => ⟨fun _ x ex => bX6_read_32 (d := d + 2) hE hr2 ⟨fun _ => fin, fun _ => ⟨fun _ => fin, fun z => absurd ne z⟩⟩, fun z => absurd ne z⟩, fun z => absurd rfl z⟩
/-! from the machine's output to a rule -/
def sgE (k : Int) : Int := if k = 34 then 260 else if k = 32 then 262 else if k = 33 then 261 else sgV k
def enc (x : Int × Int) : Int × Int := if x.1 = 3 then (0, x.2) else if 35 ≤ x.1 ∧ x.1 ≤ 40 then (1, x.1 - 35) else (2, sgE x.1)
def setO (T : zH) (O : zO) : zH := fun c j => if c = 20 ∧ j < O.length then (enc (oA O j)).1 else if c = 21 ∧ j < O.length then (enc (oA O j)).2 else if c = 0 ∧ j = 28 then (O.length : Int) else T c j
theorem setO_o {T : zH} {O : zO} {c j : Nat} (h1 : c ≠ 20) (h2 : c ≠ 21) (h3 : ¬ (c = 0 ∧ j = 28)) : setO T O c j = T c j := by
  unfold setO
  rw [if_neg (fun z => h1 z.1), if_neg (fun z => h2 z.1), if_neg h3]
theorem setO_n {T : zH} {O : zO} : setO T O 0 28 = (O.length : Int) := by
  unfold setO
  rw [if_neg (fun z => absurd z.1 (by decide)), if_neg (fun z => absurd z.1 (by decide)), if_pos ⟨rfl, rfl⟩]
theorem setO_k {T : zH} {O : zO} {j : Nat} (hj : j < O.length) : setO T O 20 j = (enc (oA O j)).1 ∧ setO T O 21 j = (enc (oA O j)).2 := by
  unfold setO
  refine ⟨by rw [if_pos ⟨rfl, hj⟩], by rw [if_neg (fun z => absurd z.1 (by decide)), if_pos ⟨rfl, hj⟩]⟩
theorem rnk_k {k : Int} (hk : 1 ≤ rnk k) : (7 ≤ k ∧ k ≤ 16) ∨ k = 32 ∨ k = 33 ∨ k = 34 := by
  unfold rnk at hk
  repeat' split at hk
  all_goals omega
theorem kb_sg {k : Int} (hk : 1 ≤ rnk k) (h34 : k ≠ 34) : kb k (sgE k) := by
  have kr := rnk_k hk
  have cs : k = 7 ∨ k = 8 ∨ k = 9 ∨ k = 10 ∨ k = 11 ∨ k = 12 ∨ k = 13 ∨ k = 14 ∨ k = 15 ∨ k = 16 ∨ k = 32 ∨ k = 33 := by omega
  unfold kb
  rcases cs with c | c | c | c | c | c | c | c | c | c | c | c <;> subst c <;> decide
theorem rB_kb {k b : Int} (hk : kb k b) : rB b := by
  unfold kb at hk
  unfold rB
  omega
theorem dpR_kn {O : zO} {a c : Nat} (hd : dpR O a c) : ∀ j, j < O.length → knR (oA O j).1 (oA O j).2 (enc (oA O j)).1 (enc (oA O j)).2 := by
  induction O generalizing a with
  | nil => exact fun j hj => absurd hj (Nat.not_lt_zero j)
  | cons x O ih =>
    intro j hj
    unfold dpR at hd
    cases j with
    | zero =>
      change knR x.1 x.2 (enc x).1 (enc x).2
      unfold enc
      by_cases z : x.1 = 34
      · have n1 : ¬ x.1 = 3 := by omega
        have n2 : ¬ (35 ≤ x.1 ∧ x.1 ≤ 40) := by omega
        rw [if_neg n1, if_neg n2]
        refine Or.inr (Or.inr (Or.inl ⟨rfl, z, ?_⟩))
        unfold sgE
        rw [if_pos z]
      · rw [if_neg z] at hd
        by_cases y : isOp x.1
        · rw [if_pos y] at hd
          by_cases k3 : x.1 = 3
          · rw [if_pos k3]
            have := hd.1 k3
            exact Or.inl ⟨rfl, k3, rfl, this.1, this.2⟩
          · have k5 : 35 ≤ x.1 ∧ x.1 ≤ 40 := by unfold isOp at y; omega
            rw [if_neg k3, if_pos k5]
            exact Or.inr (Or.inl ⟨rfl, k5.1, k5.2, rfl⟩)
        · rw [if_neg y] at hd
          have kr := rnk_k hd.1
          have n1 : ¬ x.1 = 3 := by omega
          have n2 : ¬ (35 ≤ x.1 ∧ x.1 ≤ 40) := by omega
          rw [if_neg n1, if_neg n2]
          exact Or.inr (Or.inr (Or.inr ⟨rfl, kb_sg hd.1 z⟩))
    | succ j =>
      have hj' : j < O.length := Nat.lt_of_succ_lt_succ hj
      change knR (oA O j).1 (oA O j).2 (enc (oA O j)).1 (enc (oA O j)).2
      split at hd
      · exact ih hd.2 j hj'
      · split at hd
        · exact ih hd.2 j hj'
        · exact ih hd.2.2 j hj'
theorem dpR_rw {ks kv : Nat → Int} : ∀ (O : zO) (i a : Nat), dpR O a 1 → a ≤ i → i + O.length ≤ 64 → (∀ j, j < O.length → ks (i + j) = (enc (oA O j)).1 ∧ kv (i + j) = (enc (oA O j)).2) → rwR ks kv O.length i a
  | [], i, a, hd, _, _, _ => hd
  | x :: O, i, a, hd, ha, hi, hk => by
    rw [List.length_cons] at hi ⊢
    have k0 : ks i = (enc x).1 ∧ kv i = (enc x).2 := hk 0 (Nat.succ_pos _)
    have kn := dpR_kn hd 0 (Nat.succ_pos _)
    change knR x.1 x.2 (enc x).1 (enc x).2 at kn
    have ih := fun a' hd' ha' => dpR_rw (ks := ks) (kv := kv) O (i + 1) a' hd' ha' (by omega) (fun j hj => by rw [show i + 1 + j = i + (j + 1) by omega]; exact hk (j + 1) (Nat.succ_lt_succ hj))
    unfold dpR at hd
    unfold rwR
    rw [k0.1, k0.2]
    unfold knR at kn
    by_cases z : x.1 = 34
    · rw [if_pos z] at hd
      have e1 : (enc x).1 = 2 ∧ (enc x).2 = 260 := by unfold kb at kn; omega
      rw [if_pos e1.1, if_pos e1.2]
      exact ⟨hd.1, ih a hd.2 (by omega)⟩
    · rw [if_neg z] at hd
      by_cases y : isOp x.1
      · rw [if_pos y] at hd
        have e1 : ((enc x).1 = 0 ∧ 0 ≤ (enc x).2 ∧ (enc x).2 ≤ 9999) ∨ ((enc x).1 = 1 ∧ 0 ≤ (enc x).2 ∧ (enc x).2 < 6) := by
          unfold isOp at y
          unfold kb at kn
          omega
        have e2 : ¬ (enc x).1 = 2 := by omega
        rw [if_neg e2]
        exact ⟨e1, by omega, ih (a + 1) hd.2 (by omega)⟩
      · rw [if_neg y] at hd
        have kr := rnk_k hd.1
        have e1 : (enc x).1 = 2 ∧ kb x.1 (enc x).2 := by
          unfold isOp at y
          rcases kn with c | c | c | c
          · omega
          · omega
          · omega
          · exact ⟨c.1, c.2⟩
        have e2 : ¬ (enc x).2 = 260 := by
          have := e1.2
          unfold kb at this
          omega
        rw [if_pos e1.1, if_neg e2]
        exact ⟨rB_kb e1.2, hd.2.1, ih (a - 1) hd.2.2 (by omega)⟩
theorem setO_rl {T : zH} {O : zO} (hd : dpR O 0 1) (hl : O.length ≤ 64) : rlOk (setO T O) := by
  refine ⟨by rw [setO_n]; omega, by rw [setO_n]; omega, fun _ => ?_⟩
  rw [setO_n, Int.toNat_natCast]
  exact dpR_rw O 0 0 hd (by omega) (by omega) (fun j hj => by rw [Nat.zero_add]; exact setO_k hj)
def pNear (B : Nat → Int) (n : Nat) (T : zH) (q : Nat) : Sum pF (zH × Nat) := if T 0 28 = 0 then xB (yRes B n (tkQ B n q, true, [], [], 0, 0)) (fun r => .inr (setO T r.1, r.2)) else .inl (3, tkP B n q)
theorem yInv_0 (q : Nat) : yInv (q, true, [], [], 0, 0) := ⟨rfl, Nat.zero_le _, rfl, Nat.zero_le _, fun _ hk => absurd hk (List.not_mem_nil), rfl⟩
theorem L_rule (hE : isC E) {B : Nat → Int} {n q b : Nat} (a : AtC h B n q) (hb : b = 8 ∨ b = 27) (p : PvC T h b) (h0 : ∀ f, pNear B n T q = .inl f → ∀ h', frP b h h' → BdC h' b → FlC h' f → K 0 h') (h1 : ∀ r, pNear B n T q = .inr r → ∀ h', frP b h h' → PvC r.1 h' b → AtC h' B n r.2 → K 1 h') : zCI E mX4_readRule (d + 4) [zR 2, zR b] h K := by
  have su := su_b hE hb
  have ru := su.2.2.2.2.2.2.2.2.2.2.2
  have rc := p.1.2.2.2.2.2.2.2.1
  unfold pNear at h0 h1
  refine eX4_readRule (d := d + 3) hE su ⟨fun c => ?_, fun c => ?_⟩
  · have c' := rc.2.1.mp c
    rw [if_pos c'] at h0 h1
    refine C_adv hE a (fun h2 fr2 a2 => eX6_read (d := d + 2) hE ru (fun g1 y1 g2 y2 g3 y3 g4 y4 g5 y5 g6 y6 => ?_))
    have fg : ∀ c j, c ≠ 6 → ¬ (c = b + 14 ∧ j = 4) → g6 c j = h2 c j := fun c j n1 n2 => by rw [y6, hset_ne (by omega), y5, hset_ne (by omega), y4, hset_ne (by omega), y3, hset_ne (by omega), y2, hset_ne (by omega), y1, hset_ne n2]
    have ag : AtC g6 B n (tkQ B n q) := a2.mv (fun c j hc => fg c j (by omega) (by omega))
    have mg : MxC g6 (b + 14) (bI (true = true)) [] [] 0 0 := by
      have e0 : bI (true = true) = 1 := by decide
      rw [e0]
      refine ⟨⟨?_, ?_, ?_, ?_, ?_, ?_⟩, trivial, fun j hj => absurd hj (Nat.not_lt_zero j)⟩
      · rw [y6, hset_ne (by omega), y5, hset_ne (by omega), y4, hset_ne (by omega), y3, hset_ne (by omega), y2, hset_eq]; rfl
      · rw [y6, hset_ne (by omega), y5, hset_ne (by omega), y4, hset_ne (by omega), y3, hset_eq]; rfl
      · rw [y6, hset_ne (by omega), y5, hset_ne (by omega), y4, hset_eq]; rfl
      · rw [y6, hset_ne (by omega), y5, hset_eq]
      · rw [y6, hset_eq]
      · rw [y6, hset_ne (by omega), y5, hset_ne (by omega), y4, hset_ne (by omega), y3, hset_ne (by omega), y2, hset_ne (by omega), y1, hset_eq]; rfl
    refine X6_readL hE ru (by omega) (n + 1) (tkQ B n q) 0 (by omega) true [] [] 0 0 g6 _ (by omega) ag mg (yInv_0 _) (fun f ef h3 q3 fr3 a3 e2 e1 => ?_) (fun r er h3 fr3 a3 e4 ou hl hd => ?_)
    · refine ⟨fun z => absurd z e1, fun _ => C_refuse hE a3 e1 (fun h4 fr4 fl => ?_)⟩
      rw [← e2] at fl
      refine h0 f (xB_l ef) h4 (fun c j n1 n2 n3 n4 n5 => ?_) (p.2.2.1.mv (fun j => ?_)) fl
      · rw [fr4 c j n1 n2, fr3 c j n4 n5 (by omega) (by omega) (by omega) n1, fg c j n4 (by omega)]; exact fr2 c j n1
      · rw [fr4 _ _ (by omega) (by omega), fr3 _ _ (by omega) (by omega) (by omega) (by omega) (by omega) (by omega), fg _ _ (by omega) (by omega)]; exact fr2 _ _ (by omega)
    · refine ⟨fun _ h4 e5 => h1 _ (xB_r er) h4 (fun c j n1 n2 n3 n4 n5 => ?_) ?_ (by rw [e5]; exact a3.set (by omega)), fun z => absurd rfl z⟩
      · rw [e5, hset_ne (by omega), fr3 c j n4 n5 (by omega) (by omega) (by omega) n1, fg c j n4 (by omega)]; exact fr2 c j n1
      · have frA : ∀ c j, c ≠ 3 → c ≠ 6 → c ≠ 7 → c ≠ b + 15 → c ≠ b + 16 → ¬ (c = b + 14 ∧ j = 4) → ¬ (c = b ∧ j = 11) → h4 c j = h c j := fun c j n1 n2 n3 n4 n5 n6 n7 => by
          rw [e5, hset_ne n7, fr3 c j n2 n3 n4 n5 n6 (by omega), fg c j n2 n6]; exact fr2 c j (by omega)
        have rw' : ∀ c, 7 < c → c ≠ b + 14 → c ≠ b + 15 → c ≠ b + 16 → c ≠ b → c ≠ 3 → h4 c = h c := fun c n1 n2 n3 n4 n5 n6 => funext fun j => frA c j (by omega) (by omega) (by omega) (by omega) (by omega) (by omega) (by omega)
        have tr : ∀ c, c ≠ 0 → c ≠ 20 → c ≠ 21 → setO T r.1 c = T c := fun c n1 n2 n3 => funext fun j => setO_o n2 n3 (by omega)
        have tn : ∀ j, j ≠ 28 → setO T r.1 0 j = T 0 j := fun j n1 => setO_o (by omega) (by omega) (by omega)
        have hbr : ∀ j, j ≠ 11 → j ≠ 99 → h4 b j = h b j := fun j n1 _ => frA b j (by omega) (by omega) (by omega) (by omega) (by omega) (by omega) (by omega)
        obtain ⟨s1, s2, s3, s4, s5, s6, s7, s8, s9, s10, s11⟩ := p.1
        dsimp only
        refine ⟨⟨s1.c (by rw [rw' _ (by omega) (by omega) (by omega) (by omega) (by omega) (by omega)]) (rw' _ (by omega) (by omega) (by omega) (by omega) (by omega) (by omega)) (tn _ (by omega)) (tr _ (by omega) (by omega) (by omega)), s2.c (by rw [rw' _ (by omega) (by omega) (by omega) (by omega) (by omega) (by omega)]) (rw' _ (by omega) (by omega) (by omega) (by omega) (by omega) (by omega)) (tn _ (by omega)) (tr _ (by omega) (by omega) (by omega)), s3.c (by rw [rw' _ (by omega) (by omega) (by omega) (by omega) (by omega) (by omega)]) (rw' _ (by omega) (by omega) (by omega) (by omega) (by omega) (by omega)) (tn _ (by omega)) (tr _ (by omega) (by omega) (by omega)), s4.c (by rw [rw' _ (by omega) (by omega) (by omega) (by omega) (by omega) (by omega)]) (rw' _ (by omega) (by omega) (by omega) (by omega) (by omega) (by omega)) (tn _ (by omega)) (tr _ (by omega) (by omega) (by omega)), s5.c (fun c q1 q2 => rw' c (by omega) (by omega) (by omega) (by omega) (by omega) (by omega)) (tn _ (by omega)) (fun c q1 q2 => tr c (by omega) (by omega) (by omega)), s6.c (rw' _ (by omega) (by omega) (by omega) (by omega) (by omega) (by omega)) (tn _ (by omega)) (tr _ (by omega) (by omega) (by omega)) (tr _ (by omega) (by omega) (by omega)), s7.c (hbr 9 (by omega) (by omega)) (rw' _ (by omega) (by omega) (by omega) (by omega) (by omega) (by omega)) (tn _ (by omega)) (fun c q1 q2 => tr c (by omega) (by omega) (by omega)), ?_, by rw [hbr _ (by omega) (by omega), tn _ (by omega)]; exact s9, by rw [hbr _ (by omega) (by omega), tn _ (by omega)]; exact s10, by rw [hbr _ (by omega) (by omega), tn _ (by omega)]; exact s11⟩, ⟨by rw [hbr _ (by omega) (by omega), tn _ (by omega)]; exact p.2.1.1, by rw [hbr _ (by omega) (by omega), tn _ (by omega)]; exact p.2.1.2⟩, p.2.2.c (rw' _ (by omega) (by omega) (by omega) (by omega) (by omega) (by omega)) (rw' _ (by omega) (by omega) (by omega) (by omega) (by omega) (by omega)) (tn _ (by omega))⟩
        have e4' : h4 (b + 14) 4 = (r.1.length : Int) := by rw [e5, hset_ne (by omega)]; exact e4
        have nz : r.1.length ≠ 0 := by
          intro z
          have : r.1 = [] := List.eq_nil_of_length_eq_zero z
          rw [this] at hd
          have hd' : (0 : Nat) = 1 := hd
          exact absurd hd' (by decide)
        refine ⟨by rw [e4', setO_n], ⟨fun z => ?_, fun z => ?_⟩, fun i hi => ?_⟩
        · rw [e5, hset_eq] at z
          exact absurd z (by decide)
        · rw [setO_n] at z
          omega
        · rw [setO_n] at hi
          have hi' : i < r.1.length := by omega
          have sk := setO_k (T := T) hi'
          have o := ou i hi'
          have q1 : h4 (b + 15) i = (oA r.1 i).1 := by rw [e5, hset_ne (by omega)]; exact o.1
          have q2 : h4 (b + 16) i = (oA r.1 i).2 := by rw [e5, hset_ne (by omega)]; exact o.2
          rw [q1, q2, sk.1, sk.2]
          exact dpR_kn hd i hi'
  · have c' : ¬ T 0 28 = 0 := fun z => c (rc.2.1.mpr z)
    rw [if_neg c'] at h0
    exact C_refuse hE a (by decide) (fun h4 fr4 fl => h0 _ rfl h4 (frP.m fr4) (p.m hb fr4).2.2.1 fl)
end TRuleC
