/-! ===== topic: look of the reference; how both begin ===== -/
section TLook
variable {E : zE} {d : Nat} {h : zH} {S : zH} {K : Int → zH → Prop}
abbrev okLk (w : Int) : Prop := 0 ≤ w ∧ w ≤ 5
def lkT (S : zH) (r s w : Int) : Int := if isSt S r s then (if okLk w then 0 else 2) else 1
def lkV (S : zH) (r s w : Int) : Int := if w = 0 then (sTr S (sNk S)).1 (10 * r + s).toNat else if w = 1 then (sTr S (sNk S)).2.1 (10 * r + s).toNat else if w = 2 then S 8 (10 * r + s).toNat else if w = 3 then S 9 (10 * r + s).toNat else if w = 4 then S 10 (10 * r + s).toNat else (sTr S (sNk S)).2.2 (10 * r + s).toNat
theorem R_look (hE : isR E) (i : IR S h) {r s w : Int} (hK : ∀ h' x, IR S h' → h' 0 0 = lkT S r s w → (lkT S r s w = 0 → x = lkV S r s w) → K x h') : zCI E mX10_look (d + 1) [zR 0, zI r, zI s, zI w] h K := by
  have wf := i.wf
  have bad : ∀ s0 : Int, s0 = lkT S r s w → s0 ≠ 0 → zG E mX10_look (d + 1) 28 [zR 0, zI r, zI s, zI w, zU] [zI s0, zR 0] h (qI K) := by
    intro s0 e0 n0
    refine bX10_look_28 hE (fun h1 e1 => ?_)
    have e00 : h1 0 0 = s0 := by rw [e1, hset_eq]
    refine ⟨fun z => absurd (by rw [← e00]; exact z) n0, fun _ => hK h1 0 (i.thr e1) (by rw [e00]; exact e0) (fun z => absurd (by rw [e0]; exact z) n0)⟩
  refine eX10_look hE (X10_isStone hE i ⟨fun c => ?_, fun c => ?_⟩)
  · rw [ne_eq, bI_n] at c
    have st := st80 wf c
    refine ⟨fun c2 => bad 2 (by unfold lkT; rw [if_pos c, if_neg (fun z => by omega)]) (by decide), fun c2 => ⟨fun c3 => ?_, fun c3 => bad 2 (by unfold lkT; rw [if_pos c, if_neg (fun z => by omega)]) (by decide)⟩⟩
    have l0 : lkT S r s w = 0 := by unfold lkT; rw [if_pos c, if_pos ⟨by omega, c3⟩]
    rw [l0] at hK
    refine bX10_look_28 hE (fun h1 e1 => ?_)
    have e00 : h1 0 0 = 0 := by rw [e1, hset_eq]
    have i1 := i.thr e1
    have q := i1.q
    have nk := sNk_le wf
    have wn := wf.n
    unfold WfN at wn
    refine ⟨fun _ => X10_knownNotes hE i1 (X10_stones hE (nk := S 22) (nw := S 23) (na := S 24) (nb := S 25) (by omega) (fun k hk => ?_) (wf.t.1.le nk) (fun t ht => ?_) (fun h4 fr tr x5 e5 => ?_)), fun z => absurd e00 z⟩
    · rw [q.row (c := 22) (by omega) (by omega), q.row (c := 23) (by omega) (by omega), q.row (c := 24) (by omega) (by omega), q.row (c := 25) (by omega) (by omega)]
      exact ⟨rfl, rfl, rfl, rfl⟩
    · rw [q.row (c := 11) (by omega) (by omega)]; exact (wf.g.2 t ht).2.2.2
    · rw [q.row (c := 6) (by omega) (by omega), q.row (c := 7) (by omega) (by omega), q.row (c := 11) (by omega) (by omega)] at tr
      have tr' : TriR h4 (sTr S (sNk S)) := tr
      have i4 : IR S h4 := i1.mv (fun c j hz => fr c j (by unfold zn at hz; omega)) (by rw [show h4 39 = h1 39 from funext fun j => fr 39 j (by omega)]; exact i1.2.2.2)
      have e40 : h4 0 0 = 0 := by rw [fr _ _ (by omega)]; exact e00
      rw [w32i (x := 10 * r) (by omega) (by omega), w32i (by omega) (by omega)] at e5
      have hk : (10 * r + s).toNat < 80 := by omega
      have t3 := tr' (10 * r + s).toNat hk
      have q4 := i4.q
      have g := wf.g.2 (10 * r + s).toNat hk
      have tg : (sTr S (sNk S)).2.2 (10 * r + s).toNat = 0 ∨ (sTr S (sNk S)).2.2 (10 * r + s).toNat = 1 := apS_g (b := (S 6, S 7, S 11)) (n := sNk S) (fun k hk2 => (wf.t.1 k (by omega)).2.2.2) g.2.2.2 (sNk S) (Nat.le_refl _)
      unfold lkV at hK
      rw [e5, t3.1, t3.2.1, t3.2.2, q4.row (c := 8) (by omega) (by omega), q4.row (c := 9) (by omega) (by omega), q4.row (c := 10) (by omega) (by omega)]
      refine ⟨fun c => ⟨by omega, ?_⟩, fun c => ⟨by omega, ?_⟩, fun c => ⟨by omega, ?_⟩, fun c => ⟨by omega, ?_⟩, fun c => ⟨by omega, ?_⟩, fun c => ⟨by omega, ?_⟩⟩
      · exact hK h4 _ i4 e40 (fun _ => by rw [if_pos c])
      · exact hK h4 _ i4 e40 (fun _ => by rw [if_neg (by omega), if_pos c])
      · exact hK h4 _ i4 e40 (fun _ => by rw [if_neg (by omega), if_neg (by omega), if_pos c])
      · exact hK h4 _ i4 e40 (fun _ => by rw [if_neg (by omega), if_neg (by omega), if_neg (by omega), if_pos c])
      · refine ⟨fun z => hK h4 _ i4 e40 (fun _ => ?_), fun z => hK h4 _ i4 e40 (fun _ => ?_)⟩
        · rw [if_neg (by omega), if_neg (by omega), if_neg (by omega), if_neg (by omega), if_pos c, z]
        · rw [if_neg (by omega), if_neg (by omega), if_neg (by omega), if_neg (by omega), if_pos c]
          omega
      · refine ⟨fun z => hK h4 _ i4 e40 (fun _ => ?_), fun z => hK h4 _ i4 e40 (fun _ => ?_)⟩
        · rw [if_neg c.1, if_neg c.2.1, if_neg c.2.2.1, if_neg c.2.2.2.1, if_neg c.2.2.2.2, z]
        · rw [if_neg c.1, if_neg c.2.1, if_neg c.2.2.1, if_neg c.2.2.2.1, if_neg c.2.2.2.2]
          omega
  · rw [ne_eq, bI_n] at c
    exact bad 1 (by unfold lkT; rw [if_neg c]) (by decide)
/-! how both begin -/
def z00 : zH := fun _ _ => 0
def u00 : zU2 := fun _ _ => false
def S0 : zH := ehhX10 z00
def hC0 : zH := ehhX9 z00
theorem S0_r {c j : Nat} (hc : c ≠ 0) : S0 c j = 0 := by
  unfold S0 ehhX10
  rw [hset_ne (by omega), hset_ne (by omega), hset_ne (by omega), hset_ne (by omega), hset_ne (by omega)]
  rfl
theorem S0_wf : WfS S0 := by
  refine ⟨by unfold WfN; decide +kernel, ⟨fun r hr => ?_, fun s hs => ?_⟩, fun w hw => ?_, fun s hs => ?_, ⟨fun i hi => ?_, fun i hi => ?_⟩, ⟨by decide +kernel, by decide +kernel, fun z => absurd (by decide +kernel) z⟩, fun j hj => ?_⟩
  · exact absurd hr (by rw [show S0 0 24 = 0 by decide +kernel]; omega)
  · rw [S0_r (c := 6) (by omega), S0_r (c := 7) (by omega), S0_r (c := 8) (by omega), S0_r (c := 9) (by omega), S0_r (c := 10) (by omega), S0_r (c := 11) (by omega)]
    omega
  · exact absurd hw (by rw [show S0 0 25 = 0 by decide +kernel]; omega)
  · exact absurd hs (by rw [show S0 0 26 = 0 by decide +kernel]; omega)
  · rw [show (S0 0 54).toNat = 0 by decide +kernel] at hi
    exact absurd hi (Nat.not_lt_zero _)
  · exact absurd hi (by rw [show S0 0 54 = 0 by decide +kernel]; omega)
  · exact absurd hj (by rw [show S0 0 2 = 0 by decide +kernel]; omega)
theorem S0_bd : BdR S0 := by
  refine ⟨fun s hs => ?_, fun s hs => ?_⟩
  · rw [S0_r (c := 6) (by omega), S0_r (c := 7) (by omega), S0_r (c := 8) (by omega), S0_r (c := 9) (by omega), S0_r (c := 10) (by omega), S0_r (c := 11) (by omega)]
    omega
  · rw [S0_r (c := 19) (by omega)]
    omega
theorem S0_ir : IR S0 S0 := ⟨S0_wf, fun _ _ _ => rfl, fun z => absurd (by decide +kernel) z, fun r => by rw [S0_r (c := 39) (by omega)]; omega⟩
theorem hC0_r {c j : Nat} (hc : c ≠ 0 ∧ c ≠ 2 ∧ c ≠ 3 ∧ c ≠ 4 ∧ c ≠ 6 ∧ c ≠ 8 ∧ c ≠ 27 ∧ c ≠ 52 ∧ c ≠ 64) : hC0 c j = 0 := by
  unfold hC0 ehhX9
  rw [hset_ne (by omega), hset_ne (by omega), hset_ne (by omega), hset_ne (by omega), hset_ne (by omega), hset_ne (by omega), hset_ne (by omega), hset_ne (by omega), hset_ne (by omega), hset_ne (by omega), hset_ne (by omega), hset_ne (by omega), hset_ne (by omega), hset_ne (by omega), hset_ne (by omega), hset_ne (by omega), hwd_o (by omega)]
  rfl
theorem hC0_w {j : Nat} (hj : j < 21) : hC0 4 j = wdL j := by
  unfold hC0 ehhX9
  rw [hset_ne (by omega), hset_ne (by omega), hset_ne (by omega), hset_ne (by omega), hset_ne (by omega), hset_ne (by omega), hset_ne (by omega), hset_ne (by omega), hset_ne (by omega), hset_ne (by omega), hset_ne (by omega), hset_ne (by omega), hset_ne (by omega), hset_ne (by omega), hset_ne (by omega), hset_ne (by omega)]
  exact if_pos ⟨rfl, hj⟩
theorem fi_0 {q : Nat} (hq : q = 52 ∨ q = 64) : FiInv hC0 q (fun _ => []) 4 6 := by
  refine ⟨?_, ?_, fun j => ?_, fun r hr => ⟨?_, fun k hk => absurd hk (Nat.not_lt_zero _), fun z => absurd ?_ z⟩⟩
  · rcases hq with e | e <;> subst e <;> decide +kernel
  · rcases hq with e | e <;> subst e <;> decide +kernel
  · rw [hC0_r (by omega)]; omega
  · rw [hC0_r (by omega)]; rfl
  · exact hC0_r (by omega)
theorem hC0_ic : ICb S0 hC0 8 := by
  have n24 : S0 0 24 = 0 := by decide +kernel
  refine ⟨S0_wf, ⟨Or.inl rfl, by decide +kernel, by decide +kernel⟩, ⟨⟨?_, fun k hk => ?_⟩, ⟨?_, fun k hk => ?_⟩, ⟨?_, fun k hk => ?_⟩, ⟨?_, fun k hk => ?_⟩, fun r hr => ?_, fun w hw => ?_, ⟨?_, fun k hk => ?_⟩, ⟨?_, ?_, fun k hk => ?_⟩, ?_, ?_, ?_⟩, ⟨fun s hs => ?_, fun s hs => ?_⟩, ⟨?_, fun j hj => ?_, ?_, ?_, ?_, ?_, ?_, ?_, fun k hk => ?_, fun j hj => hC0_w hj⟩, fun r k hr hk => ?_, ?_, ⟨_, _, _, fi_0 (Or.inr rfl), fun r hr => Nat.zero_le _⟩⟩
  · decide +kernel
  · exact absurd hk (by rw [show S0 0 23 = 0 by decide +kernel]; omega)
  · decide +kernel
  · exact absurd hk (by rw [n24]; omega)
  · decide +kernel
  · exact absurd hk (by rw [show S0 0 25 = 0 by decide +kernel]; omega)
  · decide +kernel
  · exact absurd hk (by rw [show S0 0 27 = 0 by decide +kernel]; omega)
  · exact absurd hr (by rw [n24]; omega)
  · exact absurd hw (by rw [show S0 0 25 = 0 by decide +kernel]; omega)
  · decide +kernel
  · exact absurd hk (by rw [show S0 0 26 = 0 by decide +kernel]; omega)
  · decide +kernel
  · exact ⟨fun _ => by decide +kernel, fun _ => by decide +kernel⟩
  · exact absurd hk (by rw [show S0 0 28 = 0 by decide +kernel]; omega)
  · decide +kernel
  · decide +kernel
  · decide +kernel
  · rw [hC0_r (by omega), hC0_r (by omega), hC0_r (by omega), hC0_r (by omega)]; omega
  · rw [hC0_r (by omega), hC0_r (by omega), hC0_r (by omega), hC0_r (by omega)]; omega
  · decide +kernel
  · exact absurd hj (by rw [show S0 0 2 = 0 by decide +kernel]; omega)
  · decide +kernel
  · decide +kernel
  · decide +kernel
  · decide +kernel
  · decide +kernel
  · decide +kernel
  · rw [show (S0 0 54).toNat = 0 by decide +kernel] at hk
    exact absurd hk (Nat.not_lt_zero _)
  · exact absurd hr (by rw [n24]; omega)
  · have f := fi_0 (q := 52) (Or.inl rfl)
    rw [show sG S0 = 4 by decide +kernel, show sH S0 = 6 by decide +kernel]
    exact ⟨f.1, f.2.1, f.2.2.1, fun r hr => by rw [sLs_out (by rw [n24]; omega)]; exact f.2.2.2 r hr⟩
/-! what was made is the world -/
theorem zwB_w {E : zE} {h : zH} {u : zU2} {N : Nat} (hN : zN E = N) (hu : ∀ c, c < N → (zsh E c).1 < 20 → ∀ j, j < (zsh E c).2 → ((zfk (zsh E c).1 j).1 = 1 ∨ (zfk (zsh E c).1 j).1 = 2) → u c j = true) : zwB E h u N = zw E h := by
  unfold zwB zw
  rw [hN]
  refine List.map_congr_left (fun c hc => ?_)
  have hc' : c < N := List.mem_range.mp hc
  congr 1
  unfold zreB zre
  split
  · rfl
  · split
    · rfl
    · rename_i n1 n2
      congr 2
      refine List.map_congr_left (fun j hj => ?_)
      have hj' := List.mem_range.mp hj
      have z := hu c hc' (by omega) j hj'
      generalize zfk (zsh E c).1 j = fk at z ⊢
      obtain ⟨a, b⟩ := fk
      match a, z with
      | 0, _ => rfl
      | 1, z =>
        rw [z (Or.inl rfl)]
        rfl
      | 2, z =>
        rw [z (Or.inr rfl)]
        rfl
      | _ + 3, _ => rfl
theorem uC_ok : ∀ c, c < 81 → (zshC c).1 < 20 → ∀ j, j < (zshC c).2 → ((zfk (zshC c).1 j).1 = 1 ∨ (zfk (zshC c).1 j).1 = 2) → euuX9 u00 c j = true := by decide +kernel
theorem uR_ok : ∀ c, c < 42 → (zshR c).1 < 20 → ∀ j, j < (zshR c).2 → ((zfk (zshR c).1 j).1 = 1 ∨ (zfk (zshR c).1 j).1 = 2) → euuX10 u00 c j = true := by decide +kernel
end TLook
