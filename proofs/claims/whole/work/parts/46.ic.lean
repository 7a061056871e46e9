/-! ===== topic: what the class's heap holds of the state ===== -/
section TIc
variable {E : zE} {d : Nat} {h : zH} {S : zH}
theorem bI_n {P : Prop} [Decidable P] : ¬ bI P = 0 ↔ P := by unfold bI; split <;> simp_all
def wdL (j : Nat) : Int := ([404164608, 613882880, 659011744, 407943168, 40936896, 251073536, 773619712, 475056128, 638881792, 80001152, 254054400, 650153312, 522190848, 48365568, 486146048, 509804544, 719638528, 647828480, 680957536, 659011763, 653873152] : List Int).getD j 0
def sixF (h : zH) (c j : Nat) (x y lx ly ag gn : Int) : Prop := h c j = x ∧ h c (j + 1) = y ∧ h c (j + 2) = lx ∧ h c (j + 3) = ly ∧ h c (j + 4) = ag ∧ h c (j + 5) = gn
def NmC (S h : zH) (q n a : Nat) : Prop := h q 1 = S 0 n ∧ ∀ k : Nat, (k : Int) < S 0 n → h (q + 1) k = S a k
def RgC (S h : zH) (b : Nat) : Prop := ∀ r : Nat, (r : Int) < S 0 24 → h (b + 9) r = S 4 r ∧ h (b + 10) r = S 5 r ∧ ∀ k : Nat, (k : Int) < S 5 r → sixF h (b + 11) ((10 * r + k) * 6) (S 6 (10 * r + k)) (S 7 (10 * r + k)) (S 8 (10 * r + k)) (S 9 (10 * r + k)) (S 10 (10 * r + k)) (S 11 (10 * r + k))
def WyC (S h : zH) (b : Nat) : Prop := ∀ w : Nat, (w : Int) < S 0 25 → h (b + 12) (7 * w) = S 13 w ∧ ∀ j : Nat, j < 6 → h (b + 12) (7 * w + 1 + j) = S 14 (6 * w + j)
def SyC (S h : zH) (b : Nat) : Prop := h b 9 = S 0 26 ∧ ∀ s : Nat, (s : Int) < S 0 26 → h (b + 13) (4 * s) = S 16 s ∧ h (b + 13) (4 * s + 1) = S 17 s ∧ h (b + 13) (4 * s + 2) = S 18 s ∧ h (b + 13) (4 * s + 3) = S 19 s
def SvC (S h : zH) (b : Nat) : Prop := NmC S h (b + 1) 23 2 ∧ NmC S h (b + 3) 24 3 ∧ NmC S h (b + 5) 25 12 ∧ NmC S h (b + 7) 27 15 ∧ RgC S h b ∧ WyC S h b ∧ SyC S h b ∧ RuC S h b ∧ h b 14 = S 0 29 ∧ h b 15 = S 0 30 ∧ h b 16 = S 0 31
def BdC (h : zH) (b : Nat) : Prop := ∀ s : Nat, s < 80 → (-999 ≤ h (b + 11) (s * 6) ∧ h (b + 11) (s * 6) ≤ 999 ∧ -999 ≤ h (b + 11) (s * 6 + 1) ∧ h (b + 11) (s * 6 + 1) ≤ 999) ∧ (-99 ≤ h (b + 11) (s * 6 + 2) ∧ h (b + 11) (s * 6 + 2) ≤ 99 ∧ -99 ≤ h (b + 11) (s * 6 + 3) ∧ h (b + 11) (s * 6 + 3) ≤ 99)
def othC (S h : zH) : Prop := h 0 1 = S 0 2 ∧ (∀ j : Nat, (j : Int) < S 0 2 → h 1 j = S 1 j) ∧ h 0 6 = S 0 55 ∧ h 0 7 = S 0 56 ∧ h 0 8 = S 0 57 ∧ h 2 2 = S 0 51 ∧ h 2 3 = S 0 52 ∧ h 46 5 = S 0 54 ∧ NotesC h (S 22) (S 23) (S 24) (S 25) (S 0 54).toNat ∧ ∀ j, j < 21 → h 4 j = wdL j
def nowC (S h : zH) : Prop := ∀ r k : Nat, (r : Int) < S 0 24 → (k : Int) < S 5 r → sixF h 53 ((10 * r + k) * 6) ((sTr S (sNk S)).1 (10 * r + k)) ((sTr S (sNk S)).2.1 (10 * r + k)) (S 8 (10 * r + k)) (S 9 (10 * r + k)) (S 10 (10 * r + k)) ((sTr S (sNk S)).2.2 (10 * r + k))
def thnC (h : zH) : Prop := ∃ L G H, FiInv h 64 L G H ∧ ∀ r, r < 8 → (L r).length ≤ 10
def ICb (S h : zH) (b : Nat) : Prop := WfS S ∧ ((b = 8 ∨ b = 27) ∧ h 0 3 = (b : Nat) ∧ h 0 4 = ((35 - b : Nat) : Int)) ∧ SvC S h b ∧ (BdC h 8 ∧ BdC h 27) ∧ othC S h ∧ nowC S h ∧ FiInv h 52 (sLs S (sNk S)) (sG S) (sH S) ∧ thnC h
def IC (S h : zH) : Prop := ∃ b, ICb S h b
theorem ICb.ic {b : Nat} (i : ICb S h b) : IC S h := ⟨b, i⟩
theorem ICb.wf {b : Nat} (i : ICb S h b) : WfS S := i.1
theorem ICb.hb {b : Nat} (i : ICb S h b) : b = 8 ∨ b = 27 := i.2.1.1
theorem ICb.tld {b : Nat} (i : ICb S h b) : h 0 3 = (b : Nat) := i.2.1.2.1
theorem ICb.spr {b : Nat} (i : ICb S h b) : h 0 4 = ((35 - b : Nat) : Int) := i.2.1.2.2
theorem ICb.sv {b : Nat} (i : ICb S h b) : SvC S h b := i.2.2.1
theorem ICb.bd {b : Nat} (i : ICb S h b) : BdC h 8 ∧ BdC h 27 := i.2.2.2.1
theorem ICb.ot {b : Nat} (i : ICb S h b) : othC S h := i.2.2.2.2.1
theorem ICb.nw {b : Nat} (i : ICb S h b) : nowC S h := i.2.2.2.2.2.1
theorem ICb.fi {b : Nat} (i : ICb S h b) : FiInv h 52 (sLs S (sNk S)) (sG S) (sH S) := i.2.2.2.2.2.2.1
theorem ICb.tn {b : Nat} (i : ICb S h b) : thnC h := i.2.2.2.2.2.2.2
theorem SvC.la {b : Nat} (i : SvC S h b) : NmC S h (b + 1) 23 2 := i.1
theorem SvC.ri {b : Nat} (i : SvC S h b) : NmC S h (b + 3) 24 3 := i.2.1
theorem SvC.wa {b : Nat} (i : SvC S h b) : NmC S h (b + 5) 25 12 := i.2.2.1
theorem SvC.me {b : Nat} (i : SvC S h b) : NmC S h (b + 7) 27 15 := i.2.2.2.1
theorem SvC.rg {b : Nat} (i : SvC S h b) : RgC S h b := i.2.2.2.2.1
theorem SvC.wy {b : Nat} (i : SvC S h b) : WyC S h b := i.2.2.2.2.2.1
theorem SvC.sy {b : Nat} (i : SvC S h b) : SyC S h b := i.2.2.2.2.2.2.1
theorem SvC.ru {b : Nat} (i : SvC S h b) : RuC S h b := i.2.2.2.2.2.2.2.1
theorem SvC.gd {b : Nat} (i : SvC S h b) : h b 14 = S 0 29 := i.2.2.2.2.2.2.2.2.1
theorem SvC.sp {b : Nat} (i : SvC S h b) : h b 15 = S 0 30 := i.2.2.2.2.2.2.2.2.2.1
theorem SvC.sl {b : Nat} (i : SvC S h b) : h b 16 = S 0 31 := i.2.2.2.2.2.2.2.2.2.2
theorem ICb.fw {b : Nat} (i : ICb S h b) : FiW h 52 (sLs S (sNk S)) (sG S) (sH S) := by
  have w := i.wf.n
  unfold WfN at w
  exact ⟨i.fi, fun r hr => sLs_pt i.wf (sNk_le i.wf) hr, by unfold sG; omega, by unfold sH; omega⟩
def scr (c : Nat) : Prop := c = 25 ∨ c = 26 ∨ c = 44 ∨ c = 45 ∨ c = 51 ∨ (57 ≤ c ∧ c ≤ 80)
theorem NmC.mv {h' : zH} {q n a : Nat} (i : NmC S h q n a) (fr : ∀ j, h' q j = h q j ∧ h' (q + 1) j = h (q + 1) j) : NmC S h' q n a :=
  ⟨by rw [(fr 1).1]; exact i.1, fun k hk => by rw [(fr k).2]; exact i.2 k hk⟩
theorem SvC.mv {h' : zH} {b : Nat} (i : SvC S h b) (fr : ∀ c j, b ≤ c → c ≤ b + 16 → h' c j = h c j) : SvC S h' b := by
  refine ⟨i.la.mv (fun j => ⟨fr _ _ (by omega) (by omega), fr _ _ (by omega) (by omega)⟩), i.ri.mv (fun j => ⟨fr _ _ (by omega) (by omega), fr _ _ (by omega) (by omega)⟩), i.wa.mv (fun j => ⟨fr _ _ (by omega) (by omega), fr _ _ (by omega) (by omega)⟩), i.me.mv (fun j => ⟨fr _ _ (by omega) (by omega), fr _ _ (by omega) (by omega)⟩), fun r hr => ?_, fun w hw => ?_, ?_, ?_, ?_, ?_, ?_⟩
  · have z := i.rg r hr
    refine ⟨by rw [fr _ _ (by omega) (by omega)]; exact z.1, by rw [fr _ _ (by omega) (by omega)]; exact z.2.1, fun k hk => ?_⟩
    have y := z.2.2 k hk
    unfold sixF at y ⊢
    rw [fr _ _ (by omega) (by omega), fr _ _ (by omega) (by omega), fr _ _ (by omega) (by omega), fr _ _ (by omega) (by omega), fr _ _ (by omega) (by omega), fr _ _ (by omega) (by omega)]
    exact y
  · have z := i.wy w hw
    exact ⟨by rw [fr _ _ (by omega) (by omega)]; exact z.1, fun j hj => by rw [fr _ _ (by omega) (by omega)]; exact z.2 j hj⟩
  · have z := i.sy
    refine ⟨by rw [fr _ _ (by omega) (by omega)]; exact z.1, fun s hs => ?_⟩
    have y := z.2 s hs
    rw [fr _ _ (by omega) (by omega), fr _ _ (by omega) (by omega), fr _ _ (by omega) (by omega), fr _ _ (by omega) (by omega)]
    exact y
  · have z := i.ru
    refine ⟨by rw [fr _ _ (by omega) (by omega)]; exact z.1, by rw [fr _ _ (by omega) (by omega)]; exact z.2.1, fun k hk => ?_⟩
    rw [fr _ _ (by omega) (by omega), fr _ _ (by omega) (by omega)]
    exact z.2.2 k hk
  · rw [fr _ _ (by omega) (by omega)]; exact i.gd
  · rw [fr _ _ (by omega) (by omega)]; exact i.sp
  · rw [fr _ _ (by omega) (by omega)]; exact i.sl
theorem BdC.mv {h' : zH} {b : Nat} (i : BdC h b) (fr : ∀ j, h' (b + 11) j = h (b + 11) j) : BdC h' b := by
  intro s hs
  rw [fr, fr, fr, fr]
  exact i s hs
theorem othC.mv {h' : zH} (i : othC S h) (fr : ∀ c j, (c ≤ 4 ∨ (46 ≤ c ∧ c ≤ 50)) → h' c j = h c j) : othC S h' := by
  obtain ⟨a1, a2, a3, a4, a5, a6, a7, a8, a9, a10⟩ := i
  refine ⟨by rw [fr _ _ (by omega)]; exact a1, fun j hj => by rw [fr _ _ (by omega)]; exact a2 j hj, by rw [fr _ _ (by omega)]; exact a3, by rw [fr _ _ (by omega)]; exact a4, by rw [fr _ _ (by omega)]; exact a5, by rw [fr _ _ (by omega)]; exact a6, by rw [fr _ _ (by omega)]; exact a7, by rw [fr _ _ (by omega)]; exact a8, fun k hk => ?_, fun j hj => by rw [fr _ _ (by omega)]; exact a10 j hj⟩
  rw [fr _ _ (by omega), fr _ _ (by omega), fr _ _ (by omega), fr _ _ (by omega)]
  exact a9 k hk
theorem ICb.mv {h' : zH} {b : Nat} (i : ICb S h b) (fr : ∀ c j, ¬ scr c → h' c j = h c j) (f1 : FiInv h' 52 (sLs S (sNk S)) (sG S) (sH S)) (f2 : thnC h') : ICb S h' b := by
  have hb := i.hb
  refine ⟨i.wf, ⟨hb, by rw [fr _ _ (by unfold scr; omega)]; exact i.tld, by rw [fr _ _ (by unfold scr; omega)]; exact i.spr⟩, i.sv.mv (fun c j h1 h2 => fr c j (by unfold scr; omega)), ⟨i.bd.1.mv (fun j => fr _ _ (by unfold scr; omega)), i.bd.2.mv (fun j => fr _ _ (by unfold scr; omega))⟩, i.ot.mv (fun c j hc => fr c j (by unfold scr; omega)), fun r k hr hk => ?_, f1, f2⟩
  have z := i.nw r k hr hk
  unfold sixF at z ⊢
  rw [fr _ _ (by unfold scr; omega), fr _ _ (by unfold scr; omega), fr _ _ (by unfold scr; omega), fr _ _ (by unfold scr; omega), fr _ _ (by unfold scr; omega), fr _ _ (by unfold scr; omega)]
  exact z
/-- what the questions may change -/
def frC (h h' : zH) : Prop := ∀ c j, ¬ (57 ≤ c ∧ c ≤ 63) → c ≠ 25 → c ≠ 26 → c ≠ 44 → c ≠ 45 → ¬ (76 ≤ c ∧ c ≤ 80) → h' c j = h c j
theorem frC.rf (h : zH) : frC h h := fun _ _ _ _ _ _ _ _ => rfl
theorem frC.tr {h h1 h2 : zH} (a : frC h h1) (b : frC h1 h2) : frC h h2 := fun c j n1 n2 n3 n4 n5 n6 => (b c j n1 n2 n3 n4 n5 n6).trans (a c j n1 n2 n3 n4 n5 n6)
theorem frC.q {h h' : zH} (a : frQ 52 h h') : frC h h' := fun c j n1 n2 n3 n4 n5 n6 => a c j (by omega)
theorem frC.g {h h' : zH} (a : frG h h') : frC h h' := fun c j n1 n2 n3 n4 n5 n6 => a c j n1 (by omega) (by omega)
theorem ICb.mvC {h' : zH} {b : Nat} (i : ICb S h b) (fr : frC h h') (f1 : FiInv h' 52 (sLs S (sNk S)) (sG S) (sH S)) : ICb S h' b := by
  refine i.mv (fun c j n => fr c j (by unfold scr at n; omega) (by unfold scr at n; omega) (by unfold scr at n; omega) (by unfold scr at n; omega) (by unfold scr at n; omega) (by unfold scr at n; omega)) f1 ?_
  obtain ⟨L, G, H, hF, hl⟩ := i.tn
  exact ⟨L, G, H, hF.sm (fun c j h1 h2 => fr c j (by omega) (by omega) (by omega) (by omega) (by omega) (by omega)), hl⟩
theorem ICb.mvQ {h' : zH} {b : Nat} (i : ICb S h b) (fr : frQ 52 h h') (f1 : FiW h' 52 (sLs S (sNk S)) (sG S) (sH S)) : ICb S h' b := i.mvC (frC.q fr) f1.1
end TIc
