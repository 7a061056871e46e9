/-! ===== topic: the reference lays what it read ===== -/
section TLays
variable {E : zE} {d : Nat}
def cpS (D : Nat → Nat) (h1 h' : zH) : Prop := ∀ c j, h' c j = if 2 ≤ c ∧ c ≤ 21 ∧ j < D c then h1 c (hO c + j) else h1 c j
/-- rows below lo are done, rows lo .. r - 1 have k + 1, rows r .. hi have k -/
def dL (lo r hi k : Nat) : Nat → Nat := fun c => if c < lo then hO c else if c < r then k + 1 else if c ≤ hi then k else 0
theorem cpS.st {h1 h' : zH} {lo r hi k : Nat} (i : cpS (dL lo r hi k) h1 h') (h2 : 2 ≤ r) (h21 : r ≤ 21) (hl : lo ≤ r) (hh : r ≤ hi) (hk : k < hO r) : cpS (dL lo (r + 1) hi k) h1 (hset h' r k (h' r (hO r + k))) := by
  have dr : dL lo r hi k r = k := by
    unfold dL
    rw [if_neg (by omega), if_neg (by omega), if_pos hh]
  have dr' : dL lo (r + 1) hi k r = k + 1 := by
    unfold dL
    rw [if_neg (by omega), if_pos (by omega)]
  intro x j
  by_cases z : x = r
  · subst z
    rw [dr']
    by_cases y : j = k
    · rw [y, hset_eq, if_pos ⟨h2, h21, Nat.lt_succ_self k⟩, i x (hO x + k), dr, if_neg (by omega)]
    · rw [hset_ne (by omega), i x j, dr]
      by_cases q : j < k
      · rw [if_pos ⟨h2, h21, q⟩, if_pos ⟨h2, h21, by omega⟩]
      · rw [if_neg (by omega), if_neg (by omega)]
  · rw [hset_ne (by omega), i x j]
    have e : dL lo r hi k x = dL lo (r + 1) hi k x := by
      unfold dL
      repeat' split
      all_goals omega
    rw [e]
theorem cpS.up {h1 h' : zH} {lo hi k : Nat} (i : cpS (dL lo (hi + 1) hi k) h1 h') (hl : lo ≤ hi) : cpS (dL lo lo hi (k + 1)) h1 h' := by
  have e : dL lo lo hi (k + 1) = dL lo (hi + 1) hi k := by
    funext x
    unfold dL
    repeat' split
    all_goals omega
  rw [e]; exact i
theorem cpS.nx {h1 h' : zH} {lo hi hi' k : Nat} (i : cpS (dL lo lo hi k) h1 h') (hl : lo ≤ hi) (hk : ∀ c, lo ≤ c → c ≤ hi → hO c = k) : cpS (dL (hi + 1) (hi + 1) hi' 0) h1 h' := by
  have e : dL (hi + 1) (hi + 1) hi' 0 = dL lo lo hi k := by
    funext x
    unfold dL
    by_cases z : x < lo
    · rw [if_pos z, if_pos (by omega)]
    · by_cases y : x ≤ hi
      · rw [if_neg z, if_neg z, if_pos y, if_pos (by omega)]
        exact hk x (by omega) y
      · rw [if_neg z, if_neg z, if_neg y, if_neg (by omega), if_neg (by omega)]
        split <;> rfl
  rw [e]; exact i
theorem hO_g {c : Nat} : (c = 2 → hO c = 4) ∧ (3 ≤ c ∧ c ≤ 5 → hO c = 8) ∧ (6 ≤ c ∧ c ≤ 11 → hO c = 80) ∧ (12 ≤ c ∧ c ≤ 13 → hO c = 5) ∧ (c = 14 → hO c = 30) ∧ (c = 15 → hO c = 6) ∧ (16 ≤ c ∧ c ≤ 19 → hO c = 20) ∧ (20 ≤ c → hO c = 64) := by
  unfold hO
  repeat' split
  all_goals omega
theorem R_laysC (hE : isR E) {h1 : zH} (b1 : BdR h1) {K : zH → Prop} (k : ∀ h', cpS (dL 22 22 22 0) h1 h' → K h') : zG E mX10_lays d 89 [zR 0, zI 0] [] h1 (qV K) := by
  have g452 : ∀ (m k' : Nat), k' + m = 64 → ∀ h', cpS (dL 20 20 21 k') h1 h' → zG E mX10_lays d 452 [zR 0, zI (k' : Int)] [] h' (qV K) := by
    intro m
    induction m with
    | zero =>
      intro k' hk h' c'
      refine bX10_lays_452 hE ⟨fun _ => ?_, fun z => absurd (by omega) z⟩
      have nx := fun hi' => c'.nx (hi' := hi') (by omega) (fun c p1 p2 => by have := hO_g (c := c); omega)
      exact k h' (nx 22)
    | succ m ih =>
      intro k' hk h' c0
      have ew : w32 (64 + (k' : Int)) = ((64 + k' : Nat) : Int) := by rw [w32i (by omega) (by omega)]; omega
      refine bX10_lays_452 hE ⟨fun z => absurd z (by omega), fun _ => ?_⟩
      rw [ew, Int.toNat_natCast, Int.toNat_natCast]
      refine ⟨nat_in (n := 128) (by omega), nat_in (n := 128) (by omega), fun y1 e1 => ?_⟩
      have c1 : cpS (dL 20 21 21 k') h1 y1 := by rw [e1]; exact c0.st (by omega) (by omega) (by omega) (by omega) (show k' < 64 by omega)
      refine ⟨nat_in (n := 128) (by omega), nat_in (n := 128) (by omega), fun y2 e2 => ?_⟩
      have c2 : cpS (dL 20 22 21 k') h1 y2 := by rw [e2]; exact c1.st (by omega) (by omega) (by omega) (by omega) (show k' < 64 by omega)
      intro x ex
      rw [w_suc (by omega)] at ex
      rw [ex]
      exact ih (k' + 1) (by omega) _ (c2.up (by omega))
  have g378 : ∀ (m k' : Nat), k' + m = 20 → ∀ h', cpS (dL 16 16 19 k') h1 h' → zG E mX10_lays d 378 [zR 0, zI (k' : Int)] [] h' (qV K) := by
    intro m
    induction m with
    | zero =>
      intro k' hk h' c'
      refine bX10_lays_378 hE ⟨fun _ => ?_, fun z => absurd (by omega) z⟩
      have nx := fun hi' => c'.nx (hi' := hi') (by omega) (fun c p1 p2 => by have := hO_g (c := c); omega)
      exact g452 64 0 (by omega) h' (nx 21)
    | succ m ih =>
      intro k' hk h' c0
      have ew : w32 (20 + (k' : Int)) = ((20 + k' : Nat) : Int) := by rw [w32i (by omega) (by omega)]; omega
      refine bX10_lays_378 hE ⟨fun z => absurd z (by omega), fun _ => ?_⟩
      rw [ew, Int.toNat_natCast, Int.toNat_natCast]
      refine ⟨nat_in (n := 40) (by omega), nat_in (n := 40) (by omega), fun y1 e1 => ?_⟩
      have c1 : cpS (dL 16 17 19 k') h1 y1 := by rw [e1]; exact c0.st (by omega) (by omega) (by omega) (by omega) (show k' < 20 by omega)
      refine ⟨nat_in (n := 40) (by omega), nat_in (n := 40) (by omega), fun y2 e2 => ?_⟩
      have c2 : cpS (dL 16 18 19 k') h1 y2 := by rw [e2]; exact c1.st (by omega) (by omega) (by omega) (by omega) (show k' < 20 by omega)
      refine ⟨nat_in (n := 40) (by omega), nat_in (n := 40) (by omega), fun y3 e3 => ?_⟩
      have c3 : cpS (dL 16 19 19 k') h1 y3 := by rw [e3]; exact c2.st (by omega) (by omega) (by omega) (by omega) (show k' < 20 by omega)
      have v19 : y3 19 (20 + k') = h1 19 (20 + k') := by rw [c3 19 (20 + k'), if_neg (fun z => by have z3 := z.2.2; unfold dL at z3; rw [if_neg (by omega), if_neg (by omega), if_pos (by omega)] at z3; omega)]
      refine ⟨nat_in (n := 40) (by omega), nat_in (n := 40) (by omega), by rw [v19]; exact b1.2 k' (by omega), fun y4 e4 => ?_⟩
      have c4 : cpS (dL 16 20 19 k') h1 y4 := by rw [e4]; exact c3.st (by omega) (by omega) (by omega) (by omega) (show k' < 20 by omega)
      intro x ex
      rw [w_suc (by omega)] at ex
      rw [ex]
      exact ih (k' + 1) (by omega) _ (c4.up (by omega))
  have g349 : ∀ (m k' : Nat), k' + m = 6 → ∀ h', cpS (dL 15 15 15 k') h1 h' → zG E mX10_lays d 349 [zR 0, zI (k' : Int)] [] h' (qV K) := by
    intro m
    induction m with
    | zero =>
      intro k' hk h' c'
      refine bX10_lays_349 hE ⟨fun _ => ?_, fun z => absurd (by omega) z⟩
      have nx := fun hi' => c'.nx (hi' := hi') (by omega) (fun c p1 p2 => by have := hO_g (c := c); omega)
      exact g378 20 0 (by omega) h' (nx 19)
    | succ m ih =>
      intro k' hk h' c0
      have ew : w32 (6 + (k' : Int)) = ((6 + k' : Nat) : Int) := by rw [w32i (by omega) (by omega)]; omega
      refine bX10_lays_349 hE ⟨fun z => absurd z (by omega), fun _ => ?_⟩
      rw [ew, Int.toNat_natCast, Int.toNat_natCast]
      refine ⟨nat_in (n := 12) (by omega), nat_in (n := 12) (by omega), fun y1 e1 => ?_⟩
      have c1 : cpS (dL 15 16 15 k') h1 y1 := by rw [e1]; exact c0.st (by omega) (by omega) (by omega) (by omega) (show k' < 6 by omega)
      intro x ex
      rw [w_suc (by omega)] at ex
      rw [ex]
      exact ih (k' + 1) (by omega) _ (c1.up (by omega))
  have g320 : ∀ (m k' : Nat), k' + m = 30 → ∀ h', cpS (dL 14 14 14 k') h1 h' → zG E mX10_lays d 320 [zR 0, zI (k' : Int)] [] h' (qV K) := by
    intro m
    induction m with
    | zero =>
      intro k' hk h' c'
      refine bX10_lays_320 hE ⟨fun _ => ?_, fun z => absurd (by omega) z⟩
      have nx := fun hi' => c'.nx (hi' := hi') (by omega) (fun c p1 p2 => by have := hO_g (c := c); omega)
      exact g349 6 0 (by omega) h' (nx 15)
    | succ m ih =>
      intro k' hk h' c0
      have ew : w32 (30 + (k' : Int)) = ((30 + k' : Nat) : Int) := by rw [w32i (by omega) (by omega)]; omega
      refine bX10_lays_320 hE ⟨fun z => absurd z (by omega), fun _ => ?_⟩
      rw [ew, Int.toNat_natCast, Int.toNat_natCast]
      refine ⟨nat_in (n := 60) (by omega), nat_in (n := 60) (by omega), fun y1 e1 => ?_⟩
      have c1 : cpS (dL 14 15 14 k') h1 y1 := by rw [e1]; exact c0.st (by omega) (by omega) (by omega) (by omega) (show k' < 30 by omega)
      intro x ex
      rw [w_suc (by omega)] at ex
      rw [ex]
      exact ih (k' + 1) (by omega) _ (c1.up (by omega))
  have g279 : ∀ (m k' : Nat), k' + m = 5 → ∀ h', cpS (dL 12 12 13 k') h1 h' → zG E mX10_lays d 279 [zR 0, zI (k' : Int)] [] h' (qV K) := by
    intro m
    induction m with
    | zero =>
      intro k' hk h' c'
      refine bX10_lays_279 hE ⟨fun _ => ?_, fun z => absurd (by omega) z⟩
      have nx := fun hi' => c'.nx (hi' := hi') (by omega) (fun c p1 p2 => by have := hO_g (c := c); omega)
      exact g320 30 0 (by omega) h' (nx 14)
    | succ m ih =>
      intro k' hk h' c0
      have ew : w32 (5 + (k' : Int)) = ((5 + k' : Nat) : Int) := by rw [w32i (by omega) (by omega)]; omega
      refine bX10_lays_279 hE ⟨fun z => absurd z (by omega), fun _ => ?_⟩
      rw [ew, Int.toNat_natCast, Int.toNat_natCast]
      refine ⟨nat_in (n := 10) (by omega), nat_in (n := 10) (by omega), fun y1 e1 => ?_⟩
      have c1 : cpS (dL 12 13 13 k') h1 y1 := by rw [e1]; exact c0.st (by omega) (by omega) (by omega) (by omega) (show k' < 5 by omega)
      refine ⟨nat_in (n := 10) (by omega), nat_in (n := 10) (by omega), fun y2 e2 => ?_⟩
      have c2 : cpS (dL 12 14 13 k') h1 y2 := by rw [e2]; exact c1.st (by omega) (by omega) (by omega) (by omega) (show k' < 5 by omega)
      intro x ex
      rw [w_suc (by omega)] at ex
      rw [ex]
      exact ih (k' + 1) (by omega) _ (c2.up (by omega))
  have g175 : ∀ (m k' : Nat), k' + m = 80 → ∀ h', cpS (dL 6 6 11 k') h1 h' → zG E mX10_lays d 175 [zR 0, zI (k' : Int)] [] h' (qV K) := by
    intro m
    induction m with
    | zero =>
      intro k' hk h' c'
      refine bX10_lays_175 hE ⟨fun _ => ?_, fun z => absurd (by omega) z⟩
      have nx := fun hi' => c'.nx (hi' := hi') (by omega) (fun c p1 p2 => by have := hO_g (c := c); omega)
      exact g279 5 0 (by omega) h' (nx 13)
    | succ m ih =>
      intro k' hk h' c0
      have ew : w32 (80 + (k' : Int)) = ((80 + k' : Nat) : Int) := by rw [w32i (by omega) (by omega)]; omega
      refine bX10_lays_175 hE ⟨fun z => absurd z (by omega), fun _ => ?_⟩
      rw [ew, Int.toNat_natCast, Int.toNat_natCast]
      refine ⟨nat_in (n := 160) (by omega), nat_in (n := 160) (by omega), fun y1 e1 => ?_⟩
      have c1 : cpS (dL 6 7 11 k') h1 y1 := by rw [e1]; exact c0.st (by omega) (by omega) (by omega) (by omega) (show k' < 80 by omega)
      refine ⟨nat_in (n := 160) (by omega), nat_in (n := 160) (by omega), fun y2 e2 => ?_⟩
      have c2 : cpS (dL 6 8 11 k') h1 y2 := by rw [e2]; exact c1.st (by omega) (by omega) (by omega) (by omega) (show k' < 80 by omega)
      refine ⟨nat_in (n := 160) (by omega), nat_in (n := 160) (by omega), fun y3 e3 => ?_⟩
      have c3 : cpS (dL 6 9 11 k') h1 y3 := by rw [e3]; exact c2.st (by omega) (by omega) (by omega) (by omega) (show k' < 80 by omega)
      refine ⟨nat_in (n := 160) (by omega), nat_in (n := 160) (by omega), fun y4 e4 => ?_⟩
      have c4 : cpS (dL 6 10 11 k') h1 y4 := by rw [e4]; exact c3.st (by omega) (by omega) (by omega) (by omega) (show k' < 80 by omega)
      have v10 : y4 10 (80 + k') = h1 10 (80 + k') := by rw [c4 10 (80 + k'), if_neg (fun z => by have z3 := z.2.2; unfold dL at z3; rw [if_neg (by omega), if_neg (by omega), if_pos (by omega)] at z3; omega)]
      refine ⟨nat_in (n := 160) (by omega), nat_in (n := 160) (by omega), by rw [v10]; exact (b1.1 k' (by omega)).2.2.1, fun y5 e5 => ?_⟩
      have c5 : cpS (dL 6 11 11 k') h1 y5 := by rw [e5]; exact c4.st (by omega) (by omega) (by omega) (by omega) (show k' < 80 by omega)
      have v11 : y5 11 (80 + k') = h1 11 (80 + k') := by rw [c5 11 (80 + k'), if_neg (fun z => by have z3 := z.2.2; unfold dL at z3; rw [if_neg (by omega), if_neg (by omega), if_pos (by omega)] at z3; omega)]
      refine ⟨nat_in (n := 160) (by omega), nat_in (n := 160) (by omega), by rw [v11]; exact (b1.1 k' (by omega)).2.2.2, fun y6 e6 => ?_⟩
      have c6 : cpS (dL 6 12 11 k') h1 y6 := by rw [e6]; exact c5.st (by omega) (by omega) (by omega) (by omega) (show k' < 80 by omega)
      intro x ex
      rw [w_suc (by omega)] at ex
      rw [ex]
      exact ih (k' + 1) (by omega) _ (c6.up (by omega))
  have g116 : ∀ (m k' : Nat), k' + m = 8 → ∀ h', cpS (dL 3 3 5 k') h1 h' → zG E mX10_lays d 116 [zR 0, zI (k' : Int)] [] h' (qV K) := by
    intro m
    induction m with
    | zero =>
      intro k' hk h' c'
      refine bX10_lays_116 hE ⟨fun _ => ?_, fun z => absurd (by omega) z⟩
      have nx := fun hi' => c'.nx (hi' := hi') (by omega) (fun c p1 p2 => by have := hO_g (c := c); omega)
      exact g175 80 0 (by omega) h' (nx 11)
    | succ m ih =>
      intro k' hk h' c0
      have ew : w32 (8 + (k' : Int)) = ((8 + k' : Nat) : Int) := by rw [w32i (by omega) (by omega)]; omega
      refine bX10_lays_116 hE ⟨fun z => absurd z (by omega), fun _ => ?_⟩
      rw [ew, Int.toNat_natCast, Int.toNat_natCast]
      refine ⟨nat_in (n := 16) (by omega), nat_in (n := 16) (by omega), fun y1 e1 => ?_⟩
      have c1 : cpS (dL 3 4 5 k') h1 y1 := by rw [e1]; exact c0.st (by omega) (by omega) (by omega) (by omega) (show k' < 8 by omega)
      refine ⟨nat_in (n := 16) (by omega), nat_in (n := 16) (by omega), fun y2 e2 => ?_⟩
      have c2 : cpS (dL 3 5 5 k') h1 y2 := by rw [e2]; exact c1.st (by omega) (by omega) (by omega) (by omega) (show k' < 8 by omega)
      refine ⟨nat_in (n := 16) (by omega), nat_in (n := 16) (by omega), fun y3 e3 => ?_⟩
      have c3 : cpS (dL 3 6 5 k') h1 y3 := by rw [e3]; exact c2.st (by omega) (by omega) (by omega) (by omega) (show k' < 8 by omega)
      intro x ex
      rw [w_suc (by omega)] at ex
      rw [ex]
      exact ih (k' + 1) (by omega) _ (c3.up (by omega))
  have g89 : ∀ (m k' : Nat), k' + m = 4 → ∀ h', cpS (dL 2 2 2 k') h1 h' → zG E mX10_lays d 89 [zR 0, zI (k' : Int)] [] h' (qV K) := by
    intro m
    induction m with
    | zero =>
      intro k' hk h' c'
      refine bX10_lays_89 hE ⟨fun _ => ?_, fun z => absurd (by omega) z⟩
      have nx := fun hi' => c'.nx (hi' := hi') (by omega) (fun c p1 p2 => by have := hO_g (c := c); omega)
      exact g116 8 0 (by omega) h' (nx 5)
    | succ m ih =>
      intro k' hk h' c0
      have ew : w32 (4 + (k' : Int)) = ((4 + k' : Nat) : Int) := by rw [w32i (by omega) (by omega)]; omega
      refine bX10_lays_89 hE ⟨fun z => absurd z (by omega), fun _ => ?_⟩
      rw [ew, Int.toNat_natCast, Int.toNat_natCast]
      refine ⟨nat_in (n := 8) (by omega), nat_in (n := 8) (by omega), fun y1 e1 => ?_⟩
      have c1 : cpS (dL 2 3 2 k') h1 y1 := by rw [e1]; exact c0.st (by omega) (by omega) (by omega) (by omega) (show k' < 4 by omega)
      intro x ex
      rw [w_suc (by omega)] at ex
      rw [ex]
      exact ih (k' + 1) (by omega) _ (c1.up (by omega))
  refine g89 4 0 rfl h1 (fun c j => ?_)
  rw [if_neg (fun z => ?_)]
  have z3 := z.2.2
  unfold dL at z3
  rw [if_neg (by omega), if_neg (by omega)] at z3
  split at z3 <;> omega
end TLays
