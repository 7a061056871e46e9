/-! ===== topic: feed ===== -/
section TFeed
variable {E : zE} {d : Nat} {h : zH} {S : zH} {K : Int → zH → Prop}
theorem and_255 (x : Int32) : (x &&& Int32.ofInt 255).toInt = x.toInt % 256 := by
  have h1 : (x &&& Int32.ofInt 255).toBitVec = x.toBitVec &&& 255#32 := rfl
  show (x &&& Int32.ofInt 255).toBitVec.toInt = x.toBitVec.toInt % 256
  rw [h1]
  generalize x.toBitVec = b
  have h2 : (b &&& 255#32).toNat = b.toNat % 256 := by rw [BitVec.toNat_and]; exact Nat.and_two_pow_sub_one_eq_mod b.toNat 8
  rw [BitVec.toInt_eq_toNat_cond, BitVec.toInt_eq_toNat_cond, h2]
  have := b.isLt
  split <;> split <;> omega
theorem shr_i (X s : Int32) {k : Nat} (hs : (s.toBitVec.smod 32).toNat = k) : (X >>> s).toInt = X.toInt / 2 ^ k := by
  have h1 : (X >>> s).toBitVec = X.toBitVec.sshiftRight (s.toBitVec.smod 32).toNat := rfl
  show (X >>> s).toBitVec.toInt = X.toBitVec.toInt / 2 ^ k
  rw [h1, hs, BitVec.toInt_sshiftRight, Int.shiftRight_eq_div_pow]
  rfl
theorem ushr_i (X : Int32) (t : UInt32) {k : Nat} (ht : t.toNat % 32 = k) : (X.toUInt32 >>> t).toInt32.toInt % 256 = (X.toInt % 4294967296) / 2 ^ k % 256 := by
  have h1 : (X.toUInt32 >>> t).toNat = X.toUInt32.toNat / 2 ^ k := by rw [UInt32.toNat_shiftRight, ht, Nat.shiftRight_eq_div_pow]
  have h2 : (X.toUInt32 >>> t).toInt32.toInt = (X.toUInt32 >>> t).toBitVec.toInt := rfl
  have h3 : (X.toUInt32 >>> t).toBitVec.toNat = (X.toUInt32 >>> t).toNat := rfl
  have h4 : X.toInt = X.toBitVec.toInt := rfl
  have h5 : X.toUInt32.toNat = X.toBitVec.toNat := rfl
  rw [h2, h4, BitVec.toInt_eq_toNat_cond, BitVec.toInt_eq_toNat_cond, h3, h1, h5]
  have hlt := X.toBitVec.isLt
  generalize X.toBitVec.toNat = n at hlt ⊢
  have e1 : ((if 2 * n < 2 ^ 32 then (n : Int) else (n : Int) - ((2 ^ 32 : Nat) : Int)) % 4294967296) = (n : Int) := by split <;> omega
  rw [e1]
  have e2 : ((n / 2 ^ k : Nat) : Int) = (n : Int) / 2 ^ k := by simp
  rw [← e2]
  generalize n / 2 ^ k = q
  split <;> omega
def bt (x sh : Int) : Int := zand (zshr x sh) 255
theorem bt_r (x sh : Int) : 0 ≤ bt x sh ∧ bt x sh ≤ 255 := by
  unfold bt zand
  rw [and_255]
  omega
theorem zi2c_s : ∀ n : Nat, n < 256 → zi2c (n : Int) = (n : Int) := by decide +kernel
theorem bt_c {x : Int} {k : Nat} (hk : k = 0 ∨ k = 8 ∨ k = 16 ∨ k = 24) : zi2c (zand (zushr x (k : Int)) 255) = bt x (k : Int) := by
  have e : zand (zushr x (k : Int)) 255 = bt x (k : Int) := by
    unfold bt zand zushr zshr
    rw [i32_self, i32_self, and_255, and_255]
    have hs : ((Int32.ofInt (k : Int) &&& 31).toBitVec.smod 32).toNat = k := s_l35 k (by omega)
    have ht : ((Int32.ofInt (k : Int)).toUInt32 &&& Int32.toUInt32 31).toNat % 32 = k := by
      rcases hk with e | e | e | e <;> subst e <;> decide +kernel
    rw [shr_i _ _ hs, ushr_i _ _ ht]
    have r := i32_r (Int32.ofInt x)
    unfold r32 at r
    generalize (Int32.ofInt x).toInt = y at r ⊢
    rcases hk with e | e | e | e <;> subst e <;> simp <;> omega
  have r := bt_r x (k : Int)
  rw [e]
  have := zi2c_s (bt x (k : Int)).toNat (by omega)
  rwa [show (((bt x (k : Int)).toNat : Nat) : Int) = bt x (k : Int) by omega] at this
/-- the k-th of twenty bytes -/
def fdB (a b c e f : Int) (k : Nat) : Int := bt (if k < 4 then a else if k < 8 then b else if k < 12 then c else if k < 16 then e else f) (((24 - 8 * (k % 4) : Nat)) : Int)
def stF (S : zH) (a b c e f : Int) (m : Nat) : zH := fun c' j => if c' = 1 ∧ (S 0 2).toNat ≤ j ∧ j < (S 0 2).toNat + m then fdB a b c e f (j - (S 0 2).toNat) else S c' j
def uFeed (S : zH) (a b c e f : Int) : zH := if S 0 2 ≤ 880 then hset (stF S a b c e f 20) 0 2 (S 0 2 + 20) else S
def aFeed (S : zH) : Int := if S 0 2 ≤ 880 then S 0 2 + 20 else -1
theorem stF_ne {a b c e f : Int} {m c' j : Nat} (hc : c' ≠ 1) : stF S a b c e f m c' j = S c' j := by
  unfold stF
  rw [if_neg (fun z => hc z.1)]
theorem fd_wf (w : WfS S) {a b c e f : Int} (h8 : S 0 2 ≤ 880) : WfS (hset (stF S a b c e f 20) 0 2 (S 0 2 + 20)) := by
  have wn := w.n
  have o : ∀ c' j, c' ≠ 1 → ¬ (c' = 0 ∧ j = 2) → hset (stF S a b c e f 20) 0 2 (S 0 2 + 20) c' j = S c' j := fun c' j n1 n2 => by rw [hset_ne n2, stF_ne n1]
  refine w.ms ⟨fun c' h1 h2 => funext fun j => o c' j (by omega) (by omega), fun j h1 h2 => o 0 j (by omega) (by omega)⟩ ?_ ?_ ?_
  · unfold WfN at wn ⊢
    rw [hset_eq, o 0 23 (by omega) (by omega), o 0 24 (by omega) (by omega), o 0 25 (by omega) (by omega), o 0 26 (by omega) (by omega), o 0 27 (by omega) (by omega), o 0 29 (by omega) (by omega), o 0 30 (by omega) (by omega), o 0 31 (by omega) (by omega), o 0 54 (by omega) (by omega), o 0 55 (by omega) (by omega), o 0 56 (by omega) (by omega), o 0 57 (by omega) (by omega)]
    omega
  · have g := w.t
    have r : ∀ c', c' ≠ 1 → c' ≠ 0 → hset (stF S a b c e f 20) 0 2 (S 0 2 + 20) c' = S c' := fun c' n1 n2 => funext fun j => o c' j n1 (by omega)
    unfold WfT at g ⊢
    rw [o 0 54 (by omega) (by omega), r 22 (by omega) (by omega), r 23 (by omega) (by omega), r 24 (by omega) (by omega), r 25 (by omega) (by omega)]
    exact g
  · intro j hj
    rw [hset_eq] at hj
    rw [hset_ne (by omega)]
    unfold WfN at wn
    unfold stF
    split
    · unfold fdB
      exact bt_r _ _
    · rename_i z
      exact w.b j (by omega)
theorem R_feed (hE : isR E) (i : IR S h) {a b c e f : Int} (hK : ∀ h', IR (uFeed S a b c e f) h' → K (aFeed S) h') : zCI E mX10_feed d [zR 0, zI a, zI b, zI c, zI e, zI f] h K := by
  refine eX10_feed hE (fun h1 e1 => ?_)
  have i1 := i.thr e1
  have wn := i.wf.n
  unfold WfN at wn
  have e2 : h1 0 2 = S 0 2 := i1.q.num (by omega)
  unfold uFeed aFeed at hK
  rw [e2]
  refine ⟨fun c1 => ?_, fun c1 => ?_⟩
  · rw [if_pos c1, if_pos c1] at hK
    have loop : ∀ (m k : Nat), k + m = 20 → ∀ h2 : zH, (∀ c' j, c' ≠ 1 → h2 c' j = h1 c' j) → (∀ j, h2 1 j = stF S a b c e f k 1 j) → zG E mX10_feed d 20 [zR 0, zI a, zI b, zI c, zI e, zI f, zI k, zU] [] h2 (qI K) := by
      intro m
      induction m with
      | zero =>
        intro k hk h2 fr k1
        have ek : k = 20 := by omega
        subst ek
        refine bX10_feed_20 hE ⟨fun _ h3 e3 => ?_, fun c => absurd (by decide) c⟩
        have q2 : h2 0 2 = S 0 2 := by rw [fr 0 2 (by omega)]; exact e2
        rw [q2, w32i (by omega) (by omega)] at e3
        have q3 : h3 0 2 = S 0 2 + 20 := by rw [e3, hset_eq]
        rw [q3]
        refine hK h3 ⟨fd_wf i.wf c1, ?_, fun z r hr => ?_, ?_⟩
        · rw [e3]
          refine zq.set (fun c' j hz => ?_) 0 2 _
          by_cases q : c' = 1
          · subst q; exact k1 j
          · rw [fr c' j q, stF_ne q]; exact i1.q c' j hz
        · have o : ∀ c' j, c' ≠ 1 → ¬ (c' = 0 ∧ j = 2) → hset (stF S a b c e f 20) 0 2 (S 0 2 + 20) c' j = S c' j := fun c' j n1 n2 => by rw [hset_ne n2, stF_ne n1]
          have rr : ∀ c', c' ≠ 1 → c' ≠ 0 → hset (stF S a b c e f 20) 0 2 (S 0 2 + 20) c' = S c' := fun c' n1 n2 => funext fun j => o c' j n1 (by omega)
          have f3 : ∀ c' j, c' ≠ 1 → ¬ (c' = 0 ∧ j = 2) → h3 c' j = h1 c' j := fun c' j n1 n2 => by rw [e3, hset_ne n2]; exact fr c' j n1
          rw [o 0 24 (by omega) (by omega)] at hr
          have s1 := i1.2.2.1 (by rw [f3 0 74 (by omega) (by omega)] at z; exact z) r hr
          have s2 : ShR h3 (sLs S (sNk S)) (sG S) (sH S) r := s1.sm (fun c' j q1 q2 => f3 c' j (by omega) (by omega))
          have eN : sNk (hset (stF S a b c e f 20) 0 2 (S 0 2 + 20)) = sNk S := by unfold sNk; rw [o 0 54 (by omega) (by omega), o 0 55 (by omega) (by omega)]
          have eL : sLs (hset (stF S a b c e f 20) 0 2 (S 0 2 + 20)) (sNk S) = sLs S (sNk S) := by
            unfold sLs sTr
            rw [o 0 56 (by omega) (by omega), o 0 24 (by omega) (by omega), rr 5 (by omega) (by omega), rr 6 (by omega) (by omega), rr 7 (by omega) (by omega), rr 8 (by omega) (by omega), rr 9 (by omega) (by omega), rr 10 (by omega) (by omega), rr 11 (by omega) (by omega), rr 22 (by omega) (by omega), rr 23 (by omega) (by omega), rr 24 (by omega) (by omega), rr 25 (by omega) (by omega)]
          have eG : sG (hset (stF S a b c e f 20) 0 2 (S 0 2 + 20)) = sG S := by unfold sG; rw [o 0 29 (by omega) (by omega)]
          have eH : sH (hset (stF S a b c e f 20) 0 2 (S 0 2 + 20)) = sH S := by unfold sH; rw [o 0 30 (by omega) (by omega)]
          rw [eN, eL, eG, eH]
          exact s2
        · rw [e3, hset_rne (by omega), show h2 39 = h1 39 from funext fun j => fr 39 j (by omega)]; exact i1.2.2.2
      | succ m ih =>
        intro k hk h2 fr k1
        have q2 : h2 0 2 = S 0 2 := by rw [fr 0 2 (by omega)]; exact e2
        have ei : w32 ((h2 0 2) + (k : Int)) = (((S 0 2).toNat + k : Nat) : Int) := by rw [q2, w32i (by omega) (by omega)]; omega
        have es : w32 (24 - w32 (8 * w32 (Int.tmod (k : Int) 4))) = ((24 - 8 * (k % 4) : Nat) : Int) := by
          rw [Int.tmod_eq_emod_of_nonneg (by omega), w32i (x := (k : Int) % 4) (by omega) (by omega), w32i (x := 8 * ((k : Int) % 4)) (by omega) (by omega), w32i (by omega) (by omega)]; omega
        have g73 : ∀ s0 : Int, s0 = (if k < 4 then a else if k < 8 then b else if k < 12 then c else if k < 16 then e else f) → zG E mX10_feed d 73 [zR 0, zI a, zI b, zI c, zI e, zI f, zI k, zU] [zI s0] h2 (qI K) := by
          intro s0 e0
          refine bX10_feed_73 hE ?_
          rw [ei, es, Int.toNat_natCast]
          refine ⟨nat_in (n := 900) (by omega), fun h3 e3 y ey => ?_⟩
          rw [w_suc (by omega)] at ey
          rw [ey]
          refine ih (k + 1) (by omega) h3 (fun c' j q => by rw [e3, hset_ne (by omega)]; exact fr c' j q) (fun j => ?_)
          unfold stF
          by_cases q : j = (S 0 2).toNat + k
          · subst q
            rw [e3, hset_eq, if_pos ⟨rfl, by omega, by omega⟩, show (S 0 2).toNat + k - (S 0 2).toNat = k by omega]
            unfold fdB bt
            rw [e0]
          · rw [e3, hset_ne (by omega), k1 j]
            unfold stF
            by_cases q2 : 1 = 1 ∧ (S 0 2).toNat ≤ j ∧ j < (S 0 2).toNat + k
            · rw [if_pos q2, if_pos (by omega)]
            · rw [if_neg q2, if_neg (by omega)]
        refine bX10_feed_20 hE ⟨fun c => absurd c (by omega), fun _ => ⟨fun c2 => ⟨fun c3 => ⟨fun c4 => ⟨fun c5 => g73 f ?_, fun c5 => g73 e ?_⟩, fun c4 => g73 c ?_⟩, fun c3 => g73 b ?_⟩, fun c2 => g73 a ?_⟩⟩
        · rw [if_neg (by omega), if_neg (by omega), if_neg (by omega), if_neg (by omega)]
        · rw [if_neg (by omega), if_neg (by omega), if_neg (by omega), if_pos (by omega)]
        · rw [if_neg (by omega), if_neg (by omega), if_pos (by omega)]
        · rw [if_neg (by omega), if_pos (by omega)]
        · rw [if_pos (by omega)]
    refine loop 20 0 rfl h1 (fun _ _ _ => rfl) (fun j => ?_)
    unfold stF
    rw [if_neg (by omega), i1.q.row (c := 1) (by omega) (by omega)]
  · rw [if_neg c1, if_neg c1] at hK
    exact hK h1 i1
end TFeed
