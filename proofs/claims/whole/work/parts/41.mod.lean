/-! ===== the reference: by rests; gives ===== -/
section MJ2
variable {N : Nat} {u d : Int → Int} {τ0 : Mem}
/-- the marks of the reference and the rests of the class say the same -/
def zr (N : Nat) (rem : Int → Int) (z r : Int → Int) (t : Nat) : Prop := (∀ i : Int, 0 ≤ i → i < N → (z i = 0 ∨ z i = 1) ∧ r i = if z i = 0 then rem i else -1) ∧ sumF z N = t
theorem mrests_s (hok : okP N u d) (hL : ML τ0 N u d) (hN : 0 < N) {v : Nat} (hv : v ≤ 2000) {Q : Mem → Prop} (hQ : ∀ τ', Gg τ0 τ' → (∀ i : Int, 0 ≤ i → i < N → τ' 7 i = restG (wtD u d N) (alD u d N) v N i) → Q τ') : CV layM MX8_givesRests [vP 0, vI v] τ0 Q := by
  have h5 := hok.1
  have hW := okW_of hok
  have ha := hW.2.2.2.2.2.1 hN
  generalize hw : wtD u d N = w at hW hQ
  generalize hal : alD u d N = a at hW hQ ha
  have hLw : ∀ i : Int, 0 ≤ i → i < N → τ0 6 i = w i := fun i x y => by rw [← hw]; exact hL.2.2.2.2 i x y
  have hLa : τ0 0 16 = a := by rw [← hal]; exact hL.2.2.2.1
  have hR := restL_bd (w := w) (a := a) (v := (v : Int)) hN (fun i x y => by have := (hW.2.2.1 i x y).1; omega) hW.2.2.2.1 (by omega)
  have hLe : (restL w a v N : Int) = v - sumF (restF w a v) N := by unfold restL; omega
  have hrem : ∀ i : Int, 0 ≤ restR w a v i := fun i => Int.emod_nonneg _ (by omega)
  -- giving one by one
  have key57 : ∀ (m t : Nat) (τ : Mem), t + m = restL w a v N → Gg τ0 τ → (∀ i : Int, 0 ≤ i → i < N → τ 7 i = (rsG (restF w a v) (restR w a v) N t).1 i) → zr N (restR w a v) (τ 8) (rsG (restF w a v) (restR w a v) N t).2 t → LX8_givesRests_57 v m τ Q := by
    intro m
    induction m with
    | zero =>
      intro t τ ht hF hg hz
      refine X8_givesRests_57 ⟨fun _ => hQ τ hF (fun i x y => ?_), fun h => by simp at h⟩
      rw [hg i x y, show t = restL w a v N by omega]; rfl
    | succ m ih =>
      intro t τ ht hF hg hz
      have e0 := hF 0 (by decide) (by decide)
      have e2 := hF 2 (by decide) (by decide)
      have e6 := hF 6 (by decide) (by decide)
      -- the search for the next
      have hzz : ∀ i : Int, 0 ≤ i → i < N → (rsG (restF w a v) (restR w a v) N t).2 i = (if τ 8 i = 0 then restR w a v i else -1) ∧ 0 ≤ restR w a v i := fun i x y => ⟨(hz.1 i x y).2, hrem i⟩
      have hex : ∃ i : Int, 0 ≤ i ∧ i < N ∧ τ 8 i = 0 := sumZ_full (fun i x y => (hz.1 i x y).1) (by rw [hz.2]; omega)
      have hpz : pickZ (τ 8) (restR w a v) N = pickM (rsG (restF w a v) (restR w a v) N t).2 N ∧ τ 8 (pickM (rsG (restF w a v) (restR w a v) N t).2 N) = 0 := by
        rcases pickZ_eq hzz with ⟨h1, _⟩ | ⟨_, h1, h2⟩
        · obtain ⟨i, x, y, z⟩ := hex
          exact absurd z (h1 i x y)
        · exact ⟨h1, h2⟩
      have hp := pickM_in (r := (rsG (restF w a v) (restR w a v) N t).2) hN
      have inner : ∀ (m' k : Nat), k + m' = N → LX8_givesRests_67 v ((m + 1 : Nat) : Int) (pickZ (τ 8) (restR w a v) k) k τ Q := by
        intro m'
        induction m' with
        | zero =>
          intro k hk
          have hkN : k = N := by omega
          subst hkN
          refine X8_givesRests_67 ⟨fun _ => ?_, fun h => by rw [e2, hL.1] at h; omega⟩
          rw [hpz.1]
          have hgb : 0 ≤ τ 7 (pickM (rsG (restF w a v) (restR w a v) k t).2 k) ∧ τ 7 (pickM (rsG (restF w a v) (restR w a v) k t).2 k) ≤ 3000 := by
            rw [hg _ hp.1 hp.2]
            have h1 := rsG_bd (f := restF w a v) (r := restR w a v) (N := k) t (pickM (rsG (restF w a v) (restR w a v) k t).2 k)
            have h2 := restF_bd hW (v := v) hp.1 hp.2
            omega
          have e7 : upM τ 8 (pickM (rsG (restF w a v) (restR w a v) k t).2 k) 1 7 = τ 7 := upM_q (by decide)
          rw [e7]
          refine ⟨by omega, by omega, by omega, by omega, ⟨by omega, by omega⟩, by omega, by omega, ⟨by omega, by omega⟩, ?_⟩
          rw [dn1]
          refine ih (t + 1) _ (by omega) (hF.up8.up7) (fun i x y => ?_) ⟨fun i x y => ?_, ?_⟩
          · show _ = bump (rsG (restF w a v) (restR w a v) k t).1 (pickM (rsG (restF w a v) (restR w a v) k t).2 k) i
            generalize pickM (rsG (restF w a v) (restR w a v) k t).2 k = p at hp ⊢
            by_cases hi : i = p
            · subst hi; rw [upM_s, hg i x y]; unfold bump; rw [if_pos rfl]
            · rw [upM_j hi, upM_q (by decide), hg i x y]; unfold bump; rw [if_neg hi]
          · show _ ∧ setF (rsG (restF w a v) (restR w a v) k t).2 (pickM (rsG (restF w a v) (restR w a v) k t).2 k) (-1) i = _
            generalize pickM (rsG (restF w a v) (restR w a v) k t).2 k = p at hp ⊢
            rw [upM_q (by decide)]
            by_cases hi : i = p
            · subst hi; rw [upM_s]; unfold setF; rw [if_pos rfl]; exact ⟨Or.inr rfl, by rw [if_neg (by decide)]⟩
            · rw [upM_j hi]; unfold setF; rw [if_neg hi]; exact hz.1 i x y
          · have e8 : sumF (upM (upM τ 8 (pickM (rsG (restF w a v) (restR w a v) k t).2 k) 1) 7 (pickM (rsG (restF w a v) (restR w a v) k t).2 k) (τ 7 (pickM (rsG (restF w a v) (restR w a v) k t).2 k) + 1) 8) k = sumF (setF (τ 8) (pickM (rsG (restF w a v) (restR w a v) k t).2 k) 1) k := sumF_congr (fun i x y => by
              rw [upM_q (by decide)]
              unfold setF
              split
              · rename_i hi; rw [hi, upM_s]
              · rename_i hi; rw [upM_j hi])
            rw [e8, sumF_set hp.1 hp.2, hpz.2, hz.2]; omega
        | succ m' ihi =>
          intro k hk
          have hi := ihi (k + 1) (by omega)
          refine X8_givesRests_67 ⟨fun h => by rw [e2, hL.1] at h; omega, fun h => ⟨by omega, by omega, fun hz1 => ⟨⟨by omega, by omega⟩, ?_⟩, fun hz1 => ⟨fun hn => ⟨⟨by omega, by omega⟩, ?_⟩, fun hn => ?_⟩⟩⟩
          · have e : pickZ (τ 8) (restR w a v) (k + 1) = pickZ (τ 8) (restR w a v) k := by rw [pickZ, if_neg (fun z => hz1 z.1)]
            rw [e] at hi
            simpa using hi
          · have e : pickZ (τ 8) (restR w a v) (k + 1) = k := by rw [pickZ, if_pos ⟨hz1, Or.inl hn⟩]
            rw [e] at hi
            simpa using hi
          · have hpk : 0 ≤ pickZ (τ 8) (restR w a v) k ∧ pickZ (τ 8) (restR w a v) k < k := by
              rcases pickZ_eq (z := τ 8) (rem := restR w a v) (r := (rsG (restF w a v) (restR w a v) N t).2) (k := k) (fun i x y => hzz i x (by omega)) with ⟨_, h2⟩ | ⟨h0, h1, h2⟩
              · exact absurd h2 hn
              · rw [h1]; exact pickM_in h0
            have hw1 := vw_bd hW hv (i := k) (by omega) (by omega)
            have hw2 := vw_bd hW hv (i := pickZ (τ 8) (restR w a v) k) hpk.1 (by omega)
            rw [e6, e0, hLa, hLw k (by omega) (by omega), hLw _ hpk.1 (by omega), Int.tmod_eq_emod_of_nonneg hw1.1, Int.tmod_eq_emod_of_nonneg hw2.1]
            refine ⟨by omega, by omega, ⟨by omega, by omega⟩, by omega, by omega, by omega, ⟨by omega, by omega⟩, by omega, fun hc => ⟨⟨by omega, by omega⟩, ?_⟩, fun hc => ⟨⟨by omega, by omega⟩, ?_⟩⟩
            · have e : pickZ (τ 8) (restR w a v) (k + 1) = pickZ (τ 8) (restR w a v) k := by
                rw [pickZ, if_neg (fun z => by
                  rcases z.2 with z | z
                  · exact hn z
                  · exact Int.not_lt.mpr (show restR w a v k ≤ restR w a v (pickZ (τ 8) (restR w a v) k) from hc) z)]
              rw [e] at hi
              simpa using hi
            · have e : pickZ (τ 8) (restR w a v) (k + 1) = k := by rw [pickZ, if_pos ⟨hz1, Or.inr hc⟩]
              rw [e] at hi
              simpa using hi
      exact X8_givesRests_57 ⟨fun h => by omega, fun _ => inner N 0 (by omega)⟩
  -- each his whole quota first
  have key4 : ∀ (m k : Nat) (τ : Mem), k + m = N → Gg τ0 τ → (∀ i : Int, 0 ≤ i → i < k → τ 7 i = restF w a v i ∧ τ 8 i = 0) → LX8_givesRests_4 v (v - sumF (restF w a v) k) k τ Q := by
    intro m
    induction m with
    | zero =>
      intro k τ hk hF hg
      have hkN : k = N := by omega
      subst hkN
      have e2 := hF 2 (by decide) (by decide)
      refine X8_givesRests_4 ⟨fun _ => ?_, fun h => by rw [e2, hL.1] at h; omega⟩
      rw [← hLe]
      refine key57 (restL w a v k) 0 τ (by omega) hF (fun i x y => (hg i x y).1) ⟨fun i x y => ⟨Or.inl (hg i x y).2, by rw [if_pos (hg i x y).2]; rfl⟩, ?_⟩
      rw [sumF_congr (f := τ 8) (g := fun _ => 0) (fun i x y => (hg i x y).2), sumF_const]; simp
    | succ m ih =>
      intro k τ hk hF hg
      have e0 := hF 0 (by decide) (by decide)
      have e2 := hF 2 (by decide) (by decide)
      have e6 := hF 6 (by decide) (by decide)
      have hw1 := vw_bd hW hv (i := k) (by omega) (by omega)
      have hq := restF_bd hW (v := v) (i := k) (by omega) (by omega)
      have hs0 : 0 ≤ sumF (restF w a v) k := sumF_nonneg (fun i x y => (restF_bd hW (v := v) x (show i < (N : Int) by omega)).1)
      have hs1 := sumF_bd (f := restF w a v) (B := v) (n := k) (fun i x y => (restF_bd hW (v := v) x (show i < (N : Int) by omega)).2)
      have hs2 : (k : Int) * v ≤ 5 * 2000 := Int.mul_le_mul (by omega) (by omega) (by omega) (by omega)
      refine X8_givesRests_4 ⟨fun h => by rw [e2, hL.1] at h; omega, fun h => ?_⟩
      rw [e6, e0, hLa, hLw k (by omega) (by omega), Int.tdiv_eq_ediv_of_nonneg hw1.1]
      have er : (v : Int) * w k / a = restF w a v k := rfl
      rw [er]
      have e7 : upM (upM τ 7 k (restF w a v k)) 8 k 0 7 k = restF w a v k := by rw [upM_q (by decide), upM_s]
      rw [e7]
      refine ⟨by omega, by omega, ⟨by omega, by omega⟩, by omega, ⟨by omega, by omega⟩, ⟨by omega, by omega⟩, by omega, by omega, by omega, by omega, by omega, by omega, ⟨by omega, by omega⟩, ⟨by omega, by omega⟩, ?_⟩
      have := ih (k + 1) (upM (upM τ 7 k (restF w a v k)) 8 k 0) (by omega) hF.up7.up8 (fun i x y => ?_)
      · rw [show (v : Int) - sumF (restF w a v) (k + 1) = v - sumF (restF w a v) k - restF w a v k by simp only [sumF]; omega] at this
        simpa using this
      · by_cases hi : i = k
        · subst hi; exact ⟨e7, upM_s⟩
        · exact ⟨by rw [upM_q (by decide), upM_j hi]; exact (hg i x (by omega)).1, by rw [upM_j hi, upM_q (by decide)]; exact (hg i x (by omega)).2⟩
  refine X8_givesRests_E ?_
  have := key4 N 0 τ0 (by omega) Gg.rf (fun i x y => by omega)
  simpa [sumF] using this
/-- gives: what all get, by the same mathematics as the class's -/
theorem gives_s (hok : okP N u d) (hL : ML τ0 N u d) {v : Nat} (hv : v ≤ 2000) {kind : Int} (hk : 0 ≤ kind ∧ kind ≤ 3) {Q : Mem → Prop} (hQ : ∀ τ', Gg τ0 τ' → (∀ i : Int, 0 ≤ i → i < N → τ' 7 i = allo N (wtD u d N) (cmD d N) (alD u d N) kind v i) → Q τ') : CV layM MX8_gives [vP 0, vI v, vI kind] τ0 Q := by
  have h5 := hok.1
  have key : ∀ (m k : Nat) (τ : Mem), k + m = 5 → Gg τ0 τ → (∀ i : Int, 0 ≤ i → i < k → τ 7 i = 0) → LX8_gives_2 v kind k τ Q := by
    intro m
    induction m with
    | zero =>
      intro k τ hk' hF hz
      have e2 := hF 2 (by decide) (by decide)
      have hL' := hL.gg hF
      have tr : ∀ τ', Gg τ τ' → Gg τ0 τ' := fun τ' h q a b => (h q a b).trans (hF q a b)
      refine X8_gives_2 ⟨fun _ => ⟨fun h => ?_, fun h => ⟨fun h0 => ⟨fun h1 => ⟨fun h2 => ?_, fun h2 => ?_⟩, fun h1 => ?_⟩, fun h0 => ?_⟩⟩, fun h => by omega⟩
      · rw [e2, hL.1] at h
        exact hQ τ hF (fun i x y => by omega)
      · rw [e2, hL.1] at h
        exact mrow_s hok hL' (by omega) hv (Or.inr rfl) (fun i x y => hz i x (by omega)) (fun τ' hF' hg => hQ τ' (tr τ' hF') (fun i x y => by rw [hg i x y]; unfold allo; rw [if_neg h0, if_neg h1, if_neg h2]))
      · rw [e2, hL.1] at h
        exact mrow_s hok hL' (by omega) hv (Or.inl rfl) (fun i x y => hz i x (by omega)) (fun τ' hF' hg => hQ τ' (tr τ' hF') (fun i x y => by rw [hg i x y]; unfold allo; rw [if_neg h0, if_neg h1, if_pos h2]))
      · rw [e2, hL.1] at h
        exact mrests_s hok hL' (by omega) hv (fun τ' hF' hg => hQ τ' (tr τ' hF') (fun i x y => by rw [hg i x y]; unfold allo; rw [if_neg h0, if_pos h1]))
      · exact mtold_s hok hL' hv (fun τ' hF' hg => hQ τ' (tr τ' hF') (fun i x y => by rw [hg i x y]; unfold allo; rw [if_pos h0]))
    | succ m ih =>
      intro k τ hk' hF hz
      refine X8_gives_2 ⟨fun h => by omega, fun _ => ⟨by omega, by omega, ⟨by omega, by omega⟩, ?_⟩⟩
      have := ih (k + 1) (upM τ 7 k 0) (by omega) hF.up7 (fun i x y => ?_)
      · simpa using this
      · by_cases hi : i = k
        · rw [hi, upM_s]
        · rw [upM_j hi]; exact hz i x (by omega)
  exact X8_gives_E (key 5 0 τ0 (by omega) Gg.rf (fun i x y => by omega))
end MJ2
