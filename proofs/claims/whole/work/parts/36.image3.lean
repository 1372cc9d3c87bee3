/-! image and restore -/
def kS (c _k : Nat) : Prop := 15 ≤ c ∧ c ≤ 26
def rS (c _k : Nat) : Prop := 3 ≤ c ∧ c ≤ 14
section Im
variable {α β : rA} {σ : jSt} {d : Nat} {k : Int32 → jSt → Prop}
theorem q_image (hV : rV α) (hX : rX 3 α σ) (hb : ∀ j, j < 6 → σ.1 14 j = 0 ∨ σ.1 14 j = 1) (h0 : α 0 0 = 0 → k (iI (-103)) σ) (h1 : 0 < α 0 0 → ∀ σ', eS kS σ σ' → rX 15 α σ' → σ'.1 15 12 = σ.1 3 12 → (∀ j, j < 6 → σ'.1 26 j = σ.1 14 j) → k (iI (α 0 2 : Nat)) σ') : jq_I (d + 3) 73 [.ref 0] σ k := by
  have h6 := hV.P
  have h5 := hV.M
  have h4 := hV.sz
  refine ok_X8_image (q_hasRiver hV hX ?_)
  rw [jb_0]
  refine ⟨fun c => q_copyFrom_k hb (fun s e0 e1 e2 e3 e4 e5 e6 e7 e8 e9 => ⟨_, rfl, ?_⟩), fun c => ⟨_, rfl, h0 (by simp at c; omega)⟩⟩
  have c : 0 < α 0 0 := by simp at c; omega
  rw [e1 3 11 (by omega), hX.td]
  refine h1 c s ⟨e0, fun c k n => e1 c k (by unfold kS at n; omega)⟩ ⟨e5.trans hX.P, e6.trans hX.M, e7.trans hX.rt, e8.trans hX.td, e4.trans hX.sz, fun p hp => ?_, fun m hm => ?_, fun i hi => ?_⟩ e9 (fun j hj => (e2 j hj).2.2.2.2.2)
  · have := e2 p (by omega)
    exact ⟨this.1.trans (hX.kd hp), this.2.1.trans (hX.bn hp), this.2.2.1.trans (hX.me hp)⟩
  · have := e3 m (by omega)
    exact ⟨this.1.trans (hX.ak hm), this.2.1.trans (hX.aw hm), this.2.2.1.trans (hX.wo hm), this.2.2.2.trans (hX.st hm)⟩
  · have := e2 i (by omega)
    exact ⟨this.2.2.2.1.trans (hX.who hi), this.2.2.2.2.1.trans (hX.dys hi), this.2.2.2.2.2.trans (hX.spo hi)⟩
theorem q_restore0 (h : σ.1 15 8 = iI 0) (h0 : k (iI (-103)) σ) : jq_I (d + 3) 74 [.ref 0] σ k := by
  refine ok_X8_restore (ok_X7_hasRiver_k ?_)
  unfold vc_X7_hasRiver_k
  rw [h]
  exact ⟨fun _ => ⟨_, rfl, ⟨fun c => absurd rfl c, fun _ => ⟨_, rfl, h0⟩⟩⟩, fun c => absurd (by decide +kernel) c⟩
theorem q_restore (hV : rV β) (hX : rX 15 β σ) (hp0 : 0 < β 0 0) (hb : ∀ j, j < 6 → σ.1 26 j = 0 ∨ σ.1 26 j = 1) (h1 : ∀ σ', eS rS σ σ' → rX 3 β σ' → σ'.1 3 12 = σ.1 15 12 → (∀ j, j < 6 → σ'.1 14 j = σ.1 26 j) → k (iI (β 0 2 : Nat)) σ') : jq_I (d + 3) 74 [.ref 0] σ k := by
  have h6 := hV.P
  have h5 := hV.M
  have h4 := hV.sz
  refine ok_X8_restore (ok_X7_hasRiver_k ?_)
  unfold vc_X7_hasRiver_k
  rw [hX.1, iI_le0 ⟨by omega, by omega⟩]
  refine ⟨fun c => absurd c (by omega), fun _ => ⟨_, rfl, ⟨fun _ => q_copyFrom_r hb (fun s e0 e1 e2 e3 e4 e5 e6 e7 e8 e9 => ⟨_, rfl, ?_⟩), fun c => absurd c (by decide +kernel)⟩⟩⟩
  rw [e8, hX.2.2.2.1]
  refine h1 s ⟨e0, fun c k n => e1 c k (by unfold rS at n; omega)⟩ ⟨e5.trans hX.1, e6.trans hX.2.1, e7.trans hX.2.2.1, e8.trans hX.2.2.2.1, e4.trans hX.2.2.2.2.1, fun p hp => ?_, fun m hm => ?_, fun i hi => ?_⟩ e9 (fun j hj => (e2 j hj).2.2.2.2.2)
  · have := e2 p (by omega)
    have hh := hX.2.2.2.2.2.1 p hp
    exact ⟨this.1.trans hh.1, this.2.1.trans hh.2.1, this.2.2.1.trans hh.2.2⟩
  · have := e3 m (by omega)
    have hh := hX.2.2.2.2.2.2.1 m hm
    exact ⟨this.1.trans hh.1, this.2.1.trans hh.2.1, this.2.2.1.trans hh.2.2.1, this.2.2.2.trans hh.2.2.2⟩
  · have := e2 i (by omega)
    have hh := hX.2.2.2.2.2.2.2 i hi
    exact ⟨this.2.2.2.1.trans hh.1, this.2.2.2.2.1.trans hh.2.1, this.2.2.2.2.2.trans hh.2.2⟩
end Im
