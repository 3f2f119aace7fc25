section STW
variable {h0 : Nat → pm_C} {B N : Nat} {p0 p1 p2 p3 p4 p5 p6 p7 : Int32} {wet : Nat} {eb : Nat}
theorem FmE {K K' : Nat → Prop} {s s' : mst} (h : Fm K s s') (hK : ∀ q, K q → K' q) : Fe K' s s' := fun k hk => h.1 k (fun y => hk (hK k y))
theorem st_walk (hN : 2000 ≤ N) : STP eb h0 B (fun S => F_BP_walk N S (B + 0) p0 p1 p2) (fun s => G_M_walk N s p0 p1 p2) :=
  STP_q (fun D hi z ow s np As Ps h => by
    obtain ⟨ans, e1, e2⟩ := t_walk (h0 := h0) (B := B) (z := z) (p0 := p0) (p1 := p1) (p2 := p2) hN h
    exact ⟨ans, s, e1, fun _ _ => rfl, e2⟩)
theorem st_distance (hN : 2000 ≤ N) : STP eb h0 B (fun S => F_BP_distance N S (B + 0) p0 p1 p2 p3 p4) (fun s => G_M_distance N s p0 p1 p2 p3 p4) :=
  STP_q (fun D hi z ow s np As Ps h => by
    obtain ⟨ans, s1, e1, e2, e3⟩ := t_distance hN h
    exact ⟨ans, s1, e1, FmE e2 (fun q hq => by omega), e3⟩)
theorem st_metres (hwet : wet ≤ 1) (hN : 2000 ≤ N) : STP eb h0 B (fun S => F_BP_metres N S (B + 0) p0 p1 (nI wet) p3 p4 p5) (fun s => G_M_metres N s p0 p1 (nI wet) p3 p4 p5) :=
  STP_q (fun D hi z ow s np As Ps h => by
    obtain ⟨ans, s1, e1, e2, e3⟩ := t_metres hwet hN h
    exact ⟨ans, s1, e1, FmE e2 (fun q hq => by omega), e3⟩)
theorem st_heard (hwet : wet ≤ 1) (hN : 2000 ≤ N) : STP eb h0 B (fun S => F_BP_heard N S (B + 0) p0 p1 (nI wet) p3 p4 p5 p6 p7) (fun s => G_M_heard N s p0 p1 (nI wet) p3 p4 p5 p6 p7) :=
  STP_r (fun D hi z ow s np As Ps h => by
    obtain ⟨ans, s1, e1, e2, e3⟩ := t_heard hwet hN h
    exact ⟨ans, s1, e1, FmE e2 (fun q hq => by omega), e3⟩)
theorem st_fed (hwet : wet ≤ 1) (hN : 2000 ≤ N) : STP eb h0 B (fun S => F_BP_fed N S (B + 0) p0 p1 (nI wet) p3) (fun s => G_M_fed N s p0 p1 (nI wet) p3) :=
  STP_r (fun D hi z ow s np As Ps h => by
    obtain ⟨ans, s1, e1, e2, e3⟩ := t_fed hwet hN h
    exact ⟨ans, s1, e1, FmE e2 (fun q hq => by omega), e3⟩)
theorem st_served (hwet : wet ≤ 1) (hN : 2000 ≤ N) : STP eb h0 B (fun S => F_BP_served N S (B + 0) p0 p1 (nI wet)) (fun s => G_M_served N s p0 p1 (nI wet)) :=
  STP_r (fun D hi z ow s np As Ps h => by
    obtain ⟨ans, s1, e1, e2, e3⟩ := t_served hwet hN h
    exact ⟨ans, s1, e1, Fe_m e2 (fun q hq => by omega), e3⟩)
theorem st_neighbours (hwet : wet ≤ 1) (hN : 2000 ≤ N) : STP eb h0 B (fun S => F_BP_neighbours N S (B + 0) p0 p1 (nI wet) p3) (fun s => G_M_neighbours N s p0 p1 (nI wet) p3) :=
  STP_r (fun D hi z ow s np As Ps h => by
    obtain ⟨ans, s1, e1, e2, e3⟩ := t_neighbours hwet hN h
    exact ⟨ans, s1, e1, FmE e2 (fun q hq => by omega), e3⟩)
theorem st_tells (hwet : wet ≤ 1) (hN : 2000 ≤ N) : STP eb h0 B (fun S => F_BP_tells N S (B + 0) p0 p1 p2 (nI wet)) (fun s => G_M_tells N s p0 p1 p2 (nI wet)) :=
  STP_r (fun D hi z ow s np As Ps h => by
    obtain ⟨ans, s1, e1, e2, e3⟩ := t_tells hwet hN h
    exact ⟨ans, s1, e1, FmE e2 (fun q hq => by omega), e3⟩)
theorem st_spare (hN : 2000 ≤ N) : STP eb h0 B (fun S => F_BP_spare N S (B + 0) p0 p1 p2) (fun s => G_M_spare N s p0 p1 p2) :=
  STP_r (fun D hi z ow s np As Ps h => by
    obtain ⟨ans, s1, e1, e2, e3⟩ := t_spare hN h
    exact ⟨ans, s1, e1, FmE e2 (fun q hq => by omega), e3⟩)
theorem st_moves (hN : 2000 ≤ N) : STP eb h0 B (fun S => F_BP_moves N S (B + 0) p0 p1 p2 p3) (fun s => G_M_moves N s p0 p1 p2 p3) :=
  STP_r (fun D hi z ow s np As Ps h => by
    obtain ⟨ans, s1, e1, e2, e3⟩ := t_moves hN h
    exact ⟨ans, s1, e1, FmE e2 (fun q hq => by omega), e3⟩)
theorem st_fitting (hN : 2000 ≤ N) : STP eb h0 B (fun S => F_BP_fitting N S (B + 0) p0 p1) (fun s => G_M_fitting N s p0 p1) :=
  STP_g (fun D hi z ow s np As Ps P L bt h => t_fitting hN h)
theorem st_fewest (hN : 2000 ≤ N) : STP eb h0 B (fun S => F_BP_fewest N S (B + 0) p0) (fun s => G_M_fewest N s p0) :=
  STP_g (fun D hi z ow s np As Ps P L bt h => t_fewest hN h)
theorem st_sure (hN : 2000 ≤ N) : STP eb h0 B (fun S => F_BP_sure N S (B + 0) p0 p1) (fun s => G_M_sure N s p0 p1) :=
  STP_g (fun D hi z ow s np As Ps P L bt h => t_sure hN h)
theorem st_parts (hwet : wet ≤ 1) (hN : 2000 ≤ N) : STP eb h0 B (fun S => F_BP_parts N S (B + 0) p0 p1 (nI wet) p3) (fun s => G_M_parts N s p0 p1 (nI wet) p3) :=
  STP_g (fun D hi z ow s np As Ps P L bt h => t_parts hwet hN h)
theorem st_next (hwet : wet ≤ 1) (hN : 2000 ≤ N) : STP eb h0 B (fun S => F_BP_next N S (B + 0) p0 (nI wet) p2 p3) (fun s => G_M_next N s p0 (nI wet) p2 p3) :=
  STP_g (fun D hi z ow s np As Ps P L bt h => t_next hwet hN h)
theorem st_joint (hN : 2000 ≤ N) : STP eb h0 B (fun S => F_BP_joint N S (B + 0) p0 p1 p2) (fun s => G_M_joint N s p0 p1 p2) :=
  STP_r (fun D hi z ow s np As Ps h => t_joint hN h)
theorem st_house (hN : 2000 ≤ N) : STP eb h0 B (fun S => F_BP_house N S (B + 0) p0 p1) (fun s => G_M_house N s p0 p1) :=
  STP_r (fun D hi z ow s np As Ps h => t_house hN h)
theorem st_troubles : STP eb h0 B (fun S => F_BP_troubles N S (B + 0) p0) (fun s => G_M_troubles N s p0) :=
  STP_r (fun D hi z ow s np As Ps h => t_troubles h)
end STW
