theorem x_probe : True := trivial
