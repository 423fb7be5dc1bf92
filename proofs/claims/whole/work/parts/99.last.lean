theorem fd_last : True := trivial
